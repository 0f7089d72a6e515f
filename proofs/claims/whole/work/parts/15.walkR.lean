def f_X12_clears_L11_10 (J31_3 : Mm → Rs) (rc11_6 : Int × Mm → Rs) : Int × Mm → Rs := fun (v4, M5) =>
if 720 ≤ v4 then (
J31_3 M5) else (
gd (0 ≤ v4 ∧ v4 < 720) <|
Lt (up M5 50 v4.toNat 0) fun M8 =>
Lt (wr (v4 + 1)) fun v9 =>
rc11_6 (v9, M8))
def f_X12_clears (M : Mm) : Rs :=
Lt (up M 0 68 360) fun M1 =>
Lt (fun (M2 : Mm) => 
some (0, M2)) fun J31_3 =>
Lp (f_X12_clears_L11_10 J31_3) FU (360, M1)
theorem cy_X12_clears : yX12_clears.cls ≠ "java/lang/invoke/MethodHandle" ∧ yX12_clears.cls ≠ "java/lang/invoke/VarHandle" ∧ (parseMethodDescriptor yX12_clears.desc).map (fun d => d.parameters.length) = some 0 := ⟨by decide +kernel, by decide +kernel, by decide +kernel⟩
set_option maxRecDepth 20000 in
theorem ok_X12_clears (l : Launch) (D : Dd) (base : Nat) (M : Mm) : OkV l D TR 67 base yX12_clears cX12_clears 2 none 0 0 [.ref (base + 0)] M (f_X12_clears M) := by
  refine metV (by decide +kernel) [(0, .ref (base + 0))] rfl (Nat.le_of_ble_eq_true rfl) (fun p e s m args below meth c X hrt hlk => ?_)
  have X : Cx p s m args c cX12_clears D 2 RX12 := X
  unfold f_X12_clears
  refine go_aload_n X dX12_clears_0 rfl 0 rfl ?_
  refine go_sipush (v := 360) X dX12_clears_1 (by decide) ?_
  refine go_puti (i := 68) X fc12 dX12_clears_4 trn0 tr0 (Nat.le_of_ble_eq_true rfl) rfl lw1102 rfl rfl rfl kI_360 (fun M1 => ?_)
  refine go_sipush (v := 360) X dX12_clears_7 (by decide) ?_
  refine go_istore_n (i := 1) (L' := [(1, .int (Ii 360)), (0, .ref (base + 0))]) X dX12_clears_10 rfl (by decide) rfl ?_
  refine go_lt (fun J => ∀ (M2 : Mm), Go p l e (rmO 0 0) s m args below meth c D TR 67 base 2 0 0 (FinV D TR 67 base below args s) M2 31 [] [] (J M2)) (by
      intro M2
      exact go_vreturn X hrt hlk dX12_clears_31
      )
      (fun J31_3 hJ31_3 => ?_)
  refine go_sub [1, 0] rfl ?_
  exact go_lp (fun (rc : Int × Mm → Rs) => ∀ (v4 : Int) (M5 : Mm), i32 v4 → Go p l e (rmO 0 0) s m args below meth c D TR 67 base 2 0 0 (FinV D TR 67 base below args s) M5 11 [(0, .ref (base + 0)), (1, .int (Ii v4))] [] (rc (v4, M5)))
      (by intro v4 M5 hv4; exact go_none)
      (by
      intro rc11_6 hrc11_6 v4 M5 hv4
      unfold f_X12_clears_L11_10
      dsimp only
      refine go_iload_n X dX12_clears_11 rfl 1 rfl ?_
      refine go_sipush (v := 720) X dX12_clears_12 (by decide) ?_
      refine go_icmp_ge (tgt := 31) X dX12_clears_15 rfl hv4 kI_720 (fun c7 => ?_) (fun c7 => ?_)
      · refine go_sub [] rfl ?_
        exact hJ31_3 M5
      · refine go_aload_n X dX12_clears_18 rfl 0 rfl ?_
        refine go_getc (i := 60) X fc12 dX12_clears_19 trn0 tr0 (Nat.le_of_ble_eq_true rfl) rfl lw916 rfl ?_
        refine go_iload_n X dX12_clears_22 rfl 1 rfl ?_
        refine go_iconst (v := 0) X dX12_clears_23 rfl ?_
        refine go_zastore X dX12_clears_24 trn50 tr50 hv4 (Or.inl rfl) (fun M8 => ?_)
        refine go_iinc (i := 1) (L' := fun v => [(1, .int (Ii v)), (0, .ref (base + 0))]) X dX12_clears_25 hv4 kI_1 (j := 1) rfl (by decide) (fun _ => rfl) (fun v9 hv9 => ?_)
        refine go_goto (tgt := 11) X dX12_clears_28 rfl ?_
        refine go_sub [1, 0] rfl ?_
        exact hrc11_6 v9 M8 hv9
      )
      FU 360 M1 kI_360
def f_X12_changes_L129_36 (J203_7 : Int → Mm → Rs) (rc129_11 : Int × Int × Mm → Rs) : Int × Int × Mm → Rs := fun (v8, v9, M10) =>
Lt (M10 0 35) fun v12 =>
Lt (wr (v12 * 6)) fun v13 =>
if v13 ≤ v9 then (
J203_7 v8 M10) else (
Lt (jrem v9 6) fun v15 =>
Lt (wr (Int.tdiv v9 6)) fun v16 =>
gd (0 ≤ v16 ∧ v16 < 30) <|
Lt (M10 36 v16.toNat) fun v17 =>
Lt (wr (6 * v17)) fun v18 =>
Lt (wr (v18 + v15)) fun v19 =>
Lt (M10 0 12) fun v20 =>
Lt (fun (v21 : Int) (v22 : Int) (v23 : Int) (M24 : Mm) => 
gd (0 ≤ v19 ∧ v19 < 360) <|
Lt (up M24 55 v19.toNat v23) fun M26 =>
Lt (wr (v22 + 1)) fun v27 =>
rc129_11 (v21, v27, M26)) fun J196_25 =>
Lt (fun (v28 : Int) (v29 : Int) (M30 : Mm) => 
J196_25 v28 v29 0 M30) fun J195_31 =>
if v20 ≤ v15 then (
J195_31 v8 v9 M10) else (
gd (0 ≤ v15 ∧ v15 < 6) <|
Lt (M10 12 v15.toNat) fun v33 =>
if ¬ v33 = 3 then (
J195_31 v8 v9 M10) else (
gd (0 ≤ v19 ∧ v19 < 360) <|
Lt (M10 56 v19.toNat) fun v35 =>
J196_25 v8 v9 v35 M10)))
def f_X12_changes_L8_78 (J127_4 : Int → Mm → Rs) (rc8_40 : Int × Int × Mm → Rs) : Int × Int × Mm → Rs := fun (v37, v38, M39) =>
Lt (M39 0 35) fun v41 =>
Lt (wr (v41 * 6)) fun v42 =>
if v42 ≤ v38 then (
J127_4 v37 M39) else (
Lt (wr (Int.tdiv v38 6)) fun v44 =>
Lt (jrem v38 6) fun v45 =>
Lt (M39 0 12) fun v46 =>
Lt (fun (v47 : Int) (v48 : Int) (M49 : Mm) => 
Lt (wr (v48 + 1)) fun v51 =>
rc8_40 (v47, v51, M49)) fun J121_50 =>
if v46 ≤ v45 then (
J121_50 v37 v38 M39) else (
gd (0 ≤ v45 ∧ v45 < 6) <|
Lt (M39 12 v45.toNat) fun v53 =>
if ¬ v53 = 3 then (
J121_50 v37 v38 M39) else (
Cl (f_X12_finds v44 v45 M39) fun v56 M55 =>
gd (0 ≤ v44 ∧ v44 < 30) <|
Lt (M55 36 v44.toNat) fun v57 =>
Lt (wr (6 * v57)) fun v58 =>
Lt (wr (v58 + v45)) fun v59 =>
Lt (fun (v60 : Int) (v61 : Int) (v62 : Int) (M63 : Mm) => 
gd (0 ≤ v59 ∧ v59 < 360) <|
Lt (up M63 56 v59.toNat v62) fun M65 =>
Lt (fun (v66 : Int) (v67 : Int) (M68 : Mm) => 
J121_50 v67 v66 M68) fun J120_69 =>
Lt (fun (v70 : Int) (M71 : Mm) => 
J120_69 v70 1 M71) fun J115_72 =>
if ¬ v60 = 0 then (
J115_72 v61 M65) else (
gd (0 ≤ v59 ∧ v59 < 360) <|
Lt (M65 56 v59.toNat) fun v74 =>
gd (0 ≤ v59 ∧ v59 < 360) <|
Lt (M65 55 v59.toNat) fun v75 =>
if v74 = v75 then (
J120_69 v61 0 M65) else (
J115_72 v61 M65))) fun J93_64 =>
if v56 < 1000 then (
J93_64 v37 v38 v56 M55) else (
J93_64 v37 v38 ((-1)) M55))))
def f_X12_changes (M : Mm) : Rs :=
Cl (f_X12_clears M) fun _ M1 =>
Lt (fun (v2 : Int) (M3 : Mm) => 
Lt (fun (v5 : Int) (M6 : Mm) => 
some (v5, M6)) fun J203_7 =>
Lp (f_X12_changes_L129_36 J203_7) FU (v2, 0, M3)) fun J127_4 =>
Lp (f_X12_changes_L8_78 J127_4) FU (0, 0, M1)
theorem cy_X12_changes : yX12_changes.cls ≠ "java/lang/invoke/MethodHandle" ∧ yX12_changes.cls ≠ "java/lang/invoke/VarHandle" ∧ (parseMethodDescriptor yX12_changes.desc).map (fun d => d.parameters.length) = some 0 := ⟨by decide +kernel, by decide +kernel, by decide +kernel⟩
set_option maxRecDepth 20000 in
theorem ok_X12_changes (l : Launch) (D : Dd) (base : Nat) (M : Mm) : OkI l D TR 67 base yX12_changes cX12_changes 7 (some .boolean) 7 181 [.ref (base + 0)] M bo (f_X12_changes M) := by
  refine metI (by decide +kernel) [(0, .ref (base + 0))] rfl (Nat.le_of_ble_eq_true rfl) (fun p e s m args below meth c X hrt hlk => ?_)
  have X : Cx p s m args c cX12_changes D 7 RX12 := X
  unfold f_X12_changes
  refine go_aload_n X dX12_changes_0 rfl 0 rfl ?_
  refine goV (fun H locs ls r ho hW hL => runV X (ok_X12_clears l D base M  H.size r ho) dX12_changes_1 lw1158 lw1159 lw1160 lw944 ⟨lw1157, cy_X12_clears, Nat.le_of_ble_eq_true rfl, Nat.le_of_ble_eq_true rfl⟩ rfl trn0 tr0 rfl rfl rfl rfl (Nat.le_of_ble_eq_true rfl) hW hL hk0) (fun _ M1 => ?_)
  refine go_iconst (v := 0) X dX12_changes_4 rfl ?_
  refine go_istore_n (i := 1) (L' := [(1, .int (Ii 0)), (0, .ref (base + 0))]) X dX12_changes_5 rfl (by decide) rfl ?_
  refine go_iconst (v := 0) X dX12_changes_6 rfl ?_
  refine go_istore_n (i := 2) (L' := [(2, .int (Ii 0)), (1, .int (Ii 0)), (0, .ref (base + 0))]) X dX12_changes_7 rfl (by decide) rfl ?_
  refine go_lt (fun J => ∀ (v2 : Int) (M3 : Mm), bo v2 → Go p l e (rmO 7 181) s m args below meth c D TR 67 base 7 0 0 (FinI D TR 67 base below args s bo) M3 127 [(0, .ref (base + 0)), (1, .int (Ii v2))] [] (J v2 M3)) (by
      intro v2 M3 hv2
      refine go_iconst (v := 0) X dX12_changes_127 rfl ?_
      refine go_istore_n (i := 2) (L' := [(2, .int (Ii 0)), (0, .ref (base + 0)), (1, .int (Ii v2))]) X dX12_changes_128 rfl (by decide) rfl ?_
      refine go_lt (fun J => ∀ (v5 : Int) (M6 : Mm), bo v5 → Go p l e (rmO 7 181) s m args below meth c D TR 67 base 7 0 0 (FinI D TR 67 base below args s bo) M6 203 [(1, .int (Ii v5))] [] (J v5 M6)) (by
          intro v5 M6 hv5
          refine go_iload_n X dX12_changes_203 rfl 0 rfl ?_
          exact go_zreturn X hrt hlk dX12_changes_204 hv5 hv5
          )
          (fun J203_7 hJ203_7 => ?_)
      refine go_sub [1, 2, 0] rfl ?_
      exact go_lp (fun (rc : Int × Int × Mm → Rs) => ∀ (v8 : Int) (v9 : Int) (M10 : Mm), bo v8 → i32 v9 → Go p l e (rmO 7 181) s m args below meth c D TR 67 base 7 0 0 (FinI D TR 67 base below args s bo) M10 129 [(0, .ref (base + 0)), (1, .int (Ii v8)), (2, .int (Ii v9))] [] (rc (v8, v9, M10)))
          (by intro v8 v9 M10 hv8 hv9; exact go_none)
          (by
          intro rc129_11 hrc129_11 v8 v9 M10 hv8 hv9
          unfold f_X12_changes_L129_36
          dsimp only
          refine go_iload_n X dX12_changes_129 rfl 2 rfl ?_
          refine go_aload_n X dX12_changes_130 rfl 0 rfl ?_
          refine go_geti (i := 35) X fc12 dX12_changes_131 trn0 tr0 (Nat.le_of_ble_eq_true rfl) rfl lw948 rfl (fun v12 hv12 => ?_)
          refine go_bipush (v := 6) X dX12_changes_134 (by decide) ?_
          refine go_imul X dX12_changes_136 hv12 kI_6 (fun v13 hv13 => ?_)
          refine go_icmp_ge (tgt := 203) X dX12_changes_137 rfl hv9 hv13 (fun c14 => ?_) (fun c14 => ?_)
          · refine go_sub [1] rfl ?_
            exact hJ203_7 v8 M10 hv8
          · refine go_iload_n X dX12_changes_140 rfl 2 rfl ?_
            refine go_bipush (v := 6) X dX12_changes_141 (by decide) ?_
            refine go_irem X dX12_changes_143 hv9 kI_6 (by decide) (fun v15 hv15 => ?_)
            refine go_istore_n (i := 3) (L' := [(3, .int (Ii v15)), (0, .ref (base + 0)), (1, .int (Ii v8)), (2, .int (Ii v9))]) X dX12_changes_144 rfl (by decide) rfl ?_
            refine go_bipush (v := 6) X dX12_changes_145 (by decide) ?_
            refine go_aload_n X dX12_changes_147 rfl 1 rfl ?_
            refine go_getc (i := 43) X fc12 dX12_changes_148 trn0 tr0 (Nat.le_of_ble_eq_true rfl) rfl lw902 rfl ?_
            refine go_iload_n X dX12_changes_151 rfl 3 rfl ?_
            refine go_bipush (v := 6) X dX12_changes_152 (by decide) ?_
            refine go_idiv X dX12_changes_154 hv9 kI_6 (by decide) (fun v16 hv16 => ?_)
            refine go_iaload X dX12_changes_155 trn36 tr36 hv16 (fun v17 hv17 => ?_)
            refine go_imul X dX12_changes_156 kI_6 hv17 (fun v18 hv18 => ?_)
            refine go_iload_n X dX12_changes_157 rfl 0 rfl ?_
            refine go_iadd X dX12_changes_158 hv18 hv15 (fun v19 hv19 => ?_)
            refine go_istore (i := 4) (L' := [(4, .int (Ii v19)), (3, .int (Ii v15)), (0, .ref (base + 0)), (1, .int (Ii v8)), (2, .int (Ii v9))]) X dX12_changes_159 (by decide) rfl ?_
            refine go_aload_n X dX12_changes_161 rfl 2 rfl ?_
            refine go_getc (i := 65) X fc12 dX12_changes_162 trn0 tr0 (Nat.le_of_ble_eq_true rfl) rfl lw922 rfl ?_
            refine go_iload X dX12_changes_165 0 rfl ?_
            refine go_iload_n X dX12_changes_167 rfl 1 rfl ?_
            refine go_aload_n X dX12_changes_168 rfl 2 rfl ?_
            refine go_geti (i := 12) X fc12 dX12_changes_169 trn0 tr0 (Nat.le_of_ble_eq_true rfl) rfl lw946 rfl (fun v20 hv20 => ?_)
            refine go_lt (fun J => ∀ (v21 : Int) (v22 : Int) (v23 : Int) (M24 : Mm), bo v21 → i32 v22 → i32 v23 → Go p l e (rmO 7 181) s m args below meth c D TR 67 base 7 0 0 (FinI D TR 67 base below args s bo) M24 196 [(0, .ref (base + 0)), (1, .int (Ii v21)), (2, .int (Ii v22))] [.int (Ii v23), .int (Ii v19), .ref (base + 55)] (J v21 v22 v23 M24)) (by
                intro v21 v22 v23 M24 hv21 hv22 hv23
                refine go_iastore X dX12_changes_196 trn55 tr55 hv19 hv23 (fun M26 => ?_)
                refine go_iinc (i := 2) (L' := fun v => [(2, .int (Ii v)), (0, .ref (base + 0)), (1, .int (Ii v21))]) X dX12_changes_197 hv22 kI_1 (j := 2) rfl (by decide) (fun _ => rfl) (fun v27 hv27 => ?_)
                refine go_goto (tgt := 129) X dX12_changes_200 rfl ?_
                refine go_sub [1, 2, 0] rfl ?_
                exact hrc129_11 v21 v27 M26 hv21 hv27
                )
                (fun J196_25 hJ196_25 => ?_)
            refine go_lt (fun J => ∀ (v28 : Int) (v29 : Int) (M30 : Mm), bo v28 → i32 v29 → Go p l e (rmO 7 181) s m args below meth c D TR 67 base 7 0 0 (FinI D TR 67 base below args s bo) M30 195 [(0, .ref (base + 0)), (1, .int (Ii v28)), (2, .int (Ii v29))] [.int (Ii v19), .ref (base + 55)] (J v28 v29 M30)) (by
                intro v28 v29 M30 hv28 hv29
                refine go_iconst (v := 0) X dX12_changes_195 rfl ?_
                exact hJ196_25 v28 v29 0 M30 hv28 hv29 kI_0
                )
                (fun J195_31 hJ195_31 => ?_)
            refine go_icmp_ge (tgt := 195) X dX12_changes_172 rfl hv15 hv20 (fun c32 => ?_) (fun c32 => ?_)
            · refine go_sub [2, 3, 4] rfl ?_
              exact hJ195_31 v8 v9 M10 hv8 hv9
            · refine go_aload_n X dX12_changes_175 rfl 2 rfl ?_
              refine go_getc (i := 13) X fc12 dX12_changes_176 trn0 tr0 (Nat.le_of_ble_eq_true rfl) rfl lw877 rfl ?_
              refine go_iload_n X dX12_changes_179 rfl 1 rfl ?_
              refine go_iaload X dX12_changes_180 trn12 tr12 hv15 (fun v33 hv33 => ?_)
              refine go_iconst (v := 3) X dX12_changes_181 rfl ?_
              refine go_icmp_ne (tgt := 195) X dX12_changes_182 rfl hv33 kI_3 (fun c34 => ?_) (fun c34 => ?_)
              · refine go_sub [2, 3, 4] rfl ?_
                exact hJ195_31 v8 v9 M10 hv8 hv9
              · refine go_aload_n X dX12_changes_185 rfl 2 rfl ?_
                refine go_getc (i := 66) X fc12 dX12_changes_186 trn0 tr0 (Nat.le_of_ble_eq_true rfl) rfl lw923 rfl ?_
                refine go_iload X dX12_changes_189 0 rfl ?_
                refine go_iaload X dX12_changes_191 trn56 tr56 hv19 (fun v35 hv35 => ?_)
                refine go_goto (tgt := 196) X dX12_changes_192 rfl ?_
                refine go_sub [2, 3, 4] rfl ?_
                exact hJ196_25 v8 v9 v35 M10 hv8 hv9 hv35
          )
          FU v2 0 M3 hv2 kI_0
      )
      (fun J127_4 hJ127_4 => ?_)
  refine go_sub [2, 1, 0] rfl ?_
  exact go_lp (fun (rc : Int × Int × Mm → Rs) => ∀ (v37 : Int) (v38 : Int) (M39 : Mm), bo v37 → i32 v38 → Go p l e (rmO 7 181) s m args below meth c D TR 67 base 7 0 0 (FinI D TR 67 base below args s bo) M39 8 [(0, .ref (base + 0)), (1, .int (Ii v37)), (2, .int (Ii v38))] [] (rc (v37, v38, M39)))
      (by intro v37 v38 M39 hv37 hv38; exact go_none)
      (by
      intro rc8_40 hrc8_40 v37 v38 M39 hv37 hv38
      unfold f_X12_changes_L8_78
      dsimp only
      refine go_iload_n X dX12_changes_8 rfl 2 rfl ?_
      refine go_aload_n X dX12_changes_9 rfl 0 rfl ?_
      refine go_geti (i := 35) X fc12 dX12_changes_10 trn0 tr0 (Nat.le_of_ble_eq_true rfl) rfl lw948 rfl (fun v41 hv41 => ?_)
      refine go_bipush (v := 6) X dX12_changes_13 (by decide) ?_
      refine go_imul X dX12_changes_15 hv41 kI_6 (fun v42 hv42 => ?_)
      refine go_icmp_ge (tgt := 127) X dX12_changes_16 rfl hv38 hv42 (fun c43 => ?_) (fun c43 => ?_)
      · refine go_sub [0, 1] rfl ?_
        exact hJ127_4 v37 M39 hv37
      · refine go_iload_n X dX12_changes_19 rfl 2 rfl ?_
        refine go_bipush (v := 6) X dX12_changes_20 (by decide) ?_
        refine go_idiv X dX12_changes_22 hv38 kI_6 (by decide) (fun v44 hv44 => ?_)
        refine go_istore_n (i := 3) (L' := [(3, .int (Ii v44)), (0, .ref (base + 0)), (1, .int (Ii v37)), (2, .int (Ii v38))]) X dX12_changes_23 rfl (by decide) rfl ?_
        refine go_iload_n X dX12_changes_24 rfl 3 rfl ?_
        refine go_bipush (v := 6) X dX12_changes_25 (by decide) ?_
        refine go_irem X dX12_changes_27 hv38 kI_6 (by decide) (fun v45 hv45 => ?_)
        refine go_istore (i := 4) (L' := [(4, .int (Ii v45)), (3, .int (Ii v44)), (0, .ref (base + 0)), (1, .int (Ii v37)), (2, .int (Ii v38))]) X dX12_changes_28 (by decide) rfl ?_
        refine go_iload X dX12_changes_30 0 rfl ?_
        refine go_aload_n X dX12_changes_32 rfl 2 rfl ?_
        refine go_geti (i := 12) X fc12 dX12_changes_33 trn0 tr0 (Nat.le_of_ble_eq_true rfl) rfl lw946 rfl (fun v46 hv46 => ?_)
        refine go_lt (fun J => ∀ (v47 : Int) (v48 : Int) (M49 : Mm), bo v47 → i32 v48 → Go p l e (rmO 7 181) s m args below meth c D TR 67 base 7 0 0 (FinI D TR 67 base below args s bo) M49 121 [(0, .ref (base + 0)), (1, .int (Ii v47)), (2, .int (Ii v48))] [] (J v47 v48 M49)) (by
            intro v47 v48 M49 hv47 hv48
            refine go_iinc (i := 2) (L' := fun v => [(2, .int (Ii v)), (0, .ref (base + 0)), (1, .int (Ii v47))]) X dX12_changes_121 hv48 kI_1 (j := 2) rfl (by decide) (fun _ => rfl) (fun v51 hv51 => ?_)
            refine go_goto (tgt := 8) X dX12_changes_124 rfl ?_
            refine go_sub [1, 2, 0] rfl ?_
            exact hrc8_40 v47 v51 M49 hv47 hv51
            )
            (fun J121_50 hJ121_50 => ?_)
        refine go_icmp_ge (tgt := 121) X dX12_changes_36 rfl hv45 hv46 (fun c52 => ?_) (fun c52 => ?_)
        · refine go_sub [2, 3, 4] rfl ?_
          exact hJ121_50 v37 v38 M39 hv37 hv38
        · refine go_aload_n X dX12_changes_39 rfl 2 rfl ?_
          refine go_getc (i := 13) X fc12 dX12_changes_40 trn0 tr0 (Nat.le_of_ble_eq_true rfl) rfl lw877 rfl ?_
          refine go_iload X dX12_changes_43 0 rfl ?_
          refine go_iaload X dX12_changes_45 trn12 tr12 hv45 (fun v53 hv53 => ?_)
          refine go_iconst (v := 3) X dX12_changes_46 rfl ?_
          refine go_icmp_ne (tgt := 121) X dX12_changes_47 rfl hv53 kI_3 (fun c54 => ?_) (fun c54 => ?_)
          · refine go_sub [2, 3, 4] rfl ?_
            exact hJ121_50 v37 v38 M39 hv37 hv38
          · refine go_aload_n X dX12_changes_50 rfl 2 rfl ?_
            refine go_iload_n X dX12_changes_51 rfl 1 rfl ?_
            refine go_iload X dX12_changes_52 0 rfl ?_
            refine goI (fun H locs ls r ho hW hL => runV X (ok_X12_finds l D base M39 v44 hv44 v45 hv45 H.size r ho) dX12_changes_54 lw1161 lw1162 lw1163 lw944 ⟨lw1156, cy_X12_finds, Nat.le_of_ble_eq_true rfl, Nat.le_of_ble_eq_true rfl⟩ rfl trn0 tr0 rfl rfl rfl rfl (Nat.le_of_ble_eq_true rfl) hW hL hk0) (fun v56 M55 hv56 => ?_)
            refine go_istore (i := 5) (L' := [(5, .int (Ii v56)), (4, .int (Ii v45)), (3, .int (Ii v44)), (0, .ref (base + 0)), (1, .int (Ii v37)), (2, .int (Ii v38))]) X dX12_changes_57 (by decide) rfl ?_
            refine go_bipush (v := 6) X dX12_changes_59 (by decide) ?_
            refine go_aload_n X dX12_changes_61 rfl 3 rfl ?_
            refine go_getc (i := 43) X fc12 dX12_changes_62 trn0 tr0 (Nat.le_of_ble_eq_true rfl) rfl lw902 rfl ?_
            refine go_iload_n X dX12_changes_65 rfl 2 rfl ?_
            refine go_iaload X dX12_changes_66 trn36 tr36 hv44 (fun v57 hv57 => ?_)
            refine go_imul X dX12_changes_67 kI_6 hv57 (fun v58 hv58 => ?_)
            refine go_iload X dX12_changes_68 1 rfl ?_
            refine go_iadd X dX12_changes_70 hv58 hv45 (fun v59 hv59 => ?_)
            refine go_istore (i := 6) (L' := [(6, .int (Ii v59)), (5, .int (Ii v56)), (4, .int (Ii v45)), (3, .int (Ii v44)), (0, .ref (base + 0)), (1, .int (Ii v37)), (2, .int (Ii v38))]) X dX12_changes_71 (by decide) rfl ?_
            refine go_aload_n X dX12_changes_73 rfl 4 rfl ?_
            refine go_getc (i := 66) X fc12 dX12_changes_74 trn0 tr0 (Nat.le_of_ble_eq_true rfl) rfl lw923 rfl ?_
            refine go_iload X dX12_changes_77 0 rfl ?_
            refine go_iload X dX12_changes_79 1 rfl ?_
            refine go_sipush (v := 1000) X dX12_changes_81 (by decide) ?_
            refine go_lt (fun J => ∀ (v60 : Int) (v61 : Int) (v62 : Int) (M63 : Mm), bo v60 → i32 v61 → i32 v62 → Go p l e (rmO 7 181) s m args below meth c D TR 67 base 7 0 0 (FinI D TR 67 base below args s bo) M63 93 [(0, .ref (base + 0)), (1, .int (Ii v60)), (2, .int (Ii v61)), (6, .int (Ii v59))] [.int (Ii v62), .int (Ii v59), .ref (base + 56)] (J v60 v61 v62 M63)) (by
                intro v60 v61 v62 M63 hv60 hv61 hv62
                refine go_iastore X dX12_changes_93 trn56 tr56 hv59 hv62 (fun M65 => ?_)
                refine go_iload_n X dX12_changes_94 rfl 1 rfl ?_
                refine go_lt (fun J => ∀ (v66 : Int) (v67 : Int) (M68 : Mm), i32 v66 → bo v67 → Go p l e (rmO 7 181) s m args below meth c D TR 67 base 7 0 0 (FinI D TR 67 base below args s bo) M68 120 [(0, .ref (base + 0)), (2, .int (Ii v66))] [.int (Ii v67)] (J v66 v67 M68)) (by
                    intro v66 v67 M68 hv66 hv67
                    refine go_istore_n (i := 1) (L' := [(1, .int (Ii v67)), (0, .ref (base + 0)), (2, .int (Ii v66))]) X dX12_changes_120 rfl (by decide) rfl ?_
                    refine go_sub [1, 0, 2] rfl ?_
                    exact hJ121_50 v67 v66 M68 hv67 hv66
                    )
                    (fun J120_69 hJ120_69 => ?_)
                refine go_lt (fun J => ∀ (v70 : Int) (M71 : Mm), i32 v70 → Go p l e (rmO 7 181) s m args below meth c D TR 67 base 7 0 0 (FinI D TR 67 base below args s bo) M71 115 [(0, .ref (base + 0)), (2, .int (Ii v70))] [] (J v70 M71)) (by
                    intro v70 M71 hv70
                    refine go_iconst (v := 1) X dX12_changes_115 rfl ?_
                    refine go_goto (tgt := 120) X dX12_changes_116 rfl ?_
                    exact hJ120_69 v70 1 M71 hv70 (Or.inr rfl)
                    )
                    (fun J115_72 hJ115_72 => ?_)
                refine go_if_ne (tgt := 115) X dX12_changes_95 rfl (bo_i32 hv60) (fun c73 => ?_) (fun c73 => ?_)
                · refine go_sub [0, 2] rfl ?_
                  exact hJ115_72 v61 M65 hv61
                · refine go_aload_n X dX12_changes_98 rfl 0 rfl ?_
                  refine go_getc (i := 66) X fc12 dX12_changes_99 trn0 tr0 (Nat.le_of_ble_eq_true rfl) rfl lw923 rfl ?_
                  refine go_iload X dX12_changes_102 3 rfl ?_
                  refine go_iaload X dX12_changes_104 trn56 tr56 hv59 (fun v74 hv74 => ?_)
                  refine go_aload_n X dX12_changes_105 rfl 0 rfl ?_
                  refine go_getc (i := 65) X fc12 dX12_changes_106 trn0 tr0 (Nat.le_of_ble_eq_true rfl) rfl lw922 rfl ?_
                  refine go_iload X dX12_changes_109 3 rfl ?_
                  refine go_iaload X dX12_changes_111 trn55 tr55 hv59 (fun v75 hv75 => ?_)
                  refine go_icmp_eq (tgt := 119) X dX12_changes_112 rfl hv74 hv75 (fun c76 => ?_) (fun c76 => ?_)
                  · refine go_iconst (v := 0) X dX12_changes_119 rfl ?_
                    refine go_sub [0, 2] rfl ?_
                    exact hJ120_69 v61 0 M65 hv61 (Or.inl rfl)
                  · refine go_sub [0, 2] rfl ?_
                    exact hJ115_72 v61 M65 hv61
                )
                (fun J93_64 hJ93_64 => ?_)
            refine go_icmp_lt (tgt := 91) X dX12_changes_84 rfl hv56 kI_1000 (fun c77 => ?_) (fun c77 => ?_)
            · refine go_iload X dX12_changes_91 1 rfl ?_
              refine go_sub [4, 5, 6, 0] rfl ?_
              exact hJ93_64 v37 v38 v56 M55 hv37 hv38 hv56
            · refine go_iconst (v := (-1)) X dX12_changes_87 rfl ?_
              refine go_goto (tgt := 93) X dX12_changes_88 rfl ?_
              refine go_sub [4, 5, 6, 0] rfl ?_
              exact hJ93_64 v37 v38 ((-1)) M55 hv37 hv38 kI_m1
      )
      FU 0 0 M1 (Or.inl rfl) kI_0
def f_X12_findsRings_L87_21 (J112_11 : Mm → Rs) (rc87_16 : Int × Int × Mm → Rs) : Int × Int × Mm → Rs := fun (v13, v14, M15) =>
if 360 ≤ v14 then (
J112_11 M15) else (
if v13 = 0 then (
J112_11 M15) else (
gd (0 ≤ v14 ∧ v14 < 360) <|
Lt (up M15 55 v14.toNat ((-2))) fun M19 =>
Lt (wr (v14 + 1)) fun v20 =>
rc87_16 (v13, v20, M19)))
def f_X12_findsRings_L64_31 (J85_9 : Int → Mm → Rs) (rc64_25 : Int × Int × Mm → Rs) : Int × Int × Mm → Rs := fun (v22, v23, M24) =>
if 30 < v23 then (
J85_9 v22 M24) else (
if v22 = 0 then (
J85_9 v22 M24) else (
Cl (f_X12_changes M24) fun v29 M28 =>
Lt (wr (v23 + 1)) fun v30 =>
rc64_25 (v29, v30, M28)))
def f_X12_findsRings_L40_39 (J60_6 : Int → Mm → Rs) (rc40_35 : Int × Int × Mm → Rs) : Int × Int × Mm → Rs := fun (v32, v33, M34) =>
if 360 ≤ v33 then (
J60_6 v32 M34) else (
gd (0 ≤ v33 ∧ v33 < 360) <|
Lt (up M34 55 v33.toNat 0) fun M37 =>
Lt (wr (v33 + 1)) fun v38 =>
rc40_35 (v32, v38, M37))
def f_X12_findsRings_L4_57 (J38_3 : Int → Mm → Rs) (rc4_43 : Int × Int × Mm → Rs) : Int × Int × Mm → Rs := fun (v40, v41, M42) =>
Lt (M42 0 12) fun v44 =>
if v44 ≤ v41 then (
J38_3 v40 M42) else (
Lt (fun (v46 : Int) (v47 : Int) (M48 : Mm) => 
Lt (wr (v46 + 1)) fun v50 =>
rc4_43 (v47, v50, M48)) fun J31_49 =>
Lt (fun (v51 : Int) (M52 : Mm) => 
J31_49 v51 1 M52) fun J26_53 =>
if ¬ v40 = 0 then (
J26_53 v41 M42) else (
gd (0 ≤ v41 ∧ v41 < 6) <|
Lt (M42 12 v41.toNat) fun v55 =>
if ¬ v55 = 3 then (
J31_49 v41 0 M42) else (
J26_53 v41 M42)))
def f_X12_findsRings (M : Mm) : Rs :=
Lt (fun (v1 : Int) (M2 : Mm) => 
Lt (fun (v4 : Int) (M5 : Mm) => 
Lt (fun (v7 : Int) (M8 : Mm) => 
Lt (fun (M10 : Mm) => 
Lt (up M10 0 68 0) fun M12 =>
some (0, M12)) fun J112_11 =>
Lp (f_X12_findsRings_L87_21 J112_11) FU (v7, 0, M8)) fun J85_9 =>
Lp (f_X12_findsRings_L64_31 J85_9) FU (v4, 1, M5)) fun J60_6 =>
Lp (f_X12_findsRings_L40_39 J60_6) FU (v1, 0, M2)) fun J38_3 =>
Lp (f_X12_findsRings_L4_57 J38_3) FU (0, 0, M)
theorem cy_X12_findsRings : yX12_findsRings.cls ≠ "java/lang/invoke/MethodHandle" ∧ yX12_findsRings.cls ≠ "java/lang/invoke/VarHandle" ∧ (parseMethodDescriptor yX12_findsRings.desc).map (fun d => d.parameters.length) = some 0 := ⟨by decide +kernel, by decide +kernel, by decide +kernel⟩
set_option maxRecDepth 20000 in
theorem ok_X12_findsRings (l : Launch) (D : Dd) (base : Nat) (M : Mm) : OkV l D TR 67 base yX12_findsRings cX12_findsRings 4 none 8 207 [.ref (base + 0)] M (f_X12_findsRings M) := by
  refine metV (by decide +kernel) [(0, .ref (base + 0))] rfl (Nat.le_of_ble_eq_true rfl) (fun p e s m args below meth c X hrt hlk => ?_)
  have X : Cx p s m args c cX12_findsRings D 4 RX12 := X
  unfold f_X12_findsRings
  refine go_iconst (v := 0) X dX12_findsRings_0 rfl ?_
  refine go_istore_n (i := 1) (L' := [(1, .int (Ii 0)), (0, .ref (base + 0))]) X dX12_findsRings_1 rfl (by decide) rfl ?_
  refine go_iconst (v := 0) X dX12_findsRings_2 rfl ?_
  refine go_istore_n (i := 2) (L' := [(2, .int (Ii 0)), (1, .int (Ii 0)), (0, .ref (base + 0))]) X dX12_findsRings_3 rfl (by decide) rfl ?_
  refine go_lt (fun J => ∀ (v1 : Int) (M2 : Mm), bo v1 → Go p l e (rmO 8 207) s m args below meth c D TR 67 base 4 0 0 (FinV D TR 67 base below args s) M2 38 [(0, .ref (base + 0)), (1, .int (Ii v1))] [] (J v1 M2)) (by
      intro v1 M2 hv1
      refine go_iconst (v := 0) X dX12_findsRings_38 rfl ?_
      refine go_istore_n (i := 2) (L' := [(2, .int (Ii 0)), (0, .ref (base + 0)), (1, .int (Ii v1))]) X dX12_findsRings_39 rfl (by decide) rfl ?_
      refine go_lt (fun J => ∀ (v4 : Int) (M5 : Mm), bo v4 → Go p l e (rmO 8 207) s m args below meth c D TR 67 base 4 0 0 (FinV D TR 67 base below args s) M5 60 [(0, .ref (base + 0)), (1, .int (Ii v4))] [] (J v4 M5)) (by
          intro v4 M5 hv4
          refine go_iload_n X dX12_findsRings_60 rfl 1 rfl ?_
          refine go_istore_n (i := 2) (L' := [(2, .int (Ii v4)), (0, .ref (base + 0)), (1, .int (Ii v4))]) X dX12_findsRings_61 rfl (by decide) rfl ?_
          refine go_iconst (v := 1) X dX12_findsRings_62 rfl ?_
          refine go_istore_n (i := 3) (L' := [(3, .int (Ii 1)), (2, .int (Ii v4)), (0, .ref (base + 0)), (1, .int (Ii v4))]) X dX12_findsRings_63 rfl (by decide) rfl ?_
          refine go_lt (fun J => ∀ (v7 : Int) (M8 : Mm), bo v7 → Go p l e (rmO 8 207) s m args below meth c D TR 67 base 4 0 0 (FinV D TR 67 base below args s) M8 85 [(0, .ref (base + 0)), (2, .int (Ii v7))] [] (J v7 M8)) (by
              intro v7 M8 hv7
              refine go_iconst (v := 0) X dX12_findsRings_85 rfl ?_
              refine go_istore_n (i := 3) (L' := [(3, .int (Ii 0)), (0, .ref (base + 0)), (2, .int (Ii v7))]) X dX12_findsRings_86 rfl (by decide) rfl ?_
              refine go_lt (fun J => ∀ (M10 : Mm), Go p l e (rmO 8 207) s m args below meth c D TR 67 base 4 0 0 (FinV D TR 67 base below args s) M10 112 [(0, .ref (base + 0))] [] (J M10)) (by
                  intro M10
                  refine go_aload_n X dX12_findsRings_112 rfl 0 rfl ?_
                  refine go_iconst (v := 0) X dX12_findsRings_113 rfl ?_
                  refine go_puti (i := 68) X fc12 dX12_findsRings_114 trn0 tr0 (Nat.le_of_ble_eq_true rfl) rfl lw1102 rfl rfl rfl kI_0 (fun M12 => ?_)
                  exact go_vreturn X hrt hlk dX12_findsRings_117
                  )
                  (fun J112_11 hJ112_11 => ?_)
              refine go_sub [1, 2, 0] rfl ?_
              exact go_lp (fun (rc : Int × Int × Mm → Rs) => ∀ (v13 : Int) (v14 : Int) (M15 : Mm), bo v13 → i32 v14 → Go p l e (rmO 8 207) s m args below meth c D TR 67 base 4 0 0 (FinV D TR 67 base below args s) M15 87 [(0, .ref (base + 0)), (2, .int (Ii v13)), (3, .int (Ii v14))] [] (rc (v13, v14, M15)))
                  (by intro v13 v14 M15 hv13 hv14; exact go_none)
                  (by
                  intro rc87_16 hrc87_16 v13 v14 M15 hv13 hv14
                  unfold f_X12_findsRings_L87_21
                  dsimp only
                  refine go_iload_n X dX12_findsRings_87 rfl 2 rfl ?_
                  refine go_sipush (v := 360) X dX12_findsRings_88 (by decide) ?_
                  refine go_icmp_ge (tgt := 112) X dX12_findsRings_91 rfl hv14 kI_360 (fun c17 => ?_) (fun c17 => ?_)
                  · refine go_sub [0] rfl ?_
                    exact hJ112_11 M15
                  · refine go_iload_n X dX12_findsRings_94 rfl 1 rfl ?_
                    refine go_if_eq (tgt := 112) X dX12_findsRings_95 rfl (bo_i32 hv13) (fun c18 => ?_) (fun c18 => ?_)
                    · refine go_sub [0] rfl ?_
                      exact hJ112_11 M15
                    · refine go_aload_n X dX12_findsRings_98 rfl 0 rfl ?_
                      refine go_getc (i := 65) X fc12 dX12_findsRings_99 trn0 tr0 (Nat.le_of_ble_eq_true rfl) rfl lw922 rfl ?_
                      refine go_iload_n X dX12_findsRings_102 rfl 2 rfl ?_
                      refine go_bipush (v := (-2)) X dX12_findsRings_103 (by decide) ?_
                      refine go_iastore X dX12_findsRings_105 trn55 tr55 hv14 kI_m2 (fun M19 => ?_)
                      refine go_iinc (i := 3) (L' := fun v => [(3, .int (Ii v)), (0, .ref (base + 0)), (2, .int (Ii v13))]) X dX12_findsRings_106 hv14 kI_1 (j := 2) rfl (by decide) (fun _ => rfl) (fun v20 hv20 => ?_)
                      refine go_goto (tgt := 87) X dX12_findsRings_109 rfl ?_
                      refine go_sub [1, 2, 0] rfl ?_
                      exact hrc87_16 v13 v20 M19 hv13 hv20
                  )
                  FU v7 0 M8 hv7 kI_0
              )
              (fun J85_9 hJ85_9 => ?_)
          refine go_sub [2, 1, 0] rfl ?_
          exact go_lp (fun (rc : Int × Int × Mm → Rs) => ∀ (v22 : Int) (v23 : Int) (M24 : Mm), bo v22 → i32 v23 → Go p l e (rmO 8 207) s m args below meth c D TR 67 base 4 0 0 (FinV D TR 67 base below args s) M24 64 [(0, .ref (base + 0)), (2, .int (Ii v22)), (3, .int (Ii v23))] [] (rc (v22, v23, M24)))
              (by intro v22 v23 M24 hv22 hv23; exact go_none)
              (by
              intro rc64_25 hrc64_25 v22 v23 M24 hv22 hv23
              unfold f_X12_findsRings_L64_31
              dsimp only
              refine go_iload_n X dX12_findsRings_64 rfl 2 rfl ?_
              refine go_bipush (v := 30) X dX12_findsRings_65 (by decide) ?_
              refine go_icmp_gt (tgt := 85) X dX12_findsRings_67 rfl hv23 kI_30 (fun c26 => ?_) (fun c26 => ?_)
              · refine go_sub [0, 1] rfl ?_
                exact hJ85_9 v22 M24 hv22
              · refine go_iload_n X dX12_findsRings_70 rfl 1 rfl ?_
                refine go_if_eq (tgt := 85) X dX12_findsRings_71 rfl (bo_i32 hv22) (fun c27 => ?_) (fun c27 => ?_)
                · refine go_sub [0, 1] rfl ?_
                  exact hJ85_9 v22 M24 hv22
                · refine go_aload_n X dX12_findsRings_74 rfl 0 rfl ?_
                  refine goI (fun H locs ls r ho hW hL => runV X (ok_X12_changes l D base M24  H.size r ho) dX12_findsRings_75 lw1165 lw1166 lw1167 lw944 ⟨lw1164, cy_X12_changes, Nat.le_of_ble_eq_true rfl, Nat.le_of_ble_eq_true rfl⟩ rfl trn0 tr0 rfl rfl rfl rfl (Nat.le_of_ble_eq_true rfl) hW hL hk0) (fun v29 M28 hv29 => ?_)
                  refine go_istore_n (i := 2) (L' := [(2, .int (Ii v29)), (0, .ref (base + 0)), (3, .int (Ii v23))]) X dX12_findsRings_78 rfl (by decide) rfl ?_
                  refine go_iinc (i := 3) (L' := fun v => [(3, .int (Ii v)), (2, .int (Ii v29)), (0, .ref (base + 0))]) X dX12_findsRings_79 hv23 kI_1 (j := 2) rfl (by decide) (fun _ => rfl) (fun v30 hv30 => ?_)
                  refine go_goto (tgt := 64) X dX12_findsRings_82 rfl ?_
                  refine go_sub [2, 1, 0] rfl ?_
                  exact hrc64_25 v29 v30 M28 hv29 hv30
              )
              FU v4 1 M5 hv4 kI_1
          )
          (fun J60_6 hJ60_6 => ?_)
      refine go_sub [1, 2, 0] rfl ?_
      exact go_lp (fun (rc : Int × Int × Mm → Rs) => ∀ (v32 : Int) (v33 : Int) (M34 : Mm), bo v32 → i32 v33 → Go p l e (rmO 8 207) s m args below meth c D TR 67 base 4 0 0 (FinV D TR 67 base below args s) M34 40 [(0, .ref (base + 0)), (1, .int (Ii v32)), (2, .int (Ii v33))] [] (rc (v32, v33, M34)))
          (by intro v32 v33 M34 hv32 hv33; exact go_none)
          (by
          intro rc40_35 hrc40_35 v32 v33 M34 hv32 hv33
          unfold f_X12_findsRings_L40_39
          dsimp only
          refine go_iload_n X dX12_findsRings_40 rfl 2 rfl ?_
          refine go_sipush (v := 360) X dX12_findsRings_41 (by decide) ?_
          refine go_icmp_ge (tgt := 60) X dX12_findsRings_44 rfl hv33 kI_360 (fun c36 => ?_) (fun c36 => ?_)
          · refine go_sub [0, 1] rfl ?_
            exact hJ60_6 v32 M34 hv32
          · refine go_aload_n X dX12_findsRings_47 rfl 0 rfl ?_
            refine go_getc (i := 65) X fc12 dX12_findsRings_48 trn0 tr0 (Nat.le_of_ble_eq_true rfl) rfl lw922 rfl ?_
            refine go_iload_n X dX12_findsRings_51 rfl 2 rfl ?_
            refine go_iconst (v := 0) X dX12_findsRings_52 rfl ?_
            refine go_iastore X dX12_findsRings_53 trn55 tr55 hv33 kI_0 (fun M37 => ?_)
            refine go_iinc (i := 2) (L' := fun v => [(2, .int (Ii v)), (0, .ref (base + 0)), (1, .int (Ii v32))]) X dX12_findsRings_54 hv33 kI_1 (j := 2) rfl (by decide) (fun _ => rfl) (fun v38 hv38 => ?_)
            refine go_goto (tgt := 40) X dX12_findsRings_57 rfl ?_
            refine go_sub [1, 2, 0] rfl ?_
            exact hrc40_35 v32 v38 M37 hv32 hv38
          )
          FU v1 0 M2 hv1 kI_0
      )
      (fun J38_3 hJ38_3 => ?_)
  refine go_sub [2, 1, 0] rfl ?_
  exact go_lp (fun (rc : Int × Int × Mm → Rs) => ∀ (v40 : Int) (v41 : Int) (M42 : Mm), bo v40 → i32 v41 → Go p l e (rmO 8 207) s m args below meth c D TR 67 base 4 0 0 (FinV D TR 67 base below args s) M42 4 [(0, .ref (base + 0)), (1, .int (Ii v40)), (2, .int (Ii v41))] [] (rc (v40, v41, M42)))
      (by intro v40 v41 M42 hv40 hv41; exact go_none)
      (by
      intro rc4_43 hrc4_43 v40 v41 M42 hv40 hv41
      unfold f_X12_findsRings_L4_57
      dsimp only
      refine go_iload_n X dX12_findsRings_4 rfl 2 rfl ?_
      refine go_aload_n X dX12_findsRings_5 rfl 0 rfl ?_
      refine go_geti (i := 12) X fc12 dX12_findsRings_6 trn0 tr0 (Nat.le_of_ble_eq_true rfl) rfl lw946 rfl (fun v44 hv44 => ?_)
      refine go_icmp_ge (tgt := 38) X dX12_findsRings_9 rfl hv41 hv44 (fun c45 => ?_) (fun c45 => ?_)
      · refine go_sub [0, 1] rfl ?_
        exact hJ38_3 v40 M42 hv40
      · refine go_iload_n X dX12_findsRings_12 rfl 1 rfl ?_
        refine go_lt (fun J => ∀ (v46 : Int) (v47 : Int) (M48 : Mm), i32 v46 → bo v47 → Go p l e (rmO 8 207) s m args below meth c D TR 67 base 4 0 0 (FinV D TR 67 base below args s) M48 31 [(0, .ref (base + 0)), (2, .int (Ii v46))] [.int (Ii v47)] (J v46 v47 M48)) (by
            intro v46 v47 M48 hv46 hv47
            refine go_istore_n (i := 1) (L' := [(1, .int (Ii v47)), (0, .ref (base + 0)), (2, .int (Ii v46))]) X dX12_findsRings_31 rfl (by decide) rfl ?_
            refine go_iinc (i := 2) (L' := fun v => [(2, .int (Ii v)), (1, .int (Ii v47)), (0, .ref (base + 0))]) X dX12_findsRings_32 hv46 kI_1 (j := 2) rfl (by decide) (fun _ => rfl) (fun v50 hv50 => ?_)
            refine go_goto (tgt := 4) X dX12_findsRings_35 rfl ?_
            refine go_sub [2, 1, 0] rfl ?_
            exact hrc4_43 v47 v50 M48 hv47 hv50
            )
            (fun J31_49 hJ31_49 => ?_)
        refine go_lt (fun J => ∀ (v51 : Int) (M52 : Mm), i32 v51 → Go p l e (rmO 8 207) s m args below meth c D TR 67 base 4 0 0 (FinV D TR 67 base below args s) M52 26 [(0, .ref (base + 0)), (2, .int (Ii v51))] [] (J v51 M52)) (by
            intro v51 M52 hv51
            refine go_iconst (v := 1) X dX12_findsRings_26 rfl ?_
            refine go_goto (tgt := 31) X dX12_findsRings_27 rfl ?_
            exact hJ31_49 v51 1 M52 hv51 (Or.inr rfl)
            )
            (fun J26_53 hJ26_53 => ?_)
        refine go_if_ne (tgt := 26) X dX12_findsRings_13 rfl (bo_i32 hv40) (fun c54 => ?_) (fun c54 => ?_)
        · refine go_sub [0, 2] rfl ?_
          exact hJ26_53 v41 M42 hv41
        · refine go_aload_n X dX12_findsRings_16 rfl 0 rfl ?_
          refine go_getc (i := 13) X fc12 dX12_findsRings_17 trn0 tr0 (Nat.le_of_ble_eq_true rfl) rfl lw877 rfl ?_
          refine go_iload_n X dX12_findsRings_20 rfl 2 rfl ?_
          refine go_iaload X dX12_findsRings_21 trn12 tr12 hv41 (fun v55 hv55 => ?_)
          refine go_iconst (v := 3) X dX12_findsRings_22 rfl ?_
          refine go_icmp_ne (tgt := 30) X dX12_findsRings_23 rfl hv55 kI_3 (fun c56 => ?_) (fun c56 => ?_)
          · refine go_iconst (v := 0) X dX12_findsRings_30 rfl ?_
            refine go_sub [0, 2] rfl ?_
            exact hJ31_49 v41 0 M42 hv41 (Or.inl rfl)
          · refine go_sub [0, 2] rfl ?_
            exact hJ26_53 v41 M42 hv41
      )
      FU 0 0 M (Or.inl rfl) kI_0
def f_X12_told (a1 : Int) (M : Mm) : Rs :=
Lt (fun (v1 : Int) (M2 : Mm) => 
some (v1, M2)) fun J24_3 =>
if 1000 ≤ a1 then (
Lt (wr (a1 - 1000)) fun v5 =>
Cl (f_X12_nodeAt v5 M) fun v7 M6 =>
Lt (wr (1000 + v7)) fun v8 =>
J24_3 v8 M6) else (
J24_3 a1 M)
theorem cy_X12_told : yX12_told.cls ≠ "java/lang/invoke/MethodHandle" ∧ yX12_told.cls ≠ "java/lang/invoke/VarHandle" ∧ (parseMethodDescriptor yX12_told.desc).map (fun d => d.parameters.length) = some 1 := ⟨by decide +kernel, by decide +kernel, by decide +kernel⟩
set_option maxRecDepth 20000 in
theorem ok_X12_told (l : Launch) (D : Dd) (base : Nat) (M : Mm) (a1 : Int) (ha1 : i32 a1) : OkI l D TR 67 base yX12_told cX12_told 2 (some .int) 1 23 [.ref (base + 0), .int (Ii a1)] M i32 (f_X12_told a1 M) := by
  refine metI (by decide +kernel) [(0, .ref (base + 0)), (1, .int (Ii a1))] rfl (Nat.le_of_ble_eq_true rfl) (fun p e s m args below meth c X hrt hlk => ?_)
  have X : Cx p s m args c cX12_told D 2 RX12 := X
  unfold f_X12_told
  refine go_iload_n X dX12_told_0 rfl 1 rfl ?_
  refine go_sipush (v := 1000) X dX12_told_1 (by decide) ?_
  refine go_lt (fun J => ∀ (v1 : Int) (M2 : Mm), i32 v1 → Go p l e (rmO 1 23) s m args below meth c D TR 67 base 2 0 0 (FinI D TR 67 base below args s i32) M2 24 [] [.int (Ii v1)] (J v1 M2)) (by
      intro v1 M2 hv1
      exact go_ireturn X hrt hlk dX12_told_24 hv1
      )
      (fun J24_3 hJ24_3 => ?_)
  refine go_icmp_ge (tgt := 11) X dX12_told_4 rfl ha1 kI_1000 (fun c4 => ?_) (fun c4 => ?_)
  · refine go_sipush (v := 1000) X dX12_told_11 (by decide) ?_
    refine go_aload_n X dX12_told_14 rfl 0 rfl ?_
    refine go_iload_n X dX12_told_15 rfl 1 rfl ?_
    refine go_sipush (v := 1000) X dX12_told_16 (by decide) ?_
    refine go_isub X dX12_told_19 ha1 kI_1000 (fun v5 hv5 => ?_)
    refine goI (fun H locs ls r ho hW hL => runV X (ok_X12_nodeAt l D base M v5 hv5 H.size r ho) dX12_told_20 lw1131 lw1132 lw1133 lw944 ⟨lw1126, cy_X12_nodeAt, Nat.le_of_ble_eq_true rfl, Nat.le_of_ble_eq_true rfl⟩ rfl trn0 tr0 rfl rfl rfl rfl (Nat.le_of_ble_eq_true rfl) hW hL hk0) (fun v7 M6 hv7 => ?_)
    refine go_iadd X dX12_told_23 kI_1000 hv7 (fun v8 hv8 => ?_)
    refine go_sub [] rfl ?_
    exact hJ24_3 v8 M6 hv8
  · refine go_iload_n X dX12_told_7 rfl 1 rfl ?_
    refine go_goto (tgt := 24) X dX12_told_8 rfl ?_
    refine go_sub [] rfl ?_
    exact hJ24_3 a1 M ha1
def f_X12_keeps (a1 : Int) (a2 : Int) (M : Mm) : Rs :=
Cl (f_X12_findsRings M) fun _ M1 =>
gd (0 ≤ a2 ∧ a2 < 6) <|
Lt (M1 12 a2.toNat) fun v2 =>
if ¬ v2 = 3 then (
Cl (f_X12_at a1 a2 M1) fun v5 M4 =>
gd (0 ≤ v5 ∧ v5 < 720) <|
Lt (M4 50 v5.toNat) fun v6 =>
Lt (fun (v7 : Int) (M8 : Mm) => 
some (v7, M8)) fun J62_9 =>
if v6 = 0 then (
Cl (f_X12_finds a1 a2 M4) fun v12 M11 =>
J62_9 v12 M11) else (
gd (0 ≤ v5 ∧ v5 < 720) <|
Lt (M4 52 v5.toNat) fun v13 =>
J62_9 v13 M4)) else (
gd (0 ≤ a1 ∧ a1 < 30) <|
Lt (M1 36 a1.toNat) fun v14 =>
Lt (wr (6 * v14)) fun v15 =>
Lt (wr (v15 + a2)) fun v16 =>
gd (0 ≤ v16 ∧ v16 < 360) <|
Lt (M1 55 v16.toNat) fun v17 =>
some (v17, M1))
theorem cy_X12_keeps : yX12_keeps.cls ≠ "java/lang/invoke/MethodHandle" ∧ yX12_keeps.cls ≠ "java/lang/invoke/VarHandle" ∧ (parseMethodDescriptor yX12_keeps.desc).map (fun d => d.parameters.length) = some 2 := ⟨by decide +kernel, by decide +kernel, by decide +kernel⟩
set_option maxRecDepth 20000 in
theorem ok_X12_keeps (l : Launch) (D : Dd) (base : Nat) (M : Mm) (a1 : Int) (ha1 : i32 a1) (a2 : Int) (ha2 : i32 a2) : OkI l D TR 67 base yX12_keeps cX12_keeps 4 (some .int) 9 230 [.ref (base + 0), .int (Ii a1), .int (Ii a2)] M i32 (f_X12_keeps a1 a2 M) := by
  refine metI (by decide +kernel) [(0, .ref (base + 0)), (1, .int (Ii a1)), (2, .int (Ii a2))] rfl (Nat.le_of_ble_eq_true rfl) (fun p e s m args below meth c X hrt hlk => ?_)
  have X : Cx p s m args c cX12_keeps D 4 RX12 := X
  unfold f_X12_keeps
  refine go_aload_n X dX12_keeps_0 rfl 0 rfl ?_
  refine goV (fun H locs ls r ho hW hL => runV X (ok_X12_findsRings l D base M  H.size r ho) dX12_keeps_1 lw1170 lw1171 lw1172 lw944 ⟨lw1168, cy_X12_findsRings, Nat.le_of_ble_eq_true rfl, Nat.le_of_ble_eq_true rfl⟩ rfl trn0 tr0 rfl rfl rfl rfl (Nat.le_of_ble_eq_true rfl) hW hL hk0) (fun _ M1 => ?_)
  refine go_aload_n X dX12_keeps_4 rfl 0 rfl ?_
  refine go_getc (i := 13) X fc12 dX12_keeps_5 trn0 tr0 (Nat.le_of_ble_eq_true rfl) rfl lw877 rfl ?_
  refine go_iload_n X dX12_keeps_8 rfl 2 rfl ?_
  refine go_iaload X dX12_keeps_9 trn12 tr12 ha2 (fun v2 hv2 => ?_)
  refine go_iconst (v := 3) X dX12_keeps_10 rfl ?_
  refine go_icmp_ne (tgt := 31) X dX12_keeps_11 rfl hv2 kI_3 (fun c3 => ?_) (fun c3 => ?_)
  · refine go_aload_n X dX12_keeps_31 rfl 0 rfl ?_
    refine go_iload_n X dX12_keeps_32 rfl 1 rfl ?_
    refine go_iload_n X dX12_keeps_33 rfl 2 rfl ?_
    refine goI (fun H locs ls r ho hW hL => runV X (ok_X12_at l D base M1 a1 ha1 a2 ha2 H.size r ho) dX12_keeps_34 lw1114 lw1115 lw1116 lw944 ⟨lw1101, cy_X12_at, Nat.le_of_ble_eq_true rfl, Nat.le_of_ble_eq_true rfl⟩ rfl trn0 tr0 rfl rfl rfl rfl (Nat.le_of_ble_eq_true rfl) hW hL hk0) (fun v5 M4 hv5 => ?_)
    refine go_istore_n (i := 3) (L' := [(3, .int (Ii v5)), (0, .ref (base + 0)), (1, .int (Ii a1)), (2, .int (Ii a2))]) X dX12_keeps_37 rfl (by decide) rfl ?_
    refine go_aload_n X dX12_keeps_38 rfl 1 rfl ?_
    refine go_getc (i := 60) X fc12 dX12_keeps_39 trn0 tr0 (Nat.le_of_ble_eq_true rfl) rfl lw916 rfl ?_
    refine go_iload_n X dX12_keeps_42 rfl 0 rfl ?_
    refine go_zaload X dX12_keeps_43 trn50 tr50 hv5 (fun v6 hv6 => ?_)
    refine go_lt (fun J => ∀ (v7 : Int) (M8 : Mm), i32 v7 → Go p l e (rmO 9 230) s m args below meth c D TR 67 base 4 0 0 (FinI D TR 67 base below args s i32) M8 62 [] [.int (Ii v7)] (J v7 M8)) (by
        intro v7 M8 hv7
        exact go_ireturn X hrt hlk dX12_keeps_62 hv7
        )
        (fun J62_9 hJ62_9 => ?_)
    refine go_if_eq (tgt := 56) X dX12_keeps_44 rfl (bo_i32 hv6) (fun c10 => ?_) (fun c10 => ?_)
    · refine go_aload_n X dX12_keeps_56 rfl 1 rfl ?_
      refine go_iload_n X dX12_keeps_57 rfl 2 rfl ?_
      refine go_iload_n X dX12_keeps_58 rfl 3 rfl ?_
      refine goI (fun H locs ls r ho hW hL => runV X (ok_X12_finds l D base M4 a1 ha1 a2 ha2 H.size r ho) dX12_keeps_59 lw1161 lw1162 lw1163 lw944 ⟨lw1156, cy_X12_finds, Nat.le_of_ble_eq_true rfl, Nat.le_of_ble_eq_true rfl⟩ rfl trn0 tr0 rfl rfl rfl rfl (Nat.le_of_ble_eq_true rfl) hW hL hk0) (fun v12 M11 hv12 => ?_)
      refine go_sub [] rfl ?_
      exact hJ62_9 v12 M11 hv12
    · refine go_aload_n X dX12_keeps_47 rfl 1 rfl ?_
      refine go_getc (i := 62) X fc12 dX12_keeps_48 trn0 tr0 (Nat.le_of_ble_eq_true rfl) rfl lw918 rfl ?_
      refine go_iload_n X dX12_keeps_51 rfl 0 rfl ?_
      refine go_iaload X dX12_keeps_52 trn52 tr52 hv5 (fun v13 hv13 => ?_)
      refine go_goto (tgt := 62) X dX12_keeps_53 rfl ?_
      refine go_sub [] rfl ?_
      exact hJ62_9 v13 M4 hv13
  · refine go_aload_n X dX12_keeps_14 rfl 0 rfl ?_
    refine go_getc (i := 65) X fc12 dX12_keeps_15 trn0 tr0 (Nat.le_of_ble_eq_true rfl) rfl lw922 rfl ?_
    refine go_bipush (v := 6) X dX12_keeps_18 (by decide) ?_
    refine go_aload_n X dX12_keeps_20 rfl 0 rfl ?_
    refine go_getc (i := 43) X fc12 dX12_keeps_21 trn0 tr0 (Nat.le_of_ble_eq_true rfl) rfl lw902 rfl ?_
    refine go_iload_n X dX12_keeps_24 rfl 1 rfl ?_
    refine go_iaload X dX12_keeps_25 trn36 tr36 ha1 (fun v14 hv14 => ?_)
    refine go_imul X dX12_keeps_26 kI_6 hv14 (fun v15 hv15 => ?_)
    refine go_iload_n X dX12_keeps_27 rfl 2 rfl ?_
    refine go_iadd X dX12_keeps_28 hv15 ha2 (fun v16 hv16 => ?_)
    refine go_iaload X dX12_keeps_29 trn55 tr55 hv16 (fun v17 hv17 => ?_)
    exact go_ireturn X hrt hlk dX12_keeps_30 hv17
def f_X12_isPair (a1 : Int) (a2 : Int) (M : Mm) : Rs :=
Cl (f_X12_isNode a1 M) fun v2 M1 =>
Lt (fun (v3 : Int) (M4 : Mm) => 
some (v3, M4)) fun J21_5 =>
Lt (fun (M6 : Mm) => 
J21_5 0 M6) fun J20_7 =>
if v2 = 0 then (
J20_7 M1) else (
Cl (f_X12_isAttribute a2 M1) fun v10 M9 =>
if v10 = 0 then (
J20_7 M9) else (
J21_5 1 M9))
theorem cy_X12_isPair : yX12_isPair.cls ≠ "java/lang/invoke/MethodHandle" ∧ yX12_isPair.cls ≠ "java/lang/invoke/VarHandle" ∧ (parseMethodDescriptor yX12_isPair.desc).map (fun d => d.parameters.length) = some 2 := ⟨by decide +kernel, by decide +kernel, by decide +kernel⟩
set_option maxRecDepth 20000 in
theorem ok_X12_isPair (l : Launch) (D : Dd) (base : Nat) (M : Mm) (a1 : Int) (ha1 : i32 a1) (a2 : Int) (ha2 : i32 a2) : OkI l D TR 67 base yX12_isPair cX12_isPair 3 (some .boolean) 2 43 [.ref (base + 0), .int (Ii a1), .int (Ii a2)] M bo (f_X12_isPair a1 a2 M) := by
  refine metI (by decide +kernel) [(0, .ref (base + 0)), (1, .int (Ii a1)), (2, .int (Ii a2))] rfl (Nat.le_of_ble_eq_true rfl) (fun p e s m args below meth c X hrt hlk => ?_)
  have X : Cx p s m args c cX12_isPair D 3 RX12 := X
  unfold f_X12_isPair
  refine go_aload_n X dX12_isPair_0 rfl 0 rfl ?_
  refine go_iload_n X dX12_isPair_1 rfl 1 rfl ?_
  refine goI (fun H locs ls r ho hW hL => runV X (ok_X12_isNode l D base M a1 ha1 H.size r ho) dX12_isPair_2 lw1098 lw1099 lw1100 lw944 ⟨lw947, cy_X12_isNode, Nat.le_of_ble_eq_true rfl, Nat.le_of_ble_eq_true rfl⟩ rfl trn0 tr0 rfl rfl rfl rfl (Nat.le_of_ble_eq_true rfl) hW hL hk0) (fun v2 M1 hv2 => ?_)
  refine go_lt (fun J => ∀ (v3 : Int) (M4 : Mm), bo v3 → Go p l e (rmO 2 43) s m args below meth c D TR 67 base 3 0 0 (FinI D TR 67 base below args s bo) M4 21 [] [.int (Ii v3)] (J v3 M4)) (by
      intro v3 M4 hv3
      exact go_zreturn X hrt hlk dX12_isPair_21 hv3 hv3
      )
      (fun J21_5 hJ21_5 => ?_)
  refine go_lt (fun J => ∀ (M6 : Mm), Go p l e (rmO 2 43) s m args below meth c D TR 67 base 3 0 0 (FinI D TR 67 base below args s bo) M6 20 [] [] (J M6)) (by
      intro M6
      refine go_iconst (v := 0) X dX12_isPair_20 rfl ?_
      exact hJ21_5 0 M6 (Or.inl rfl)
      )
      (fun J20_7 hJ20_7 => ?_)
  refine go_if_eq (tgt := 20) X dX12_isPair_5 rfl (bo_i32 hv2) (fun c8 => ?_) (fun c8 => ?_)
  · refine go_sub [] rfl ?_
    exact hJ20_7 M1
  · refine go_aload_n X dX12_isPair_8 rfl 0 rfl ?_
    refine go_iload_n X dX12_isPair_9 rfl 2 rfl ?_
    refine goI (fun H locs ls r ho hW hL => runV X (ok_X12_isAttribute l D base M1 a2 ha2 H.size r ho) dX12_isPair_10 lw971 lw972 lw973 lw944 ⟨lw945, cy_X12_isAttribute, Nat.le_of_ble_eq_true rfl, Nat.le_of_ble_eq_true rfl⟩ rfl trn0 tr0 rfl rfl rfl rfl (Nat.le_of_ble_eq_true rfl) hW hL hk0) (fun v10 M9 hv10 => ?_)
    refine go_if_eq (tgt := 20) X dX12_isPair_13 rfl (bo_i32 hv10) (fun c11 => ?_) (fun c11 => ?_)
    · refine go_sub [] rfl ?_
      exact hJ20_7 M9
    · refine go_iconst (v := 1) X dX12_isPair_16 rfl ?_
      refine go_goto (tgt := 21) X dX12_isPair_17 rfl ?_
      refine go_sub [] rfl ?_
      exact hJ21_5 1 M9 (Or.inr rfl)
def f_X12_rewrite (a1 : Int) (M : Mm) : Rs :=
Cl (f_X12_isNode a1 M) fun v2 M1 =>
Lt (fun (v3 : Int) (M4 : Mm) => 
Cl (f_X12_fails v3 M4) fun v7 M6 =>
if v7 = 0 then (
gd (0 ≤ a1 ∧ a1 < 30) <|
Lt (M6 31 a1.toNat) fun v9 =>
gd (0 ≤ v9 ∧ v9 < 10) <|
Lt (M6 10 v9.toNat) fun v10 =>
Lt (fun (v11 : Int) (M12 : Mm) => 
Cl (f_X12_isIn v11 1 999 M12) fun v15 M14 =>
Lt (fun (M16 : Mm) => 
gd (0 ≤ a1 ∧ a1 < 30) <|
Lt (M16 31 a1.toNat) fun v18 =>
some (v18, M16)) fun J92_17 =>
if v15 = 0 then (
J92_17 M14) else (
gd (0 ≤ a1 ∧ a1 < 30) <|
Lt (up M14 31 a1.toNat v10) fun M20 =>
gd (0 ≤ a1 ∧ a1 < 30) <|
Lt (M20 36 a1.toNat) fun v21 =>
Lt (lshl_ 1 v21) fun v22 =>
Cl (f_X12_drops v22 0 1 M20) fun _ M23 =>
J92_17 M23)) fun J59_13 =>
if ¬ v10 = ((-1)) then (
gd (0 ≤ a1 ∧ a1 < 30) <|
Lt (M6 31 a1.toNat) fun v25 =>
gd (0 ≤ v25 ∧ v25 < 10) <|
Lt (M6 11 v25.toNat) fun v26 =>
Cl (f_X12_keeps a1 v26 M6) fun v28 M27 =>
J59_13 v28 M27) else (
J59_13 ((-1)) M6)) else (
some (0, M6))) fun J14_5 =>
if v2 = 0 then (
J14_5 1 M1) else (
J14_5 0 M1)
theorem cy_X12_rewrite : yX12_rewrite.cls ≠ "java/lang/invoke/MethodHandle" ∧ yX12_rewrite.cls ≠ "java/lang/invoke/VarHandle" ∧ (parseMethodDescriptor yX12_rewrite.desc).map (fun d => d.parameters.length) = some 1 := ⟨by decide +kernel, by decide +kernel, by decide +kernel⟩
set_option maxRecDepth 20000 in
theorem ok_X12_rewrite (l : Launch) (D : Dd) (base : Nat) (M : Mm) (a1 : Int) (ha1 : i32 a1) : OkI l D TR 67 base yX12_rewrite cX12_rewrite 4 (some .int) 10 253 [.ref (base + 0), .int (Ii a1)] M i32 (f_X12_rewrite a1 M) := by
  refine metI (by decide +kernel) [(0, .ref (base + 0)), (1, .int (Ii a1))] rfl (Nat.le_of_ble_eq_true rfl) (fun p e s m args below meth c X hrt hlk => ?_)
  have X : Cx p s m args c cX12_rewrite D 4 RX12 := X
  unfold f_X12_rewrite
  refine go_aload_n X dX12_rewrite_0 rfl 0 rfl ?_
  refine go_aload_n X dX12_rewrite_1 rfl 0 rfl ?_
  refine go_iload_n X dX12_rewrite_2 rfl 1 rfl ?_
  refine goI (fun H locs ls r ho hW hL => runV X (ok_X12_isNode l D base M a1 ha1 H.size r ho) dX12_rewrite_3 lw1098 lw1099 lw1100 lw944 ⟨lw947, cy_X12_isNode, Nat.le_of_ble_eq_true rfl, Nat.le_of_ble_eq_true rfl⟩ rfl trn0 tr0 rfl rfl rfl rfl (Nat.le_of_ble_eq_true rfl) hW hL hk0) (fun v2 M1 hv2 => ?_)
  refine go_lt (fun J => ∀ (v3 : Int) (M4 : Mm), bo v3 → Go p l e (rmO 10 253) s m args below meth c D TR 67 base 4 0 0 (FinI D TR 67 base below args s i32) M4 14 [(0, .ref (base + 0)), (1, .int (Ii a1))] [.int (Ii v3), .ref (base + 0)] (J v3 M4)) (by
      intro v3 M4 hv3
      refine goI (fun H locs ls r ho hW hL => runV X (ok_X12_fails l D base M4 v3 (bo_i32 hv3) H.size r ho) dX12_rewrite_14 lw954 lw955 lw956 lw944 ⟨lw937, cy_X12_fails, Nat.le_of_ble_eq_true rfl, Nat.le_of_ble_eq_true rfl⟩ rfl trn0 tr0 rfl rfl rfl rfl (Nat.le_of_ble_eq_true rfl) hW hL hk0) (fun v7 M6 hv7 => ?_)
      refine go_if_eq (tgt := 22) X dX12_rewrite_17 rfl (bo_i32 hv7) (fun c8 => ?_) (fun c8 => ?_)
      · refine go_aload_n X dX12_rewrite_22 rfl 0 rfl ?_
        refine go_getc (i := 10) X fc12 dX12_rewrite_23 trn0 tr0 (Nat.le_of_ble_eq_true rfl) rfl lw875 rfl ?_
        refine go_aload_n X dX12_rewrite_26 rfl 0 rfl ?_
        refine go_getc (i := 38) X fc12 dX12_rewrite_27 trn0 tr0 (Nat.le_of_ble_eq_true rfl) rfl lw897 rfl ?_
        refine go_iload_n X dX12_rewrite_30 rfl 1 rfl ?_
        refine go_iaload X dX12_rewrite_31 trn31 tr31 ha1 (fun v9 hv9 => ?_)
        refine go_iaload X dX12_rewrite_32 trn10 tr10 hv9 (fun v10 hv10 => ?_)
        refine go_istore_n (i := 2) (L' := [(2, .int (Ii v10)), (0, .ref (base + 0)), (1, .int (Ii a1))]) X dX12_rewrite_33 rfl (by decide) rfl ?_
        refine go_iload_n X dX12_rewrite_34 rfl 0 rfl ?_
        refine go_iconst (v := (-1)) X dX12_rewrite_35 rfl ?_
        refine go_lt (fun J => ∀ (v11 : Int) (M12 : Mm), i32 v11 → Go p l e (rmO 10 253) s m args below meth c D TR 67 base 4 0 0 (FinI D TR 67 base below args s i32) M12 59 [(0, .ref (base + 0)), (1, .int (Ii a1)), (2, .int (Ii v10))] [.int (Ii v11)] (J v11 M12)) (by
            intro v11 M12 hv11
            refine go_istore_n (i := 3) (L' := [(3, .int (Ii v11)), (0, .ref (base + 0)), (1, .int (Ii a1)), (2, .int (Ii v10))]) X dX12_rewrite_59 rfl (by decide) rfl ?_
            refine go_iload_n X dX12_rewrite_60 rfl 0 rfl ?_
            refine go_iconst (v := 1) X dX12_rewrite_61 rfl ?_
            refine go_sipush (v := 999) X dX12_rewrite_62 (by decide) ?_
            refine goI (fun H locs ls r ho hW hL => runS X (ok_X12_isIn l D base M12 v11 hv11 1 kI_1 999 kI_999 H.size r ho) dX12_rewrite_65 lw942 lw943 lw944 ⟨lw939, cy_X12_isIn, Nat.le_of_ble_eq_true rfl, Nat.le_of_ble_eq_true rfl⟩ rfl rfl (Nat.le_of_ble_eq_true rfl) hW hL hk0) (fun v15 M14 hv15 => ?_)
            refine go_lt (fun J => ∀ (M16 : Mm), Go p l e (rmO 10 253) s m args below meth c D TR 67 base 4 0 0 (FinI D TR 67 base below args s i32) M16 92 [(0, .ref (base + 0)), (1, .int (Ii a1))] [] (J M16)) (by
                intro M16
                refine go_aload_n X dX12_rewrite_92 rfl 0 rfl ?_
                refine go_getc (i := 38) X fc12 dX12_rewrite_93 trn0 tr0 (Nat.le_of_ble_eq_true rfl) rfl lw897 rfl ?_
                refine go_iload_n X dX12_rewrite_96 rfl 1 rfl ?_
                refine go_iaload X dX12_rewrite_97 trn31 tr31 ha1 (fun v18 hv18 => ?_)
                exact go_ireturn X hrt hlk dX12_rewrite_98 hv18
                )
                (fun J92_17 hJ92_17 => ?_)
            refine go_if_eq (tgt := 92) X dX12_rewrite_68 rfl (bo_i32 hv15) (fun c19 => ?_) (fun c19 => ?_)
            · refine go_sub [1, 2] rfl ?_
              exact hJ92_17 M14
            · refine go_aload_n X dX12_rewrite_71 rfl 1 rfl ?_
              refine go_getc (i := 38) X fc12 dX12_rewrite_72 trn0 tr0 (Nat.le_of_ble_eq_true rfl) rfl lw897 rfl ?_
              refine go_iload_n X dX12_rewrite_75 rfl 2 rfl ?_
              refine go_iload_n X dX12_rewrite_76 rfl 3 rfl ?_
              refine go_iastore X dX12_rewrite_77 trn31 tr31 ha1 hv10 (fun M20 => ?_)
              refine go_aload_n X dX12_rewrite_78 rfl 1 rfl ?_
              refine go_lconst (v := 1) X dX12_rewrite_79 rfl ?_
              refine go_aload_n X dX12_rewrite_80 rfl 1 rfl ?_
              refine go_getc (i := 43) X fc12 dX12_rewrite_81 trn0 tr0 (Nat.le_of_ble_eq_true rfl) rfl lw902 rfl ?_
              refine go_iload_n X dX12_rewrite_84 rfl 2 rfl ?_
              refine go_iaload X dX12_rewrite_85 trn36 tr36 ha1 (fun v21 hv21 => ?_)
              refine go_lshl X dX12_rewrite_86 (by decide) hv21 (fun v22 hv22 => ?_)
              refine go_lconst (v := 0) X dX12_rewrite_87 rfl ?_
              refine go_iconst (v := 1) X dX12_rewrite_88 rfl ?_
              refine goV (fun H locs ls r ho hW hL => runV X (ok_X12_drops l D base M20 v22 hv22 0 (by decide) 1 (Or.inr rfl) H.size r ho) dX12_rewrite_89 lw1077 lw1078 lw1079 lw944 ⟨lw1073, cy_X12_drops, Nat.le_of_ble_eq_true rfl, Nat.le_of_ble_eq_true rfl⟩ rfl trn0 tr0 rfl rfl rfl rfl (Nat.le_of_ble_eq_true rfl) hW hL hk0) (fun _ M23 => ?_)
              refine go_sub [1, 2] rfl ?_
              exact hJ92_17 M23
            )
            (fun J59_13 hJ59_13 => ?_)
        refine go_icmp_ne (tgt := 43) X dX12_rewrite_36 rfl hv10 kI_m1 (fun c24 => ?_) (fun c24 => ?_)
        · refine go_aload_n X dX12_rewrite_43 rfl 1 rfl ?_
          refine go_iload_n X dX12_rewrite_44 rfl 2 rfl ?_
          refine go_aload_n X dX12_rewrite_45 rfl 1 rfl ?_
          refine go_getc (i := 11) X fc12 dX12_rewrite_46 trn0 tr0 (Nat.le_of_ble_eq_true rfl) rfl lw876 rfl ?_
          refine go_aload_n X dX12_rewrite_49 rfl 1 rfl ?_
          refine go_getc (i := 38) X fc12 dX12_rewrite_50 trn0 tr0 (Nat.le_of_ble_eq_true rfl) rfl lw897 rfl ?_
          refine go_iload_n X dX12_rewrite_53 rfl 2 rfl ?_
          refine go_iaload X dX12_rewrite_54 trn31 tr31 ha1 (fun v25 hv25 => ?_)
          refine go_iaload X dX12_rewrite_55 trn11 tr11 hv25 (fun v26 hv26 => ?_)
          refine goI (fun H locs ls r ho hW hL => runV X (ok_X12_keeps l D base M6 a1 ha1 v26 hv26 H.size r ho) dX12_rewrite_56 lw1175 lw1176 lw1177 lw944 ⟨lw1173, cy_X12_keeps, Nat.le_of_ble_eq_true rfl, Nat.le_of_ble_eq_true rfl⟩ rfl trn0 tr0 rfl rfl rfl rfl (Nat.le_of_ble_eq_true rfl) hW hL hk0) (fun v28 M27 hv28 => ?_)
          refine go_sub [1, 2, 0] rfl ?_
          exact hJ59_13 v28 M27 hv28
        · refine go_iconst (v := (-1)) X dX12_rewrite_39 rfl ?_
          refine go_goto (tgt := 59) X dX12_rewrite_40 rfl ?_
          refine go_sub [1, 2, 0] rfl ?_
          exact hJ59_13 ((-1)) M6 kI_m1
      · refine go_iconst (v := 0) X dX12_rewrite_20 rfl ?_
        exact go_ireturn X hrt hlk dX12_rewrite_21 kI_0
      )
      (fun J14_5 hJ14_5 => ?_)
  refine go_if_eq (tgt := 13) X dX12_rewrite_6 rfl (bo_i32 hv2) (fun c29 => ?_) (fun c29 => ?_)
  · refine go_iconst (v := 1) X dX12_rewrite_13 rfl ?_
    exact hJ14_5 1 M1 (Or.inr rfl)
  · refine go_iconst (v := 0) X dX12_rewrite_9 rfl ?_
    refine go_goto (tgt := 14) X dX12_rewrite_10 rfl ?_
    exact hJ14_5 0 M1 (Or.inl rfl)
def f_X12_value (a1 : Int) (a2 : Int) (M : Mm) : Rs :=
Cl (f_X12_isPair a1 a2 M) fun v2 M1 =>
Lt (fun (v3 : Int) (M4 : Mm) => 
Cl (f_X12_fails v3 M4) fun v7 M6 =>
Lt (fun (v8 : Int) (M9 : Mm) => 
some (v8, M9)) fun J35_10 =>
if v7 = 0 then (
Cl (f_X12_keeps a1 a2 M6) fun v13 M12 =>
Cl (f_X12_told v13 M12) fun v15 M14 =>
J35_10 v15 M14) else (
J35_10 0 M6)) fun J15_5 =>
if v2 = 0 then (
J15_5 1 M1) else (
J15_5 0 M1)
theorem cy_X12_value : yX12_value.cls ≠ "java/lang/invoke/MethodHandle" ∧ yX12_value.cls ≠ "java/lang/invoke/VarHandle" ∧ (parseMethodDescriptor yX12_value.desc).map (fun d => d.parameters.length) = some 2 := ⟨by decide +kernel, by decide +kernel, by decide +kernel⟩
set_option maxRecDepth 20000 in
theorem ok_X12_value (l : Launch) (D : Dd) (base : Nat) (M : Mm) (a1 : Int) (ha1 : i32 a1) (a2 : Int) (ha2 : i32 a2) : OkI l D TR 67 base yX12_value cX12_value 3 (some .int) 10 253 [.ref (base + 0), .int (Ii a1), .int (Ii a2)] M i32 (f_X12_value a1 a2 M) := by
  refine metI (by decide +kernel) [(0, .ref (base + 0)), (1, .int (Ii a1)), (2, .int (Ii a2))] rfl (Nat.le_of_ble_eq_true rfl) (fun p e s m args below meth c X hrt hlk => ?_)
  have X : Cx p s m args c cX12_value D 3 RX12 := X
  unfold f_X12_value
  refine go_aload_n X dX12_value_0 rfl 0 rfl ?_
  refine go_aload_n X dX12_value_1 rfl 0 rfl ?_
  refine go_iload_n X dX12_value_2 rfl 1 rfl ?_
  refine go_iload_n X dX12_value_3 rfl 2 rfl ?_
  refine goI (fun H locs ls r ho hW hL => runV X (ok_X12_isPair l D base M a1 ha1 a2 ha2 H.size r ho) dX12_value_4 lw1179 lw1180 lw1181 lw944 ⟨lw1174, cy_X12_isPair, Nat.le_of_ble_eq_true rfl, Nat.le_of_ble_eq_true rfl⟩ rfl trn0 tr0 rfl rfl rfl rfl (Nat.le_of_ble_eq_true rfl) hW hL hk0) (fun v2 M1 hv2 => ?_)
  refine go_lt (fun J => ∀ (v3 : Int) (M4 : Mm), bo v3 → Go p l e (rmO 10 253) s m args below meth c D TR 67 base 3 0 0 (FinI D TR 67 base below args s i32) M4 15 [(0, .ref (base + 0)), (1, .int (Ii a1)), (2, .int (Ii a2))] [.int (Ii v3), .ref (base + 0)] (J v3 M4)) (by
      intro v3 M4 hv3
      refine goI (fun H locs ls r ho hW hL => runV X (ok_X12_fails l D base M4 v3 (bo_i32 hv3) H.size r ho) dX12_value_15 lw954 lw955 lw956 lw944 ⟨lw937, cy_X12_fails, Nat.le_of_ble_eq_true rfl, Nat.le_of_ble_eq_true rfl⟩ rfl trn0 tr0 rfl rfl rfl rfl (Nat.le_of_ble_eq_true rfl) hW hL hk0) (fun v7 M6 hv7 => ?_)
      refine go_lt (fun J => ∀ (v8 : Int) (M9 : Mm), i32 v8 → Go p l e (rmO 10 253) s m args below meth c D TR 67 base 3 0 0 (FinI D TR 67 base below args s i32) M9 35 [] [.int (Ii v8)] (J v8 M9)) (by
          intro v8 M9 hv8
          exact go_ireturn X hrt hlk dX12_value_35 hv8
          )
          (fun J35_10 hJ35_10 => ?_)
      refine go_if_eq (tgt := 25) X dX12_value_18 rfl (bo_i32 hv7) (fun c11 => ?_) (fun c11 => ?_)
      · refine go_aload_n X dX12_value_25 rfl 0 rfl ?_
        refine go_aload_n X dX12_value_26 rfl 0 rfl ?_
        refine go_iload_n X dX12_value_27 rfl 1 rfl ?_
        refine go_iload_n X dX12_value_28 rfl 2 rfl ?_
        refine goI (fun H locs ls r ho hW hL => runV X (ok_X12_keeps l D base M6 a1 ha1 a2 ha2 H.size r ho) dX12_value_29 lw1175 lw1176 lw1177 lw944 ⟨lw1173, cy_X12_keeps, Nat.le_of_ble_eq_true rfl, Nat.le_of_ble_eq_true rfl⟩ rfl trn0 tr0 rfl rfl rfl rfl (Nat.le_of_ble_eq_true rfl) hW hL hk0) (fun v13 M12 hv13 => ?_)
        refine goI (fun H locs ls r ho hW hL => runV X (ok_X12_told l D base M12 v13 hv13 H.size r ho) dX12_value_32 lw1182 lw1183 lw1184 lw944 ⟨lw1169, cy_X12_told, Nat.le_of_ble_eq_true rfl, Nat.le_of_ble_eq_true rfl⟩ rfl trn0 tr0 rfl rfl rfl rfl (Nat.le_of_ble_eq_true rfl) hW hL hk0) (fun v15 M14 hv15 => ?_)
        refine go_sub [] rfl ?_
        exact hJ35_10 v15 M14 hv15
      · refine go_iconst (v := 0) X dX12_value_21 rfl ?_
        refine go_goto (tgt := 35) X dX12_value_22 rfl ?_
        refine go_sub [] rfl ?_
        exact hJ35_10 0 M6 kI_0
      )
      (fun J15_5 hJ15_5 => ?_)
  refine go_if_eq (tgt := 14) X dX12_value_7 rfl (bo_i32 hv2) (fun c16 => ?_) (fun c16 => ?_)
  · refine go_iconst (v := 1) X dX12_value_14 rfl ?_
    exact hJ15_5 1 M1 (Or.inr rfl)
  · refine go_iconst (v := 0) X dX12_value_10 rfl ?_
    refine go_goto (tgt := 15) X dX12_value_11 rfl ?_
    exact hJ15_5 0 M1 (Or.inl rfl)
def f_X12_findsAnew (a1 : Int) (a2 : Int) (M : Mm) : Rs :=
Cl (f_X12_findsRings M) fun _ M1 =>
Cl (f_X12_clears M1) fun _ M2 =>
Cl (f_X12_finds a1 a2 M2) fun v4 M3 =>
Lt (up M3 0 68 0) fun M5 =>
gd (0 ≤ a2 ∧ a2 < 6) <|
Lt (M5 12 a2.toNat) fun v6 =>
Lt (fun (v7 : Int) (M8 : Mm) => 
some (v7, M8)) fun J50_9 =>
if ¬ v6 = 3 then (
J50_9 v4 M5) else (
gd (0 ≤ a1 ∧ a1 < 30) <|
Lt (M5 36 a1.toNat) fun v11 =>
Lt (wr (6 * v11)) fun v12 =>
Lt (wr (v12 + a2)) fun v13 =>
gd (0 ≤ v13 ∧ v13 < 360) <|
Lt (M5 55 v13.toNat) fun v14 =>
J50_9 v14 M5)
theorem cy_X12_findsAnew : yX12_findsAnew.cls ≠ "java/lang/invoke/MethodHandle" ∧ yX12_findsAnew.cls ≠ "java/lang/invoke/VarHandle" ∧ (parseMethodDescriptor yX12_findsAnew.desc).map (fun d => d.parameters.length) = some 2 := ⟨by decide +kernel, by decide +kernel, by decide +kernel⟩
set_option maxRecDepth 20000 in
theorem ok_X12_findsAnew (l : Launch) (D : Dd) (base : Nat) (M : Mm) (a1 : Int) (ha1 : i32 a1) (a2 : Int) (ha2 : i32 a2) : OkI l D TR 67 base yX12_findsAnew cX12_findsAnew 4 (some .int) 9 230 [.ref (base + 0), .int (Ii a1), .int (Ii a2)] M i32 (f_X12_findsAnew a1 a2 M) := by
  refine metI (by decide +kernel) [(0, .ref (base + 0)), (1, .int (Ii a1)), (2, .int (Ii a2))] rfl (Nat.le_of_ble_eq_true rfl) (fun p e s m args below meth c X hrt hlk => ?_)
  have X : Cx p s m args c cX12_findsAnew D 4 RX12 := X
  unfold f_X12_findsAnew
  refine go_aload_n X dX12_findsAnew_0 rfl 0 rfl ?_
  refine goV (fun H locs ls r ho hW hL => runV X (ok_X12_findsRings l D base M  H.size r ho) dX12_findsAnew_1 lw1170 lw1171 lw1172 lw944 ⟨lw1168, cy_X12_findsRings, Nat.le_of_ble_eq_true rfl, Nat.le_of_ble_eq_true rfl⟩ rfl trn0 tr0 rfl rfl rfl rfl (Nat.le_of_ble_eq_true rfl) hW hL hk0) (fun _ M1 => ?_)
  refine go_aload_n X dX12_findsAnew_4 rfl 0 rfl ?_
  refine goV (fun H locs ls r ho hW hL => runV X (ok_X12_clears l D base M1  H.size r ho) dX12_findsAnew_5 lw1158 lw1159 lw1160 lw944 ⟨lw1157, cy_X12_clears, Nat.le_of_ble_eq_true rfl, Nat.le_of_ble_eq_true rfl⟩ rfl trn0 tr0 rfl rfl rfl rfl (Nat.le_of_ble_eq_true rfl) hW hL hk0) (fun _ M2 => ?_)
  refine go_aload_n X dX12_findsAnew_8 rfl 0 rfl ?_
  refine go_iload_n X dX12_findsAnew_9 rfl 1 rfl ?_
  refine go_iload_n X dX12_findsAnew_10 rfl 2 rfl ?_
  refine goI (fun H locs ls r ho hW hL => runV X (ok_X12_finds l D base M2 a1 ha1 a2 ha2 H.size r ho) dX12_findsAnew_11 lw1161 lw1162 lw1163 lw944 ⟨lw1156, cy_X12_finds, Nat.le_of_ble_eq_true rfl, Nat.le_of_ble_eq_true rfl⟩ rfl trn0 tr0 rfl rfl rfl rfl (Nat.le_of_ble_eq_true rfl) hW hL hk0) (fun v4 M3 hv4 => ?_)
  refine go_istore_n (i := 3) (L' := [(3, .int (Ii v4)), (0, .ref (base + 0)), (1, .int (Ii a1)), (2, .int (Ii a2))]) X dX12_findsAnew_14 rfl (by decide) rfl ?_
  refine go_aload_n X dX12_findsAnew_15 rfl 1 rfl ?_
  refine go_iconst (v := 0) X dX12_findsAnew_16 rfl ?_
  refine go_puti (i := 68) X fc12 dX12_findsAnew_17 trn0 tr0 (Nat.le_of_ble_eq_true rfl) rfl lw1102 rfl rfl rfl kI_0 (fun M5 => ?_)
  refine go_aload_n X dX12_findsAnew_20 rfl 1 rfl ?_
  refine go_getc (i := 13) X fc12 dX12_findsAnew_21 trn0 tr0 (Nat.le_of_ble_eq_true rfl) rfl lw877 rfl ?_
  refine go_iload_n X dX12_findsAnew_24 rfl 3 rfl ?_
  refine go_iaload X dX12_findsAnew_25 trn12 tr12 ha2 (fun v6 hv6 => ?_)
  refine go_iconst (v := 3) X dX12_findsAnew_26 rfl ?_
  refine go_lt (fun J => ∀ (v7 : Int) (M8 : Mm), i32 v7 → Go p l e (rmO 9 230) s m args below meth c D TR 67 base 4 0 0 (FinI D TR 67 base below args s i32) M8 50 [] [.int (Ii v7)] (J v7 M8)) (by
      intro v7 M8 hv7
      exact go_ireturn X hrt hlk dX12_findsAnew_50 hv7
      )
      (fun J50_9 hJ50_9 => ?_)
  refine go_icmp_ne (tgt := 49) X dX12_findsAnew_27 rfl hv6 kI_3 (fun c10 => ?_) (fun c10 => ?_)
  · refine go_iload_n X dX12_findsAnew_49 rfl 0 rfl ?_
    refine go_sub [] rfl ?_
    exact hJ50_9 v4 M5 hv4
  · refine go_aload_n X dX12_findsAnew_30 rfl 1 rfl ?_
    refine go_getc (i := 65) X fc12 dX12_findsAnew_31 trn0 tr0 (Nat.le_of_ble_eq_true rfl) rfl lw922 rfl ?_
    refine go_bipush (v := 6) X dX12_findsAnew_34 (by decide) ?_
    refine go_aload_n X dX12_findsAnew_36 rfl 1 rfl ?_
    refine go_getc (i := 43) X fc12 dX12_findsAnew_37 trn0 tr0 (Nat.le_of_ble_eq_true rfl) rfl lw902 rfl ?_
    refine go_iload_n X dX12_findsAnew_40 rfl 2 rfl ?_
    refine go_iaload X dX12_findsAnew_41 trn36 tr36 ha1 (fun v11 hv11 => ?_)
    refine go_imul X dX12_findsAnew_42 kI_6 hv11 (fun v12 hv12 => ?_)
    refine go_iload_n X dX12_findsAnew_43 rfl 3 rfl ?_
    refine go_iadd X dX12_findsAnew_44 hv12 ha2 (fun v13 hv13 => ?_)
    refine go_iaload X dX12_findsAnew_45 trn55 tr55 hv13 (fun v14 hv14 => ?_)
    refine go_goto (tgt := 50) X dX12_findsAnew_46 rfl ?_
    refine go_sub [] rfl ?_
    exact hJ50_9 v14 M5 hv14
def f_X12_valueAnew (a1 : Int) (a2 : Int) (M : Mm) : Rs :=
Cl (f_X12_isPair a1 a2 M) fun v2 M1 =>
Lt (fun (v3 : Int) (M4 : Mm) => 
Cl (f_X12_fails v3 M4) fun v7 M6 =>
Lt (fun (v8 : Int) (M9 : Mm) => 
some (v8, M9)) fun J35_10 =>
if v7 = 0 then (
Cl (f_X12_findsAnew a1 a2 M6) fun v13 M12 =>
Cl (f_X12_told v13 M12) fun v15 M14 =>
J35_10 v15 M14) else (
J35_10 0 M6)) fun J15_5 =>
if v2 = 0 then (
J15_5 1 M1) else (
J15_5 0 M1)
theorem cy_X12_valueAnew : yX12_valueAnew.cls ≠ "java/lang/invoke/MethodHandle" ∧ yX12_valueAnew.cls ≠ "java/lang/invoke/VarHandle" ∧ (parseMethodDescriptor yX12_valueAnew.desc).map (fun d => d.parameters.length) = some 2 := ⟨by decide +kernel, by decide +kernel, by decide +kernel⟩
set_option maxRecDepth 20000 in
theorem ok_X12_valueAnew (l : Launch) (D : Dd) (base : Nat) (M : Mm) (a1 : Int) (ha1 : i32 a1) (a2 : Int) (ha2 : i32 a2) : OkI l D TR 67 base yX12_valueAnew cX12_valueAnew 3 (some .int) 10 253 [.ref (base + 0), .int (Ii a1), .int (Ii a2)] M i32 (f_X12_valueAnew a1 a2 M) := by
  refine metI (by decide +kernel) [(0, .ref (base + 0)), (1, .int (Ii a1)), (2, .int (Ii a2))] rfl (Nat.le_of_ble_eq_true rfl) (fun p e s m args below meth c X hrt hlk => ?_)
  have X : Cx p s m args c cX12_valueAnew D 3 RX12 := X
  unfold f_X12_valueAnew
  refine go_aload_n X dX12_valueAnew_0 rfl 0 rfl ?_
  refine go_aload_n X dX12_valueAnew_1 rfl 0 rfl ?_
  refine go_iload_n X dX12_valueAnew_2 rfl 1 rfl ?_
  refine go_iload_n X dX12_valueAnew_3 rfl 2 rfl ?_
  refine goI (fun H locs ls r ho hW hL => runV X (ok_X12_isPair l D base M a1 ha1 a2 ha2 H.size r ho) dX12_valueAnew_4 lw1179 lw1180 lw1181 lw944 ⟨lw1174, cy_X12_isPair, Nat.le_of_ble_eq_true rfl, Nat.le_of_ble_eq_true rfl⟩ rfl trn0 tr0 rfl rfl rfl rfl (Nat.le_of_ble_eq_true rfl) hW hL hk0) (fun v2 M1 hv2 => ?_)
  refine go_lt (fun J => ∀ (v3 : Int) (M4 : Mm), bo v3 → Go p l e (rmO 10 253) s m args below meth c D TR 67 base 3 0 0 (FinI D TR 67 base below args s i32) M4 15 [(0, .ref (base + 0)), (1, .int (Ii a1)), (2, .int (Ii a2))] [.int (Ii v3), .ref (base + 0)] (J v3 M4)) (by
      intro v3 M4 hv3
      refine goI (fun H locs ls r ho hW hL => runV X (ok_X12_fails l D base M4 v3 (bo_i32 hv3) H.size r ho) dX12_valueAnew_15 lw954 lw955 lw956 lw944 ⟨lw937, cy_X12_fails, Nat.le_of_ble_eq_true rfl, Nat.le_of_ble_eq_true rfl⟩ rfl trn0 tr0 rfl rfl rfl rfl (Nat.le_of_ble_eq_true rfl) hW hL hk0) (fun v7 M6 hv7 => ?_)
      refine go_lt (fun J => ∀ (v8 : Int) (M9 : Mm), i32 v8 → Go p l e (rmO 10 253) s m args below meth c D TR 67 base 3 0 0 (FinI D TR 67 base below args s i32) M9 35 [] [.int (Ii v8)] (J v8 M9)) (by
          intro v8 M9 hv8
          exact go_ireturn X hrt hlk dX12_valueAnew_35 hv8
          )
          (fun J35_10 hJ35_10 => ?_)
      refine go_if_eq (tgt := 25) X dX12_valueAnew_18 rfl (bo_i32 hv7) (fun c11 => ?_) (fun c11 => ?_)
      · refine go_aload_n X dX12_valueAnew_25 rfl 0 rfl ?_
        refine go_aload_n X dX12_valueAnew_26 rfl 0 rfl ?_
        refine go_iload_n X dX12_valueAnew_27 rfl 1 rfl ?_
        refine go_iload_n X dX12_valueAnew_28 rfl 2 rfl ?_
        refine goI (fun H locs ls r ho hW hL => runV X (ok_X12_findsAnew l D base M6 a1 ha1 a2 ha2 H.size r ho) dX12_valueAnew_29 lw1187 lw1188 lw1189 lw944 ⟨lw1186, cy_X12_findsAnew, Nat.le_of_ble_eq_true rfl, Nat.le_of_ble_eq_true rfl⟩ rfl trn0 tr0 rfl rfl rfl rfl (Nat.le_of_ble_eq_true rfl) hW hL hk0) (fun v13 M12 hv13 => ?_)
        refine goI (fun H locs ls r ho hW hL => runV X (ok_X12_told l D base M12 v13 hv13 H.size r ho) dX12_valueAnew_32 lw1182 lw1183 lw1184 lw944 ⟨lw1169, cy_X12_told, Nat.le_of_ble_eq_true rfl, Nat.le_of_ble_eq_true rfl⟩ rfl trn0 tr0 rfl rfl rfl rfl (Nat.le_of_ble_eq_true rfl) hW hL hk0) (fun v15 M14 hv15 => ?_)
        refine go_sub [] rfl ?_
        exact hJ35_10 v15 M14 hv15
      · refine go_iconst (v := 0) X dX12_valueAnew_21 rfl ?_
        refine go_goto (tgt := 35) X dX12_valueAnew_22 rfl ?_
        refine go_sub [] rfl ?_
        exact hJ35_10 0 M6 kI_0
      )
      (fun J15_5 hJ15_5 => ?_)
  refine go_if_eq (tgt := 14) X dX12_valueAnew_7 rfl (bo_i32 hv2) (fun c16 => ?_) (fun c16 => ?_)
  · refine go_iconst (v := 1) X dX12_valueAnew_14 rfl ?_
    exact hJ15_5 1 M1 (Or.inr rfl)
  · refine go_iconst (v := 0) X dX12_valueAnew_10 rfl ?_
    refine go_goto (tgt := 15) X dX12_valueAnew_11 rfl ?_
    exact hJ15_5 0 M1 (Or.inl rfl)
def f_X12_found (M : Mm) : Rs :=
Lt (M 0 67) fun v1 =>
Cl (f_X12_tells v1 M) fun v3 M2 =>
some (v3, M2)
theorem cy_X12_found : yX12_found.cls ≠ "java/lang/invoke/MethodHandle" ∧ yX12_found.cls ≠ "java/lang/invoke/VarHandle" ∧ (parseMethodDescriptor yX12_found.desc).map (fun d => d.parameters.length) = some 0 := ⟨by decide +kernel, by decide +kernel, by decide +kernel⟩
set_option maxRecDepth 20000 in
theorem ok_X12_found (l : Launch) (D : Dd) (base : Nat) (M : Mm) : OkI l D TR 67 base yX12_found cX12_found 1 (some .int) 1 21 [.ref (base + 0)] M i32 (f_X12_found M) := by
  refine metI (by decide +kernel) [(0, .ref (base + 0))] rfl (Nat.le_of_ble_eq_true rfl) (fun p e s m args below meth c X hrt hlk => ?_)
  have X : Cx p s m args c cX12_found D 1 RX12 := X
  unfold f_X12_found
  refine go_aload_n X dX12_found_0 rfl 0 rfl ?_
  refine go_aload_n X dX12_found_1 rfl 0 rfl ?_
  refine go_geti (i := 67) X fc12 dX12_found_2 trn0 tr0 (Nat.le_of_ble_eq_true rfl) rfl lw1149 rfl (fun v1 hv1 => ?_)
  refine goI (fun H locs ls r ho hW hL => runV X (ok_X12_tells l D base M v1 hv1 H.size r ho) dX12_found_5 lw998 lw999 lw1000 lw944 ⟨lw938, cy_X12_tells, Nat.le_of_ble_eq_true rfl, Nat.le_of_ble_eq_true rfl⟩ rfl trn0 tr0 rfl rfl rfl rfl (Nat.le_of_ble_eq_true rfl) hW hL hk0) (fun v3 M2 hv3 => ?_)
  exact go_ireturn X hrt hlk dX12_found_8 hv3
def f_X12_isKept (a1 : Int) (a2 : Int) (M : Mm) : Rs :=
Cl (f_X12_isPair a1 a2 M) fun v2 M1 =>
Lt (fun (v3 : Int) (M4 : Mm) => 
Cl (f_X12_fails v3 M4) fun v7 M6 =>
Lt (fun (v8 : Int) (M9 : Mm) => 
some (v8, M9)) fun J45_10 =>
Lt (fun (M11 : Mm) => 
J45_10 0 M11) fun J44_12 =>
if ¬ v7 = 0 then (
J44_12 M6) else (
gd (0 ≤ a1 ∧ a1 < 30) <|
Lt (M6 36 a1.toNat) fun v14 =>
Lt (wr (6 * v14)) fun v15 =>
Lt (wr (v15 + a2)) fun v16 =>
gd (0 ≤ v16 ∧ v16 < 720) <|
Lt (M6 50 v16.toNat) fun v17 =>
if v17 = 0 then (
J44_12 M6) else (
J45_10 1 M6))) fun J15_5 =>
if v2 = 0 then (
J15_5 1 M1) else (
J15_5 0 M1)
theorem cy_X12_isKept : yX12_isKept.cls ≠ "java/lang/invoke/MethodHandle" ∧ yX12_isKept.cls ≠ "java/lang/invoke/VarHandle" ∧ (parseMethodDescriptor yX12_isKept.desc).map (fun d => d.parameters.length) = some 2 := ⟨by decide +kernel, by decide +kernel, by decide +kernel⟩
set_option maxRecDepth 20000 in
theorem ok_X12_isKept (l : Launch) (D : Dd) (base : Nat) (M : Mm) (a1 : Int) (ha1 : i32 a1) (a2 : Int) (ha2 : i32 a2) : OkI l D TR 67 base yX12_isKept cX12_isKept 3 (some .boolean) 3 65 [.ref (base + 0), .int (Ii a1), .int (Ii a2)] M bo (f_X12_isKept a1 a2 M) := by
  refine metI (by decide +kernel) [(0, .ref (base + 0)), (1, .int (Ii a1)), (2, .int (Ii a2))] rfl (Nat.le_of_ble_eq_true rfl) (fun p e s m args below meth c X hrt hlk => ?_)
  have X : Cx p s m args c cX12_isKept D 3 RX12 := X
  unfold f_X12_isKept
  refine go_aload_n X dX12_isKept_0 rfl 0 rfl ?_
  refine go_aload_n X dX12_isKept_1 rfl 0 rfl ?_
  refine go_iload_n X dX12_isKept_2 rfl 1 rfl ?_
  refine go_iload_n X dX12_isKept_3 rfl 2 rfl ?_
  refine goI (fun H locs ls r ho hW hL => runV X (ok_X12_isPair l D base M a1 ha1 a2 ha2 H.size r ho) dX12_isKept_4 lw1179 lw1180 lw1181 lw944 ⟨lw1174, cy_X12_isPair, Nat.le_of_ble_eq_true rfl, Nat.le_of_ble_eq_true rfl⟩ rfl trn0 tr0 rfl rfl rfl rfl (Nat.le_of_ble_eq_true rfl) hW hL hk0) (fun v2 M1 hv2 => ?_)
  refine go_lt (fun J => ∀ (v3 : Int) (M4 : Mm), bo v3 → Go p l e (rmO 3 65) s m args below meth c D TR 67 base 3 0 0 (FinI D TR 67 base below args s bo) M4 15 [(0, .ref (base + 0)), (1, .int (Ii a1)), (2, .int (Ii a2))] [.int (Ii v3), .ref (base + 0)] (J v3 M4)) (by
      intro v3 M4 hv3
      refine goI (fun H locs ls r ho hW hL => runV X (ok_X12_fails l D base M4 v3 (bo_i32 hv3) H.size r ho) dX12_isKept_15 lw954 lw955 lw956 lw944 ⟨lw937, cy_X12_fails, Nat.le_of_ble_eq_true rfl, Nat.le_of_ble_eq_true rfl⟩ rfl trn0 tr0 rfl rfl rfl rfl (Nat.le_of_ble_eq_true rfl) hW hL hk0) (fun v7 M6 hv7 => ?_)
      refine go_lt (fun J => ∀ (v8 : Int) (M9 : Mm), bo v8 → Go p l e (rmO 3 65) s m args below meth c D TR 67 base 3 0 0 (FinI D TR 67 base below args s bo) M9 45 [] [.int (Ii v8)] (J v8 M9)) (by
          intro v8 M9 hv8
          exact go_zreturn X hrt hlk dX12_isKept_45 hv8 hv8
          )
          (fun J45_10 hJ45_10 => ?_)
      refine go_lt (fun J => ∀ (M11 : Mm), Go p l e (rmO 3 65) s m args below meth c D TR 67 base 3 0 0 (FinI D TR 67 base below args s bo) M11 44 [] [] (J M11)) (by
          intro M11
          refine go_iconst (v := 0) X dX12_isKept_44 rfl ?_
          exact hJ45_10 0 M11 (Or.inl rfl)
          )
          (fun J44_12 hJ44_12 => ?_)
      refine go_if_ne (tgt := 44) X dX12_isKept_18 rfl (bo_i32 hv7) (fun c13 => ?_) (fun c13 => ?_)
      · refine go_sub [] rfl ?_
        exact hJ44_12 M6
      · refine go_aload_n X dX12_isKept_21 rfl 0 rfl ?_
        refine go_getc (i := 60) X fc12 dX12_isKept_22 trn0 tr0 (Nat.le_of_ble_eq_true rfl) rfl lw916 rfl ?_
        refine go_bipush (v := 6) X dX12_isKept_25 (by decide) ?_
        refine go_aload_n X dX12_isKept_27 rfl 0 rfl ?_
        refine go_getc (i := 43) X fc12 dX12_isKept_28 trn0 tr0 (Nat.le_of_ble_eq_true rfl) rfl lw902 rfl ?_
        refine go_iload_n X dX12_isKept_31 rfl 1 rfl ?_
        refine go_iaload X dX12_isKept_32 trn36 tr36 ha1 (fun v14 hv14 => ?_)
        refine go_imul X dX12_isKept_33 kI_6 hv14 (fun v15 hv15 => ?_)
        refine go_iload_n X dX12_isKept_34 rfl 2 rfl ?_
        refine go_iadd X dX12_isKept_35 hv15 ha2 (fun v16 hv16 => ?_)
        refine go_zaload X dX12_isKept_36 trn50 tr50 hv16 (fun v17 hv17 => ?_)
        refine go_if_eq (tgt := 44) X dX12_isKept_37 rfl (bo_i32 hv17) (fun c18 => ?_) (fun c18 => ?_)
        · refine go_sub [] rfl ?_
          exact hJ44_12 M6
        · refine go_iconst (v := 1) X dX12_isKept_40 rfl ?_
          refine go_goto (tgt := 45) X dX12_isKept_41 rfl ?_
          refine go_sub [] rfl ?_
          exact hJ45_10 1 M6 (Or.inr rfl)
      )
      (fun J15_5 hJ15_5 => ?_)
  refine go_if_eq (tgt := 14) X dX12_isKept_7 rfl (bo_i32 hv2) (fun c19 => ?_) (fun c19 => ?_)
  · refine go_iconst (v := 1) X dX12_isKept_14 rfl ?_
    exact hJ15_5 1 M1 (Or.inr rfl)
  · refine go_iconst (v := 0) X dX12_isKept_10 rfl ?_
    refine go_goto (tgt := 15) X dX12_isKept_11 rfl ?_
    exact hJ15_5 0 M1 (Or.inl rfl)
def f_X12_why (a1 : Int) (a2 : Int) (a3 : Int) (M : Mm) : Rs :=
Cl (f_X12_isPair a1 a2 M) fun v2 M1 =>
Lt (up M1 0 80 0) fun M3 =>
Lt (fun (M4 : Mm) => 
Lt (fun (v6 : Int) (M7 : Mm) => 
Cl (f_X12_fails v6 M7) fun v10 M9 =>
Lt (fun (v11 : Int) (M12 : Mm) => 
some (v11, M12)) fun J89_13 =>
if v10 = 0 then (
gd (0 ≤ a3 ∧ a3 < 240) <|
Lt (M9 61 a3.toNat) fun v15 =>
J89_13 v15 M9) else (
J89_13 0 M9)) fun J73_8 =>
Lt (fun (M16 : Mm) => 
J73_8 1 M16) fun J72_17 =>
if v2 = 0 then (
J72_17 M4) else (
Lt (M4 0 80) fun v19 =>
Lt (wr (v19 - 1)) fun v20 =>
Cl (f_X12_isIn a3 0 v20 M4) fun v22 M21 =>
if v22 = 0 then (
J72_17 M21) else (
J73_8 0 M21))) fun J48_5 =>
if v2 = 0 then (
J48_5 M3) else (
Cl (f_X12_findsRings M3) fun _ M25 =>
Lt (up M25 0 79 1) fun M26 =>
Cl (f_X12_clears M26) fun _ M27 =>
Cl (f_X12_finds a1 a2 M27) fun v29 M28 =>
Lt (up M28 0 68 0) fun M30 =>
Lt (up M30 0 79 0) fun M31 =>
J48_5 M31)
theorem cy_X12_why : yX12_why.cls ≠ "java/lang/invoke/MethodHandle" ∧ yX12_why.cls ≠ "java/lang/invoke/VarHandle" ∧ (parseMethodDescriptor yX12_why.desc).map (fun d => d.parameters.length) = some 3 := ⟨by decide +kernel, by decide +kernel, by decide +kernel⟩
set_option maxRecDepth 20000 in
theorem ok_X12_why (l : Launch) (D : Dd) (base : Nat) (M : Mm) (a1 : Int) (ha1 : i32 a1) (a2 : Int) (ha2 : i32 a2) (a3 : Int) (ha3 : i32 a3) : OkI l D TR 67 base yX12_why cX12_why 5 (some .int) 9 230 [.ref (base + 0), .int (Ii a1), .int (Ii a2), .int (Ii a3)] M i32 (f_X12_why a1 a2 a3 M) := by
  refine metI (by decide +kernel) [(0, .ref (base + 0)), (1, .int (Ii a1)), (2, .int (Ii a2)), (3, .int (Ii a3))] rfl (Nat.le_of_ble_eq_true rfl) (fun p e s m args below meth c X hrt hlk => ?_)
  have X : Cx p s m args c cX12_why D 5 RX12 := X
  unfold f_X12_why
  refine go_aload_n X dX12_why_0 rfl 0 rfl ?_
  refine go_iload_n X dX12_why_1 rfl 1 rfl ?_
  refine go_iload_n X dX12_why_2 rfl 2 rfl ?_
  refine goI (fun H locs ls r ho hW hL => runV X (ok_X12_isPair l D base M a1 ha1 a2 ha2 H.size r ho) dX12_why_3 lw1179 lw1180 lw1181 lw944 ⟨lw1174, cy_X12_isPair, Nat.le_of_ble_eq_true rfl, Nat.le_of_ble_eq_true rfl⟩ rfl trn0 tr0 rfl rfl rfl rfl (Nat.le_of_ble_eq_true rfl) hW hL hk0) (fun v2 M1 hv2 => ?_)
  refine go_istore (i := 4) (L' := [(4, .int (Ii v2)), (0, .ref (base + 0)), (1, .int (Ii a1)), (2, .int (Ii a2)), (3, .int (Ii a3))]) X dX12_why_6 (by decide) rfl ?_
  refine go_aload_n X dX12_why_8 rfl 1 rfl ?_
  refine go_iconst (v := 0) X dX12_why_9 rfl ?_
  refine go_puti (i := 80) X fc12 dX12_why_10 trn0 tr0 (Nat.le_of_ble_eq_true rfl) rfl lw1104 rfl rfl rfl kI_0 (fun M3 => ?_)
  refine go_iload X dX12_why_13 0 rfl ?_
  refine go_lt (fun J => ∀ (M4 : Mm), Go p l e (rmO 9 230) s m args below meth c D TR 67 base 5 0 0 (FinI D TR 67 base below args s i32) M4 48 [(0, .ref (base + 0)), (3, .int (Ii a3)), (4, .int (Ii v2))] [] (J M4)) (by
      intro M4
      refine go_aload_n X dX12_why_48 rfl 0 rfl ?_
      refine go_iload X dX12_why_49 2 rfl ?_
      refine go_lt (fun J => ∀ (v6 : Int) (M7 : Mm), bo v6 → Go p l e (rmO 9 230) s m args below meth c D TR 67 base 5 0 0 (FinI D TR 67 base below args s i32) M7 73 [(0, .ref (base + 0)), (3, .int (Ii a3))] [.int (Ii v6), .ref (base + 0)] (J v6 M7)) (by
          intro v6 M7 hv6
          refine goI (fun H locs ls r ho hW hL => runV X (ok_X12_fails l D base M7 v6 (bo_i32 hv6) H.size r ho) dX12_why_73 lw954 lw955 lw956 lw944 ⟨lw937, cy_X12_fails, Nat.le_of_ble_eq_true rfl, Nat.le_of_ble_eq_true rfl⟩ rfl trn0 tr0 rfl rfl rfl rfl (Nat.le_of_ble_eq_true rfl) hW hL hk0) (fun v10 M9 hv10 => ?_)
          refine go_lt (fun J => ∀ (v11 : Int) (M12 : Mm), i32 v11 → Go p l e (rmO 9 230) s m args below meth c D TR 67 base 5 0 0 (FinI D TR 67 base below args s i32) M12 89 [] [.int (Ii v11)] (J v11 M12)) (by
              intro v11 M12 hv11
              exact go_ireturn X hrt hlk dX12_why_89 hv11
              )
              (fun J89_13 hJ89_13 => ?_)
          refine go_if_eq (tgt := 83) X dX12_why_76 rfl (bo_i32 hv10) (fun c14 => ?_) (fun c14 => ?_)
          · refine go_aload_n X dX12_why_83 rfl 0 rfl ?_
            refine go_getc (i := 81) X fc12 dX12_why_84 trn0 tr0 (Nat.le_of_ble_eq_true rfl) rfl lw928 rfl ?_
            refine go_iload_n X dX12_why_87 rfl 1 rfl ?_
            refine go_iaload X dX12_why_88 trn61 tr61 ha3 (fun v15 hv15 => ?_)
            refine go_sub [] rfl ?_
            exact hJ89_13 v15 M9 hv15
          · refine go_iconst (v := 0) X dX12_why_79 rfl ?_
            refine go_goto (tgt := 89) X dX12_why_80 rfl ?_
            refine go_sub [] rfl ?_
            exact hJ89_13 0 M9 kI_0
          )
          (fun J73_8 hJ73_8 => ?_)
      refine go_lt (fun J => ∀ (M16 : Mm), Go p l e (rmO 9 230) s m args below meth c D TR 67 base 5 0 0 (FinI D TR 67 base below args s i32) M16 72 [(0, .ref (base + 0)), (3, .int (Ii a3))] [.ref (base + 0)] (J M16)) (by
          intro M16
          refine go_iconst (v := 1) X dX12_why_72 rfl ?_
          exact hJ73_8 1 M16 (Or.inr rfl)
          )
          (fun J72_17 hJ72_17 => ?_)
      refine go_if_eq (tgt := 72) X dX12_why_51 rfl (bo_i32 hv2) (fun c18 => ?_) (fun c18 => ?_)
      · refine go_sub [0, 1] rfl ?_
        exact hJ72_17 M4
      · refine go_iload_n X dX12_why_54 rfl 1 rfl ?_
        refine go_iconst (v := 0) X dX12_why_55 rfl ?_
        refine go_aload_n X dX12_why_56 rfl 0 rfl ?_
        refine go_geti (i := 80) X fc12 dX12_why_57 trn0 tr0 (Nat.le_of_ble_eq_true rfl) rfl lw1104 rfl (fun v19 hv19 => ?_)
        refine go_iconst (v := 1) X dX12_why_60 rfl ?_
        refine go_isub X dX12_why_61 hv19 kI_1 (fun v20 hv20 => ?_)
        refine goI (fun H locs ls r ho hW hL => runS X (ok_X12_isIn l D base M4 a3 ha3 0 kI_0 v20 hv20 H.size r ho) dX12_why_62 lw942 lw943 lw944 ⟨lw939, cy_X12_isIn, Nat.le_of_ble_eq_true rfl, Nat.le_of_ble_eq_true rfl⟩ rfl rfl (Nat.le_of_ble_eq_true rfl) hW hL hk0) (fun v22 M21 hv22 => ?_)
        refine go_if_eq (tgt := 72) X dX12_why_65 rfl (bo_i32 hv22) (fun c23 => ?_) (fun c23 => ?_)
        · refine go_sub [0, 1] rfl ?_
          exact hJ72_17 M21
        · refine go_iconst (v := 0) X dX12_why_68 rfl ?_
          refine go_goto (tgt := 73) X dX12_why_69 rfl ?_
          refine go_sub [0, 1] rfl ?_
          exact hJ73_8 0 M21 (Or.inl rfl)
      )
      (fun J48_5 hJ48_5 => ?_)
  refine go_if_eq (tgt := 48) X dX12_why_15 rfl (bo_i32 hv2) (fun c24 => ?_) (fun c24 => ?_)
  · refine go_sub [1, 4, 0] rfl ?_
    exact hJ48_5 M3
  · refine go_aload_n X dX12_why_18 rfl 1 rfl ?_
    refine goV (fun H locs ls r ho hW hL => runV X (ok_X12_findsRings l D base M3  H.size r ho) dX12_why_19 lw1170 lw1171 lw1172 lw944 ⟨lw1168, cy_X12_findsRings, Nat.le_of_ble_eq_true rfl, Nat.le_of_ble_eq_true rfl⟩ rfl trn0 tr0 rfl rfl rfl rfl (Nat.le_of_ble_eq_true rfl) hW hL hk0) (fun _ M25 => ?_)
    refine go_aload_n X dX12_why_22 rfl 1 rfl ?_
    refine go_iconst (v := 1) X dX12_why_23 rfl ?_
    refine go_putz (i := 79) X fc12 dX12_why_24 trn0 tr0 (Nat.le_of_ble_eq_true rfl) rfl lw1106 rfl rfl rfl (Or.inr rfl) (fun M26 => ?_)
    refine go_aload_n X dX12_why_27 rfl 1 rfl ?_
    refine goV (fun H locs ls r ho hW hL => runV X (ok_X12_clears l D base M26  H.size r ho) dX12_why_28 lw1158 lw1159 lw1160 lw944 ⟨lw1157, cy_X12_clears, Nat.le_of_ble_eq_true rfl, Nat.le_of_ble_eq_true rfl⟩ rfl trn0 tr0 rfl rfl rfl rfl (Nat.le_of_ble_eq_true rfl) hW hL hk0) (fun _ M27 => ?_)
    refine go_aload_n X dX12_why_31 rfl 1 rfl ?_
    refine go_iload_n X dX12_why_32 rfl 2 rfl ?_
    refine go_iload_n X dX12_why_33 rfl 3 rfl ?_
    refine goI (fun H locs ls r ho hW hL => runV X (ok_X12_finds l D base M27 a1 ha1 a2 ha2 H.size r ho) dX12_why_34 lw1161 lw1162 lw1163 lw944 ⟨lw1156, cy_X12_finds, Nat.le_of_ble_eq_true rfl, Nat.le_of_ble_eq_true rfl⟩ rfl trn0 tr0 rfl rfl rfl rfl (Nat.le_of_ble_eq_true rfl) hW hL hk0) (fun v29 M28 hv29 => ?_)
    refine go_pop X dX12_why_37 rfl ?_
    refine go_aload_n X dX12_why_38 rfl 1 rfl ?_
    refine go_iconst (v := 0) X dX12_why_39 rfl ?_
    refine go_puti (i := 68) X fc12 dX12_why_40 trn0 tr0 (Nat.le_of_ble_eq_true rfl) rfl lw1102 rfl rfl rfl kI_0 (fun M30 => ?_)
    refine go_aload_n X dX12_why_43 rfl 1 rfl ?_
    refine go_iconst (v := 0) X dX12_why_44 rfl ?_
    refine go_putz (i := 79) X fc12 dX12_why_45 trn0 tr0 (Nat.le_of_ble_eq_true rfl) rfl lw1106 rfl rfl rfl (Or.inl rfl) (fun M31 => ?_)
    refine go_sub [1, 4, 0] rfl ?_
    exact hJ48_5 M31
