
def f_L_areReads_L109_67 (J144_40 : Int → Int → Int → Mm → Rs) (rc109_55 : Int × Int × Int × Int × Mm → Rs) : Int × Int × Int × Int × Mm → Rs := fun (v50, v51, v52, v53, M54) =>
if v51 ≤ v53 then (
J144_40 v50 v51 v52 M54) else (
if v50 = 0 then (
J144_40 v50 v51 v52 M54) else (
gd (0 ≤ v53 ∧ v53 < 4) <|
Lt (M54 686 v53.toNat) fun v58 =>
Lt (fun (v59 : Int) (v60 : Int) (v61 : Int) (v62 : Int) (M63 : Mm) => 
Lt (wr (v61 + 1)) fun v65 =>
rc109_55 (v62, v59, v60, v65, M63)) fun J136_64 =>
if v58 = v52 then (
J136_64 v51 v52 v53 0 M54) else (
J136_64 v51 v52 v53 1 M54)))
def f_L_areReads_L34_89 (a4 : Int) (a5 : Int) (v2 : Int) (J182_8 : Int → Mm → Rs) (rc34_26 : Int × Int × Int × Mm → Rs) : Int × Int × Int × Mm → Rs := fun (v22, v23, v24, M25) =>
if v24 < 0 then (
J182_8 v22 M25) else (
if v22 = 0 then (
J182_8 v22 M25) else (
Lt (wr (Int.tdiv v24 10)) fun v29 =>
gd (0 ≤ 4 ∧ 4 < 11) <|
Lt (M25 684 4) fun v30 =>
Lt (fun (v31 : Int) (v32 : Int) (v33 : Int) (M34 : Mm) => 
Lt (fun (v36 : Int) (v37 : Int) (v38 : Int) (M39 : Mm) => 
gd (0 ≤ v37 ∧ v37 < 4) <|
Lt (up M39 686 v37.toNat v38) fun M41 =>
Lt (wr (v37 + 1)) fun v42 =>
Lt (fun (v43 : Int) (v44 : Int) (M45 : Mm) => 
rc34_26 (v43, v42, v44, M45)) fun J177_46 =>
if v42 ≤ 3 then (
Clq (f_L_does 13 a4 a5 v42 0 0 M41) M41 fun v49 M48 =>
J177_46 v36 v49 M48) else (
J177_46 v36 ((-1)) M41)) fun J144_40 =>
Lp (f_L_areReads_L109_67 J144_40) FU (v33, v31, v32, 0, M34)) fun J104_35 =>
Lt (fun (v68 : Int) (v69 : Int) (M70 : Mm) => 
J104_35 v68 v69 0 M70) fun J103_71 =>
if v30 ≤ v29 then (
J103_71 v23 v24 M25) else (
Lt (jrem v24 10) fun v73 =>
gd (0 ≤ 1 ∧ 1 < 11) <|
Lt (M25 684 1) fun v74 =>
if v74 ≤ v73 then (
J103_71 v23 v24 M25) else (
Lt (fun (v76 : Int) (v77 : Int) (M78 : Mm) => 
J104_35 v76 v77 1 M78) fun J99_79 =>
if v2 = 0 then (
J99_79 v23 v24 M25) else (
Lt (jrem v24 10) fun v81 =>
gd (0 ≤ v81 ∧ v81 < 6) <|
Lt (M25 683 v81.toNat) fun v82 =>
if v82 = 3 then (
J99_79 v23 v24 M25) else (
Lt (wr (Int.tdiv v24 10)) fun v84 =>
Lt (jrem v24 10) fun v85 =>
Clj (f_N11_isKept v84 v85 M25) M25 fun v87 M86 =>
if v87 = 0 then (
J103_71 v23 v24 M86) else (
J99_79 v23 v24 M86)))))))
def f_L_areReads (a4 : Int) (a5 : Int) (M : Mm) : Rs :=
Clj (f_N11_isKept a4 a5 M) M fun v2 M1 =>
Lt (z686 M1) fun M3 =>
Clq (f_L_does 13 a4 a5 0 0 0 M3) M3 fun v5 M4 =>
Lt (fun (v6 : Int) (M7 : Mm) => 
Lt (fun (v9 : Int) (M10 : Mm) => 
some (v9, M10)) fun J220_11 =>
Lt (fun (M12 : Mm) => 
J220_11 0 M12) fun J219_13 =>
if v6 = 0 then (
J219_13 M7) else (
Clj (f_X11_found M7) M7 fun v16 M15 =>
gd (0 ≤ 6 ∧ 6 < 11) <|
Lt (M15 684 6) fun v17 =>
if ¬ v16 = v17 then (
J219_13 M15) else (
Clq (f_L_does 13 a4 a5 ((-1)) 0 0 M15) M15 fun v20 M19 =>
if ¬ v20 = ((-3000000)) then (
J219_13 M19) else (
J220_11 1 M19)))) fun J182_8 =>
Lp (f_L_areReads_L34_89 a4 a5 v2 J182_8) 5 (1, 0, v5, M4)
theorem cy_L_areReads : yL_areReads.cls ≠ "java/lang/invoke/MethodHandle" ∧ yL_areReads.cls ≠ "java/lang/invoke/VarHandle" ∧ (parseMethodDescriptor yL_areReads.desc).map (fun d => d.parameters.length) = some 5 := ⟨by decide +kernel, by decide +kernel, by decide +kernel⟩
set_option maxRecDepth 20000 in
theorem ok_L_areReads (l : Launch) (hl : l.stackTraces = false) (D : Dd) (base b N : Nat) (xs : Nat → Int32) (hN : N ≤ 260) (M : Mm) (a4 : Int) (ha4 : i32 a4) (a5 : Int) (ha5 : i32 a5) : OkQ l D base b N xs yL_areReads (.code yL_areReads cL_areReads 11 (some .boolean)) 9 221 22 132 [.ref (base + 0), .ref (base + 683), .ref (base + 684), .int (Ii a4), .int (Ii a5)] M bo (f_L_areReads a4 a5 M) := by
  refine metQ (by decide +kernel) [(0, .ref (base + 0)), (1, .ref (base + 683)), (2, .ref (base + 684)), (3, .int (Ii a4)), (4, .int (Ii a5))] rfl (Nat.le_of_ble_eq_true rfl) (fun p e s m args below meth c X Y hrt hlk => ?_)
  have X : Cx p s m args c cL_areReads D 11 RL := X
  unfold f_L_areReads
  refine go_iconst (v := 1) X dL_areReads_0 rfl ?_
  refine go_istore (i := 5) (L' := [(5, .int (Ii 1)), (0, .ref (base + 0)), (1, .ref (base + 683)), (2, .ref (base + 684)), (3, .int (Ii a4)), (4, .int (Ii a5))]) X dL_areReads_1 (by decide) rfl ?_
  refine go_aload_n X dL_areReads_3 rfl 1 rfl ?_
  refine go_iload_n X dL_areReads_4 rfl 4 rfl ?_
  refine go_iload X dL_areReads_5 5 rfl ?_
  refine go_ccall X (ok_N11_isKept l D base M a4 ha4 a5 ha5) dL_areReads_7 lw915 lw916 lw917 lw19 ⟨lw857, cy_X11_isKept, Nat.le_of_ble_eq_true rfl, Nat.le_of_ble_eq_true rfl⟩ rfl rfl rfl rfl (Nat.le_of_ble_eq_true rfl) ⟨Nat.le_of_ble_eq_true rfl, Nat.le_of_ble_eq_true rfl⟩ (fun v2 M1 hv2 => ?_)
  refine go_istore (i := 6) (L' := [(6, .int (Ii v2)), (5, .int (Ii 1)), (0, .ref (base + 0)), (1, .ref (base + 683)), (2, .ref (base + 684)), (3, .int (Ii a4)), (4, .int (Ii a5))]) X dL_areReads_10 (by decide) rfl ?_
  refine go_iconst (v := 4) X dL_areReads_12 rfl ?_
  refine go_newR X dL_areReads_13 lw4 ⟨Nat.le_of_ble_eq_true rfl, Nat.le_of_ble_eq_true rfl⟩ (fun ra hra => ?_)
  refine ge_widen 1 6 (by decide) (by decide) ?_
  generalize z686 M1 = M3
  refine ge_astore (i := 7) (L' := [(7, .ref ra), (6, .int (Ii v2)), (5, .int (Ii 1)), (0, .ref (base + 0)), (1, .ref (base + 683)), (2, .ref (base + 684)), (3, .int (Ii a4)), (4, .int (Ii a5))]) X dL_areReads_15 (by decide) rfl ?_
  refine ge_iconst (v := 0) X dL_areReads_17 rfl ?_
  refine ge_istore (i := 8) (L' := [(8, .int (Ii 0)), (7, .ref ra), (6, .int (Ii v2)), (5, .int (Ii 1)), (0, .ref (base + 0)), (1, .ref (base + 683)), (2, .ref (base + 684)), (3, .int (Ii a4)), (4, .int (Ii a5))]) X dL_areReads_18 (by decide) rfl ?_
  refine ge_aload_n X dL_areReads_20 rfl 4 rfl ?_
  refine ge_bipush (v := 13) X dL_areReads_21 (by decide) ?_
  refine ge_iload_n X dL_areReads_23 rfl 7 rfl ?_
  refine ge_iload X dL_areReads_24 8 rfl ?_
  refine ge_iconst (v := 0) X dL_areReads_26 rfl ?_
  refine ge_iconst (v := 0) X dL_areReads_27 rfl ?_
  refine ge_iconst (v := 0) X dL_areReads_28 rfl ?_
  refine ge_lcallH X hra Y (ok_L_does l hl D base b N xs hN M3 13 kI_13 a4 ha4 a5 ha5 0 kI_0 0 kI_0 0 kI_0) dL_areReads_29 lw931 lw932 lw926 lw921 cy_L_does ⟨Nat.le_of_ble_eq_true rfl, Nat.le_of_ble_eq_true rfl⟩ rfl rfl (Nat.le_of_ble_eq_true rfl) ⟨Nat.le_of_ble_eq_true rfl, Nat.le_of_ble_eq_true rfl⟩ (fun v5 M4 hv5 => ?_)
  refine ge_istore (i := 9) (L' := [(9, .int (Ii v5)), (8, .int (Ii 0)), (7, .ref ra), (6, .int (Ii v2)), (5, .int (Ii 1)), (0, .ref (base + 0)), (1, .ref (base + 683)), (2, .ref (base + 684)), (3, .int (Ii a4)), (4, .int (Ii a5))]) X dL_areReads_32 (by decide) rfl ?_
  refine ge_lt (fun J => ∀ (v6 : Int) (M7 : Mm), bo v6 → Ge p l e (rmX 9 221 22 132) s m args below meth c D ra base 11 19 114 (FinQ D base 22 132 below args s bo) M7 182 [(0, .ref (base + 0)), (2, .ref (base + 684)), (3, .int (Ii a4)), (4, .int (Ii a5)), (5, .int (Ii v6))] [] (J v6 M7)) (by
      intro v6 M7 hv6
      refine ge_iload X dL_areReads_182 4 rfl ?_
      refine ge_lt (fun J => ∀ (v9 : Int) (M10 : Mm), bo v9 → Ge p l e (rmX 9 221 22 132) s m args below meth c D ra base 11 22 132 (FinQ D base 22 132 below args s bo) M10 220 [] [.int (Ii v9)] (J v9 M10)) (by
          intro v9 M10 hv9
          exact ge_qzreturn X hrt hlk dL_areReads_220 hv9 hv9 (Nat.le_of_ble_eq_true rfl) (Nat.le_of_ble_eq_true rfl)
          )
          (fun J220_11 hJ220_11 => ?_)
      refine ge_lt (fun J => ∀ (M12 : Mm), Ge p l e (rmX 9 221 22 132) s m args below meth c D ra base 11 22 132 (FinQ D base 22 132 below args s bo) M12 219 [] [] (J M12)) (by
          intro M12
          refine ge_iconst (v := 0) X dL_areReads_219 rfl ?_
          exact hJ220_11 0 M12 (Or.inl rfl)
          )
          (fun J219_13 hJ219_13 => ?_)
      refine ge_if_eq (tgt := 219) X dL_areReads_184 rfl (bo_i32 hv6) (fun c14 => ?_) (fun c14 => ?_)
      · refine ge_widen 22 132 (by decide) (by decide) ?_
        refine ge_sub [] rfl ?_
        exact hJ219_13 M7
      · refine ge_aload_n X dL_areReads_187 rfl 0 rfl ?_
        refine ge_ccall X hra (ok_X11_found l D base M7 ) dL_areReads_188 lw938 lw939 lw940 lw19 ⟨lw854, cy_X11_found, Nat.le_of_ble_eq_true rfl, Nat.le_of_ble_eq_true rfl⟩ rfl rfl rfl rfl (Nat.le_of_ble_eq_true rfl) ⟨Nat.le_of_ble_eq_true rfl, Nat.le_of_ble_eq_true rfl⟩ (fun v16 M15 hv16 => ?_)
        refine ge_aload_n X dL_areReads_191 rfl 1 rfl ?_
        refine ge_bipush (v := 6) X dL_areReads_192 (by decide) ?_
        refine ge_iaload X dL_areReads_194 tln684 tl684 kI_6 (fun v17 hv17 => ?_)
        refine ge_icmp_ne (tgt := 219) X dL_areReads_195 rfl hv16 hv17 (fun c18 => ?_) (fun c18 => ?_)
        · refine ge_widen 22 132 (by decide) (by decide) ?_
          refine ge_sub [] rfl ?_
          exact hJ219_13 M15
        · refine ge_aload_n X dL_areReads_198 rfl 0 rfl ?_
          refine ge_bipush (v := 13) X dL_areReads_199 (by decide) ?_
          refine ge_iload_n X dL_areReads_201 rfl 2 rfl ?_
          refine ge_iload X dL_areReads_202 3 rfl ?_
          refine ge_iconst (v := (-1)) X dL_areReads_204 rfl ?_
          refine ge_iconst (v := 0) X dL_areReads_205 rfl ?_
          refine ge_iconst (v := 0) X dL_areReads_206 rfl ?_
          refine ge_lcallH X hra Y (ok_L_does l hl D base b N xs hN M15 13 kI_13 a4 ha4 a5 ha5 ((-1)) kI_m1 0 kI_0 0 kI_0) dL_areReads_207 lw931 lw932 lw926 lw921 cy_L_does ⟨Nat.le_of_ble_eq_true rfl, Nat.le_of_ble_eq_true rfl⟩ rfl rfl (Nat.le_of_ble_eq_true rfl) ⟨Nat.le_of_ble_eq_true rfl, Nat.le_of_ble_eq_true rfl⟩ (fun v20 M19 hv20 => ?_)
          refine ge_ldc (v := (-3000000)) X dL_areReads_210 lw870 rfl ?_
          refine ge_icmp_ne (tgt := 219) X dL_areReads_212 rfl hv20 kI_m3000000 (fun c21 => ?_) (fun c21 => ?_)
          · refine ge_sub [] rfl ?_
            exact hJ219_13 M19
          · refine ge_iconst (v := 1) X dL_areReads_215 rfl ?_
            refine ge_goto (tgt := 220) X dL_areReads_216 rfl ?_
            refine ge_sub [] rfl ?_
            exact hJ220_11 1 M19 (Or.inr rfl)
      )
      (fun J182_8 hJ182_8 => ?_)
  refine ge_sub [5, 6, 7, 8, 9, 4, 3, 2, 1, 0] rfl ?_
  exact go_lpk (fun (f : Nat) (rc : Int × Int × Int × Mm → Rs) => ∀ kc ks : Nat, kc + 3 * f ≤ 19 → ks + 18 * f ≤ 114 → ∀ (v22 : Int) (v23 : Int) (v24 : Int) (M25 : Mm), bo v22 → i32 v23 → i32 v24 → Ge p l e (rmX 9 221 22 132) s m args below meth c D ra base 11 kc ks (FinQ D base 22 132 below args s bo) M25 34 [(0, .ref (base + 0)), (1, .ref (base + 683)), (2, .ref (base + 684)), (3, .int (Ii a4)), (4, .int (Ii a5)), (5, .int (Ii v22)), (6, .int (Ii v2)), (7, .ref ra), (8, .int (Ii v23)), (9, .int (Ii v24))] [] (rc (v22, v23, v24, M25)))
      (by intro kc ks hkc hks v22 v23 v24 M25 hv22 hv23 hv24; exact ge_none)
      (by
      intro f rc34_26 hrc34_26 kc ks hkc hks v22 v23 v24 M25 hv22 hv23 hv24
      unfold f_L_areReads_L34_89
      dsimp only
      refine ge_iload X dL_areReads_34 9 rfl ?_
      refine ge_if_lt (tgt := 182) X dL_areReads_36 rfl hv24 (fun c27 => ?_) (fun c27 => ?_)
      · refine ge_widen 19 114 (by omega) (by omega) ?_
        refine ge_sub [0, 2, 3, 4, 5] rfl ?_
        exact hJ182_8 v22 M25 hv22
      · refine ge_iload X dL_areReads_39 5 rfl ?_
        refine ge_if_eq (tgt := 182) X dL_areReads_41 rfl (bo_i32 hv22) (fun c28 => ?_) (fun c28 => ?_)
        · refine ge_widen 19 114 (by omega) (by omega) ?_
          refine ge_sub [0, 2, 3, 4, 5] rfl ?_
          exact hJ182_8 v22 M25 hv22
        · refine ge_iload X dL_areReads_44 9 rfl ?_
          refine ge_bipush (v := 10) X dL_areReads_46 (by decide) ?_
          refine ge_idiv X dL_areReads_48 hv24 kI_10 (by decide) (fun v29 hv29 => ?_)
          refine ge_aload_n X dL_areReads_49 rfl 2 rfl ?_
          refine ge_iconst (v := 4) X dL_areReads_50 rfl ?_
          refine ge_iaload X dL_areReads_51 tln684 tl684 kI_4 (fun v30 hv30 => ?_)
          refine ge_lt (fun J => ∀ (v31 : Int) (v32 : Int) (v33 : Int) (M34 : Mm), i32 v31 → i32 v32 → bo v33 → Ge p l e (rmX 9 221 22 132) s m args below meth c D ra base 11 (kc + 0) (ks + 0) (FinQ D base 22 132 below args s bo) M34 104 [(0, .ref (base + 0)), (1, .ref (base + 683)), (2, .ref (base + 684)), (3, .int (Ii a4)), (4, .int (Ii a5)), (6, .int (Ii v2)), (7, .ref ra), (8, .int (Ii v31)), (9, .int (Ii v32))] [.int (Ii v33)] (J v31 v32 v33 M34)) (by
              intro v31 v32 v33 M34 hv31 hv32 hv33
              refine ge_istore (i := 5) (L' := [(5, .int (Ii v33)), (0, .ref (base + 0)), (1, .ref (base + 683)), (2, .ref (base + 684)), (3, .int (Ii a4)), (4, .int (Ii a5)), (6, .int (Ii v2)), (7, .ref ra), (8, .int (Ii v31)), (9, .int (Ii v32))]) X dL_areReads_104 (by decide) rfl ?_
              refine ge_iconst (v := 0) X dL_areReads_106 rfl ?_
              refine ge_istore (i := 10) (L' := [(10, .int (Ii 0)), (5, .int (Ii v33)), (0, .ref (base + 0)), (1, .ref (base + 683)), (2, .ref (base + 684)), (3, .int (Ii a4)), (4, .int (Ii a5)), (6, .int (Ii v2)), (7, .ref ra), (8, .int (Ii v31)), (9, .int (Ii v32))]) X dL_areReads_107 (by decide) rfl ?_
              refine ge_lt (fun J => ∀ (v36 : Int) (v37 : Int) (v38 : Int) (M39 : Mm), bo v36 → i32 v37 → i32 v38 → Ge p l e (rmX 9 221 22 132) s m args below meth c D ra base 11 (kc + 0) (ks + 0) (FinQ D base 22 132 below args s bo) M39 144 [(0, .ref (base + 0)), (1, .ref (base + 683)), (2, .ref (base + 684)), (3, .int (Ii a4)), (4, .int (Ii a5)), (5, .int (Ii v36)), (6, .int (Ii v2)), (7, .ref ra), (8, .int (Ii v37)), (9, .int (Ii v38))] [] (J v36 v37 v38 M39)) (by
                  intro v36 v37 v38 M39 hv36 hv37 hv38
                  refine ge_aload X dL_areReads_144 7 rfl ?_
                  refine ge_iload X dL_areReads_146 8 rfl ?_
                  refine ge_iload X dL_areReads_148 9 rfl ?_
                  refine ge_rst X hra dL_areReads_150 hv37 hv38 (fun M41 => ?_)
                  refine ge_iinc (i := 8) (L' := fun v => [(8, .int (Ii v)), (0, .ref (base + 0)), (1, .ref (base + 683)), (2, .ref (base + 684)), (3, .int (Ii a4)), (4, .int (Ii a5)), (5, .int (Ii v36)), (6, .int (Ii v2)), (7, .ref ra), (9, .int (Ii v38))]) X dL_areReads_151 hv37 kI_1 (j := 8) rfl (by decide) (fun _ => rfl) (fun v42 hv42 => ?_)
                  refine ge_iload X dL_areReads_154 0 rfl ?_
                  refine ge_iconst (v := 3) X dL_areReads_156 rfl ?_
                  refine ge_lt (fun J => ∀ (v43 : Int) (v44 : Int) (M45 : Mm), bo v43 → i32 v44 → Ge p l e (rmX 9 221 22 132) s m args below meth c D ra base 11 (kc + 3) (ks + 18) (FinQ D base 22 132 below args s bo) M45 177 [(0, .ref (base + 0)), (1, .ref (base + 683)), (2, .ref (base + 684)), (3, .int (Ii a4)), (4, .int (Ii a5)), (5, .int (Ii v43)), (6, .int (Ii v2)), (7, .ref ra), (8, .int (Ii v42))] [.int (Ii v44)] (J v43 v44 M45)) (by
                      intro v43 v44 M45 hv43 hv44
                      refine ge_istore (i := 9) (L' := [(9, .int (Ii v44)), (0, .ref (base + 0)), (1, .ref (base + 683)), (2, .ref (base + 684)), (3, .int (Ii a4)), (4, .int (Ii a5)), (5, .int (Ii v43)), (6, .int (Ii v2)), (7, .ref ra), (8, .int (Ii v42))]) X dL_areReads_177 (by decide) rfl ?_
                      refine ge_goto (tgt := 34) X dL_areReads_179 rfl ?_
                      refine ge_sub [1, 2, 3, 4, 5, 6, 7, 8, 9, 0] rfl ?_
                      exact hrc34_26 (kc + 3) (ks + 18) (by omega) (by omega) v43 v42 v44 M45 hv43 hv42 hv44
                      )
                      (fun J177_46 hJ177_46 => ?_)
                  refine ge_icmp_le (tgt := 164) X dL_areReads_157 rfl hv42 kI_3 (fun c47 => ?_) (fun c47 => ?_)
                  · refine ge_aload_n X dL_areReads_164 rfl 1 rfl ?_
                    refine ge_bipush (v := 13) X dL_areReads_165 (by decide) ?_
                    refine ge_iload_n X dL_areReads_167 rfl 4 rfl ?_
                    refine ge_iload X dL_areReads_168 5 rfl ?_
                    refine ge_iload X dL_areReads_170 0 rfl ?_
                    refine ge_iconst (v := 0) X dL_areReads_172 rfl ?_
                    refine ge_iconst (v := 0) X dL_areReads_173 rfl ?_
                    refine ge_lcallH X hra Y (ok_L_does l hl D base b N xs hN M41 13 kI_13 a4 ha4 a5 ha5 v42 hv42 0 kI_0 0 kI_0) dL_areReads_174 lw931 lw932 lw926 lw921 cy_L_does ⟨Nat.le_of_ble_eq_true rfl, Nat.le_of_ble_eq_true rfl⟩ rfl rfl (Nat.le_of_ble_eq_true rfl) ⟨(by show _ ≤ 22; omega), (by show _ ≤ 132; omega)⟩ (fun v49 M48 hv49 => ?_)
                    refine ge_sub [1, 2, 3, 4, 5, 6, 7, 8, 0] rfl ?_
                    exact hJ177_46 v36 v49 M48 hv36 hv49
                  · refine ge_iconst (v := (-1)) X dL_areReads_160 rfl ?_
                    refine ge_goto (tgt := 177) X dL_areReads_161 rfl ?_
                    refine ge_widen (kc + 3) (ks + 18) (by omega) (by omega) ?_
                    refine ge_sub [1, 2, 3, 4, 5, 6, 7, 8, 0] rfl ?_
                    exact hJ177_46 v36 ((-1)) M41 hv36 kI_m1
                  )
                  (fun J144_40 hJ144_40 => ?_)
              refine ge_sub [2, 3, 4, 5, 6, 1, 7, 8, 9, 10, 0] rfl ?_
              exact go_lp (fun (rc : Int × Int × Int × Int × Mm → Rs) => ∀ (v50 : Int) (v51 : Int) (v52 : Int) (v53 : Int) (M54 : Mm), bo v50 → i32 v51 → i32 v52 → i32 v53 → Ge p l e (rmX 9 221 22 132) s m args below meth c D ra base 11 (kc + 0) (ks + 0) (FinQ D base 22 132 below args s bo) M54 109 [(0, .ref (base + 0)), (1, .ref (base + 683)), (2, .ref (base + 684)), (3, .int (Ii a4)), (4, .int (Ii a5)), (5, .int (Ii v50)), (6, .int (Ii v2)), (7, .ref ra), (8, .int (Ii v51)), (9, .int (Ii v52)), (10, .int (Ii v53))] [] (rc (v50, v51, v52, v53, M54)))
                  (by intro v50 v51 v52 v53 M54 hv50 hv51 hv52 hv53; exact ge_none)
                  (by
                  intro rc109_55 hrc109_55 v50 v51 v52 v53 M54 hv50 hv51 hv52 hv53
                  unfold f_L_areReads_L109_67
                  dsimp only
                  refine ge_iload X dL_areReads_109 10 rfl ?_
                  refine ge_iload X dL_areReads_111 8 rfl ?_
                  refine ge_icmp_ge (tgt := 144) X dL_areReads_113 rfl hv53 hv51 (fun c56 => ?_) (fun c56 => ?_)
                  · refine ge_sub [0, 1, 2, 3, 4, 5, 6, 7, 8, 9] rfl ?_
                    exact hJ144_40 v50 v51 v52 M54 hv50 hv51 hv52
                  · refine ge_iload X dL_areReads_116 5 rfl ?_
                    refine ge_if_eq (tgt := 144) X dL_areReads_118 rfl (bo_i32 hv50) (fun c57 => ?_) (fun c57 => ?_)
                    · refine ge_sub [0, 1, 2, 3, 4, 5, 6, 7, 8, 9] rfl ?_
                      exact hJ144_40 v50 v51 v52 M54 hv50 hv51 hv52
                    · refine ge_aload X dL_areReads_121 7 rfl ?_
                      refine ge_iload X dL_areReads_123 10 rfl ?_
                      refine ge_rld X dL_areReads_125 hv53 (fun v58 hv58 => ?_)
                      refine ge_iload X dL_areReads_126 9 rfl ?_
                      refine ge_lt (fun J => ∀ (v59 : Int) (v60 : Int) (v61 : Int) (v62 : Int) (M63 : Mm), i32 v59 → i32 v60 → i32 v61 → bo v62 → Ge p l e (rmX 9 221 22 132) s m args below meth c D ra base 11 (kc + 0) (ks + 0) (FinQ D base 22 132 below args s bo) M63 136 [(0, .ref (base + 0)), (1, .ref (base + 683)), (2, .ref (base + 684)), (3, .int (Ii a4)), (4, .int (Ii a5)), (6, .int (Ii v2)), (7, .ref ra), (8, .int (Ii v59)), (9, .int (Ii v60)), (10, .int (Ii v61))] [.int (Ii v62)] (J v59 v60 v61 v62 M63)) (by
                          intro v59 v60 v61 v62 M63 hv59 hv60 hv61 hv62
                          refine ge_istore (i := 5) (L' := [(5, .int (Ii v62)), (0, .ref (base + 0)), (1, .ref (base + 683)), (2, .ref (base + 684)), (3, .int (Ii a4)), (4, .int (Ii a5)), (6, .int (Ii v2)), (7, .ref ra), (8, .int (Ii v59)), (9, .int (Ii v60)), (10, .int (Ii v61))]) X dL_areReads_136 (by decide) rfl ?_
                          refine ge_iinc (i := 10) (L' := fun v => [(10, .int (Ii v)), (5, .int (Ii v62)), (0, .ref (base + 0)), (1, .ref (base + 683)), (2, .ref (base + 684)), (3, .int (Ii a4)), (4, .int (Ii a5)), (6, .int (Ii v2)), (7, .ref ra), (8, .int (Ii v59)), (9, .int (Ii v60))]) X dL_areReads_138 hv61 kI_1 (j := 10) rfl (by decide) (fun _ => rfl) (fun v65 hv65 => ?_)
                          refine ge_goto (tgt := 109) X dL_areReads_141 rfl ?_
                          refine ge_sub [2, 3, 4, 5, 6, 1, 7, 8, 9, 10, 0] rfl ?_
                          exact hrc109_55 v62 v59 v60 v65 M63 hv62 hv59 hv60 hv65
                          )
                          (fun J136_64 hJ136_64 => ?_)
                      refine ge_icmp_eq (tgt := 135) X dL_areReads_128 rfl hv58 hv52 (fun c66 => ?_) (fun c66 => ?_)
                      · refine ge_iconst (v := 0) X dL_areReads_135 rfl ?_
                        refine ge_sub [0, 1, 2, 3, 4, 6, 7, 8, 9, 10] rfl ?_
                        exact hJ136_64 v51 v52 v53 0 M54 hv51 hv52 hv53 (Or.inl rfl)
                      · refine ge_iconst (v := 1) X dL_areReads_131 rfl ?_
                        refine ge_goto (tgt := 136) X dL_areReads_132 rfl ?_
                        refine ge_sub [0, 1, 2, 3, 4, 6, 7, 8, 9, 10] rfl ?_
                        exact hJ136_64 v51 v52 v53 1 M54 hv51 hv52 hv53 (Or.inr rfl)
                  )
                  FU v33 v31 v32 0 M34 hv33 hv31 hv32 kI_0
              )
              (fun J104_35 hJ104_35 => ?_)
          refine ge_lt (fun J => ∀ (v68 : Int) (v69 : Int) (M70 : Mm), i32 v68 → i32 v69 → Ge p l e (rmX 9 221 22 132) s m args below meth c D ra base 11 (kc + 0) (ks + 0) (FinQ D base 22 132 below args s bo) M70 103 [(0, .ref (base + 0)), (1, .ref (base + 683)), (2, .ref (base + 684)), (3, .int (Ii a4)), (4, .int (Ii a5)), (6, .int (Ii v2)), (7, .ref ra), (8, .int (Ii v68)), (9, .int (Ii v69))] [] (J v68 v69 M70)) (by
              intro v68 v69 M70 hv68 hv69
              refine ge_iconst (v := 0) X dL_areReads_103 rfl ?_
              exact hJ104_35 v68 v69 0 M70 hv68 hv69 (Or.inl rfl)
              )
              (fun J103_71 hJ103_71 => ?_)
          refine ge_icmp_ge (tgt := 103) X dL_areReads_52 rfl hv29 hv30 (fun c72 => ?_) (fun c72 => ?_)
          · refine ge_sub [0, 1, 2, 3, 4, 6, 7, 8, 9] rfl ?_
            exact hJ103_71 v23 v24 M25 hv23 hv24
          · refine ge_iload X dL_areReads_55 9 rfl ?_
            refine ge_bipush (v := 10) X dL_areReads_57 (by decide) ?_
            refine ge_irem X dL_areReads_59 hv24 kI_10 (by decide) (fun v73 hv73 => ?_)
            refine ge_aload_n X dL_areReads_60 rfl 2 rfl ?_
            refine ge_iconst (v := 1) X dL_areReads_61 rfl ?_
            refine ge_iaload X dL_areReads_62 tln684 tl684 kI_1 (fun v74 hv74 => ?_)
            refine ge_icmp_ge (tgt := 103) X dL_areReads_63 rfl hv73 hv74 (fun c75 => ?_) (fun c75 => ?_)
            · refine ge_sub [0, 1, 2, 3, 4, 6, 7, 8, 9] rfl ?_
              exact hJ103_71 v23 v24 M25 hv23 hv24
            · refine ge_iload X dL_areReads_66 6 rfl ?_
              refine ge_lt (fun J => ∀ (v76 : Int) (v77 : Int) (M78 : Mm), i32 v76 → i32 v77 → Ge p l e (rmX 9 221 22 132) s m args below meth c D ra base 11 (kc + 0) (ks + 0) (FinQ D base 22 132 below args s bo) M78 99 [(0, .ref (base + 0)), (1, .ref (base + 683)), (2, .ref (base + 684)), (3, .int (Ii a4)), (4, .int (Ii a5)), (6, .int (Ii v2)), (7, .ref ra), (8, .int (Ii v76)), (9, .int (Ii v77))] [] (J v76 v77 M78)) (by
                  intro v76 v77 M78 hv76 hv77
                  refine ge_iconst (v := 1) X dL_areReads_99 rfl ?_
                  refine ge_goto (tgt := 104) X dL_areReads_100 rfl ?_
                  exact hJ104_35 v76 v77 1 M78 hv76 hv77 (Or.inr rfl)
                  )
                  (fun J99_79 hJ99_79 => ?_)
              refine ge_if_eq (tgt := 99) X dL_areReads_68 rfl (bo_i32 hv2) (fun c80 => ?_) (fun c80 => ?_)
              · refine ge_sub [0, 1, 2, 3, 4, 6, 7, 8, 9] rfl ?_
                exact hJ99_79 v23 v24 M25 hv23 hv24
              · refine ge_aload_n X dL_areReads_71 rfl 1 rfl ?_
                refine ge_iload X dL_areReads_72 9 rfl ?_
                refine ge_bipush (v := 10) X dL_areReads_74 (by decide) ?_
                refine ge_irem X dL_areReads_76 hv24 kI_10 (by decide) (fun v81 hv81 => ?_)
                refine ge_iaload X dL_areReads_77 tln683 tl683 hv81 (fun v82 hv82 => ?_)
                refine ge_iconst (v := 3) X dL_areReads_78 rfl ?_
                refine ge_icmp_eq (tgt := 99) X dL_areReads_79 rfl hv82 kI_3 (fun c83 => ?_) (fun c83 => ?_)
                · refine ge_sub [0, 1, 2, 3, 4, 6, 7, 8, 9] rfl ?_
                  exact hJ99_79 v23 v24 M25 hv23 hv24
                · refine ge_aload_n X dL_areReads_82 rfl 0 rfl ?_
                  refine ge_iload X dL_areReads_83 9 rfl ?_
                  refine ge_bipush (v := 10) X dL_areReads_85 (by decide) ?_
                  refine ge_idiv X dL_areReads_87 hv24 kI_10 (by decide) (fun v84 hv84 => ?_)
                  refine ge_iload X dL_areReads_88 9 rfl ?_
                  refine ge_bipush (v := 10) X dL_areReads_90 (by decide) ?_
                  refine ge_irem X dL_areReads_92 hv24 kI_10 (by decide) (fun v85 hv85 => ?_)
                  refine ge_ccall X hra (ok_N11_isKept l D base M25 v84 hv84 v85 hv85) dL_areReads_93 lw915 lw916 lw917 lw19 ⟨lw857, cy_X11_isKept, Nat.le_of_ble_eq_true rfl, Nat.le_of_ble_eq_true rfl⟩ rfl rfl rfl rfl (Nat.le_of_ble_eq_true rfl) ⟨(by show _ ≤ 22; omega), (by show _ ≤ 132; omega)⟩ (fun v87 M86 hv87 => ?_)
                  refine ge_if_eq (tgt := 103) X dL_areReads_96 rfl (bo_i32 hv87) (fun c88 => ?_) (fun c88 => ?_)
                  · refine ge_sub [0, 1, 2, 3, 4, 6, 7, 8, 9] rfl ?_
                    exact hJ103_71 v23 v24 M86 hv23 hv24
                  · refine ge_sub [0, 1, 2, 3, 4, 6, 7, 8, 9] rfl ?_
                    exact hJ99_79 v23 v24 M86 hv23 hv24
      )
      5 4 24 (by decide) (by decide) 1 0 v5 M4 (Or.inr rfl) kI_0 hv5
