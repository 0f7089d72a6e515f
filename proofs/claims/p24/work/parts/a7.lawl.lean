theorem kI_1331 : i32 (1331) := by decide
theorem kI_21 : i32 (21) := by decide
def f_L_law_L241_66 (N : Nat) (xs : Nat → Int32) (J376_11 : Int → Mm → Rs) (rc241_15 : Int × Int × Mm → Rs) : Int × Int × Mm → Rs := fun (v12, v13, M14) =>
if 60 ≤ v13 then (
J376_11 v12 M14) else (
if v12 = 0 then (
J376_11 v12 M14) else (
Lt (wr (21 * v13)) fun v18 =>
Lt (wr (v18 + 9)) fun v19 =>
Cl (f_L_isLaw N xs v19 M14) fun v21 M20 =>
Lt (fun (v22 : Int) (v23 : Int) (M24 : Mm) => 
Lt (fun (v26 : Int) (v27 : Int) (M28 : Mm) => 
Lt (fun (v30 : Int) (v31 : Int) (M32 : Mm) => 
Lt (wr (v30 + 1)) fun v34 =>
rc241_15 (v31, v34, M32)) fun J368_33 =>
Lt (fun (v35 : Int) (M36 : Mm) => 
J368_33 v35 0 M36) fun J367_37 =>
if v23 = 0 then (
J367_37 v26 M28) else (
if v27 < ((-1)) then (
J367_37 v26 M28) else (
gd (0 ≤ 0 ∧ 0 < 11) <|
Lt (M28 684 0) fun v40 =>
if v40 ≤ v27 then (
J367_37 v26 M28) else (
Clj (f_X11_found M28) M28 fun v43 M42 =>
gd (0 ≤ 6 ∧ 6 < 11) <|
Lt (M42 684 6) fun v44 =>
if ¬ v43 = v44 then (
J367_37 v26 M42) else (
J368_33 v26 1 M42))))) fun J329_29 =>
if v23 = 0 then (
J329_29 v22 0 M24) else (
Clj (f_X11_ringIn M24) M24 fun v48 M47 =>
J329_29 v22 v48 M47)) fun J314_25 =>
Lt (fun (v49 : Int) (M50 : Mm) => 
J314_25 v49 0 M50) fun J313_51 =>
if v21 = 0 then (
J313_51 v13 M20) else (
Clj (f_X11_conflicts M20) M20 fun v54 M53 =>
Cl (f_L_conflicts M53) fun v56 M55 =>
if ¬ v54 = v56 then (
J313_51 v13 M55) else (
Lt (jrem v13 2) fun v58 =>
Lt (fun (v59 : Int) (M60 : Mm) => 
J314_25 v59 1 M60) fun J309_61 =>
if 0 < v58 then (
J309_61 v13 M55) else (
Cl (f_L_isTree M55) fun v64 M63 =>
if v64 = 0 then (
J313_51 v13 M63) else (
J309_61 v13 M63))))))
def f_L_law_L138_102 (N : Nat) (xs : Nat → Int32) (J238_8 : Int → Mm → Rs) (rc138_70 : Int × Int × Mm → Rs) : Int × Int × Mm → Rs := fun (v67, v68, M69) =>
if 3 ≤ v68 then (
J238_8 v67 M69) else (
if v67 = 0 then (
J238_8 v67 M69) else (
Cl (f_L_part N xs v68 1331 M69) fun v74 M73 =>
Lt (wr (v68 + 3)) fun v75 =>
Cl (f_L_part N xs v75 70000 M73) fun v77 M76 =>
Cl (f_L_isProduction v74 v77 M76) fun v79 M78 =>
Lt (fun (v80 : Int) (v81 : Int) (M82 : Mm) => 
Lt (wr (v80 + 6)) fun v84 =>
Cl (f_L_part N xs v84 4 M82) fun v86 M85 =>
gd (0 ≤ v80 ∧ v80 < 6) <|
Lt (up M85 683 v80.toNat v86) fun M87 =>
gd (0 ≤ 1 ∧ 1 < 11) <|
Lt (M87 684 1) fun v88 =>
Lt (wr (v88 + 1)) fun v89 =>
gd (0 ≤ 1 ∧ 1 < 11) <|
Lt (up M87 684 1 v89) fun M90 =>
Lt (wr (v80 + 1)) fun v91 =>
rc138_70 (v81, v91, M90)) fun J207_83 =>
Lt (fun (v92 : Int) (M93 : Mm) => 
J207_83 v92 0 M93) fun J206_94 =>
if v79 = 0 then (
J206_94 v68 M78) else (
Lt (wr (v68 + 6)) fun v96 =>
Cl (f_L_part N xs v96 4 M78) fun v98 M97 =>
Cl (f_L_does 3 v98 0 0 0 0 M97) fun v100 M99 =>
if ¬ v100 = v68 then (
J206_94 v68 M99) else (
J207_83 v68 1 M99))))
def f_L_law (N : Nat) (xs : Nat → Int32) (M : Mm) : Rs :=
Cl (f_L_does 9 0 0 0 0 0 M) fun v2 M1 =>
Lt (fun (v3 : Int) (M4 : Mm) => 
Lt (fun (v6 : Int) (M7 : Mm) => 
Lt (fun (v9 : Int) (M10 : Mm) => 
gd (v9 = 1) (some (v9, M10))) fun J376_11 =>
Lp (f_L_law_L241_66 N xs J376_11) 61 (v6, 0, M7)) fun J238_8 =>
Lp (f_L_law_L138_102 N xs J238_8) 4 (v3, 0, M4)) fun J133_5 =>
Lt (fun (M103 : Mm) => 
J133_5 0 M103) fun J132_104 =>
if ¬ v2 = ((-1000000)) then (
J132_104 M1) else (
Cl (f_L_does 0 4 ((-1)) ((-1)) ((-1)) 0 M1) fun v107 M106 =>
if ¬ v107 = ((-3000000)) then (
J132_104 M106) else (
Cl (f_L_does 0 0 ((-1)) 2 ((-1)) 0 M106) fun v110 M109 =>
if ¬ v110 = ((-2000000)) then (
J132_104 M109) else (
Clj (f_X11_ringIn M109) M109 fun v113 M112 =>
if ¬ v113 = ((-1)) then (
J132_104 M112) else (
Clj (f_X11_dropSteps M112) M112 fun v116 M115 =>
if ¬ v116 = 0 then (
J132_104 M115) else (
Cl (f_L_does 4 8 0 0 0 0 M115) fun v119 M118 =>
if ¬ v119 = ((-1000000)) then (
J132_104 M118) else (
Cl (f_L_does 4 1 0 0 0 0 M118) fun v122 M121 =>
if ¬ v122 = ((-3000000)) then (
J132_104 M121) else (
J133_5 1 M121)))))))
set_option maxRecDepth 20000 in
theorem ok_L_law {p : Program} {l : Launch} {e : Env} {s : State} {m : MethodId} {below : List Frame} {meth : Method} {c : Code} {D : Dd} {base b N : Nat} {xs : Nat → Int32} (hl : l.stackTraces = false) (hN : N ≤ 260) (X : Cx p s m #[Value.ref b] c cL_law D 10 RL) (Y : Yq s #[Value.ref b] b base N xs) (hbs : s.heap.size ≤ base) (hrt : meth.sig.returnType = ret) (hlk : meth.locks = false) (M : Mm) : Go p l e room_1 s m #[Value.ref b] below meth c D TL 686 base 10 700 34200 (fun (_ : Int × Mm) => lw_Z below #[Value.ref b] s) M 36 [(0, .ref b), (1, .ref (base + 0)), (2, .ref (base + 681)), (3, .ref (base + 682)), (4, .ref (base + 683)), (5, .ref (base + 684)), (6, .ref (base + 685))] [] (f_L_law N xs M) := by
  unfold f_L_law
  refine go_aload_n X dL_law_36 rfl 1 rfl ?_
  refine go_bipush (v := 9) X dL_law_37 (by decide) ?_
  refine go_iconst (v := 0) X dL_law_39 rfl ?_
  refine go_iconst (v := 0) X dL_law_40 rfl ?_
  refine go_iconst (v := 0) X dL_law_41 rfl ?_
  refine go_iconst (v := 0) X dL_law_42 rfl ?_
  refine go_iconst (v := 0) X dL_law_43 rfl ?_
  refine go_lcallH X Y (ok_L_does l hl D base b N xs hN M 9 kI_9 0 kI_0 0 kI_0 0 kI_0 0 kI_0 0 kI_0) dL_law_44 lw931 lw932 lw926 lw921 cy_L_does ⟨Nat.le_of_ble_eq_true rfl, Nat.le_of_ble_eq_true rfl⟩ rfl rfl (Nat.le_of_ble_eq_true rfl) ⟨Nat.le_of_ble_eq_true rfl, Nat.le_of_ble_eq_true rfl⟩ (fun v2 M1 hv2 => ?_)
  refine go_ldc (v := (-1000000)) X dL_law_47 lw872 rfl ?_
  refine go_lt (fun J => ∀ (v3 : Int) (M4 : Mm), bo v3 → Go p l e room_1 s m #[Value.ref b] below meth c D TL 686 base 10 715 34290 (fun (_ : Int × Mm) => lw_Z below #[Value.ref b] s) M4 133 [(0, .ref b), (1, .ref (base + 0)), (2, .ref (base + 681)), (3, .ref (base + 682)), (4, .ref (base + 683)), (5, .ref (base + 684)), (6, .ref (base + 685))] [.int (Ii v3)] (J v3 M4)) (by
      intro v3 M4 hv3
      refine go_istore (i := 7) (L' := [(7, .int (Ii v3)), (0, .ref b), (1, .ref (base + 0)), (2, .ref (base + 681)), (3, .ref (base + 682)), (4, .ref (base + 683)), (5, .ref (base + 684)), (6, .ref (base + 685))]) X dL_law_133 (by decide) rfl ?_
      refine go_iconst (v := 0) X dL_law_135 rfl ?_
      refine go_istore (i := 8) (L' := [(8, .int (Ii 0)), (7, .int (Ii v3)), (0, .ref b), (1, .ref (base + 0)), (2, .ref (base + 681)), (3, .ref (base + 682)), (4, .ref (base + 683)), (5, .ref (base + 684)), (6, .ref (base + 685))]) X dL_law_136 (by decide) rfl ?_
      refine go_lt (fun J => ∀ (v6 : Int) (M7 : Mm), bo v6 → Go p l e room_1 s m #[Value.ref b] below meth c D TL 686 base 10 739 34434 (fun (_ : Int × Mm) => lw_Z below #[Value.ref b] s) M7 238 [(0, .ref b), (1, .ref (base + 0)), (2, .ref (base + 681)), (3, .ref (base + 682)), (4, .ref (base + 683)), (5, .ref (base + 684)), (6, .ref (base + 685)), (7, .int (Ii v6))] [] (J v6 M7)) (by
          intro v6 M7 hv6
          refine go_iconst (v := 0) X dL_law_238 rfl ?_
          refine go_istore (i := 8) (L' := [(8, .int (Ii 0)), (0, .ref b), (1, .ref (base + 0)), (2, .ref (base + 681)), (3, .ref (base + 682)), (4, .ref (base + 683)), (5, .ref (base + 684)), (6, .ref (base + 685)), (7, .int (Ii v6))]) X dL_law_239 (by decide) rfl ?_
          refine go_lt (fun J => ∀ (v9 : Int) (M10 : Mm), bo v9 → Go p l e room_1 s m #[Value.ref b] below meth c D TL 686 base 10 4399 56394 (fun (_ : Int × Mm) => lw_Z below #[Value.ref b] s) M10 376 [(7, .int (Ii v9))] [] (J v9 M10)) (by
              intro v9 M10 hv9
              refine go_iload X dL_law_376 0 rfl ?_
              exact go_lret X hrt hlk hbs dL_law_378 (Nat.le_of_ble_eq_true rfl) (Nat.le_of_ble_eq_true rfl)
              )
              (fun J376_11 hJ376_11 => ?_)
          refine go_sub [1, 2, 3, 4, 5, 6, 7, 8, 0] rfl ?_
          exact go_lpk (fun (f : Nat) (rc : Int × Int × Mm → Rs) => ∀ kc ks : Nat, kc + 60 * f ≤ 4399 → ks + 360 * f ≤ 56394 → ∀ (v12 : Int) (v13 : Int) (M14 : Mm), bo v12 → i32 v13 → Go p l e room_1 s m #[Value.ref b] below meth c D TL 686 base 10 kc ks (fun (_ : Int × Mm) => lw_Z below #[Value.ref b] s) M14 241 [(0, .ref b), (1, .ref (base + 0)), (2, .ref (base + 681)), (3, .ref (base + 682)), (4, .ref (base + 683)), (5, .ref (base + 684)), (6, .ref (base + 685)), (7, .int (Ii v12)), (8, .int (Ii v13))] [] (rc (v12, v13, M14)))
              (by intro kc ks hkc hks v12 v13 M14 hv12 hv13; exact go_none)
              (by
              intro f rc241_15 hrc241_15 kc ks hkc hks v12 v13 M14 hv12 hv13
              unfold f_L_law_L241_66
              dsimp only
              refine go_iload X dL_law_241 8 rfl ?_
              refine go_bipush (v := 60) X dL_law_243 (by decide) ?_
              refine go_icmp_ge (tgt := 376) X dL_law_245 rfl hv13 kI_60 (fun c16 => ?_) (fun c16 => ?_)
              · refine go_widen 4399 56394 (by omega) (by omega) ?_
                refine go_sub [7] rfl ?_
                exact hJ376_11 v12 M14 hv12
              · refine go_iload X dL_law_248 7 rfl ?_
                refine go_if_eq (tgt := 376) X dL_law_250 rfl (bo_i32 hv12) (fun c17 => ?_) (fun c17 => ?_)
                · refine go_widen 4399 56394 (by omega) (by omega) ?_
                  refine go_sub [7] rfl ?_
                  exact hJ376_11 v12 M14 hv12
                · refine go_aload_n X dL_law_253 rfl 1 rfl ?_
                  refine go_aload_n X dL_law_254 rfl 0 rfl ?_
                  refine go_bipush (v := 21) X dL_law_255 (by decide) ?_
                  refine go_iload X dL_law_257 8 rfl ?_
                  refine go_imul X dL_law_259 kI_21 hv13 (fun v18 hv18 => ?_)
                  refine go_bipush (v := 9) X dL_law_260 (by decide) ?_
                  refine go_iadd X dL_law_262 hv18 kI_9 (fun v19 hv19 => ?_)
                  refine go_aload_n X dL_law_263 rfl 2 rfl ?_
                  refine go_aload_n X dL_law_264 rfl 3 rfl ?_
                  refine go_aload X dL_law_265 4 rfl ?_
                  refine go_aload X dL_law_267 5 rfl ?_
                  refine go_aload X dL_law_269 6 rfl ?_
                  refine go_lcall X Y (ok_L_isLaw l hl D base b N xs hN M14 v19 hv19) dL_law_271 lw978 lw979 lw926 ⟨lw970, cy_L_isLaw, Nat.le_of_ble_eq_true rfl, Nat.le_of_ble_eq_true rfl⟩ rfl rfl (Nat.le_of_ble_eq_true rfl) ⟨(by show _ ≤ 600086; omega), (by show _ ≤ 7301441; omega)⟩ (fun v21 M20 hv21 => ?_)
                  refine go_lt (fun J => ∀ (v22 : Int) (v23 : Int) (M24 : Mm), i32 v22 → bo v23 → Go p l e room_1 s m #[Value.ref b] below meth c D TL 686 base 10 (kc + 37) (ks + 222) (fun (_ : Int × Mm) => lw_Z below #[Value.ref b] s) M24 314 [(0, .ref b), (1, .ref (base + 0)), (2, .ref (base + 681)), (3, .ref (base + 682)), (4, .ref (base + 683)), (5, .ref (base + 684)), (6, .ref (base + 685)), (8, .int (Ii v22))] [.int (Ii v23)] (J v22 v23 M24)) (by
                      intro v22 v23 M24 hv22 hv23
                      refine go_istore (i := 7) (L' := [(7, .int (Ii v23)), (0, .ref b), (1, .ref (base + 0)), (2, .ref (base + 681)), (3, .ref (base + 682)), (4, .ref (base + 683)), (5, .ref (base + 684)), (6, .ref (base + 685)), (8, .int (Ii v22))]) X dL_law_314 (by decide) rfl ?_
                      refine go_iload X dL_law_316 0 rfl ?_
                      refine go_lt (fun J => ∀ (v26 : Int) (v27 : Int) (M28 : Mm), i32 v26 → i32 v27 → Go p l e room_1 s m #[Value.ref b] below meth c D TL 686 base 10 (kc + 37) (ks + 222) (fun (_ : Int × Mm) => lw_Z below #[Value.ref b] s) M28 329 [(0, .ref b), (1, .ref (base + 0)), (2, .ref (base + 681)), (3, .ref (base + 682)), (4, .ref (base + 683)), (5, .ref (base + 684)), (6, .ref (base + 685)), (7, .int (Ii v23)), (8, .int (Ii v26))] [.int (Ii v27)] (J v26 v27 M28)) (by
                          intro v26 v27 M28 hv26 hv27
                          refine go_istore (i := 9) (L' := [(9, .int (Ii v27)), (0, .ref b), (1, .ref (base + 0)), (2, .ref (base + 681)), (3, .ref (base + 682)), (4, .ref (base + 683)), (5, .ref (base + 684)), (6, .ref (base + 685)), (7, .int (Ii v23)), (8, .int (Ii v26))]) X dL_law_329 (by decide) rfl ?_
                          refine go_iload X dL_law_331 8 rfl ?_
                          refine go_lt (fun J => ∀ (v30 : Int) (v31 : Int) (M32 : Mm), i32 v30 → bo v31 → Go p l e room_1 s m #[Value.ref b] below meth c D TL 686 base 10 (kc + 37) (ks + 222) (fun (_ : Int × Mm) => lw_Z below #[Value.ref b] s) M32 368 [(0, .ref b), (1, .ref (base + 0)), (2, .ref (base + 681)), (3, .ref (base + 682)), (4, .ref (base + 683)), (5, .ref (base + 684)), (6, .ref (base + 685)), (8, .int (Ii v30))] [.int (Ii v31)] (J v30 v31 M32)) (by
                              intro v30 v31 M32 hv30 hv31
                              refine go_istore (i := 7) (L' := [(7, .int (Ii v31)), (0, .ref b), (1, .ref (base + 0)), (2, .ref (base + 681)), (3, .ref (base + 682)), (4, .ref (base + 683)), (5, .ref (base + 684)), (6, .ref (base + 685)), (8, .int (Ii v30))]) X dL_law_368 (by decide) rfl ?_
                              refine go_iinc (i := 8) (L' := fun v => [(8, .int (Ii v)), (7, .int (Ii v31)), (0, .ref b), (1, .ref (base + 0)), (2, .ref (base + 681)), (3, .ref (base + 682)), (4, .ref (base + 683)), (5, .ref (base + 684)), (6, .ref (base + 685))]) X dL_law_370 hv30 kI_1 (j := 8) rfl (by decide) (fun _ => rfl) (fun v34 hv34 => ?_)
                              refine go_goto (tgt := 241) X dL_law_373 rfl ?_
                              refine go_sub [2, 3, 4, 5, 6, 7, 8, 1, 0] rfl ?_
                              exact hrc241_15 (kc + 37) (ks + 222) (by omega) (by omega) v31 v34 M32 hv31 hv34
                              )
                              (fun J368_33 hJ368_33 => ?_)
                          refine go_lt (fun J => ∀ (v35 : Int) (M36 : Mm), i32 v35 → Go p l e room_1 s m #[Value.ref b] below meth c D TL 686 base 10 (kc + 37) (ks + 222) (fun (_ : Int × Mm) => lw_Z below #[Value.ref b] s) M36 367 [(0, .ref b), (1, .ref (base + 0)), (2, .ref (base + 681)), (3, .ref (base + 682)), (4, .ref (base + 683)), (5, .ref (base + 684)), (6, .ref (base + 685)), (8, .int (Ii v35))] [] (J v35 M36)) (by
                              intro v35 M36 hv35
                              refine go_iconst (v := 0) X dL_law_367 rfl ?_
                              exact hJ368_33 v35 0 M36 hv35 (Or.inl rfl)
                              )
                              (fun J367_37 hJ367_37 => ?_)
                          refine go_if_eq (tgt := 367) X dL_law_333 rfl (bo_i32 hv23) (fun c38 => ?_) (fun c38 => ?_)
                          · refine go_sub [1, 2, 3, 4, 5, 6, 7, 9] rfl ?_
                            exact hJ367_37 v26 M28 hv26
                          · refine go_iload X dL_law_336 0 rfl ?_
                            refine go_iconst (v := (-1)) X dL_law_338 rfl ?_
                            refine go_icmp_lt (tgt := 367) X dL_law_339 rfl hv27 kI_m1 (fun c39 => ?_) (fun c39 => ?_)
                            · refine go_sub [1, 2, 3, 4, 5, 6, 7, 9] rfl ?_
                              exact hJ367_37 v26 M28 hv26
                            · refine go_iload X dL_law_342 0 rfl ?_
                              refine go_aload X dL_law_344 6 rfl ?_
                              refine go_iconst (v := 0) X dL_law_346 rfl ?_
                              refine go_iaload X dL_law_347 tln684 tl684 kI_0 (fun v40 hv40 => ?_)
                              refine go_icmp_ge (tgt := 367) X dL_law_348 rfl hv27 hv40 (fun c41 => ?_) (fun c41 => ?_)
                              · refine go_sub [1, 2, 3, 4, 5, 6, 7, 9] rfl ?_
                                exact hJ367_37 v26 M28 hv26
                              · refine go_aload_n X dL_law_351 rfl 2 rfl ?_
                                refine go_ccall X (ok_X11_found l D base M28 ) dL_law_352 lw938 lw939 lw940 lw19 ⟨lw854, cy_X11_found, Nat.le_of_ble_eq_true rfl, Nat.le_of_ble_eq_true rfl⟩ rfl rfl rfl rfl (Nat.le_of_ble_eq_true rfl) ⟨(by show _ ≤ 600086; omega), (by show _ ≤ 7301441; omega)⟩ (fun v43 M42 hv43 => ?_)
                                refine go_aload X dL_law_355 6 rfl ?_
                                refine go_bipush (v := 6) X dL_law_357 (by decide) ?_
                                refine go_iaload X dL_law_359 tln684 tl684 kI_6 (fun v44 hv44 => ?_)
                                refine go_icmp_ne (tgt := 367) X dL_law_360 rfl hv43 hv44 (fun c45 => ?_) (fun c45 => ?_)
                                · refine go_sub [1, 2, 3, 4, 5, 6, 7, 9] rfl ?_
                                  exact hJ367_37 v26 M42 hv26
                                · refine go_iconst (v := 1) X dL_law_363 rfl ?_
                                  refine go_goto (tgt := 368) X dL_law_364 rfl ?_
                                  refine go_sub [1, 2, 3, 4, 5, 6, 7, 9] rfl ?_
                                  exact hJ368_33 v26 1 M42 hv26 (Or.inr rfl)
                          )
                          (fun J329_29 hJ329_29 => ?_)
                      refine go_if_eq (tgt := 328) X dL_law_318 rfl (bo_i32 hv23) (fun c46 => ?_) (fun c46 => ?_)
                      · refine go_iconst (v := 0) X dL_law_328 rfl ?_
                        refine go_sub [1, 2, 3, 4, 5, 6, 7, 0, 8] rfl ?_
                        exact hJ329_29 v22 0 M24 hv22 kI_0
                      · refine go_aload_n X dL_law_321 rfl 2 rfl ?_
                        refine go_ccall X (ok_X11_ringIn l D base M24 ) dL_law_322 lw975 lw976 lw977 lw19 ⟨lw790, cy_X11_ringIn, Nat.le_of_ble_eq_true rfl, Nat.le_of_ble_eq_true rfl⟩ rfl rfl rfl rfl (Nat.le_of_ble_eq_true rfl) ⟨(by show _ ≤ 600086; omega), (by show _ ≤ 7301441; omega)⟩ (fun v48 M47 hv48 => ?_)
                        refine go_goto (tgt := 329) X dL_law_325 rfl ?_
                        refine go_sub [1, 2, 3, 4, 5, 6, 7, 0, 8] rfl ?_
                        exact hJ329_29 v22 v48 M47 hv22 hv48
                      )
                      (fun J314_25 hJ314_25 => ?_)
                  refine go_lt (fun J => ∀ (v49 : Int) (M50 : Mm), i32 v49 → Go p l e room_1 s m #[Value.ref b] below meth c D TL 686 base 10 (kc + 37) (ks + 222) (fun (_ : Int × Mm) => lw_Z below #[Value.ref b] s) M50 313 [(0, .ref b), (1, .ref (base + 0)), (2, .ref (base + 681)), (3, .ref (base + 682)), (4, .ref (base + 683)), (5, .ref (base + 684)), (6, .ref (base + 685)), (8, .int (Ii v49))] [] (J v49 M50)) (by
                      intro v49 M50 hv49
                      refine go_iconst (v := 0) X dL_law_313 rfl ?_
                      exact hJ314_25 v49 0 M50 hv49 (Or.inl rfl)
                      )
                      (fun J313_51 hJ313_51 => ?_)
                  refine go_if_eq (tgt := 313) X dL_law_274 rfl (bo_i32 hv21) (fun c52 => ?_) (fun c52 => ?_)
                  · refine go_widen (kc + 37) (ks + 222) (by omega) (by omega) ?_
                    refine go_sub [0, 1, 2, 3, 4, 5, 6, 8] rfl ?_
                    exact hJ313_51 v13 M20 hv13
                  · refine go_aload_n X dL_law_277 rfl 1 rfl ?_
                    refine go_ccall X (ok_X11_conflicts l D base M20 ) dL_law_278 lw980 lw981 lw982 lw19 ⟨lw786, cy_X11_conflicts, Nat.le_of_ble_eq_true rfl, Nat.le_of_ble_eq_true rfl⟩ rfl rfl rfl rfl (Nat.le_of_ble_eq_true rfl) ⟨(by show _ ≤ 600086; omega), (by show _ ≤ 7301441; omega)⟩ (fun v54 M53 hv54 => ?_)
                    refine go_aload_n X dL_law_281 rfl 3 rfl ?_
                    refine go_aload X dL_law_282 5 rfl ?_
                    refine goI (fun H locs ls r ho hW hL => runS X (ok_L_conflicts l D base M53  H.size r ho) dL_law_284 lw983 lw984 lw926 ⟨lw943, cy_L_conflicts, Nat.le_of_ble_eq_true rfl, Nat.le_of_ble_eq_true rfl⟩ rfl rfl (Nat.le_of_ble_eq_true rfl) hW hL ⟨(by show _ ≤ 600086; omega), (by show _ ≤ 7301441; omega)⟩) (fun v56 M55 hv56 => ?_)
                    refine go_icmp_ne (tgt := 313) X dL_law_287 rfl hv54 hv56 (fun c57 => ?_) (fun c57 => ?_)
                    · refine go_widen (kc + 37) (ks + 222) (by omega) (by omega) ?_
                      refine go_sub [0, 1, 2, 3, 4, 5, 6, 8] rfl ?_
                      exact hJ313_51 v13 M55 hv13
                    · refine go_iload X dL_law_290 8 rfl ?_
                      refine go_iconst (v := 2) X dL_law_292 rfl ?_
                      refine go_irem X dL_law_293 hv13 kI_2 (by decide) (fun v58 hv58 => ?_)
                      refine go_lt (fun J => ∀ (v59 : Int) (M60 : Mm), i32 v59 → Go p l e room_1 s m #[Value.ref b] below meth c D TL 686 base 10 (kc + 37) (ks + 222) (fun (_ : Int × Mm) => lw_Z below #[Value.ref b] s) M60 309 [(0, .ref b), (1, .ref (base + 0)), (2, .ref (base + 681)), (3, .ref (base + 682)), (4, .ref (base + 683)), (5, .ref (base + 684)), (6, .ref (base + 685)), (8, .int (Ii v59))] [] (J v59 M60)) (by
                          intro v59 M60 hv59
                          refine go_iconst (v := 1) X dL_law_309 rfl ?_
                          refine go_goto (tgt := 314) X dL_law_310 rfl ?_
                          exact hJ314_25 v59 1 M60 hv59 (Or.inr rfl)
                          )
                          (fun J309_61 hJ309_61 => ?_)
                      refine go_if_gt (tgt := 309) X dL_law_294 rfl hv58 (fun c62 => ?_) (fun c62 => ?_)
                      · refine go_widen (kc + 37) (ks + 222) (by omega) (by omega) ?_
                        refine go_sub [0, 1, 2, 3, 4, 5, 6, 8] rfl ?_
                        exact hJ309_61 v13 M55 hv13
                      · refine go_aload_n X dL_law_297 rfl 1 rfl ?_
                        refine go_aload_n X dL_law_298 rfl 2 rfl ?_
                        refine go_aload X dL_law_299 5 rfl ?_
                        refine go_aload X dL_law_301 6 rfl ?_
                        refine go_lcall X Y (ok_L_isTree l hl D base b N xs hN M55 ) dL_law_303 lw985 lw986 lw926 ⟨lw937, cy_L_isTree, Nat.le_of_ble_eq_true rfl, Nat.le_of_ble_eq_true rfl⟩ rfl rfl (Nat.le_of_ble_eq_true rfl) ⟨(by show _ ≤ 600086; omega), (by show _ ≤ 7301441; omega)⟩ (fun v64 M63 hv64 => ?_)
                        refine go_if_eq (tgt := 313) X dL_law_306 rfl (bo_i32 hv64) (fun c65 => ?_) (fun c65 => ?_)
                        · refine go_sub [0, 1, 2, 3, 4, 5, 6, 8] rfl ?_
                          exact hJ313_51 v13 M63 hv13
                        · refine go_sub [0, 1, 2, 3, 4, 5, 6, 8] rfl ?_
                          exact hJ309_61 v13 M63 hv13
              )
              61 739 34434 (by decide) (by decide) v6 0 M7 hv6 kI_0
          )
          (fun J238_8 hJ238_8 => ?_)
      refine go_sub [2, 3, 4, 5, 6, 7, 8, 1, 0] rfl ?_
      exact go_lpk (fun (f : Nat) (rc : Int × Int × Mm → Rs) => ∀ kc ks : Nat, kc + 6 * f ≤ 739 → ks + 36 * f ≤ 34434 → ∀ (v67 : Int) (v68 : Int) (M69 : Mm), bo v67 → i32 v68 → Go p l e room_1 s m #[Value.ref b] below meth c D TL 686 base 10 kc ks (fun (_ : Int × Mm) => lw_Z below #[Value.ref b] s) M69 138 [(0, .ref b), (1, .ref (base + 0)), (2, .ref (base + 681)), (3, .ref (base + 682)), (4, .ref (base + 683)), (5, .ref (base + 684)), (6, .ref (base + 685)), (7, .int (Ii v67)), (8, .int (Ii v68))] [] (rc (v67, v68, M69)))
          (by intro kc ks hkc hks v67 v68 M69 hv67 hv68; exact go_none)
          (by
          intro f rc138_70 hrc138_70 kc ks hkc hks v67 v68 M69 hv67 hv68
          unfold f_L_law_L138_102
          dsimp only
          refine go_iload X dL_law_138 8 rfl ?_
          refine go_iconst (v := 3) X dL_law_140 rfl ?_
          refine go_icmp_ge (tgt := 238) X dL_law_141 rfl hv68 kI_3 (fun c71 => ?_) (fun c71 => ?_)
          · refine go_widen 739 34434 (by omega) (by omega) ?_
            refine go_sub [0, 1, 2, 3, 4, 5, 6, 7] rfl ?_
            exact hJ238_8 v67 M69 hv67
          · refine go_iload X dL_law_144 7 rfl ?_
            refine go_if_eq (tgt := 238) X dL_law_146 rfl (bo_i32 hv67) (fun c72 => ?_) (fun c72 => ?_)
            · refine go_widen 739 34434 (by omega) (by omega) ?_
              refine go_sub [0, 1, 2, 3, 4, 5, 6, 7] rfl ?_
              exact hJ238_8 v67 M69 hv67
            · refine go_aload_n X dL_law_149 rfl 1 rfl ?_
              refine go_aload_n X dL_law_150 rfl 2 rfl ?_
              refine go_aload X dL_law_151 5 rfl ?_
              refine go_aload_n X dL_law_153 rfl 0 rfl ?_
              refine go_iload X dL_law_154 8 rfl ?_
              refine go_sipush (v := 1331) X dL_law_156 (by decide) ?_
              refine go_lcall X Y (ok_L_part l hl D base b N xs hN M69 v68 hv68 1331 kI_1331) dL_law_159 lw945 lw946 lw926 ⟨lw865, cy_L_part, Nat.le_of_ble_eq_true rfl, Nat.le_of_ble_eq_true rfl⟩ rfl rfl (Nat.le_of_ble_eq_true rfl) ⟨(by show _ ≤ 600086; omega), (by show _ ≤ 7301441; omega)⟩ (fun v74 M73 hv74 => ?_)
              refine go_aload_n X dL_law_162 rfl 0 rfl ?_
              refine go_iload X dL_law_163 8 rfl ?_
              refine go_iconst (v := 3) X dL_law_165 rfl ?_
              refine go_iadd X dL_law_166 hv68 kI_3 (fun v75 hv75 => ?_)
              refine go_ldc (v := 70000) X dL_law_167 lw957 rfl ?_
              refine go_lcall X Y (ok_L_part l hl D base b N xs hN M73 v75 hv75 70000 kI_70000) dL_law_169 lw945 lw946 lw926 ⟨lw865, cy_L_part, Nat.le_of_ble_eq_true rfl, Nat.le_of_ble_eq_true rfl⟩ rfl rfl (Nat.le_of_ble_eq_true rfl) ⟨(by show _ ≤ 600086; omega), (by show _ ≤ 7301441; omega)⟩ (fun v77 M76 hv77 => ?_)
              refine go_lcall X Y (ok_L_isProduction l hl D base b N xs hN M76 v74 hv74 v77 hv77) dL_law_172 lw958 lw959 lw926 ⟨lw944, cy_L_isProduction, Nat.le_of_ble_eq_true rfl, Nat.le_of_ble_eq_true rfl⟩ rfl rfl (Nat.le_of_ble_eq_true rfl) ⟨(by show _ ≤ 600086; omega), (by show _ ≤ 7301441; omega)⟩ (fun v79 M78 hv79 => ?_)
              refine go_lt (fun J => ∀ (v80 : Int) (v81 : Int) (M82 : Mm), i32 v80 → bo v81 → Go p l e room_1 s m #[Value.ref b] below meth c D TL 686 base 10 (kc + 6) (ks + 36) (fun (_ : Int × Mm) => lw_Z below #[Value.ref b] s) M82 207 [(0, .ref b), (1, .ref (base + 0)), (2, .ref (base + 681)), (3, .ref (base + 682)), (4, .ref (base + 683)), (5, .ref (base + 684)), (6, .ref (base + 685)), (8, .int (Ii v80))] [.int (Ii v81)] (J v80 v81 M82)) (by
                  intro v80 v81 M82 hv80 hv81
                  refine go_istore (i := 7) (L' := [(7, .int (Ii v81)), (0, .ref b), (1, .ref (base + 0)), (2, .ref (base + 681)), (3, .ref (base + 682)), (4, .ref (base + 683)), (5, .ref (base + 684)), (6, .ref (base + 685)), (8, .int (Ii v80))]) X dL_law_207 (by decide) rfl ?_
                  refine go_aload X dL_law_209 5 rfl ?_
                  refine go_iload X dL_law_211 8 rfl ?_
                  refine go_aload_n X dL_law_213 rfl 1 rfl ?_
                  refine go_iload X dL_law_214 8 rfl ?_
                  refine go_bipush (v := 6) X dL_law_216 (by decide) ?_
                  refine go_iadd X dL_law_218 hv80 kI_6 (fun v84 hv84 => ?_)
                  refine go_iconst (v := 4) X dL_law_219 rfl ?_
                  refine go_lcall X Y (ok_L_part l hl D base b N xs hN M82 v84 hv84 4 kI_4) dL_law_220 lw945 lw946 lw926 ⟨lw865, cy_L_part, Nat.le_of_ble_eq_true rfl, Nat.le_of_ble_eq_true rfl⟩ rfl rfl (Nat.le_of_ble_eq_true rfl) ⟨(by show _ ≤ 600086; omega), (by show _ ≤ 7301441; omega)⟩ (fun v86 M85 hv86 => ?_)
                  refine go_iastore X dL_law_223 tln683 tl683 hv80 hv86 (fun M87 => ?_)
                  refine go_aload X dL_law_224 6 rfl ?_
                  refine go_iconst (v := 1) X dL_law_226 rfl ?_
                  refine go_dup2 X dL_law_227 rfl rfl ?_
                  refine go_iaload X dL_law_228 tln684 tl684 kI_1 (fun v88 hv88 => ?_)
                  refine go_iconst (v := 1) X dL_law_229 rfl ?_
                  refine go_iadd X dL_law_230 hv88 kI_1 (fun v89 hv89 => ?_)
                  refine go_iastore X dL_law_231 tln684 tl684 kI_1 hv89 (fun M90 => ?_)
                  refine go_iinc (i := 8) (L' := fun v => [(8, .int (Ii v)), (7, .int (Ii v81)), (0, .ref b), (1, .ref (base + 0)), (2, .ref (base + 681)), (3, .ref (base + 682)), (4, .ref (base + 683)), (5, .ref (base + 684)), (6, .ref (base + 685))]) X dL_law_232 hv80 kI_1 (j := 8) rfl (by decide) (fun _ => rfl) (fun v91 hv91 => ?_)
                  refine go_goto (tgt := 138) X dL_law_235 rfl ?_
                  refine go_sub [2, 3, 4, 5, 6, 7, 8, 1, 0] rfl ?_
                  exact hrc138_70 (kc + 6) (ks + 36) (by omega) (by omega) v81 v91 M90 hv81 hv91
                  )
                  (fun J207_83 hJ207_83 => ?_)
              refine go_lt (fun J => ∀ (v92 : Int) (M93 : Mm), i32 v92 → Go p l e room_1 s m #[Value.ref b] below meth c D TL 686 base 10 (kc + 6) (ks + 36) (fun (_ : Int × Mm) => lw_Z below #[Value.ref b] s) M93 206 [(0, .ref b), (1, .ref (base + 0)), (2, .ref (base + 681)), (3, .ref (base + 682)), (4, .ref (base + 683)), (5, .ref (base + 684)), (6, .ref (base + 685)), (8, .int (Ii v92))] [] (J v92 M93)) (by
                  intro v92 M93 hv92
                  refine go_iconst (v := 0) X dL_law_206 rfl ?_
                  exact hJ207_83 v92 0 M93 hv92 (Or.inl rfl)
                  )
                  (fun J206_94 hJ206_94 => ?_)
              refine go_if_eq (tgt := 206) X dL_law_175 rfl (bo_i32 hv79) (fun c95 => ?_) (fun c95 => ?_)
              · refine go_widen (kc + 6) (ks + 36) (by omega) (by omega) ?_
                refine go_sub [0, 1, 2, 3, 4, 5, 6, 8] rfl ?_
                exact hJ206_94 v68 M78 hv68
              · refine go_aload_n X dL_law_178 rfl 1 rfl ?_
                refine go_iconst (v := 3) X dL_law_179 rfl ?_
                refine go_aload_n X dL_law_180 rfl 0 rfl ?_
                refine go_iload X dL_law_181 8 rfl ?_
                refine go_bipush (v := 6) X dL_law_183 (by decide) ?_
                refine go_iadd X dL_law_185 hv68 kI_6 (fun v96 hv96 => ?_)
                refine go_iconst (v := 4) X dL_law_186 rfl ?_
                refine go_lcall X Y (ok_L_part l hl D base b N xs hN M78 v96 hv96 4 kI_4) dL_law_187 lw945 lw946 lw926 ⟨lw865, cy_L_part, Nat.le_of_ble_eq_true rfl, Nat.le_of_ble_eq_true rfl⟩ rfl rfl (Nat.le_of_ble_eq_true rfl) ⟨(by show _ ≤ 600086; omega), (by show _ ≤ 7301441; omega)⟩ (fun v98 M97 hv98 => ?_)
                refine go_iconst (v := 0) X dL_law_190 rfl ?_
                refine go_iconst (v := 0) X dL_law_191 rfl ?_
                refine go_iconst (v := 0) X dL_law_192 rfl ?_
                refine go_iconst (v := 0) X dL_law_193 rfl ?_
                refine go_lcallH X Y (ok_L_does l hl D base b N xs hN M97 3 kI_3 v98 hv98 0 kI_0 0 kI_0 0 kI_0 0 kI_0) dL_law_194 lw931 lw932 lw926 lw921 cy_L_does ⟨Nat.le_of_ble_eq_true rfl, Nat.le_of_ble_eq_true rfl⟩ rfl rfl (Nat.le_of_ble_eq_true rfl) ⟨(by show _ ≤ 600086; omega), (by show _ ≤ 7301441; omega)⟩ (fun v100 M99 hv100 => ?_)
                refine go_iload X dL_law_197 8 rfl ?_
                refine go_icmp_ne (tgt := 206) X dL_law_199 rfl hv100 hv68 (fun c101 => ?_) (fun c101 => ?_)
                · refine go_sub [0, 1, 2, 3, 4, 5, 6, 8] rfl ?_
                  exact hJ206_94 v68 M99 hv68
                · refine go_iconst (v := 1) X dL_law_202 rfl ?_
                  refine go_goto (tgt := 207) X dL_law_203 rfl ?_
                  refine go_sub [0, 1, 2, 3, 4, 5, 6, 8] rfl ?_
                  exact hJ207_83 v68 1 M99 hv68 (Or.inr rfl)
          )
          4 715 34290 (by decide) (by decide) v3 0 M4 hv3 kI_0
      )
      (fun J133_5 hJ133_5 => ?_)
  refine go_lt (fun J => ∀ (M103 : Mm), Go p l e room_1 s m #[Value.ref b] below meth c D TL 686 base 10 715 34290 (fun (_ : Int × Mm) => lw_Z below #[Value.ref b] s) M103 132 [(0, .ref b), (1, .ref (base + 0)), (2, .ref (base + 681)), (3, .ref (base + 682)), (4, .ref (base + 683)), (5, .ref (base + 684)), (6, .ref (base + 685))] [] (J M103)) (by
      intro M103
      refine go_iconst (v := 0) X dL_law_132 rfl ?_
      exact hJ133_5 0 M103 (Or.inl rfl)
      )
      (fun J132_104 hJ132_104 => ?_)
  refine go_icmp_ne (tgt := 132) X dL_law_49 rfl hv2 kI_m1000000 (fun c105 => ?_) (fun c105 => ?_)
  · refine go_widen 715 34290 (by decide) (by decide) ?_
    exact hJ132_104 M1
  · refine go_aload_n X dL_law_52 rfl 1 rfl ?_
    refine go_iconst (v := 0) X dL_law_53 rfl ?_
    refine go_iconst (v := 4) X dL_law_54 rfl ?_
    refine go_iconst (v := (-1)) X dL_law_55 rfl ?_
    refine go_iconst (v := (-1)) X dL_law_56 rfl ?_
    refine go_iconst (v := (-1)) X dL_law_57 rfl ?_
    refine go_iconst (v := 0) X dL_law_58 rfl ?_
    refine go_lcallH X Y (ok_L_does l hl D base b N xs hN M1 0 kI_0 4 kI_4 ((-1)) kI_m1 ((-1)) kI_m1 ((-1)) kI_m1 0 kI_0) dL_law_59 lw931 lw932 lw926 lw921 cy_L_does ⟨Nat.le_of_ble_eq_true rfl, Nat.le_of_ble_eq_true rfl⟩ rfl rfl (Nat.le_of_ble_eq_true rfl) ⟨Nat.le_of_ble_eq_true rfl, Nat.le_of_ble_eq_true rfl⟩ (fun v107 M106 hv107 => ?_)
    refine go_ldc (v := (-3000000)) X dL_law_62 lw870 rfl ?_
    refine go_icmp_ne (tgt := 132) X dL_law_64 rfl hv107 kI_m3000000 (fun c108 => ?_) (fun c108 => ?_)
    · refine go_widen 715 34290 (by decide) (by decide) ?_
      exact hJ132_104 M106
    · refine go_aload_n X dL_law_67 rfl 1 rfl ?_
      refine go_iconst (v := 0) X dL_law_68 rfl ?_
      refine go_iconst (v := 0) X dL_law_69 rfl ?_
      refine go_iconst (v := (-1)) X dL_law_70 rfl ?_
      refine go_iconst (v := 2) X dL_law_71 rfl ?_
      refine go_iconst (v := (-1)) X dL_law_72 rfl ?_
      refine go_iconst (v := 0) X dL_law_73 rfl ?_
      refine go_lcallH X Y (ok_L_does l hl D base b N xs hN M106 0 kI_0 0 kI_0 ((-1)) kI_m1 2 kI_2 ((-1)) kI_m1 0 kI_0) dL_law_74 lw931 lw932 lw926 lw921 cy_L_does ⟨Nat.le_of_ble_eq_true rfl, Nat.le_of_ble_eq_true rfl⟩ rfl rfl (Nat.le_of_ble_eq_true rfl) ⟨Nat.le_of_ble_eq_true rfl, Nat.le_of_ble_eq_true rfl⟩ (fun v110 M109 hv110 => ?_)
      refine go_ldc (v := (-2000000)) X dL_law_77 lw871 rfl ?_
      refine go_icmp_ne (tgt := 132) X dL_law_79 rfl hv110 kI_m2000000 (fun c111 => ?_) (fun c111 => ?_)
      · refine go_widen 715 34290 (by decide) (by decide) ?_
        exact hJ132_104 M109
      · refine go_aload_n X dL_law_82 rfl 1 rfl ?_
        refine go_ccall X (ok_X11_ringIn l D base M109 ) dL_law_83 lw975 lw976 lw977 lw19 ⟨lw790, cy_X11_ringIn, Nat.le_of_ble_eq_true rfl, Nat.le_of_ble_eq_true rfl⟩ rfl rfl rfl rfl (Nat.le_of_ble_eq_true rfl) ⟨Nat.le_of_ble_eq_true rfl, Nat.le_of_ble_eq_true rfl⟩ (fun v113 M112 hv113 => ?_)
        refine go_iconst (v := (-1)) X dL_law_86 rfl ?_
        refine go_icmp_ne (tgt := 132) X dL_law_87 rfl hv113 kI_m1 (fun c114 => ?_) (fun c114 => ?_)
        · refine go_widen 715 34290 (by decide) (by decide) ?_
          exact hJ132_104 M112
        · refine go_aload_n X dL_law_90 rfl 1 rfl ?_
          refine go_ccall X (ok_X11_dropSteps l D base M112 ) dL_law_91 lw947 lw948 lw949 lw19 ⟨lw761, cy_X11_dropSteps, Nat.le_of_ble_eq_true rfl, Nat.le_of_ble_eq_true rfl⟩ rfl rfl rfl rfl (Nat.le_of_ble_eq_true rfl) ⟨Nat.le_of_ble_eq_true rfl, Nat.le_of_ble_eq_true rfl⟩ (fun v116 M115 hv116 => ?_)
          refine go_if_ne (tgt := 132) X dL_law_94 rfl hv116 (fun c117 => ?_) (fun c117 => ?_)
          · refine go_widen 715 34290 (by decide) (by decide) ?_
            exact hJ132_104 M115
          · refine go_aload_n X dL_law_97 rfl 1 rfl ?_
            refine go_iconst (v := 4) X dL_law_98 rfl ?_
            refine go_bipush (v := 8) X dL_law_99 (by decide) ?_
            refine go_iconst (v := 0) X dL_law_101 rfl ?_
            refine go_iconst (v := 0) X dL_law_102 rfl ?_
            refine go_iconst (v := 0) X dL_law_103 rfl ?_
            refine go_iconst (v := 0) X dL_law_104 rfl ?_
            refine go_lcallH X Y (ok_L_does l hl D base b N xs hN M115 4 kI_4 8 kI_8 0 kI_0 0 kI_0 0 kI_0 0 kI_0) dL_law_105 lw931 lw932 lw926 lw921 cy_L_does ⟨Nat.le_of_ble_eq_true rfl, Nat.le_of_ble_eq_true rfl⟩ rfl rfl (Nat.le_of_ble_eq_true rfl) ⟨Nat.le_of_ble_eq_true rfl, Nat.le_of_ble_eq_true rfl⟩ (fun v119 M118 hv119 => ?_)
            refine go_ldc (v := (-1000000)) X dL_law_108 lw872 rfl ?_
            refine go_icmp_ne (tgt := 132) X dL_law_110 rfl hv119 kI_m1000000 (fun c120 => ?_) (fun c120 => ?_)
            · refine go_widen 715 34290 (by decide) (by decide) ?_
              exact hJ132_104 M118
            · refine go_aload_n X dL_law_113 rfl 1 rfl ?_
              refine go_iconst (v := 4) X dL_law_114 rfl ?_
              refine go_iconst (v := 1) X dL_law_115 rfl ?_
              refine go_iconst (v := 0) X dL_law_116 rfl ?_
              refine go_iconst (v := 0) X dL_law_117 rfl ?_
              refine go_iconst (v := 0) X dL_law_118 rfl ?_
              refine go_iconst (v := 0) X dL_law_119 rfl ?_
              refine go_lcallH X Y (ok_L_does l hl D base b N xs hN M118 4 kI_4 1 kI_1 0 kI_0 0 kI_0 0 kI_0 0 kI_0) dL_law_120 lw931 lw932 lw926 lw921 cy_L_does ⟨Nat.le_of_ble_eq_true rfl, Nat.le_of_ble_eq_true rfl⟩ rfl rfl (Nat.le_of_ble_eq_true rfl) ⟨Nat.le_of_ble_eq_true rfl, Nat.le_of_ble_eq_true rfl⟩ (fun v122 M121 hv122 => ?_)
              refine go_ldc (v := (-3000000)) X dL_law_123 lw870 rfl ?_
              refine go_icmp_ne (tgt := 132) X dL_law_125 rfl hv122 kI_m3000000 (fun c123 => ?_) (fun c123 => ?_)
              · exact hJ132_104 M121
              · refine go_iconst (v := 1) X dL_law_128 rfl ?_
                refine go_goto (tgt := 133) X dL_law_129 rfl ?_
                exact hJ133_5 1 M121 (Or.inr rfl)
