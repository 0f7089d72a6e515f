def f_N11_mustBeAttribute (a1 : Int) (M : Mm) : Rs :=
Cl (f_X5_hasAttribute a1 M) fun v2 M1 =>
if ¬ v2 = 0 then (
some (0, M1)) else (
none)
set_option maxRecDepth 20000 in
theorem ok_N11_mustBeAttribute (l : Launch) (D : Dd) (base : Nat) (M : Mm) (a1 : Int) (ha1 : i32 a1) : OkV l D TC 681 base yX11_mustBeAttribute cX11_mustBeAttribute 2 none 1 21 [.ref (base + 0), .int (Ii a1)] M (f_N11_mustBeAttribute a1 M) := by
  refine metV (by decide +kernel) [(0, .ref (base + 0)), (1, .int (Ii a1))] rfl (Nat.le_of_ble_eq_true rfl) (fun p e s m args below meth c X hrt hlk => ?_)
  have X : Cx p s m args c cX11_mustBeAttribute D 2 RX11 := X
  unfold f_N11_mustBeAttribute
  refine go_aload_n X dX11_mustBeAttribute_0 rfl 0 rfl ?_
  refine go_getc (i := 0) X fc11 dX11_mustBeAttribute_1 tcn0 tc0 (Nat.le_of_ble_eq_true rfl) rfl lw639 rfl ?_
  refine go_iload_n X dX11_mustBeAttribute_4 rfl 1 rfl ?_
  refine goI (fun H locs ls r ho hW hL => runV X (ok_X5_hasAttribute l D base M a1 ha1 H.size r ho) dX11_mustBeAttribute_5 lw727 lw728 lw729 lw80 ⟨lw417, cy_X5_hasAttribute, Nat.le_of_ble_eq_true rfl, Nat.le_of_ble_eq_true rfl⟩ rfl tcn1 tc1 rfl rfl rfl rfl (Nat.le_of_ble_eq_true rfl) hW hL hk0) (fun v2 M1 hv2 => ?_)
  refine go_if_ne (tgt := 22) X dX11_mustBeAttribute_8 rfl (bo_i32 hv2) (fun c3 => ?_) (fun c3 => ?_)
  · exact go_vreturn X hrt hlk dX11_mustBeAttribute_22
  · exact go_none
def f_N11_mustBeNode (a1 : Int) (M : Mm) : Rs :=
Lt (fun (M1 : Mm) => 
none) fun J15_2 =>
if a1 < 0 then (
J15_2 M) else (
Lt (M 283 0) fun v4 =>
if a1 < v4 then (
some (0, M)) else (
J15_2 M))
set_option maxRecDepth 20000 in
theorem ok_N11_mustBeNode (l : Launch) (D : Dd) (base : Nat) (M : Mm) (a1 : Int) (ha1 : i32 a1) : OkV l D TC 681 base yX11_mustBeNode cX11_mustBeNode 2 none 0 0 [.ref (base + 0), .int (Ii a1)] M (f_N11_mustBeNode a1 M) := by
  refine metV (by decide +kernel) [(0, .ref (base + 0)), (1, .int (Ii a1))] rfl (Nat.le_of_ble_eq_true rfl) (fun p e s m args below meth c X hrt hlk => ?_)
  have X : Cx p s m args c cX11_mustBeNode D 2 RX11 := X
  unfold f_N11_mustBeNode
  refine go_iload_n X dX11_mustBeNode_0 rfl 1 rfl ?_
  refine go_lt (fun J => ∀ (M1 : Mm), Go p l e (rmO 0 0) s m args below meth c D TC 681 base 2 0 0 (FinV D TC 681 base below args s) M1 15 [] [] (J M1)) (by
      intro M1
      exact go_none
      )
      (fun J15_2 hJ15_2 => ?_)
  refine go_if_lt (tgt := 15) X dX11_mustBeNode_1 rfl ha1 (fun c3 => ?_) (fun c3 => ?_)
  · refine go_sub [] rfl ?_
    exact hJ15_2 M
  · refine go_iload_n X dX11_mustBeNode_4 rfl 1 rfl ?_
    refine go_aload_n X dX11_mustBeNode_5 rfl 0 rfl ?_
    refine go_getc (i := 4) X fc11 dX11_mustBeNode_6 tcn0 tc0 (Nat.le_of_ble_eq_true rfl) rfl lw652 rfl ?_
    refine go_geti (i := 0) X fc8 dX11_mustBeNode_9 tcn283 tc283 (Nat.le_of_ble_eq_true rfl) rfl lw791 rfl (fun v4 hv4 => ?_)
    refine go_icmp_lt (tgt := 26) X dX11_mustBeNode_12 rfl ha1 hv4 (fun c5 => ?_) (fun c5 => ?_)
    · exact go_vreturn X hrt hlk dX11_mustBeNode_26
    · refine go_sub [] rfl ?_
      exact hJ15_2 M
def f_N11_node (a1 : Int) (M : Mm) : Rs :=
Cl (f_N11_mustBeNode a1 M) fun _ M1 =>
Cl (f_X8_readAsOf 283 a1 M1) fun v3 M2 =>
Cl (f_X8_parentOf 283 a1 M2) fun v5 M4 =>
Lt (wr (v5 + 1)) fun v6 =>
Lt (wr (1000 * v6)) fun v7 =>
Lt (wr (10 * v3)) fun v8 =>
Lt (wr (v7 + v8)) fun v9 =>
Cl (f_X5_childCountOf v3 M4) fun v11 M10 =>
Lt (wr (v9 + v11)) fun v12 =>
some (v12, M10)
set_option maxRecDepth 20000 in
theorem ok_N11_node (l : Launch) (D : Dd) (base : Nat) (M : Mm) (a1 : Int) (ha1 : i32 a1) : OkI l D TC 681 base yX11_node cX11_node 3 (some .int) 1 21 [.ref (base + 0), .int (Ii a1)] M i32 (f_N11_node a1 M) := by
  refine metI (by decide +kernel) [(0, .ref (base + 0)), (1, .int (Ii a1))] rfl (Nat.le_of_ble_eq_true rfl) (fun p e s m args below meth c X hrt hlk => ?_)
  have X : Cx p s m args c cX11_node D 3 RX11 := X
  unfold f_N11_node
  refine go_aload_n X dX11_node_0 rfl 0 rfl ?_
  refine go_iload_n X dX11_node_1 rfl 1 rfl ?_
  refine goV (fun H locs ls r ho hW hL => runV X (ok_N11_mustBeNode l D base M a1 ha1 H.size r ho) dX11_node_2 lw828 lw829 lw830 lw19 ⟨lw827, cy_X11_mustBeNode, Nat.le_of_ble_eq_true rfl, Nat.le_of_ble_eq_true rfl⟩ rfl tcn0 tc0 rfl rfl rfl rfl (Nat.le_of_ble_eq_true rfl) hW hL hk0) (fun _ M1 => ?_)
  refine go_aload_n X dX11_node_5 rfl 0 rfl ?_
  refine go_getc (i := 4) X fc11 dX11_node_6 tcn0 tc0 (Nat.le_of_ble_eq_true rfl) rfl lw652 rfl ?_
  refine go_iload_n X dX11_node_9 rfl 1 rfl ?_
  refine goI (fun H locs ls r ho hW hL => runV X (ok_X8_readAsOf l D base M1 283 isT_283 a1 ha1 H.size r ho) dX11_node_10 lw831 lw284 lw285 lw189 ⟨lw277, cy_X8_readAsOf, Nat.le_of_ble_eq_true rfl, Nat.le_of_ble_eq_true rfl⟩ rfl tcn283 tc283 rfl rfl rfl rfl (Nat.le_of_ble_eq_true rfl) hW hL hk0) (fun v3 M2 hv3 => ?_)
  refine go_istore_n (i := 2) (L' := [(2, .int (Ii v3)), (0, .ref (base + 0)), (1, .int (Ii a1))]) X dX11_node_13 rfl (by decide) rfl ?_
  refine go_sipush (v := 1000) X dX11_node_14 (by decide) ?_
  refine go_aload_n X dX11_node_17 rfl 1 rfl ?_
  refine go_getc (i := 4) X fc11 dX11_node_18 tcn0 tc0 (Nat.le_of_ble_eq_true rfl) rfl lw652 rfl ?_
  refine go_iload_n X dX11_node_21 rfl 2 rfl ?_
  refine goI (fun H locs ls r ho hW hL => runV X (ok_X8_parentOf l D base M2 283 isT_283 a1 ha1 H.size r ho) dX11_node_22 lw832 lw228 lw229 lw189 ⟨lw198, cy_X8_parentOf, Nat.le_of_ble_eq_true rfl, Nat.le_of_ble_eq_true rfl⟩ rfl tcn283 tc283 rfl rfl rfl rfl (Nat.le_of_ble_eq_true rfl) hW hL hk0) (fun v5 M4 hv5 => ?_)
  refine go_iconst (v := 1) X dX11_node_25 rfl ?_
  refine go_iadd X dX11_node_26 hv5 kI_1 (fun v6 hv6 => ?_)
  refine go_imul X dX11_node_27 kI_1000 hv6 (fun v7 hv7 => ?_)
  refine go_bipush (v := 10) X dX11_node_28 (by decide) ?_
  refine go_iload_n X dX11_node_30 rfl 0 rfl ?_
  refine go_imul X dX11_node_31 kI_10 hv3 (fun v8 hv8 => ?_)
  refine go_iadd X dX11_node_32 hv7 hv8 (fun v9 hv9 => ?_)
  refine go_aload_n X dX11_node_33 rfl 1 rfl ?_
  refine go_getc (i := 0) X fc11 dX11_node_34 tcn0 tc0 (Nat.le_of_ble_eq_true rfl) rfl lw639 rfl ?_
  refine go_iload_n X dX11_node_37 rfl 0 rfl ?_
  refine goI (fun H locs ls r ho hW hL => runV X (ok_X5_childCountOf l D base M4 v3 hv3 H.size r ho) dX11_node_38 lw709 lw78 lw79 lw80 ⟨lw67, cy_X5_childCountOf, Nat.le_of_ble_eq_true rfl, Nat.le_of_ble_eq_true rfl⟩ rfl tcn1 tc1 rfl rfl rfl rfl (Nat.le_of_ble_eq_true rfl) hW hL hk0) (fun v11 M10 hv11 => ?_)
  refine go_iadd X dX11_node_41 hv9 hv11 (fun v12 hv12 => ?_)
  exact go_ireturn X hrt hlk dX11_node_42 hv12
def f_N11_isKept (a1 : Int) (a2 : Int) (M : Mm) : Rs :=
Cl (f_N11_mustBeNode a1 M) fun _ M1 =>
Cl (f_N11_mustBeAttribute a2 M1) fun _ M2 =>
Cl (f_X11_slotOf a1 a2 M2) fun v4 M3 =>
Cl (f_X3_has 299 v4 M3) fun v6 M5 =>
some (v6, M5)
set_option maxRecDepth 20000 in
theorem ok_N11_isKept (l : Launch) (D : Dd) (base : Nat) (M : Mm) (a1 : Int) (ha1 : i32 a1) (a2 : Int) (ha2 : i32 a2) : OkI l D TC 681 base yX11_isKept cX11_isKept 3 (some .boolean) 2 42 [.ref (base + 0), .int (Ii a1), .int (Ii a2)] M bo (f_N11_isKept a1 a2 M) := by
  refine metI (by decide +kernel) [(0, .ref (base + 0)), (1, .int (Ii a1)), (2, .int (Ii a2))] rfl (Nat.le_of_ble_eq_true rfl) (fun p e s m args below meth c X hrt hlk => ?_)
  have X : Cx p s m args c cX11_isKept D 3 RX11 := X
  unfold f_N11_isKept
  refine go_aload_n X dX11_isKept_0 rfl 0 rfl ?_
  refine go_iload_n X dX11_isKept_1 rfl 1 rfl ?_
  refine goV (fun H locs ls r ho hW hL => runV X (ok_N11_mustBeNode l D base M a1 ha1 H.size r ho) dX11_isKept_2 lw828 lw829 lw830 lw19 ⟨lw827, cy_X11_mustBeNode, Nat.le_of_ble_eq_true rfl, Nat.le_of_ble_eq_true rfl⟩ rfl tcn0 tc0 rfl rfl rfl rfl (Nat.le_of_ble_eq_true rfl) hW hL hk0) (fun _ M1 => ?_)
  refine go_aload_n X dX11_isKept_5 rfl 0 rfl ?_
  refine go_iload_n X dX11_isKept_6 rfl 2 rfl ?_
  refine goV (fun H locs ls r ho hW hL => runV X (ok_N11_mustBeAttribute l D base M1 a2 ha2 H.size r ho) dX11_isKept_7 lw730 lw731 lw732 lw19 ⟨lw726, cy_X11_mustBeAttribute, Nat.le_of_ble_eq_true rfl, Nat.le_of_ble_eq_true rfl⟩ rfl tcn0 tc0 rfl rfl rfl rfl (Nat.le_of_ble_eq_true rfl) hW hL hk0) (fun _ M2 => ?_)
  refine go_aload_n X dX11_isKept_10 rfl 0 rfl ?_
  refine go_getc (i := 6) X fc11 dX11_isKept_11 tcn0 tc0 (Nat.le_of_ble_eq_true rfl) rfl lw656 rfl ?_
  refine go_iload_n X dX11_isKept_14 rfl 1 rfl ?_
  refine go_iload_n X dX11_isKept_15 rfl 2 rfl ?_
  refine goI (fun H locs ls r ho hW hL => runS X (ok_X11_slotOf l D base M2 a1 ha1 a2 ha2 H.size r ho) dX11_isKept_16 lw834 lw241 lw19 ⟨lw159, cy_X11_slotOf, Nat.le_of_ble_eq_true rfl, Nat.le_of_ble_eq_true rfl⟩ rfl rfl (Nat.le_of_ble_eq_true rfl) hW hL hk0) (fun v4 M3 hv4 => ?_)
  refine goI (fun H locs ls r ho hW hL => runV X (ok_X3_has l D base M3 299 isF_299 v4 hv4 H.size r ho) dX11_isKept_19 lw856 lw257 lw258 lw245 ⟨lw160, cy_X3_has, Nat.le_of_ble_eq_true rfl, Nat.le_of_ble_eq_true rfl⟩ rfl tcn299 tc299 rfl rfl rfl rfl (Nat.le_of_ble_eq_true rfl) hW hL hk0) (fun v6 M5 hv6 => ?_)
  exact go_zreturn X hrt hlk dX11_isKept_22 hv6 hv6
def f_N11_value (a1 : Int) (a2 : Int) (M : Mm) : Rs :=
Cl (f_N11_mustBeNode a1 M) fun _ M1 =>
Cl (f_N11_mustBeAttribute a2 M1) fun _ M2 =>
Cl (f_X7_settle M2) fun _ M3 =>
Cl (f_X11_foundWith a1 a2 299 M3) fun v5 M4 =>
some (v5, M4)
set_option maxRecDepth 20000 in
theorem ok_N11_value (l : Launch) (D : Dd) (base : Nat) (M : Mm) (a1 : Int) (ha1 : i32 a1) (a2 : Int) (ha2 : i32 a2) : OkI l D TC 681 base yX11_value cX11_value 3 (some .int) 7 169 [.ref (base + 0), .int (Ii a1), .int (Ii a2)] M i32 (f_N11_value a1 a2 M) := by
  refine metI (by decide +kernel) [(0, .ref (base + 0)), (1, .int (Ii a1)), (2, .int (Ii a2))] rfl (Nat.le_of_ble_eq_true rfl) (fun p e s m args below meth c X hrt hlk => ?_)
  have X : Cx p s m args c cX11_value D 3 RX11 := X
  unfold f_N11_value
  refine go_aload_n X dX11_value_0 rfl 0 rfl ?_
  refine go_iload_n X dX11_value_1 rfl 1 rfl ?_
  refine goV (fun H locs ls r ho hW hL => runV X (ok_N11_mustBeNode l D base M a1 ha1 H.size r ho) dX11_value_2 lw828 lw829 lw830 lw19 ⟨lw827, cy_X11_mustBeNode, Nat.le_of_ble_eq_true rfl, Nat.le_of_ble_eq_true rfl⟩ rfl tcn0 tc0 rfl rfl rfl rfl (Nat.le_of_ble_eq_true rfl) hW hL hk0) (fun _ M1 => ?_)
  refine go_aload_n X dX11_value_5 rfl 0 rfl ?_
  refine go_iload_n X dX11_value_6 rfl 2 rfl ?_
  refine goV (fun H locs ls r ho hW hL => runV X (ok_N11_mustBeAttribute l D base M1 a2 ha2 H.size r ho) dX11_value_7 lw730 lw731 lw732 lw19 ⟨lw726, cy_X11_mustBeAttribute, Nat.le_of_ble_eq_true rfl, Nat.le_of_ble_eq_true rfl⟩ rfl tcn0 tc0 rfl rfl rfl rfl (Nat.le_of_ble_eq_true rfl) hW hL hk0) (fun _ M2 => ?_)
  refine go_aload_n X dX11_value_10 rfl 0 rfl ?_
  refine go_getc (i := 9) X fc11 dX11_value_11 tcn0 tc0 (Nat.le_of_ble_eq_true rfl) rfl lw663 rfl ?_
  refine goV (fun H locs ls r ho hW hL => runV X (ok_X7_settle l D base M2  H.size r ho) dX11_value_14 lw840 lw841 lw842 lw522 ⟨lw527, cy_X7_settle, Nat.le_of_ble_eq_true rfl, Nat.le_of_ble_eq_true rfl⟩ rfl tcn676 tc676 rfl rfl rfl rfl (Nat.le_of_ble_eq_true rfl) hW hL hk0) (fun _ M3 => ?_)
  refine go_aload_n X dX11_value_17 rfl 0 rfl ?_
  refine go_iload_n X dX11_value_18 rfl 1 rfl ?_
  refine go_iload_n X dX11_value_19 rfl 2 rfl ?_
  refine go_aload_n X dX11_value_20 rfl 0 rfl ?_
  refine go_getc (i := 6) X fc11 dX11_value_21 tcn0 tc0 (Nat.le_of_ble_eq_true rfl) rfl lw656 rfl ?_
  refine goI (fun H locs ls r ho hW hL => runV X (ok_X11_foundWith l D base M3 a1 ha1 a2 ha2 299 isF_299 H.size r ho) dX11_value_24 lw846 lw847 lw848 lw19 ⟨lw837, cy_X11_foundWith, Nat.le_of_ble_eq_true rfl, Nat.le_of_ble_eq_true rfl⟩ rfl tcn0 tc0 rfl rfl rfl rfl (Nat.le_of_ble_eq_true rfl) hW hL hk0) (fun v5 M4 hv5 => ?_)
  exact go_ireturn X hrt hlk dX11_value_27 hv5
def f_N11_valueAnew (a1 : Int) (a2 : Int) (M : Mm) : Rs :=
Cl (f_N11_mustBeNode a1 M) fun _ M1 =>
Cl (f_N11_mustBeAttribute a2 M1) fun _ M2 =>
Cl (f_X7_settle M2) fun _ M3 =>
Cl (f_X3_clear 304 M3) fun _ M4 =>
Cl (f_X11_foundWith a1 a2 304 M4) fun v6 M5 =>
some (v6, M5)
set_option maxRecDepth 20000 in
theorem ok_N11_valueAnew (l : Launch) (D : Dd) (base : Nat) (M : Mm) (a1 : Int) (ha1 : i32 a1) (a2 : Int) (ha2 : i32 a2) : OkI l D TC 681 base yX11_valueAnew cX11_valueAnew 3 (some .int) 7 169 [.ref (base + 0), .int (Ii a1), .int (Ii a2)] M i32 (f_N11_valueAnew a1 a2 M) := by
  refine metI (by decide +kernel) [(0, .ref (base + 0)), (1, .int (Ii a1)), (2, .int (Ii a2))] rfl (Nat.le_of_ble_eq_true rfl) (fun p e s m args below meth c X hrt hlk => ?_)
  have X : Cx p s m args c cX11_valueAnew D 3 RX11 := X
  unfold f_N11_valueAnew
  refine go_aload_n X dX11_valueAnew_0 rfl 0 rfl ?_
  refine go_iload_n X dX11_valueAnew_1 rfl 1 rfl ?_
  refine goV (fun H locs ls r ho hW hL => runV X (ok_N11_mustBeNode l D base M a1 ha1 H.size r ho) dX11_valueAnew_2 lw828 lw829 lw830 lw19 ⟨lw827, cy_X11_mustBeNode, Nat.le_of_ble_eq_true rfl, Nat.le_of_ble_eq_true rfl⟩ rfl tcn0 tc0 rfl rfl rfl rfl (Nat.le_of_ble_eq_true rfl) hW hL hk0) (fun _ M1 => ?_)
  refine go_aload_n X dX11_valueAnew_5 rfl 0 rfl ?_
  refine go_iload_n X dX11_valueAnew_6 rfl 2 rfl ?_
  refine goV (fun H locs ls r ho hW hL => runV X (ok_N11_mustBeAttribute l D base M1 a2 ha2 H.size r ho) dX11_valueAnew_7 lw730 lw731 lw732 lw19 ⟨lw726, cy_X11_mustBeAttribute, Nat.le_of_ble_eq_true rfl, Nat.le_of_ble_eq_true rfl⟩ rfl tcn0 tc0 rfl rfl rfl rfl (Nat.le_of_ble_eq_true rfl) hW hL hk0) (fun _ M2 => ?_)
  refine go_aload_n X dX11_valueAnew_10 rfl 0 rfl ?_
  refine go_getc (i := 9) X fc11 dX11_valueAnew_11 tcn0 tc0 (Nat.le_of_ble_eq_true rfl) rfl lw663 rfl ?_
  refine goV (fun H locs ls r ho hW hL => runV X (ok_X7_settle l D base M2  H.size r ho) dX11_valueAnew_14 lw840 lw841 lw842 lw522 ⟨lw527, cy_X7_settle, Nat.le_of_ble_eq_true rfl, Nat.le_of_ble_eq_true rfl⟩ rfl tcn676 tc676 rfl rfl rfl rfl (Nat.le_of_ble_eq_true rfl) hW hL hk0) (fun _ M3 => ?_)
  refine go_aload_n X dX11_valueAnew_17 rfl 0 rfl ?_
  refine go_getc (i := 7) X fc11 dX11_valueAnew_18 tcn0 tc0 (Nat.le_of_ble_eq_true rfl) rfl lw657 rfl ?_
  refine goV (fun H locs ls r ho hW hL => runV X (ok_X3_clear l D base M3 304 isF_304 H.size r ho) dX11_valueAnew_21 lw687 lw515 lw516 lw245 ⟨lw370, cy_X3_clear, Nat.le_of_ble_eq_true rfl, Nat.le_of_ble_eq_true rfl⟩ rfl tcn304 tc304 rfl rfl rfl rfl (Nat.le_of_ble_eq_true rfl) hW hL hk0) (fun _ M4 => ?_)
  refine go_aload_n X dX11_valueAnew_24 rfl 0 rfl ?_
  refine go_iload_n X dX11_valueAnew_25 rfl 1 rfl ?_
  refine go_iload_n X dX11_valueAnew_26 rfl 2 rfl ?_
  refine go_aload_n X dX11_valueAnew_27 rfl 0 rfl ?_
  refine go_getc (i := 7) X fc11 dX11_valueAnew_28 tcn0 tc0 (Nat.le_of_ble_eq_true rfl) rfl lw657 rfl ?_
  refine goI (fun H locs ls r ho hW hL => runV X (ok_X11_foundWith l D base M4 a1 ha1 a2 ha2 304 isF_304 H.size r ho) dX11_valueAnew_31 lw846 lw847 lw848 lw19 ⟨lw837, cy_X11_foundWith, Nat.le_of_ble_eq_true rfl, Nat.le_of_ble_eq_true rfl⟩ rfl tcn0 tc0 rfl rfl rfl rfl (Nat.le_of_ble_eq_true rfl) hW hL hk0) (fun v6 M5 hv6 => ?_)
  exact go_ireturn X hrt hlk dX11_valueAnew_34 hv6
def f_N11_step (a1 : Int) (a2 : Int) (a3 : Int) (M : Mm) : Rs :=
Cl (f_X11_tellsAttribute a1 M) fun v2 M1 =>
Lt (fun (M3 : Mm) => 
Lt (fun (M5 : Mm) => 
none) fun J38_6 =>
if a1 < 0 then (
J38_6 M3) else (
if 15 ≤ a1 then (
J38_6 M3) else (
Cl (f_X11_isRightNumber a1 a2 M3) fun v10 M9 =>
if v10 = 0 then (
J38_6 M9) else (
Cl (f_X11_isRightChild a1 a3 M9) fun v13 M12 =>
if ¬ v13 = 0 then (
Lt (M12 14 4) fun v15 =>
Lt (fun (M16 : Mm) => 
none) fun J74_17 =>
if 8 ≤ v15 then (
J74_17 M12) else (
Lt (M12 14 5) fun v19 =>
Cl (f_X11_operandsOf a1 M12) fun v21 M20 =>
if v21 ≤ v19 then (
Cl (f_X0_append 14 a1 a2 a3 M20) fun _ M23 =>
Lt (M23 14 5) fun v24 =>
some (v24, M23)) else (
J74_17 M20))) else (
J38_6 M12))))) fun J12_4 =>
if v2 = 0 then (
J12_4 M1) else (
Cl (f_N11_mustBeAttribute a2 M1) fun _ M26 =>
J12_4 M26)
set_option maxRecDepth 20000 in
theorem ok_N11_step (l : Launch) (D : Dd) (base : Nat) (M : Mm) (a1 : Int) (ha1 : i32 a1) (a2 : Int) (ha2 : i32 a2) (a3 : Int) (ha3 : i32 a3) : OkI l D TC 681 base yX11_step cX11_step 4 (some .int) 2 49 [.ref (base + 0), .int (Ii a1), .int (Ii a2), .int (Ii a3)] M i32 (f_N11_step a1 a2 a3 M) := by
  refine metI (by decide +kernel) [(0, .ref (base + 0)), (1, .int (Ii a1)), (2, .int (Ii a2)), (3, .int (Ii a3))] rfl (Nat.le_of_ble_eq_true rfl) (fun p e s m args below meth c X hrt hlk => ?_)
  have X : Cx p s m args c cX11_step D 4 RX11 := X
  unfold f_N11_step
  refine go_iload_n X dX11_step_0 rfl 1 rfl ?_
  refine goI (fun H locs ls r ho hW hL => runS X (ok_X11_tellsAttribute l D base M a1 ha1 H.size r ho) dX11_step_1 lw747 lw748 lw19 ⟨lw745, cy_X11_tellsAttribute, Nat.le_of_ble_eq_true rfl, Nat.le_of_ble_eq_true rfl⟩ rfl rfl (Nat.le_of_ble_eq_true rfl) hW hL hk0) (fun v2 M1 hv2 => ?_)
  refine go_lt (fun J => ∀ (M3 : Mm), Go p l e (rmO 2 49) s m args below meth c D TC 681 base 4 0 0 (FinI D TC 681 base below args s i32) M3 12 [(0, .ref (base + 0)), (1, .int (Ii a1)), (2, .int (Ii a2)), (3, .int (Ii a3))] [] (J M3)) (by
      intro M3
      refine go_iload_n X dX11_step_12 rfl 1 rfl ?_
      refine go_lt (fun J => ∀ (M5 : Mm), Go p l e (rmO 2 49) s m args below meth c D TC 681 base 4 0 0 (FinI D TC 681 base below args s i32) M5 38 [] [] (J M5)) (by
          intro M5
          exact go_none
          )
          (fun J38_6 hJ38_6 => ?_)
      refine go_if_lt (tgt := 38) X dX11_step_13 rfl ha1 (fun c7 => ?_) (fun c7 => ?_)
      · refine go_sub [] rfl ?_
        exact hJ38_6 M3
      · refine go_iload_n X dX11_step_16 rfl 1 rfl ?_
        refine go_bipush (v := 15) X dX11_step_17 (by decide) ?_
        refine go_icmp_ge (tgt := 38) X dX11_step_19 rfl ha1 kI_15 (fun c8 => ?_) (fun c8 => ?_)
        · refine go_sub [] rfl ?_
          exact hJ38_6 M3
        · refine go_iload_n X dX11_step_22 rfl 1 rfl ?_
          refine go_iload_n X dX11_step_23 rfl 2 rfl ?_
          refine goI (fun H locs ls r ho hW hL => runS X (ok_X11_isRightNumber l D base M3 a1 ha1 a2 ha2 H.size r ho) dX11_step_24 lw752 lw753 lw19 ⟨lw746, cy_X11_isRightNumber, Nat.le_of_ble_eq_true rfl, Nat.le_of_ble_eq_true rfl⟩ rfl rfl (Nat.le_of_ble_eq_true rfl) hW hL hk0) (fun v10 M9 hv10 => ?_)
          refine go_if_eq (tgt := 38) X dX11_step_27 rfl (bo_i32 hv10) (fun c11 => ?_) (fun c11 => ?_)
          · refine go_sub [] rfl ?_
            exact hJ38_6 M9
          · refine go_iload_n X dX11_step_30 rfl 1 rfl ?_
            refine go_iload_n X dX11_step_31 rfl 3 rfl ?_
            refine goI (fun H locs ls r ho hW hL => runS X (ok_X11_isRightChild l D base M9 a1 ha1 a3 ha3 H.size r ho) dX11_step_32 lw754 lw755 lw19 ⟨lw749, cy_X11_isRightChild, Nat.le_of_ble_eq_true rfl, Nat.le_of_ble_eq_true rfl⟩ rfl rfl (Nat.le_of_ble_eq_true rfl) hW hL hk0) (fun v13 M12 hv13 => ?_)
            refine go_if_ne (tgt := 48) X dX11_step_35 rfl (bo_i32 hv13) (fun c14 => ?_) (fun c14 => ?_)
            · refine go_aload_n X dX11_step_48 rfl 0 rfl ?_
              refine go_getc (i := 1) X fc11 dX11_step_49 tcn0 tc0 (Nat.le_of_ble_eq_true rfl) rfl lw641 rfl ?_
              refine go_geti (i := 4) X fc0 dX11_step_52 tcn14 tc14 (Nat.le_of_ble_eq_true rfl) rfl lw750 rfl (fun v15 hv15 => ?_)
              refine go_bipush (v := 8) X dX11_step_55 (by decide) ?_
              refine go_lt (fun J => ∀ (M16 : Mm), Go p l e (rmO 2 49) s m args below meth c D TC 681 base 4 0 0 (FinI D TC 681 base below args s i32) M16 74 [] [] (J M16)) (by
                  intro M16
                  exact go_none
                  )
                  (fun J74_17 hJ74_17 => ?_)
              refine go_icmp_ge (tgt := 74) X dX11_step_57 rfl hv15 kI_8 (fun c18 => ?_) (fun c18 => ?_)
              · refine go_sub [] rfl ?_
                exact hJ74_17 M12
              · refine go_aload_n X dX11_step_60 rfl 0 rfl ?_
                refine go_getc (i := 1) X fc11 dX11_step_61 tcn0 tc0 (Nat.le_of_ble_eq_true rfl) rfl lw641 rfl ?_
                refine go_geti (i := 5) X fc0 dX11_step_64 tcn14 tc14 (Nat.le_of_ble_eq_true rfl) rfl lw751 rfl (fun v19 hv19 => ?_)
                refine go_iload_n X dX11_step_67 rfl 1 rfl ?_
                refine goI (fun H locs ls r ho hW hL => runS X (ok_X11_operandsOf l D base M12 a1 ha1 H.size r ho) dX11_step_68 lw756 lw18 lw19 ⟨lw12, cy_X11_operandsOf, Nat.le_of_ble_eq_true rfl, Nat.le_of_ble_eq_true rfl⟩ rfl rfl (Nat.le_of_ble_eq_true rfl) hW hL hk0) (fun v21 M20 hv21 => ?_)
                refine go_icmp_ge (tgt := 84) X dX11_step_71 rfl hv19 hv21 (fun c22 => ?_) (fun c22 => ?_)
                · refine go_aload_n X dX11_step_84 rfl 0 rfl ?_
                  refine go_getc (i := 1) X fc11 dX11_step_85 tcn0 tc0 (Nat.le_of_ble_eq_true rfl) rfl lw641 rfl ?_
                  refine go_iload_n X dX11_step_88 rfl 1 rfl ?_
                  refine go_iload_n X dX11_step_89 rfl 2 rfl ?_
                  refine go_iload_n X dX11_step_90 rfl 3 rfl ?_
                  refine goV (fun H locs ls r ho hW hL => runV X (ok_X0_append l D base M20 14 isE_14 a1 ha1 a2 ha2 a3 ha3 H.size r ho) dX11_step_91 lw757 lw758 lw759 lw33 ⟨lw15, cy_X0_append, Nat.le_of_ble_eq_true rfl, Nat.le_of_ble_eq_true rfl⟩ rfl tcn14 tc14 rfl rfl rfl rfl (Nat.le_of_ble_eq_true rfl) hW hL hk0) (fun _ M23 => ?_)
                  refine go_aload_n X dX11_step_94 rfl 0 rfl ?_
                  refine go_getc (i := 1) X fc11 dX11_step_95 tcn0 tc0 (Nat.le_of_ble_eq_true rfl) rfl lw641 rfl ?_
                  refine go_geti (i := 5) X fc0 dX11_step_98 tcn14 tc14 (Nat.le_of_ble_eq_true rfl) rfl lw751 rfl (fun v24 hv24 => ?_)
                  exact go_ireturn X hrt hlk dX11_step_101 hv24
                · refine go_sub [] rfl ?_
                  exact hJ74_17 M20
            · refine go_sub [] rfl ?_
              exact hJ38_6 M12
      )
      (fun J12_4 hJ12_4 => ?_)
  refine go_if_eq (tgt := 12) X dX11_step_4 rfl (bo_i32 hv2) (fun c25 => ?_) (fun c25 => ?_)
  · exact hJ12_4 M1
  · refine go_aload_n X dX11_step_7 rfl 0 rfl ?_
    refine go_iload_n X dX11_step_8 rfl 2 rfl ?_
    refine goV (fun H locs ls r ho hW hL => runV X (ok_N11_mustBeAttribute l D base M1 a2 ha2 H.size r ho) dX11_step_9 lw730 lw731 lw732 lw19 ⟨lw726, cy_X11_mustBeAttribute, Nat.le_of_ble_eq_true rfl, Nat.le_of_ble_eq_true rfl⟩ rfl tcn0 tc0 rfl rfl rfl rfl (Nat.le_of_ble_eq_true rfl) hW hL hk0) (fun _ M26 => ?_)
    exact hJ12_4 M26
