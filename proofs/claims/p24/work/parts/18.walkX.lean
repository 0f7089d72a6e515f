def f_X11_mustBeAttribute (a1 : Int) (M : Mm) : Rx :=
Cl (f_X5_hasAttribute a1 M) fun v2 M1 =>
if ¬ v2 = 0 then (
some (0, 0, M1)) else (
some (1, 0, M1))
theorem cy_X11_mustBeAttribute : yX11_mustBeAttribute.cls ≠ "java/lang/invoke/MethodHandle" ∧ yX11_mustBeAttribute.cls ≠ "java/lang/invoke/VarHandle" ∧ (parseMethodDescriptor yX11_mustBeAttribute.desc).map (fun d => d.parameters.length) = some 1 := ⟨by decide +kernel, by decide +kernel, by decide +kernel⟩
set_option maxRecDepth 20000 in
theorem ok_X11_mustBeAttribute (l : Launch) (hl : l.stackTraces = false) (D : Dd) (base b0 : Nat) (hb : b0 ≤ base) (M : Mm) (a1 : Int) (ha1 : i32 a1) : OkXv l D TC 681 base b0 yX11_mustBeAttribute cX11_mustBeAttribute 2 none 6 82 1 6 [.ref (base + 0), .int (Ii a1)] M (f_X11_mustBeAttribute a1 M) := by
  refine metXv hl (by decide +kernel) [(0, .ref (base + 0)), (1, .int (Ii a1))] rfl (Nat.le_of_ble_eq_true rfl) (fun p e s m args below meth c X Z hbs hrt hlk => ?_) (by decide)
  have X : Cx p s m args c cX11_mustBeAttribute D 2 RX11 := X
  unfold f_X11_mustBeAttribute
  refine go_aload_n X dX11_mustBeAttribute_0 rfl 0 rfl ?_
  refine go_getc (i := 0) X fc11 dX11_mustBeAttribute_1 tcn0 tc0 (Nat.le_of_ble_eq_true rfl) rfl lw639 rfl ?_
  refine go_iload_n X dX11_mustBeAttribute_4 rfl 1 rfl ?_
  refine goI (fun H locs ls r ho hW hL => runV X (ok_X5_hasAttribute l D base M a1 ha1 H.size r ho) dX11_mustBeAttribute_5 lw727 lw728 lw729 lw80 ⟨lw417, cy_X5_hasAttribute, Nat.le_of_ble_eq_true rfl, Nat.le_of_ble_eq_true rfl⟩ rfl tcn1 tc1 rfl rfl rfl rfl (Nat.le_of_ble_eq_true rfl) hW hL hk0) (fun v2 M1 hv2 => ?_)
  refine go_if_ne (tgt := 22) X dX11_mustBeAttribute_8 rfl (bo_i32 hv2) (fun c3 => ?_) (fun c3 => ?_)
  · exact go_xvreturn X hrt hlk dX11_mustBeAttribute_22 (Nat.le_of_ble_eq_true rfl) (Nat.le_of_ble_eq_true rfl)
  · exact go_throwWV (kc := 0) (ks := 0) (tx := "no such attribute") X Z ⟨hb, hbs⟩ xd1 (List.mem_of_getElem? (i := 7) rfl) dX11_mustBeAttribute_11 dX11_mustBeAttribute_14 dX11_mustBeAttribute_15 dX11_mustBeAttribute_18 dX11_mustBeAttribute_21 ⟨Nat.le_of_ble_eq_true rfl, Nat.le_of_ble_eq_true rfl, Nat.le_of_ble_eq_true rfl, Nat.le_of_ble_eq_true rfl⟩ (Nat.le_of_ble_eq_true rfl) (Nat.le_of_ble_eq_true rfl)
def f_X11_mustBeAspect (a1 : Int) (M : Mm) : Rx :=
Lt (fun (M1 : Mm) => 
some (1, 0, M1)) fun J9_2 =>
if a1 < 0 then (
J9_2 M) else (
if a1 < 4 then (
some (0, 0, M)) else (
J9_2 M))
theorem cy_X11_mustBeAspect : yX11_mustBeAspect.cls ≠ "java/lang/invoke/MethodHandle" ∧ yX11_mustBeAspect.cls ≠ "java/lang/invoke/VarHandle" ∧ (parseMethodDescriptor yX11_mustBeAspect.desc).map (fun d => d.parameters.length) = some 1 := ⟨by decide +kernel, by decide +kernel, by decide +kernel⟩
set_option maxRecDepth 20000 in
theorem ok_X11_mustBeAspect (l : Launch) (hl : l.stackTraces = false) (D : Dd) (base b0 : Nat) (hb : b0 ≤ base) (M : Mm) (a1 : Int) (ha1 : i32 a1) : OkXv l D TC 681 base b0 yX11_mustBeAspect cX11_mustBeAspect 2 none 6 82 1 6 [.ref (base + 0), .int (Ii a1)] M (f_X11_mustBeAspect a1 M) := by
  refine metXv hl (by decide +kernel) [(0, .ref (base + 0)), (1, .int (Ii a1))] rfl (Nat.le_of_ble_eq_true rfl) (fun p e s m args below meth c X Z hbs hrt hlk => ?_) (by decide)
  have X : Cx p s m args c cX11_mustBeAspect D 2 RX11 := X
  unfold f_X11_mustBeAspect
  refine go_iload_n X dX11_mustBeAspect_0 rfl 1 rfl ?_
  refine go_lt (fun J => ∀ (M1 : Mm), Go p l e (rmX 6 82 1 6) s m args below meth c D TC 681 base 2 0 0 (FinXv D TC 681 base 1 6 below args s) M1 9 [] [] (J M1)) (by
      intro M1
      exact go_throwWV (kc := 0) (ks := 0) (tx := "no such aspect") X Z ⟨hb, hbs⟩ xd1 (List.mem_of_getElem? (i := 12) rfl) dX11_mustBeAspect_9 dX11_mustBeAspect_12 dX11_mustBeAspect_13 dX11_mustBeAspect_16 dX11_mustBeAspect_19 ⟨Nat.le_of_ble_eq_true rfl, Nat.le_of_ble_eq_true rfl, Nat.le_of_ble_eq_true rfl, Nat.le_of_ble_eq_true rfl⟩ (Nat.le_of_ble_eq_true rfl) (Nat.le_of_ble_eq_true rfl)
      )
      (fun J9_2 hJ9_2 => ?_)
  refine go_if_lt (tgt := 9) X dX11_mustBeAspect_1 rfl ha1 (fun c3 => ?_) (fun c3 => ?_)
  · refine go_sub [] rfl ?_
    exact hJ9_2 M
  · refine go_iload_n X dX11_mustBeAspect_4 rfl 1 rfl ?_
    refine go_iconst (v := 4) X dX11_mustBeAspect_5 rfl ?_
    refine go_icmp_lt (tgt := 20) X dX11_mustBeAspect_6 rfl ha1 kI_4 (fun c4 => ?_) (fun c4 => ?_)
    · exact go_xvreturn X hrt hlk dX11_mustBeAspect_20 (Nat.le_of_ble_eq_true rfl) (Nat.le_of_ble_eq_true rfl)
    · refine go_sub [] rfl ?_
      exact hJ9_2 M
def f_X11_mustBeNode (a1 : Int) (M : Mm) : Rx :=
Lt (fun (M1 : Mm) => 
some (1, 0, M1)) fun J15_2 =>
if a1 < 0 then (
J15_2 M) else (
Lt (M 283 0) fun v4 =>
if a1 < v4 then (
some (0, 0, M)) else (
J15_2 M))
theorem cy_X11_mustBeNode : yX11_mustBeNode.cls ≠ "java/lang/invoke/MethodHandle" ∧ yX11_mustBeNode.cls ≠ "java/lang/invoke/VarHandle" ∧ (parseMethodDescriptor yX11_mustBeNode.desc).map (fun d => d.parameters.length) = some 1 := ⟨by decide +kernel, by decide +kernel, by decide +kernel⟩
set_option maxRecDepth 20000 in
theorem ok_X11_mustBeNode (l : Launch) (hl : l.stackTraces = false) (D : Dd) (base b0 : Nat) (hb : b0 ≤ base) (M : Mm) (a1 : Int) (ha1 : i32 a1) : OkXv l D TC 681 base b0 yX11_mustBeNode cX11_mustBeNode 2 none 6 82 1 6 [.ref (base + 0), .int (Ii a1)] M (f_X11_mustBeNode a1 M) := by
  refine metXv hl (by decide +kernel) [(0, .ref (base + 0)), (1, .int (Ii a1))] rfl (Nat.le_of_ble_eq_true rfl) (fun p e s m args below meth c X Z hbs hrt hlk => ?_) (by decide)
  have X : Cx p s m args c cX11_mustBeNode D 2 RX11 := X
  unfold f_X11_mustBeNode
  refine go_iload_n X dX11_mustBeNode_0 rfl 1 rfl ?_
  refine go_lt (fun J => ∀ (M1 : Mm), Go p l e (rmX 6 82 1 6) s m args below meth c D TC 681 base 2 0 0 (FinXv D TC 681 base 1 6 below args s) M1 15 [] [] (J M1)) (by
      intro M1
      exact go_throwWV (kc := 0) (ks := 0) (tx := "no such node") X Z ⟨hb, hbs⟩ xd1 (List.mem_of_getElem? (i := 20) rfl) dX11_mustBeNode_15 dX11_mustBeNode_18 dX11_mustBeNode_19 dX11_mustBeNode_22 dX11_mustBeNode_25 ⟨Nat.le_of_ble_eq_true rfl, Nat.le_of_ble_eq_true rfl, Nat.le_of_ble_eq_true rfl, Nat.le_of_ble_eq_true rfl⟩ (Nat.le_of_ble_eq_true rfl) (Nat.le_of_ble_eq_true rfl)
      )
      (fun J15_2 hJ15_2 => ?_)
  refine go_if_lt (tgt := 15) X dX11_mustBeNode_1 rfl ha1 (fun c3 => ?_) (fun c3 => ?_)
  · refine go_sub [] rfl ?_
    exact hJ15_2 M
  · refine go_iload_n X dX11_mustBeNode_4 rfl 1 rfl ?_
    refine go_aload_n X dX11_mustBeNode_5 rfl 0 rfl ?_
    refine go_getc (i := 4) X fc11 dX11_mustBeNode_6 tcn0 tc0 (Nat.le_of_ble_eq_true rfl) rfl lw652 rfl ?_
    refine go_geti (i := 0) X fc8 dX11_mustBeNode_9 tcn283 tc283 (Nat.le_of_ble_eq_true rfl) rfl lw791 rfl (fun v4 hv4 => ?_)
    refine go_icmp_lt (tgt := 26) X dX11_mustBeNode_12 rfl ha1 hv4 (fun c5 => ?_) (fun c5 => ?_)
    · exact go_xvreturn X hrt hlk dX11_mustBeNode_26 (Nat.le_of_ble_eq_true rfl) (Nat.le_of_ble_eq_true rfl)
    · refine go_sub [] rfl ?_
      exact hJ15_2 M
def f_X11_production (a1 : Int) (a2 : Int) (a3 : Int) (a4 : Int) (M : Mm) : Rx :=
Lt (fun (M1 : Mm) => 
some (1, 0, M1)) fun J9_2 =>
if a1 < 0 then (
J9_2 M) else (
if a1 < 4 then (
Cl (f_X11_followsAsSymbol a2 1 M) fun v6 M5 =>
Lt (fun (M7 : Mm) => 
some (2, 0, M7)) fun J60_8 =>
if v6 = 0 then (
J60_8 M5) else (
Lt (fun (v10 : Int) (M11 : Mm) => 
Cl (f_X11_followsAsSymbol a3 v10 M11) fun v14 M13 =>
if v14 = 0 then (
J60_8 M13) else (
Lt (fun (v16 : Int) (M17 : Mm) => 
Cl (f_X11_followsAsSymbol a4 v16 M17) fun v20 M19 =>
if ¬ v20 = 0 then (
Lt (M19 1 0) fun v22 =>
if v22 < 10 then (
Cl (f_X5_addProduction a1 a2 a3 a4 M19) fun v25 M24 =>
Cl (f_X11_followGrammar M24) fun _ M26 =>
some (0, v25, M26)) else (
some (3, 0, M19))) else (
J60_8 M19)) fun J54_18 =>
if a3 < 0 then (
J54_18 0 M13) else (
J54_18 1 M13))) fun J37_12 =>
if a2 < 0 then (
J37_12 0 M5) else (
J37_12 1 M5))) else (
J9_2 M))
theorem cy_X11_production : yX11_production.cls ≠ "java/lang/invoke/MethodHandle" ∧ yX11_production.cls ≠ "java/lang/invoke/VarHandle" ∧ (parseMethodDescriptor yX11_production.desc).map (fun d => d.parameters.length) = some 4 := ⟨by decide +kernel, by decide +kernel, by decide +kernel⟩
set_option maxRecDepth 20000 in
theorem ok_X11_production (l : Launch) (hl : l.stackTraces = false) (D : Dd) (base b0 : Nat) (hb : b0 ≤ base) (M : Mm) (a1 : Int) (ha1 : i32 a1) (a2 : Int) (ha2 : i32 a2) (a3 : Int) (ha3 : i32 a3) (a4 : Int) (ha4 : i32 a4) : OkXi l D TC 681 base b0 yX11_production cX11_production 6 (some .int) 6 136 1 6 [.ref (base + 0), .int (Ii a1), .int (Ii a2), .int (Ii a3), .int (Ii a4)] M i32 (f_X11_production a1 a2 a3 a4 M) := by
  refine metXi hl (by decide +kernel) [(0, .ref (base + 0)), (1, .int (Ii a1)), (2, .int (Ii a2)), (3, .int (Ii a3)), (4, .int (Ii a4))] rfl (Nat.le_of_ble_eq_true rfl) (fun p e s m args below meth c X Z hbs hrt hlk => ?_) (by decide)
  have X : Cx p s m args c cX11_production D 6 RX11 := X
  unfold f_X11_production
  refine go_iload_n X dX11_production_0 rfl 1 rfl ?_
  refine go_lt (fun J => ∀ (M1 : Mm), Go p l e (rmX 6 136 1 6) s m args below meth c D TC 681 base 6 0 0 (FinXi D TC 681 base 1 6 below args s i32) M1 9 [] [] (J M1)) (by
      intro M1
      exact go_throwI (kc := 0) (ks := 0) (tx := "no such nonterminal") X Z ⟨hb, hbs⟩ xd1 (List.mem_of_getElem? (i := 0) rfl) dX11_production_9 dX11_production_12 dX11_production_13 dX11_production_15 dX11_production_18 ⟨Nat.le_of_ble_eq_true rfl, Nat.le_of_ble_eq_true rfl, Nat.le_of_ble_eq_true rfl, Nat.le_of_ble_eq_true rfl⟩ (Nat.le_of_ble_eq_true rfl) (Nat.le_of_ble_eq_true rfl)
      )
      (fun J9_2 hJ9_2 => ?_)
  refine go_if_lt (tgt := 9) X dX11_production_1 rfl ha1 (fun c3 => ?_) (fun c3 => ?_)
  · refine go_sub [] rfl ?_
    exact hJ9_2 M
  · refine go_iload_n X dX11_production_4 rfl 1 rfl ?_
    refine go_iconst (v := 4) X dX11_production_5 rfl ?_
    refine go_icmp_lt (tgt := 19) X dX11_production_6 rfl ha1 kI_4 (fun c4 => ?_) (fun c4 => ?_)
    · refine go_iload_n X dX11_production_19 rfl 2 rfl ?_
      refine go_iconst (v := 1) X dX11_production_20 rfl ?_
      refine goI (fun H locs ls r ho hW hL => runS X (ok_X11_followsAsSymbol l D base M a2 ha2 1 (Or.inr rfl) H.size r ho) dX11_production_21 lw699 lw700 lw19 ⟨lw683, cy_X11_followsAsSymbol, Nat.le_of_ble_eq_true rfl, Nat.le_of_ble_eq_true rfl⟩ rfl rfl (Nat.le_of_ble_eq_true rfl) hW hL hk0) (fun v6 M5 hv6 => ?_)
      refine go_lt (fun J => ∀ (M7 : Mm), Go p l e (rmX 6 136 1 6) s m args below meth c D TC 681 base 6 0 0 (FinXi D TC 681 base 1 6 below args s i32) M7 60 [] [] (J M7)) (by
          intro M7
          exact go_throwI (kc := 0) (ks := 0) (tx := "a symbol is out of range") X Z ⟨hb, hbs⟩ xd2 (List.mem_of_getElem? (i := 1) rfl) dX11_production_60 dX11_production_63 dX11_production_64 dX11_production_66 dX11_production_69 ⟨Nat.le_of_ble_eq_true rfl, Nat.le_of_ble_eq_true rfl, Nat.le_of_ble_eq_true rfl, Nat.le_of_ble_eq_true rfl⟩ (Nat.le_of_ble_eq_true rfl) (Nat.le_of_ble_eq_true rfl)
          )
          (fun J60_8 hJ60_8 => ?_)
      refine go_if_eq (tgt := 60) X dX11_production_24 rfl (bo_i32 hv6) (fun c9 => ?_) (fun c9 => ?_)
      · refine go_sub [] rfl ?_
        exact hJ60_8 M5
      · refine go_iload_n X dX11_production_27 rfl 3 rfl ?_
        refine go_iload_n X dX11_production_28 rfl 2 rfl ?_
        refine go_lt (fun J => ∀ (v10 : Int) (M11 : Mm), bo v10 → Go p l e (rmX 6 136 1 6) s m args below meth c D TC 681 base 6 0 0 (FinXi D TC 681 base 1 6 below args s i32) M11 37 [(0, .ref (base + 0)), (1, .int (Ii a1)), (2, .int (Ii a2)), (3, .int (Ii a3)), (4, .int (Ii a4))] [.int (Ii v10), .int (Ii a3)] (J v10 M11)) (by
            intro v10 M11 hv10
            refine goI (fun H locs ls r ho hW hL => runS X (ok_X11_followsAsSymbol l D base M11 a3 ha3 v10 hv10 H.size r ho) dX11_production_37 lw699 lw700 lw19 ⟨lw683, cy_X11_followsAsSymbol, Nat.le_of_ble_eq_true rfl, Nat.le_of_ble_eq_true rfl⟩ rfl rfl (Nat.le_of_ble_eq_true rfl) hW hL hk0) (fun v14 M13 hv14 => ?_)
            refine go_if_eq (tgt := 60) X dX11_production_40 rfl (bo_i32 hv14) (fun c15 => ?_) (fun c15 => ?_)
            · refine go_sub [] rfl ?_
              exact hJ60_8 M13
            · refine go_iload X dX11_production_43 4 rfl ?_
              refine go_iload_n X dX11_production_45 rfl 3 rfl ?_
              refine go_lt (fun J => ∀ (v16 : Int) (M17 : Mm), bo v16 → Go p l e (rmX 6 136 1 6) s m args below meth c D TC 681 base 6 0 0 (FinXi D TC 681 base 1 6 below args s i32) M17 54 [(0, .ref (base + 0)), (1, .int (Ii a1)), (2, .int (Ii a2)), (3, .int (Ii a3)), (4, .int (Ii a4))] [.int (Ii v16), .int (Ii a4)] (J v16 M17)) (by
                  intro v16 M17 hv16
                  refine goI (fun H locs ls r ho hW hL => runS X (ok_X11_followsAsSymbol l D base M17 a4 ha4 v16 hv16 H.size r ho) dX11_production_54 lw699 lw700 lw19 ⟨lw683, cy_X11_followsAsSymbol, Nat.le_of_ble_eq_true rfl, Nat.le_of_ble_eq_true rfl⟩ rfl rfl (Nat.le_of_ble_eq_true rfl) hW hL hk0) (fun v20 M19 hv20 => ?_)
                  refine go_if_ne (tgt := 70) X dX11_production_57 rfl (bo_i32 hv20) (fun c21 => ?_) (fun c21 => ?_)
                  · refine go_aload_n X dX11_production_70 rfl 0 rfl ?_
                    refine go_getc (i := 0) X fc11 dX11_production_71 tcn0 tc0 (Nat.le_of_ble_eq_true rfl) rfl lw639 rfl ?_
                    refine go_geti (i := 0) X fc5 dX11_production_74 tcn1 tc1 (Nat.le_of_ble_eq_true rfl) rfl lw698 rfl (fun v22 hv22 => ?_)
                    refine go_bipush (v := 10) X dX11_production_77 (by decide) ?_
                    refine go_icmp_lt (tgt := 92) X dX11_production_79 rfl hv22 kI_10 (fun c23 => ?_) (fun c23 => ?_)
                    · refine go_aload_n X dX11_production_92 rfl 0 rfl ?_
                      refine go_getc (i := 0) X fc11 dX11_production_93 tcn0 tc0 (Nat.le_of_ble_eq_true rfl) rfl lw639 rfl ?_
                      refine go_iload_n X dX11_production_96 rfl 1 rfl ?_
                      refine go_iload_n X dX11_production_97 rfl 2 rfl ?_
                      refine go_iload_n X dX11_production_98 rfl 3 rfl ?_
                      refine go_iload X dX11_production_99 4 rfl ?_
                      refine goI (fun H locs ls r ho hW hL => runV X (ok_X5_addProduction l D base M19 a1 ha1 a2 ha2 a3 ha3 a4 ha4 H.size r ho) dX11_production_101 lw701 lw702 lw703 lw80 ⟨lw403, cy_X5_addProduction, Nat.le_of_ble_eq_true rfl, Nat.le_of_ble_eq_true rfl⟩ rfl tcn1 tc1 rfl rfl rfl rfl (Nat.le_of_ble_eq_true rfl) hW hL hk0) (fun v25 M24 hv25 => ?_)
                      refine go_istore (i := 5) (L' := [(5, .int (Ii v25)), (0, .ref (base + 0)), (1, .int (Ii a1)), (2, .int (Ii a2)), (3, .int (Ii a3)), (4, .int (Ii a4))]) X dX11_production_104 (by decide) rfl ?_
                      refine go_aload_n X dX11_production_106 rfl 1 rfl ?_
                      refine goV (fun H locs ls r ho hW hL => runV X (ok_X11_followGrammar l D base M24  H.size r ho) dX11_production_107 lw704 lw705 lw706 lw19 ⟨lw691, cy_X11_followGrammar, Nat.le_of_ble_eq_true rfl, Nat.le_of_ble_eq_true rfl⟩ rfl tcn0 tc0 rfl rfl rfl rfl (Nat.le_of_ble_eq_true rfl) hW hL hk0) (fun _ M26 => ?_)
                      refine go_iload X dX11_production_110 0 rfl ?_
                      exact go_xireturn X hrt hlk dX11_production_112 hv25 (Nat.le_of_ble_eq_true rfl) (Nat.le_of_ble_eq_true rfl)
                    · exact go_throwI (kc := 0) (ks := 0) (tx := "there are 10 productions") X Z ⟨hb, hbs⟩ xd3 (List.mem_of_getElem? (i := 2) rfl) dX11_production_82 dX11_production_85 dX11_production_86 dX11_production_88 dX11_production_91 ⟨Nat.le_of_ble_eq_true rfl, Nat.le_of_ble_eq_true rfl, Nat.le_of_ble_eq_true rfl, Nat.le_of_ble_eq_true rfl⟩ (Nat.le_of_ble_eq_true rfl) (Nat.le_of_ble_eq_true rfl)
                  · refine go_sub [] rfl ?_
                    exact hJ60_8 M19
                  )
                  (fun J54_18 hJ54_18 => ?_)
              refine go_if_lt (tgt := 53) X dX11_production_46 rfl ha3 (fun c27 => ?_) (fun c27 => ?_)
              · refine go_iconst (v := 0) X dX11_production_53 rfl ?_
                exact hJ54_18 0 M13 (Or.inl rfl)
              · refine go_iconst (v := 1) X dX11_production_49 rfl ?_
                refine go_goto (tgt := 54) X dX11_production_50 rfl ?_
                exact hJ54_18 1 M13 (Or.inr rfl)
            )
            (fun J37_12 hJ37_12 => ?_)
        refine go_if_lt (tgt := 36) X dX11_production_29 rfl ha2 (fun c28 => ?_) (fun c28 => ?_)
        · refine go_iconst (v := 0) X dX11_production_36 rfl ?_
          exact hJ37_12 0 M5 (Or.inl rfl)
        · refine go_iconst (v := 1) X dX11_production_32 rfl ?_
          refine go_goto (tgt := 37) X dX11_production_33 rfl ?_
          exact hJ37_12 1 M5 (Or.inr rfl)
    · refine go_sub [] rfl ?_
      exact hJ9_2 M
def f_X11_forward (a1 : Int) (a2 : Int) (a3 : Int) (a4 : Int) (a5 : Int) (M : Mm) : Rx :=
Cl (f_X5_hasProduction a1 M) fun v2 M1 =>
Lt (fun (M3 : Mm) => 
some (1, 0, M3)) fun J27_4 =>
if v2 = 0 then (
J27_4 M1) else (
Lt (fun (M6 : Mm) => 
Cl (f_X11_standsByChild a1 a2 0 a3 M6) fun v9 M8 =>
Lt (fun (M10 : Mm) => 
some (1, 0, M10)) fun J72_11 =>
if v9 = 0 then (
J72_11 M8) else (
Cl (f_X11_standsByChild a1 a2 1 a4 M8) fun v14 M13 =>
if v14 = 0 then (
J72_11 M13) else (
Cl (f_X11_standsByChild a1 a2 2 a5 M13) fun v17 M16 =>
if ¬ v17 = 0 then (
Lt (fun (M19 : Mm) => 
some (2, 0, M19)) fun J111_20 =>
if a2 = a1 then (
J111_20 M16) else (
Lt (fun (M22 : Mm) => 
Cl (f_X11_standsRightly a1 a2 0 a3 M22) fun v25 M24 =>
Lt (fun (M26 : Mm) => 
some (2, 0, M26)) fun J156_27 =>
if v25 = 0 then (
J156_27 M24) else (
Cl (f_X11_standsRightly a1 a2 1 a4 M24) fun v30 M29 =>
if v30 = 0 then (
J156_27 M29) else (
Cl (f_X11_standsRightly a1 a2 2 a5 M29) fun v33 M32 =>
if ¬ v33 = 0 then (
Cl (f_X5_tellForward a1 a2 a3 a4 a5 M32) fun v36 M35 =>
Cl (f_X11_followGrammar M35) fun _ M37 =>
some (0, v36, M37)) else (
J156_27 M32)))) fun J121_23 =>
if a2 = ((-1)) then (
J121_23 M16) else (
Cl (f_X5_headOf a2 M16) fun v40 M39 =>
Cl (f_X5_headOf a1 M39) fun v42 M41 =>
if v40 = v42 then (
J121_23 M41) else (
J111_20 M41)))) else (
J72_11 M16)))) fun J37_7 =>
if a2 = ((-1)) then (
J37_7 M1) else (
Cl (f_X5_hasProduction a2 M1) fun v46 M45 =>
if ¬ v46 = 0 then (
J37_7 M45) else (
J27_4 M45)))
theorem cy_X11_forward : yX11_forward.cls ≠ "java/lang/invoke/MethodHandle" ∧ yX11_forward.cls ≠ "java/lang/invoke/VarHandle" ∧ (parseMethodDescriptor yX11_forward.desc).map (fun d => d.parameters.length) = some 5 := ⟨by decide +kernel, by decide +kernel, by decide +kernel⟩
set_option maxRecDepth 20000 in
theorem ok_X11_forward (l : Launch) (hl : l.stackTraces = false) (D : Dd) (base b0 : Nat) (hb : b0 ≤ base) (M : Mm) (a1 : Int) (ha1 : i32 a1) (a2 : Int) (ha2 : i32 a2) (a3 : Int) (ha3 : i32 a3) (a4 : Int) (ha4 : i32 a4) (a5 : Int) (ha5 : i32 a5) : OkXi l D TC 681 base b0 yX11_forward cX11_forward 7 (some .int) 6 136 1 6 [.ref (base + 0), .int (Ii a1), .int (Ii a2), .int (Ii a3), .int (Ii a4), .int (Ii a5)] M i32 (f_X11_forward a1 a2 a3 a4 a5 M) := by
  refine metXi hl (by decide +kernel) [(0, .ref (base + 0)), (1, .int (Ii a1)), (2, .int (Ii a2)), (3, .int (Ii a3)), (4, .int (Ii a4)), (5, .int (Ii a5))] rfl (Nat.le_of_ble_eq_true rfl) (fun p e s m args below meth c X Z hbs hrt hlk => ?_) (by decide)
  have X : Cx p s m args c cX11_forward D 7 RX11 := X
  unfold f_X11_forward
  refine go_aload_n X dX11_forward_0 rfl 0 rfl ?_
  refine go_getc (i := 0) X fc11 dX11_forward_1 tcn0 tc0 (Nat.le_of_ble_eq_true rfl) rfl lw639 rfl ?_
  refine go_iload_n X dX11_forward_4 rfl 1 rfl ?_
  refine goI (fun H locs ls r ho hW hL => runV X (ok_X5_hasProduction l D base M a1 ha1 H.size r ho) dX11_forward_5 lw712 lw713 lw714 lw80 ⟨lw416, cy_X5_hasProduction, Nat.le_of_ble_eq_true rfl, Nat.le_of_ble_eq_true rfl⟩ rfl tcn1 tc1 rfl rfl rfl rfl (Nat.le_of_ble_eq_true rfl) hW hL hk0) (fun v2 M1 hv2 => ?_)
  refine go_lt (fun J => ∀ (M3 : Mm), Go p l e (rmX 6 136 1 6) s m args below meth c D TC 681 base 7 0 0 (FinXi D TC 681 base 1 6 below args s i32) M3 27 [] [] (J M3)) (by
      intro M3
      exact go_throwI (kc := 0) (ks := 0) (tx := "no such production") X Z ⟨hb, hbs⟩ xd1 (List.mem_of_getElem? (i := 3) rfl) dX11_forward_27 dX11_forward_30 dX11_forward_31 dX11_forward_33 dX11_forward_36 ⟨Nat.le_of_ble_eq_true rfl, Nat.le_of_ble_eq_true rfl, Nat.le_of_ble_eq_true rfl, Nat.le_of_ble_eq_true rfl⟩ (Nat.le_of_ble_eq_true rfl) (Nat.le_of_ble_eq_true rfl)
      )
      (fun J27_4 hJ27_4 => ?_)
  refine go_if_eq (tgt := 27) X dX11_forward_8 rfl (bo_i32 hv2) (fun c5 => ?_) (fun c5 => ?_)
  · refine go_sub [] rfl ?_
    exact hJ27_4 M1
  · refine go_iload_n X dX11_forward_11 rfl 2 rfl ?_
    refine go_iconst (v := (-1)) X dX11_forward_12 rfl ?_
    refine go_lt (fun J => ∀ (M6 : Mm), Go p l e (rmX 6 136 1 6) s m args below meth c D TC 681 base 7 0 0 (FinXi D TC 681 base 1 6 below args s i32) M6 37 [(0, .ref (base + 0)), (1, .int (Ii a1)), (2, .int (Ii a2)), (3, .int (Ii a3)), (4, .int (Ii a4)), (5, .int (Ii a5))] [] (J M6)) (by
        intro M6
        refine go_aload_n X dX11_forward_37 rfl 0 rfl ?_
        refine go_iload_n X dX11_forward_38 rfl 1 rfl ?_
        refine go_iload_n X dX11_forward_39 rfl 2 rfl ?_
        refine go_iconst (v := 0) X dX11_forward_40 rfl ?_
        refine go_iload_n X dX11_forward_41 rfl 3 rfl ?_
        refine goI (fun H locs ls r ho hW hL => runV X (ok_X11_standsByChild l D base M6 a1 ha1 a2 ha2 0 kI_0 a3 ha3 H.size r ho) dX11_forward_42 lw715 lw716 lw717 lw19 ⟨lw708, cy_X11_standsByChild, Nat.le_of_ble_eq_true rfl, Nat.le_of_ble_eq_true rfl⟩ rfl tcn0 tc0 rfl rfl rfl rfl (Nat.le_of_ble_eq_true rfl) hW hL hk0) (fun v9 M8 hv9 => ?_)
        refine go_lt (fun J => ∀ (M10 : Mm), Go p l e (rmX 6 136 1 6) s m args below meth c D TC 681 base 7 0 0 (FinXi D TC 681 base 1 6 below args s i32) M10 72 [] [] (J M10)) (by
            intro M10
            exact go_throwI (kc := 0) (ks := 0) (tx := "no such child") X Z ⟨hb, hbs⟩ xd1 (List.mem_of_getElem? (i := 4) rfl) dX11_forward_72 dX11_forward_75 dX11_forward_76 dX11_forward_78 dX11_forward_81 ⟨Nat.le_of_ble_eq_true rfl, Nat.le_of_ble_eq_true rfl, Nat.le_of_ble_eq_true rfl, Nat.le_of_ble_eq_true rfl⟩ (Nat.le_of_ble_eq_true rfl) (Nat.le_of_ble_eq_true rfl)
            )
            (fun J72_11 hJ72_11 => ?_)
        refine go_if_eq (tgt := 72) X dX11_forward_45 rfl (bo_i32 hv9) (fun c12 => ?_) (fun c12 => ?_)
        · refine go_sub [] rfl ?_
          exact hJ72_11 M8
        · refine go_aload_n X dX11_forward_48 rfl 0 rfl ?_
          refine go_iload_n X dX11_forward_49 rfl 1 rfl ?_
          refine go_iload_n X dX11_forward_50 rfl 2 rfl ?_
          refine go_iconst (v := 1) X dX11_forward_51 rfl ?_
          refine go_iload X dX11_forward_52 4 rfl ?_
          refine goI (fun H locs ls r ho hW hL => runV X (ok_X11_standsByChild l D base M8 a1 ha1 a2 ha2 1 kI_1 a4 ha4 H.size r ho) dX11_forward_54 lw715 lw716 lw717 lw19 ⟨lw708, cy_X11_standsByChild, Nat.le_of_ble_eq_true rfl, Nat.le_of_ble_eq_true rfl⟩ rfl tcn0 tc0 rfl rfl rfl rfl (Nat.le_of_ble_eq_true rfl) hW hL hk0) (fun v14 M13 hv14 => ?_)
          refine go_if_eq (tgt := 72) X dX11_forward_57 rfl (bo_i32 hv14) (fun c15 => ?_) (fun c15 => ?_)
          · refine go_sub [] rfl ?_
            exact hJ72_11 M13
          · refine go_aload_n X dX11_forward_60 rfl 0 rfl ?_
            refine go_iload_n X dX11_forward_61 rfl 1 rfl ?_
            refine go_iload_n X dX11_forward_62 rfl 2 rfl ?_
            refine go_iconst (v := 2) X dX11_forward_63 rfl ?_
            refine go_iload X dX11_forward_64 5 rfl ?_
            refine goI (fun H locs ls r ho hW hL => runV X (ok_X11_standsByChild l D base M13 a1 ha1 a2 ha2 2 kI_2 a5 ha5 H.size r ho) dX11_forward_66 lw715 lw716 lw717 lw19 ⟨lw708, cy_X11_standsByChild, Nat.le_of_ble_eq_true rfl, Nat.le_of_ble_eq_true rfl⟩ rfl tcn0 tc0 rfl rfl rfl rfl (Nat.le_of_ble_eq_true rfl) hW hL hk0) (fun v17 M16 hv17 => ?_)
            refine go_if_ne (tgt := 82) X dX11_forward_69 rfl (bo_i32 hv17) (fun c18 => ?_) (fun c18 => ?_)
            · refine go_iload_n X dX11_forward_82 rfl 2 rfl ?_
              refine go_iload_n X dX11_forward_83 rfl 1 rfl ?_
              refine go_lt (fun J => ∀ (M19 : Mm), Go p l e (rmX 6 136 1 6) s m args below meth c D TC 681 base 7 0 0 (FinXi D TC 681 base 1 6 below args s i32) M19 111 [] [] (J M19)) (by
                  intro M19
                  exact go_throwI (kc := 0) (ks := 0) (tx := "the other production does not go with it") X Z ⟨hb, hbs⟩ xd2 (List.mem_of_getElem? (i := 5) rfl) dX11_forward_111 dX11_forward_114 dX11_forward_115 dX11_forward_117 dX11_forward_120 ⟨Nat.le_of_ble_eq_true rfl, Nat.le_of_ble_eq_true rfl, Nat.le_of_ble_eq_true rfl, Nat.le_of_ble_eq_true rfl⟩ (Nat.le_of_ble_eq_true rfl) (Nat.le_of_ble_eq_true rfl)
                  )
                  (fun J111_20 hJ111_20 => ?_)
              refine go_icmp_eq (tgt := 111) X dX11_forward_84 rfl ha2 ha1 (fun c21 => ?_) (fun c21 => ?_)
              · refine go_sub [] rfl ?_
                exact hJ111_20 M16
              · refine go_iload_n X dX11_forward_87 rfl 2 rfl ?_
                refine go_iconst (v := (-1)) X dX11_forward_88 rfl ?_
                refine go_lt (fun J => ∀ (M22 : Mm), Go p l e (rmX 6 136 1 6) s m args below meth c D TC 681 base 7 0 0 (FinXi D TC 681 base 1 6 below args s i32) M22 121 [(0, .ref (base + 0)), (1, .int (Ii a1)), (2, .int (Ii a2)), (3, .int (Ii a3)), (4, .int (Ii a4)), (5, .int (Ii a5))] [] (J M22)) (by
                    intro M22
                    refine go_aload_n X dX11_forward_121 rfl 0 rfl ?_
                    refine go_iload_n X dX11_forward_122 rfl 1 rfl ?_
                    refine go_iload_n X dX11_forward_123 rfl 2 rfl ?_
                    refine go_iconst (v := 0) X dX11_forward_124 rfl ?_
                    refine go_iload_n X dX11_forward_125 rfl 3 rfl ?_
                    refine goI (fun H locs ls r ho hW hL => runV X (ok_X11_standsRightly l D base M22 a1 ha1 a2 ha2 0 kI_0 a3 ha3 H.size r ho) dX11_forward_126 lw719 lw720 lw721 lw19 ⟨lw710, cy_X11_standsRightly, Nat.le_of_ble_eq_true rfl, Nat.le_of_ble_eq_true rfl⟩ rfl tcn0 tc0 rfl rfl rfl rfl (Nat.le_of_ble_eq_true rfl) hW hL hk0) (fun v25 M24 hv25 => ?_)
                    refine go_lt (fun J => ∀ (M26 : Mm), Go p l e (rmX 6 136 1 6) s m args below meth c D TC 681 base 7 0 0 (FinXi D TC 681 base 1 6 below args s i32) M26 156 [] [] (J M26)) (by
                        intro M26
                        exact go_throwI (kc := 0) (ks := 0) (tx := "a child does not go with it") X Z ⟨hb, hbs⟩ xd2 (List.mem_of_getElem? (i := 6) rfl) dX11_forward_156 dX11_forward_159 dX11_forward_160 dX11_forward_162 dX11_forward_165 ⟨Nat.le_of_ble_eq_true rfl, Nat.le_of_ble_eq_true rfl, Nat.le_of_ble_eq_true rfl, Nat.le_of_ble_eq_true rfl⟩ (Nat.le_of_ble_eq_true rfl) (Nat.le_of_ble_eq_true rfl)
                        )
                        (fun J156_27 hJ156_27 => ?_)
                    refine go_if_eq (tgt := 156) X dX11_forward_129 rfl (bo_i32 hv25) (fun c28 => ?_) (fun c28 => ?_)
                    · refine go_sub [] rfl ?_
                      exact hJ156_27 M24
                    · refine go_aload_n X dX11_forward_132 rfl 0 rfl ?_
                      refine go_iload_n X dX11_forward_133 rfl 1 rfl ?_
                      refine go_iload_n X dX11_forward_134 rfl 2 rfl ?_
                      refine go_iconst (v := 1) X dX11_forward_135 rfl ?_
                      refine go_iload X dX11_forward_136 4 rfl ?_
                      refine goI (fun H locs ls r ho hW hL => runV X (ok_X11_standsRightly l D base M24 a1 ha1 a2 ha2 1 kI_1 a4 ha4 H.size r ho) dX11_forward_138 lw719 lw720 lw721 lw19 ⟨lw710, cy_X11_standsRightly, Nat.le_of_ble_eq_true rfl, Nat.le_of_ble_eq_true rfl⟩ rfl tcn0 tc0 rfl rfl rfl rfl (Nat.le_of_ble_eq_true rfl) hW hL hk0) (fun v30 M29 hv30 => ?_)
                      refine go_if_eq (tgt := 156) X dX11_forward_141 rfl (bo_i32 hv30) (fun c31 => ?_) (fun c31 => ?_)
                      · refine go_sub [] rfl ?_
                        exact hJ156_27 M29
                      · refine go_aload_n X dX11_forward_144 rfl 0 rfl ?_
                        refine go_iload_n X dX11_forward_145 rfl 1 rfl ?_
                        refine go_iload_n X dX11_forward_146 rfl 2 rfl ?_
                        refine go_iconst (v := 2) X dX11_forward_147 rfl ?_
                        refine go_iload X dX11_forward_148 5 rfl ?_
                        refine goI (fun H locs ls r ho hW hL => runV X (ok_X11_standsRightly l D base M29 a1 ha1 a2 ha2 2 kI_2 a5 ha5 H.size r ho) dX11_forward_150 lw719 lw720 lw721 lw19 ⟨lw710, cy_X11_standsRightly, Nat.le_of_ble_eq_true rfl, Nat.le_of_ble_eq_true rfl⟩ rfl tcn0 tc0 rfl rfl rfl rfl (Nat.le_of_ble_eq_true rfl) hW hL hk0) (fun v33 M32 hv33 => ?_)
                        refine go_if_ne (tgt := 166) X dX11_forward_153 rfl (bo_i32 hv33) (fun c34 => ?_) (fun c34 => ?_)
                        · refine go_aload_n X dX11_forward_166 rfl 0 rfl ?_
                          refine go_getc (i := 0) X fc11 dX11_forward_167 tcn0 tc0 (Nat.le_of_ble_eq_true rfl) rfl lw639 rfl ?_
                          refine go_iload_n X dX11_forward_170 rfl 1 rfl ?_
                          refine go_iload_n X dX11_forward_171 rfl 2 rfl ?_
                          refine go_iload_n X dX11_forward_172 rfl 3 rfl ?_
                          refine go_iload X dX11_forward_173 4 rfl ?_
                          refine go_iload X dX11_forward_175 5 rfl ?_
                          refine goI (fun H locs ls r ho hW hL => runV X (ok_X5_tellForward l D base M32 a1 ha1 a2 ha2 a3 ha3 a4 ha4 a5 ha5 H.size r ho) dX11_forward_177 lw722 lw723 lw724 lw80 ⟨lw409, cy_X5_tellForward, Nat.le_of_ble_eq_true rfl, Nat.le_of_ble_eq_true rfl⟩ rfl tcn1 tc1 rfl rfl rfl rfl (Nat.le_of_ble_eq_true rfl) hW hL hk0) (fun v36 M35 hv36 => ?_)
                          refine go_istore (i := 6) (L' := [(6, .int (Ii v36)), (0, .ref (base + 0)), (1, .int (Ii a1)), (2, .int (Ii a2)), (3, .int (Ii a3)), (4, .int (Ii a4)), (5, .int (Ii a5))]) X dX11_forward_180 (by decide) rfl ?_
                          refine go_aload_n X dX11_forward_182 rfl 1 rfl ?_
                          refine goV (fun H locs ls r ho hW hL => runV X (ok_X11_followGrammar l D base M35  H.size r ho) dX11_forward_183 lw704 lw705 lw706 lw19 ⟨lw691, cy_X11_followGrammar, Nat.le_of_ble_eq_true rfl, Nat.le_of_ble_eq_true rfl⟩ rfl tcn0 tc0 rfl rfl rfl rfl (Nat.le_of_ble_eq_true rfl) hW hL hk0) (fun _ M37 => ?_)
                          refine go_iload X dX11_forward_186 0 rfl ?_
                          exact go_xireturn X hrt hlk dX11_forward_188 hv36 (Nat.le_of_ble_eq_true rfl) (Nat.le_of_ble_eq_true rfl)
                        · refine go_sub [] rfl ?_
                          exact hJ156_27 M32
                    )
                    (fun J121_23 hJ121_23 => ?_)
                refine go_icmp_eq (tgt := 121) X dX11_forward_89 rfl ha2 kI_m1 (fun c38 => ?_) (fun c38 => ?_)
                · exact hJ121_23 M16
                · refine go_aload_n X dX11_forward_92 rfl 0 rfl ?_
                  refine go_getc (i := 0) X fc11 dX11_forward_93 tcn0 tc0 (Nat.le_of_ble_eq_true rfl) rfl lw639 rfl ?_
                  refine go_iload_n X dX11_forward_96 rfl 2 rfl ?_
                  refine goI (fun H locs ls r ho hW hL => runV X (ok_X5_headOf l D base M16 a2 ha2 H.size r ho) dX11_forward_97 lw718 lw426 lw427 lw80 ⟨lw418, cy_X5_headOf, Nat.le_of_ble_eq_true rfl, Nat.le_of_ble_eq_true rfl⟩ rfl tcn1 tc1 rfl rfl rfl rfl (Nat.le_of_ble_eq_true rfl) hW hL hk0) (fun v40 M39 hv40 => ?_)
                  refine go_aload_n X dX11_forward_100 rfl 0 rfl ?_
                  refine go_getc (i := 0) X fc11 dX11_forward_101 tcn0 tc0 (Nat.le_of_ble_eq_true rfl) rfl lw639 rfl ?_
                  refine go_iload_n X dX11_forward_104 rfl 1 rfl ?_
                  refine goI (fun H locs ls r ho hW hL => runV X (ok_X5_headOf l D base M39 a1 ha1 H.size r ho) dX11_forward_105 lw718 lw426 lw427 lw80 ⟨lw418, cy_X5_headOf, Nat.le_of_ble_eq_true rfl, Nat.le_of_ble_eq_true rfl⟩ rfl tcn1 tc1 rfl rfl rfl rfl (Nat.le_of_ble_eq_true rfl) hW hL hk0) (fun v42 M41 hv42 => ?_)
                  refine go_icmp_eq (tgt := 121) X dX11_forward_108 rfl hv40 hv42 (fun c43 => ?_) (fun c43 => ?_)
                  · exact hJ121_23 M41
                  · refine go_sub [] rfl ?_
                    exact hJ111_20 M41
            · refine go_sub [] rfl ?_
              exact hJ72_11 M16
        )
        (fun J37_7 hJ37_7 => ?_)
    refine go_icmp_eq (tgt := 37) X dX11_forward_13 rfl ha2 kI_m1 (fun c44 => ?_) (fun c44 => ?_)
    · exact hJ37_7 M1
    · refine go_aload_n X dX11_forward_16 rfl 0 rfl ?_
      refine go_getc (i := 0) X fc11 dX11_forward_17 tcn0 tc0 (Nat.le_of_ble_eq_true rfl) rfl lw639 rfl ?_
      refine go_iload_n X dX11_forward_20 rfl 2 rfl ?_
      refine goI (fun H locs ls r ho hW hL => runV X (ok_X5_hasProduction l D base M1 a2 ha2 H.size r ho) dX11_forward_21 lw712 lw713 lw714 lw80 ⟨lw416, cy_X5_hasProduction, Nat.le_of_ble_eq_true rfl, Nat.le_of_ble_eq_true rfl⟩ rfl tcn1 tc1 rfl rfl rfl rfl (Nat.le_of_ble_eq_true rfl) hW hL hk0) (fun v46 M45 hv46 => ?_)
      refine go_if_ne (tgt := 37) X dX11_forward_24 rfl (bo_i32 hv46) (fun c47 => ?_) (fun c47 => ?_)
      · exact hJ37_7 M45
      · refine go_sub [] rfl ?_
        exact hJ27_4 M45
def f_X11_rule (a1 : Int) (a2 : Int) (a3 : Int) (M : Mm) : Rx :=
Cl (f_X5_hasProduction a1 M) fun v2 M1 =>
Lt (fun (M3 : Mm) => 
some (1, 0, M3)) fun J22_4 =>
if v2 = 0 then (
J22_4 M1) else (
Cl (f_X5_hasProduction a3 M1) fun v7 M6 =>
if ¬ v7 = 0 then (
Clx (f_X11_mustBeAttribute a2 M6) fun _ M9 =>
Lt (fun (M10 : Mm) => 
some (2, 0, M10)) fun J54_11 =>
if a1 = a3 then (
J54_11 M9) else (
Cl (f_X5_isAlikeInShape a1 a3 M9) fun v14 M13 =>
if ¬ v14 = 0 then (
Cl (f_X5_tellRule a1 a2 a3 M13) fun v17 M16 =>
Cl (f_X11_followGrammar M16) fun _ M18 =>
some (0, v17, M18)) else (
J54_11 M13))) else (
J22_4 M6))
theorem cy_X11_rule : yX11_rule.cls ≠ "java/lang/invoke/MethodHandle" ∧ yX11_rule.cls ≠ "java/lang/invoke/VarHandle" ∧ (parseMethodDescriptor yX11_rule.desc).map (fun d => d.parameters.length) = some 3 := ⟨by decide +kernel, by decide +kernel, by decide +kernel⟩
set_option maxRecDepth 20000 in
theorem ok_X11_rule (l : Launch) (hl : l.stackTraces = false) (D : Dd) (base b0 : Nat) (hb : b0 ≤ base) (M : Mm) (a1 : Int) (ha1 : i32 a1) (a2 : Int) (ha2 : i32 a2) (a3 : Int) (ha3 : i32 a3) : OkXi l D TC 681 base b0 yX11_rule cX11_rule 5 (some .int) 7 136 2 12 [.ref (base + 0), .int (Ii a1), .int (Ii a2), .int (Ii a3)] M i32 (f_X11_rule a1 a2 a3 M) := by
  refine metXi hl (by decide +kernel) [(0, .ref (base + 0)), (1, .int (Ii a1)), (2, .int (Ii a2)), (3, .int (Ii a3))] rfl (Nat.le_of_ble_eq_true rfl) (fun p e s m args below meth c X Z hbs hrt hlk => ?_) (by decide)
  have X : Cx p s m args c cX11_rule D 5 RX11 := X
  unfold f_X11_rule
  refine go_aload_n X dX11_rule_0 rfl 0 rfl ?_
  refine go_getc (i := 0) X fc11 dX11_rule_1 tcn0 tc0 (Nat.le_of_ble_eq_true rfl) rfl lw639 rfl ?_
  refine go_iload_n X dX11_rule_4 rfl 1 rfl ?_
  refine goI (fun H locs ls r ho hW hL => runV X (ok_X5_hasProduction l D base M a1 ha1 H.size r ho) dX11_rule_5 lw712 lw713 lw714 lw80 ⟨lw416, cy_X5_hasProduction, Nat.le_of_ble_eq_true rfl, Nat.le_of_ble_eq_true rfl⟩ rfl tcn1 tc1 rfl rfl rfl rfl (Nat.le_of_ble_eq_true rfl) hW hL hk0) (fun v2 M1 hv2 => ?_)
  refine go_lt (fun J => ∀ (M3 : Mm), Go p l e (rmX 7 136 2 12) s m args below meth c D TC 681 base 5 0 0 (FinXi D TC 681 base 2 12 below args s i32) M3 22 [] [] (J M3)) (by
      intro M3
      exact go_throwI (kc := 0) (ks := 0) (tx := "no such production") X Z ⟨hb, hbs⟩ xd1 (List.mem_of_getElem? (i := 3) rfl) dX11_rule_22 dX11_rule_25 dX11_rule_26 dX11_rule_28 dX11_rule_31 ⟨Nat.le_of_ble_eq_true rfl, Nat.le_of_ble_eq_true rfl, Nat.le_of_ble_eq_true rfl, Nat.le_of_ble_eq_true rfl⟩ (Nat.le_of_ble_eq_true rfl) (Nat.le_of_ble_eq_true rfl)
      )
      (fun J22_4 hJ22_4 => ?_)
  refine go_if_eq (tgt := 22) X dX11_rule_8 rfl (bo_i32 hv2) (fun c5 => ?_) (fun c5 => ?_)
  · refine go_sub [] rfl ?_
    exact hJ22_4 M1
  · refine go_aload_n X dX11_rule_11 rfl 0 rfl ?_
    refine go_getc (i := 0) X fc11 dX11_rule_12 tcn0 tc0 (Nat.le_of_ble_eq_true rfl) rfl lw639 rfl ?_
    refine go_iload_n X dX11_rule_15 rfl 3 rfl ?_
    refine goI (fun H locs ls r ho hW hL => runV X (ok_X5_hasProduction l D base M1 a3 ha3 H.size r ho) dX11_rule_16 lw712 lw713 lw714 lw80 ⟨lw416, cy_X5_hasProduction, Nat.le_of_ble_eq_true rfl, Nat.le_of_ble_eq_true rfl⟩ rfl tcn1 tc1 rfl rfl rfl rfl (Nat.le_of_ble_eq_true rfl) hW hL hk0) (fun v7 M6 hv7 => ?_)
    refine go_if_ne (tgt := 32) X dX11_rule_19 rfl (bo_i32 hv7) (fun c8 => ?_) (fun c8 => ?_)
    · refine go_aload_n X dX11_rule_32 rfl 0 rfl ?_
      refine go_iload_n X dX11_rule_33 rfl 2 rfl ?_
      refine go_xcall (okr := i32) (Or.inl rfl) X Z hb (ok_X11_mustBeAttribute l hl D base b0 hb M6 a2 ha2) dX11_rule_34 lw730 lw731 lw732 lw19 ⟨lw726, cy_X11_mustBeAttribute, Nat.le_of_ble_eq_true rfl, Nat.le_of_ble_eq_true rfl⟩ rfl tcn0 tc0 rfl rfl rfl rfl (Nat.le_of_ble_eq_true rfl) ⟨Nat.le_of_ble_eq_true rfl, Nat.le_of_ble_eq_true rfl⟩ ⟨Nat.le_of_ble_eq_true rfl, Nat.le_of_ble_eq_true rfl⟩ (fun _ M9 => ?_)
      refine go_iload_n X dX11_rule_37 rfl 1 rfl ?_
      refine go_iload_n X dX11_rule_38 rfl 3 rfl ?_
      refine go_lt (fun J => ∀ (M10 : Mm), Go p l e (rmX 7 136 2 12) s m args below meth c D TC 681 base 5 1 6 (FinXi D TC 681 base 2 12 below args s i32) M10 54 [] [] (J M10)) (by
          intro M10
          exact go_throwI (kc := 1) (ks := 6) (tx := "the other production does not go with it") X Z ⟨hb, hbs⟩ xd2 (List.mem_of_getElem? (i := 5) rfl) dX11_rule_54 dX11_rule_57 dX11_rule_58 dX11_rule_60 dX11_rule_63 ⟨Nat.le_of_ble_eq_true rfl, Nat.le_of_ble_eq_true rfl, Nat.le_of_ble_eq_true rfl, Nat.le_of_ble_eq_true rfl⟩ (Nat.le_of_ble_eq_true rfl) (Nat.le_of_ble_eq_true rfl)
          )
          (fun J54_11 hJ54_11 => ?_)
      refine go_icmp_eq (tgt := 54) X dX11_rule_39 rfl ha1 ha3 (fun c12 => ?_) (fun c12 => ?_)
      · refine go_sub [] rfl ?_
        exact hJ54_11 M9
      · refine go_aload_n X dX11_rule_42 rfl 0 rfl ?_
        refine go_getc (i := 0) X fc11 dX11_rule_43 tcn0 tc0 (Nat.le_of_ble_eq_true rfl) rfl lw639 rfl ?_
        refine go_iload_n X dX11_rule_46 rfl 1 rfl ?_
        refine go_iload_n X dX11_rule_47 rfl 3 rfl ?_
        refine goI (fun H locs ls r ho hW hL => runV X (ok_X5_isAlikeInShape l D base M9 a1 ha1 a3 ha3 H.size r ho) dX11_rule_48 lw733 lw734 lw735 lw80 ⟨lw424, cy_X5_isAlikeInShape, Nat.le_of_ble_eq_true rfl, Nat.le_of_ble_eq_true rfl⟩ rfl tcn1 tc1 rfl rfl rfl rfl (Nat.le_of_ble_eq_true rfl) hW hL ⟨Nat.le_of_ble_eq_true rfl, Nat.le_of_ble_eq_true rfl⟩) (fun v14 M13 hv14 => ?_)
        refine go_if_ne (tgt := 64) X dX11_rule_51 rfl (bo_i32 hv14) (fun c15 => ?_) (fun c15 => ?_)
        · refine go_aload_n X dX11_rule_64 rfl 0 rfl ?_
          refine go_getc (i := 0) X fc11 dX11_rule_65 tcn0 tc0 (Nat.le_of_ble_eq_true rfl) rfl lw639 rfl ?_
          refine go_iload_n X dX11_rule_68 rfl 1 rfl ?_
          refine go_iload_n X dX11_rule_69 rfl 2 rfl ?_
          refine go_iload_n X dX11_rule_70 rfl 3 rfl ?_
          refine goI (fun H locs ls r ho hW hL => runV X (ok_X5_tellRule l D base M13 a1 ha1 a2 ha2 a3 ha3 H.size r ho) dX11_rule_71 lw736 lw737 lw738 lw80 ⟨lw412, cy_X5_tellRule, Nat.le_of_ble_eq_true rfl, Nat.le_of_ble_eq_true rfl⟩ rfl tcn1 tc1 rfl rfl rfl rfl (Nat.le_of_ble_eq_true rfl) hW hL ⟨Nat.le_of_ble_eq_true rfl, Nat.le_of_ble_eq_true rfl⟩) (fun v17 M16 hv17 => ?_)
          refine go_istore (i := 4) (L' := [(4, .int (Ii v17)), (0, .ref (base + 0)), (1, .int (Ii a1)), (2, .int (Ii a2)), (3, .int (Ii a3))]) X dX11_rule_74 (by decide) rfl ?_
          refine go_aload_n X dX11_rule_76 rfl 1 rfl ?_
          refine goV (fun H locs ls r ho hW hL => runV X (ok_X11_followGrammar l D base M16  H.size r ho) dX11_rule_77 lw704 lw705 lw706 lw19 ⟨lw691, cy_X11_followGrammar, Nat.le_of_ble_eq_true rfl, Nat.le_of_ble_eq_true rfl⟩ rfl tcn0 tc0 rfl rfl rfl rfl (Nat.le_of_ble_eq_true rfl) hW hL ⟨Nat.le_of_ble_eq_true rfl, Nat.le_of_ble_eq_true rfl⟩) (fun _ M18 => ?_)
          refine go_iload X dX11_rule_80 0 rfl ?_
          exact go_xireturn X hrt hlk dX11_rule_82 hv17 (Nat.le_of_ble_eq_true rfl) (Nat.le_of_ble_eq_true rfl)
        · refine go_sub [] rfl ?_
          exact hJ54_11 M13
    · refine go_sub [] rfl ?_
      exact hJ22_4 M6
def f_X11_attribute (a1 : Int) (M : Mm) : Rx :=
Lt (fun (M1 : Mm) => 
some (2, 0, M1)) fun J9_2 =>
if a1 < 0 then (
J9_2 M) else (
if a1 < 4 then (
Lt (M 1 1) fun v5 =>
if v5 < 6 then (
Cl (f_X5_addAttribute a1 M) fun v8 M7 =>
Cl (f_X11_followGrammar M7) fun _ M9 =>
some (0, v8, M9)) else (
some (3, 0, M))) else (
J9_2 M))
theorem cy_X11_attribute : yX11_attribute.cls ≠ "java/lang/invoke/MethodHandle" ∧ yX11_attribute.cls ≠ "java/lang/invoke/VarHandle" ∧ (parseMethodDescriptor yX11_attribute.desc).map (fun d => d.parameters.length) = some 1 := ⟨by decide +kernel, by decide +kernel, by decide +kernel⟩
set_option maxRecDepth 20000 in
theorem ok_X11_attribute (l : Launch) (hl : l.stackTraces = false) (D : Dd) (base b0 : Nat) (hb : b0 ≤ base) (M : Mm) (a1 : Int) (ha1 : i32 a1) : OkXi l D TC 681 base b0 yX11_attribute cX11_attribute 3 (some .int) 6 136 1 6 [.ref (base + 0), .int (Ii a1)] M i32 (f_X11_attribute a1 M) := by
  refine metXi hl (by decide +kernel) [(0, .ref (base + 0)), (1, .int (Ii a1))] rfl (Nat.le_of_ble_eq_true rfl) (fun p e s m args below meth c X Z hbs hrt hlk => ?_) (by decide)
  have X : Cx p s m args c cX11_attribute D 3 RX11 := X
  unfold f_X11_attribute
  refine go_iload_n X dX11_attribute_0 rfl 1 rfl ?_
  refine go_lt (fun J => ∀ (M1 : Mm), Go p l e (rmX 6 136 1 6) s m args below meth c D TC 681 base 3 0 0 (FinXi D TC 681 base 1 6 below args s i32) M1 9 [] [] (J M1)) (by
      intro M1
      exact go_throwI (kc := 0) (ks := 0) (tx := "the kind is out of range") X Z ⟨hb, hbs⟩ xd2 (List.mem_of_getElem? (i := 8) rfl) dX11_attribute_9 dX11_attribute_12 dX11_attribute_13 dX11_attribute_15 dX11_attribute_18 ⟨Nat.le_of_ble_eq_true rfl, Nat.le_of_ble_eq_true rfl, Nat.le_of_ble_eq_true rfl, Nat.le_of_ble_eq_true rfl⟩ (Nat.le_of_ble_eq_true rfl) (Nat.le_of_ble_eq_true rfl)
      )
      (fun J9_2 hJ9_2 => ?_)
  refine go_if_lt (tgt := 9) X dX11_attribute_1 rfl ha1 (fun c3 => ?_) (fun c3 => ?_)
  · refine go_sub [] rfl ?_
    exact hJ9_2 M
  · refine go_iload_n X dX11_attribute_4 rfl 1 rfl ?_
    refine go_iconst (v := 4) X dX11_attribute_5 rfl ?_
    refine go_icmp_lt (tgt := 19) X dX11_attribute_6 rfl ha1 kI_4 (fun c4 => ?_) (fun c4 => ?_)
    · refine go_aload_n X dX11_attribute_19 rfl 0 rfl ?_
      refine go_getc (i := 0) X fc11 dX11_attribute_20 tcn0 tc0 (Nat.le_of_ble_eq_true rfl) rfl lw639 rfl ?_
      refine go_geti (i := 1) X fc5 dX11_attribute_23 tcn1 tc1 (Nat.le_of_ble_eq_true rfl) rfl lw740 rfl (fun v5 hv5 => ?_)
      refine go_bipush (v := 6) X dX11_attribute_26 (by decide) ?_
      refine go_icmp_lt (tgt := 41) X dX11_attribute_28 rfl hv5 kI_6 (fun c6 => ?_) (fun c6 => ?_)
      · refine go_aload_n X dX11_attribute_41 rfl 0 rfl ?_
        refine go_getc (i := 0) X fc11 dX11_attribute_42 tcn0 tc0 (Nat.le_of_ble_eq_true rfl) rfl lw639 rfl ?_
        refine go_iload_n X dX11_attribute_45 rfl 1 rfl ?_
        refine goI (fun H locs ls r ho hW hL => runV X (ok_X5_addAttribute l D base M a1 ha1 H.size r ho) dX11_attribute_46 lw741 lw742 lw743 lw80 ⟨lw408, cy_X5_addAttribute, Nat.le_of_ble_eq_true rfl, Nat.le_of_ble_eq_true rfl⟩ rfl tcn1 tc1 rfl rfl rfl rfl (Nat.le_of_ble_eq_true rfl) hW hL hk0) (fun v8 M7 hv8 => ?_)
        refine go_istore_n (i := 2) (L' := [(2, .int (Ii v8)), (0, .ref (base + 0)), (1, .int (Ii a1))]) X dX11_attribute_49 rfl (by decide) rfl ?_
        refine go_aload_n X dX11_attribute_50 rfl 1 rfl ?_
        refine goV (fun H locs ls r ho hW hL => runV X (ok_X11_followGrammar l D base M7  H.size r ho) dX11_attribute_51 lw704 lw705 lw706 lw19 ⟨lw691, cy_X11_followGrammar, Nat.le_of_ble_eq_true rfl, Nat.le_of_ble_eq_true rfl⟩ rfl tcn0 tc0 rfl rfl rfl rfl (Nat.le_of_ble_eq_true rfl) hW hL hk0) (fun _ M9 => ?_)
        refine go_iload_n X dX11_attribute_54 rfl 0 rfl ?_
        exact go_xireturn X hrt hlk dX11_attribute_55 hv8 (Nat.le_of_ble_eq_true rfl) (Nat.le_of_ble_eq_true rfl)
      · exact go_throwI (kc := 0) (ks := 0) (tx := "there are 6 attributes") X Z ⟨hb, hbs⟩ xd3 (List.mem_of_getElem? (i := 9) rfl) dX11_attribute_31 dX11_attribute_34 dX11_attribute_35 dX11_attribute_37 dX11_attribute_40 ⟨Nat.le_of_ble_eq_true rfl, Nat.le_of_ble_eq_true rfl, Nat.le_of_ble_eq_true rfl, Nat.le_of_ble_eq_true rfl⟩ (Nat.le_of_ble_eq_true rfl) (Nat.le_of_ble_eq_true rfl)
    · refine go_sub [] rfl ?_
      exact hJ9_2 M
def f_X11_step (a1 : Int) (a2 : Int) (a3 : Int) (M : Mm) : Rx :=
Cl (f_X11_tellsAttribute a1 M) fun v2 M1 =>
Lt (fun (M3 : Mm) => 
Lt (fun (M5 : Mm) => 
some (2, 0, M5)) fun J38_6 =>
if a1 < 0 then (
J38_6 M3) else (
if 15 ≤ a1 then (
J38_6 M3) else (
Cl (f_X11_isRightNumber a1 a2 M3) fun v10 M9 =>
if v10 = 0 then (
J38_6 M9) else (
Cl (f_X11_isRightChild a1 a3 M9) fun v13 M12 =>
if ¬ v13 = 0 then (
Lt (M12 14 4) fun v15 =>
Lt (fun (M16 : Mm) => 
some (3, 0, M16)) fun J74_17 =>
if 8 ≤ v15 then (
J74_17 M12) else (
Lt (M12 14 5) fun v19 =>
Cl (f_X11_operandsOf a1 M12) fun v21 M20 =>
if v21 ≤ v19 then (
Cl (f_X0_append 14 a1 a2 a3 M20) fun _ M23 =>
Lt (M23 14 5) fun v24 =>
some (0, v24, M23)) else (
J74_17 M20))) else (
J38_6 M12))))) fun J12_4 =>
if v2 = 0 then (
J12_4 M1) else (
Clx (f_X11_mustBeAttribute a2 M1) fun _ M26 =>
J12_4 M26)
theorem cy_X11_step : yX11_step.cls ≠ "java/lang/invoke/MethodHandle" ∧ yX11_step.cls ≠ "java/lang/invoke/VarHandle" ∧ (parseMethodDescriptor yX11_step.desc).map (fun d => d.parameters.length) = some 3 := ⟨by decide +kernel, by decide +kernel, by decide +kernel⟩
set_option maxRecDepth 20000 in
theorem ok_X11_step (l : Launch) (hl : l.stackTraces = false) (D : Dd) (base b0 : Nat) (hb : b0 ≤ base) (M : Mm) (a1 : Int) (ha1 : i32 a1) (a2 : Int) (ha2 : i32 a2) (a3 : Int) (ha3 : i32 a3) : OkXi l D TC 681 base b0 yX11_step cX11_step 4 (some .int) 7 103 2 12 [.ref (base + 0), .int (Ii a1), .int (Ii a2), .int (Ii a3)] M i32 (f_X11_step a1 a2 a3 M) := by
  refine metXi hl (by decide +kernel) [(0, .ref (base + 0)), (1, .int (Ii a1)), (2, .int (Ii a2)), (3, .int (Ii a3))] rfl (Nat.le_of_ble_eq_true rfl) (fun p e s m args below meth c X Z hbs hrt hlk => ?_) (by decide)
  have X : Cx p s m args c cX11_step D 4 RX11 := X
  unfold f_X11_step
  refine go_iload_n X dX11_step_0 rfl 1 rfl ?_
  refine goI (fun H locs ls r ho hW hL => runS X (ok_X11_tellsAttribute l D base M a1 ha1 H.size r ho) dX11_step_1 lw747 lw748 lw19 ⟨lw745, cy_X11_tellsAttribute, Nat.le_of_ble_eq_true rfl, Nat.le_of_ble_eq_true rfl⟩ rfl rfl (Nat.le_of_ble_eq_true rfl) hW hL hk0) (fun v2 M1 hv2 => ?_)
  refine go_lt (fun J => ∀ (M3 : Mm), Go p l e (rmX 7 103 2 12) s m args below meth c D TC 681 base 4 1 6 (FinXi D TC 681 base 2 12 below args s i32) M3 12 [(0, .ref (base + 0)), (1, .int (Ii a1)), (2, .int (Ii a2)), (3, .int (Ii a3))] [] (J M3)) (by
      intro M3
      refine go_iload_n X dX11_step_12 rfl 1 rfl ?_
      refine go_lt (fun J => ∀ (M5 : Mm), Go p l e (rmX 7 103 2 12) s m args below meth c D TC 681 base 4 1 6 (FinXi D TC 681 base 2 12 below args s i32) M5 38 [] [] (J M5)) (by
          intro M5
          exact go_throwI (kc := 1) (ks := 6) (tx := "the kind, a or b is out of range") X Z ⟨hb, hbs⟩ xd2 (List.mem_of_getElem? (i := 10) rfl) dX11_step_38 dX11_step_41 dX11_step_42 dX11_step_44 dX11_step_47 ⟨Nat.le_of_ble_eq_true rfl, Nat.le_of_ble_eq_true rfl, Nat.le_of_ble_eq_true rfl, Nat.le_of_ble_eq_true rfl⟩ (Nat.le_of_ble_eq_true rfl) (Nat.le_of_ble_eq_true rfl)
          )
          (fun J38_6 hJ38_6 => ?_)
      refine go_if_lt (tgt := 38) X dX11_step_13 rfl ha1 (fun c7 => ?_) (fun c7 => ?_)
      · refine go_sub [] rfl ?_
        exact hJ38_6 M3
      · refine go_iload_n X dX11_step_16 rfl 1 rfl ?_
        refine go_bipush (v := 15) X dX11_step_17 (by decide) ?_
        refine go_icmp_ge (tgt := 38) X dX11_step_19 rfl ha1 kI_15 (fun c8 => ?_) (fun c8 => ?_)
        · refine go_sub [] rfl ?_
          exact hJ38_6 M3
        · refine go_iload_n X dX11_step_22 rfl 1 rfl ?_
          refine go_iload_n X dX11_step_23 rfl 2 rfl ?_
          refine goI (fun H locs ls r ho hW hL => runS X (ok_X11_isRightNumber l D base M3 a1 ha1 a2 ha2 H.size r ho) dX11_step_24 lw752 lw753 lw19 ⟨lw746, cy_X11_isRightNumber, Nat.le_of_ble_eq_true rfl, Nat.le_of_ble_eq_true rfl⟩ rfl rfl (Nat.le_of_ble_eq_true rfl) hW hL ⟨Nat.le_of_ble_eq_true rfl, Nat.le_of_ble_eq_true rfl⟩) (fun v10 M9 hv10 => ?_)
          refine go_if_eq (tgt := 38) X dX11_step_27 rfl (bo_i32 hv10) (fun c11 => ?_) (fun c11 => ?_)
          · refine go_sub [] rfl ?_
            exact hJ38_6 M9
          · refine go_iload_n X dX11_step_30 rfl 1 rfl ?_
            refine go_iload_n X dX11_step_31 rfl 3 rfl ?_
            refine goI (fun H locs ls r ho hW hL => runS X (ok_X11_isRightChild l D base M9 a1 ha1 a3 ha3 H.size r ho) dX11_step_32 lw754 lw755 lw19 ⟨lw749, cy_X11_isRightChild, Nat.le_of_ble_eq_true rfl, Nat.le_of_ble_eq_true rfl⟩ rfl rfl (Nat.le_of_ble_eq_true rfl) hW hL ⟨Nat.le_of_ble_eq_true rfl, Nat.le_of_ble_eq_true rfl⟩) (fun v13 M12 hv13 => ?_)
            refine go_if_ne (tgt := 48) X dX11_step_35 rfl (bo_i32 hv13) (fun c14 => ?_) (fun c14 => ?_)
            · refine go_aload_n X dX11_step_48 rfl 0 rfl ?_
              refine go_getc (i := 1) X fc11 dX11_step_49 tcn0 tc0 (Nat.le_of_ble_eq_true rfl) rfl lw641 rfl ?_
              refine go_geti (i := 4) X fc0 dX11_step_52 tcn14 tc14 (Nat.le_of_ble_eq_true rfl) rfl lw750 rfl (fun v15 hv15 => ?_)
              refine go_bipush (v := 8) X dX11_step_55 (by decide) ?_
              refine go_lt (fun J => ∀ (M16 : Mm), Go p l e (rmX 7 103 2 12) s m args below meth c D TC 681 base 4 1 6 (FinXi D TC 681 base 2 12 below args s i32) M16 74 [] [] (J M16)) (by
                  intro M16
                  exact go_throwI (kc := 1) (ks := 6) (tx := "the draft is full or has too few expressions") X Z ⟨hb, hbs⟩ xd3 (List.mem_of_getElem? (i := 11) rfl) dX11_step_74 dX11_step_77 dX11_step_78 dX11_step_80 dX11_step_83 ⟨Nat.le_of_ble_eq_true rfl, Nat.le_of_ble_eq_true rfl, Nat.le_of_ble_eq_true rfl, Nat.le_of_ble_eq_true rfl⟩ (Nat.le_of_ble_eq_true rfl) (Nat.le_of_ble_eq_true rfl)
                  )
                  (fun J74_17 hJ74_17 => ?_)
              refine go_icmp_ge (tgt := 74) X dX11_step_57 rfl hv15 kI_8 (fun c18 => ?_) (fun c18 => ?_)
              · refine go_sub [] rfl ?_
                exact hJ74_17 M12
              · refine go_aload_n X dX11_step_60 rfl 0 rfl ?_
                refine go_getc (i := 1) X fc11 dX11_step_61 tcn0 tc0 (Nat.le_of_ble_eq_true rfl) rfl lw641 rfl ?_
                refine go_geti (i := 5) X fc0 dX11_step_64 tcn14 tc14 (Nat.le_of_ble_eq_true rfl) rfl lw751 rfl (fun v19 hv19 => ?_)
                refine go_iload_n X dX11_step_67 rfl 1 rfl ?_
                refine goI (fun H locs ls r ho hW hL => runS X (ok_X11_operandsOf l D base M12 a1 ha1 H.size r ho) dX11_step_68 lw756 lw18 lw19 ⟨lw12, cy_X11_operandsOf, Nat.le_of_ble_eq_true rfl, Nat.le_of_ble_eq_true rfl⟩ rfl rfl (Nat.le_of_ble_eq_true rfl) hW hL ⟨Nat.le_of_ble_eq_true rfl, Nat.le_of_ble_eq_true rfl⟩) (fun v21 M20 hv21 => ?_)
                refine go_icmp_ge (tgt := 84) X dX11_step_71 rfl hv19 hv21 (fun c22 => ?_) (fun c22 => ?_)
                · refine go_aload_n X dX11_step_84 rfl 0 rfl ?_
                  refine go_getc (i := 1) X fc11 dX11_step_85 tcn0 tc0 (Nat.le_of_ble_eq_true rfl) rfl lw641 rfl ?_
                  refine go_iload_n X dX11_step_88 rfl 1 rfl ?_
                  refine go_iload_n X dX11_step_89 rfl 2 rfl ?_
                  refine go_iload_n X dX11_step_90 rfl 3 rfl ?_
                  refine goV (fun H locs ls r ho hW hL => runV X (ok_X0_append l D base M20 14 isE_14 a1 ha1 a2 ha2 a3 ha3 H.size r ho) dX11_step_91 lw757 lw758 lw759 lw33 ⟨lw15, cy_X0_append, Nat.le_of_ble_eq_true rfl, Nat.le_of_ble_eq_true rfl⟩ rfl tcn14 tc14 rfl rfl rfl rfl (Nat.le_of_ble_eq_true rfl) hW hL ⟨Nat.le_of_ble_eq_true rfl, Nat.le_of_ble_eq_true rfl⟩) (fun _ M23 => ?_)
                  refine go_aload_n X dX11_step_94 rfl 0 rfl ?_
                  refine go_getc (i := 1) X fc11 dX11_step_95 tcn0 tc0 (Nat.le_of_ble_eq_true rfl) rfl lw641 rfl ?_
                  refine go_geti (i := 5) X fc0 dX11_step_98 tcn14 tc14 (Nat.le_of_ble_eq_true rfl) rfl lw751 rfl (fun v24 hv24 => ?_)
                  exact go_xireturn X hrt hlk dX11_step_101 hv24 (Nat.le_of_ble_eq_true rfl) (Nat.le_of_ble_eq_true rfl)
                · refine go_sub [] rfl ?_
                  exact hJ74_17 M20
            · refine go_sub [] rfl ?_
              exact hJ38_6 M12
      )
      (fun J12_4 hJ12_4 => ?_)
  refine go_if_eq (tgt := 12) X dX11_step_4 rfl (bo_i32 hv2) (fun c25 => ?_) (fun c25 => ?_)
  · refine go_widen 1 6 (by decide) (by decide) ?_
    exact hJ12_4 M1
  · refine go_aload_n X dX11_step_7 rfl 0 rfl ?_
    refine go_iload_n X dX11_step_8 rfl 2 rfl ?_
    refine go_xcall (okr := i32) (Or.inl rfl) X Z hb (ok_X11_mustBeAttribute l hl D base b0 hb M1 a2 ha2) dX11_step_9 lw730 lw731 lw732 lw19 ⟨lw726, cy_X11_mustBeAttribute, Nat.le_of_ble_eq_true rfl, Nat.le_of_ble_eq_true rfl⟩ rfl tcn0 tc0 rfl rfl rfl rfl (Nat.le_of_ble_eq_true rfl) ⟨Nat.le_of_ble_eq_true rfl, Nat.le_of_ble_eq_true rfl⟩ ⟨Nat.le_of_ble_eq_true rfl, Nat.le_of_ble_eq_true rfl⟩ (fun _ M26 => ?_)
    exact hJ12_4 M26
def f_X11_equation (a1 : Int) (a2 : Int) (a3 : Int) (a4 : Int) (M : Mm) : Rx :=
Cl (f_X5_hasProduction a1 M) fun v2 M1 =>
if ¬ v2 = 0 then (
Clx (f_X11_mustBeAttribute a2 M1) fun _ M4 =>
Lt (fun (M5 : Mm) => 
Clx (f_X11_mustBeAspect a4 M5) fun _ M7 =>
Cl (f_X5_kindOf a2 M7) fun v9 M8 =>
Cl (f_X11_goesWithKind a3 v9 M8) fun v11 M10 =>
if ¬ v11 = 0 then (
Lt (M10 14 5) fun v13 =>
Lt (fun (v14 : Int) (M15 : Mm) => 
Lt (fun (M17 : Mm) => 
some (3, 0, M17)) fun J120_18 =>
if ¬ v13 = v14 then (
J120_18 M15) else (
Lt (M15 25 0) fun v20 =>
if v20 < 30 then (
Cl (f_X0_place 14 a1 a2 a3 a4 M15) fun _ M22 =>
Cl (f_X1_append 14 M22) fun v24 M23 =>
Cl (f_X0_clear 14 M23) fun _ M25 =>
Cl (f_X11_followGrammar M25) fun _ M26 =>
some (0, v24, M26)) else (
J120_18 M15))) fun J105_16 =>
if ¬ v9 = 2 then (
J105_16 1 M10) else (
J105_16 2 M10)) else (
some (2, 0, M10))) fun J52_6 =>
if a3 < 0 then (
J52_6 M4) else (
Cl (f_X5_childCountOf a1 M4) fun v30 M29 =>
if a3 < v30 then (
J52_6 M29) else (
some (1, 0, M29)))) else (
some (1, 0, M1))
theorem cy_X11_equation : yX11_equation.cls ≠ "java/lang/invoke/MethodHandle" ∧ yX11_equation.cls ≠ "java/lang/invoke/VarHandle" ∧ (parseMethodDescriptor yX11_equation.desc).map (fun d => d.parameters.length) = some 4 := ⟨by decide +kernel, by decide +kernel, by decide +kernel⟩
set_option maxRecDepth 20000 in
theorem ok_X11_equation (l : Launch) (hl : l.stackTraces = false) (D : Dd) (base b0 : Nat) (hb : b0 ≤ base) (M : Mm) (a1 : Int) (ha1 : i32 a1) (a2 : Int) (ha2 : i32 a2) (a3 : Int) (ha3 : i32 a3) (a4 : Int) (ha4 : i32 a4) : OkXi l D TC 681 base b0 yX11_equation cX11_equation 7 (some .int) 7 136 3 18 [.ref (base + 0), .int (Ii a1), .int (Ii a2), .int (Ii a3), .int (Ii a4)] M i32 (f_X11_equation a1 a2 a3 a4 M) := by
  refine metXi hl (by decide +kernel) [(0, .ref (base + 0)), (1, .int (Ii a1)), (2, .int (Ii a2)), (3, .int (Ii a3)), (4, .int (Ii a4))] rfl (Nat.le_of_ble_eq_true rfl) (fun p e s m args below meth c X Z hbs hrt hlk => ?_) (by decide)
  have X : Cx p s m args c cX11_equation D 7 RX11 := X
  unfold f_X11_equation
  refine go_aload_n X dX11_equation_0 rfl 0 rfl ?_
  refine go_getc (i := 0) X fc11 dX11_equation_1 tcn0 tc0 (Nat.le_of_ble_eq_true rfl) rfl lw639 rfl ?_
  refine go_iload_n X dX11_equation_4 rfl 1 rfl ?_
  refine goI (fun H locs ls r ho hW hL => runV X (ok_X5_hasProduction l D base M a1 ha1 H.size r ho) dX11_equation_5 lw712 lw713 lw714 lw80 ⟨lw416, cy_X5_hasProduction, Nat.le_of_ble_eq_true rfl, Nat.le_of_ble_eq_true rfl⟩ rfl tcn1 tc1 rfl rfl rfl rfl (Nat.le_of_ble_eq_true rfl) hW hL hk0) (fun v2 M1 hv2 => ?_)
  refine go_if_ne (tgt := 21) X dX11_equation_8 rfl (bo_i32 hv2) (fun c3 => ?_) (fun c3 => ?_)
  · refine go_aload_n X dX11_equation_21 rfl 0 rfl ?_
    refine go_iload_n X dX11_equation_22 rfl 2 rfl ?_
    refine go_xcall (okr := i32) (Or.inl rfl) X Z hb (ok_X11_mustBeAttribute l hl D base b0 hb M1 a2 ha2) dX11_equation_23 lw730 lw731 lw732 lw19 ⟨lw726, cy_X11_mustBeAttribute, Nat.le_of_ble_eq_true rfl, Nat.le_of_ble_eq_true rfl⟩ rfl tcn0 tc0 rfl rfl rfl rfl (Nat.le_of_ble_eq_true rfl) ⟨Nat.le_of_ble_eq_true rfl, Nat.le_of_ble_eq_true rfl⟩ ⟨Nat.le_of_ble_eq_true rfl, Nat.le_of_ble_eq_true rfl⟩ (fun _ M4 => ?_)
    refine go_iload_n X dX11_equation_26 rfl 3 rfl ?_
    refine go_lt (fun J => ∀ (M5 : Mm), Go p l e (rmX 7 136 3 18) s m args below meth c D TC 681 base 7 1 6 (FinXi D TC 681 base 3 18 below args s i32) M5 52 [(0, .ref (base + 0)), (1, .int (Ii a1)), (2, .int (Ii a2)), (3, .int (Ii a3)), (4, .int (Ii a4))] [] (J M5)) (by
        intro M5
        refine go_aload_n X dX11_equation_52 rfl 0 rfl ?_
        refine go_iload X dX11_equation_53 4 rfl ?_
        refine go_xcall (okr := i32) (Or.inl rfl) X Z hb (ok_X11_mustBeAspect l hl D base b0 hb M5 a4 ha4) dX11_equation_55 lw768 lw769 lw770 lw19 ⟨lw765, cy_X11_mustBeAspect, Nat.le_of_ble_eq_true rfl, Nat.le_of_ble_eq_true rfl⟩ rfl tcn0 tc0 rfl rfl rfl rfl (Nat.le_of_ble_eq_true rfl) ⟨Nat.le_of_ble_eq_true rfl, Nat.le_of_ble_eq_true rfl⟩ ⟨Nat.le_of_ble_eq_true rfl, Nat.le_of_ble_eq_true rfl⟩ (fun _ M7 => ?_)
        refine go_aload_n X dX11_equation_58 rfl 0 rfl ?_
        refine go_getc (i := 0) X fc11 dX11_equation_59 tcn0 tc0 (Nat.le_of_ble_eq_true rfl) rfl lw639 rfl ?_
        refine go_iload_n X dX11_equation_62 rfl 2 rfl ?_
        refine goI (fun H locs ls r ho hW hL => runV X (ok_X5_kindOf l D base M7 a2 ha2 H.size r ho) dX11_equation_63 lw771 lw222 lw223 lw80 ⟨lw168, cy_X5_kindOf, Nat.le_of_ble_eq_true rfl, Nat.le_of_ble_eq_true rfl⟩ rfl tcn1 tc1 rfl rfl rfl rfl (Nat.le_of_ble_eq_true rfl) hW hL ⟨Nat.le_of_ble_eq_true rfl, Nat.le_of_ble_eq_true rfl⟩) (fun v9 M8 hv9 => ?_)
        refine go_istore (i := 5) (L' := [(5, .int (Ii v9)), (0, .ref (base + 0)), (1, .int (Ii a1)), (2, .int (Ii a2)), (3, .int (Ii a3)), (4, .int (Ii a4))]) X dX11_equation_66 (by decide) rfl ?_
        refine go_iload_n X dX11_equation_68 rfl 4 rfl ?_
        refine go_iload X dX11_equation_69 0 rfl ?_
        refine goI (fun H locs ls r ho hW hL => runS X (ok_X11_goesWithKind l D base M8 a3 ha3 v9 hv9 H.size r ho) dX11_equation_71 lw772 lw773 lw19 ⟨lw766, cy_X11_goesWithKind, Nat.le_of_ble_eq_true rfl, Nat.le_of_ble_eq_true rfl⟩ rfl rfl (Nat.le_of_ble_eq_true rfl) hW hL ⟨Nat.le_of_ble_eq_true rfl, Nat.le_of_ble_eq_true rfl⟩) (fun v11 M10 hv11 => ?_)
        refine go_if_ne (tgt := 87) X dX11_equation_74 rfl (bo_i32 hv11) (fun c12 => ?_) (fun c12 => ?_)
        · refine go_aload_n X dX11_equation_87 rfl 1 rfl ?_
          refine go_getc (i := 1) X fc11 dX11_equation_88 tcn0 tc0 (Nat.le_of_ble_eq_true rfl) rfl lw641 rfl ?_
          refine go_geti (i := 5) X fc0 dX11_equation_91 tcn14 tc14 (Nat.le_of_ble_eq_true rfl) rfl lw751 rfl (fun v13 hv13 => ?_)
          refine go_iload X dX11_equation_94 0 rfl ?_
          refine go_iconst (v := 2) X dX11_equation_96 rfl ?_
          refine go_lt (fun J => ∀ (v14 : Int) (M15 : Mm), i32 v14 → Go p l e (rmX 7 136 3 18) s m args below meth c D TC 681 base 7 2 12 (FinXi D TC 681 base 3 18 below args s i32) M15 105 [(0, .ref (base + 0)), (1, .int (Ii a1)), (2, .int (Ii a2)), (3, .int (Ii a3)), (4, .int (Ii a4))] [.int (Ii v14), .int (Ii v13)] (J v14 M15)) (by
              intro v14 M15 hv14
              refine go_lt (fun J => ∀ (M17 : Mm), Go p l e (rmX 7 136 3 18) s m args below meth c D TC 681 base 7 2 12 (FinXi D TC 681 base 3 18 below args s i32) M17 120 [] [] (J M17)) (by
                  intro M17
                  exact go_throwI (kc := 2) (ks := 12) (tx := "the draft is no such equation, or there are 30") X Z ⟨hb, hbs⟩ xd3 (List.mem_of_getElem? (i := 14) rfl) dX11_equation_120 dX11_equation_123 dX11_equation_124 dX11_equation_126 dX11_equation_129 ⟨Nat.le_of_ble_eq_true rfl, Nat.le_of_ble_eq_true rfl, Nat.le_of_ble_eq_true rfl, Nat.le_of_ble_eq_true rfl⟩ (Nat.le_of_ble_eq_true rfl) (Nat.le_of_ble_eq_true rfl)
                  )
                  (fun J120_18 hJ120_18 => ?_)
              refine go_icmp_ne (tgt := 120) X dX11_equation_105 rfl hv13 hv14 (fun c19 => ?_) (fun c19 => ?_)
              · refine go_sub [] rfl ?_
                exact hJ120_18 M15
              · refine go_aload_n X dX11_equation_108 rfl 0 rfl ?_
                refine go_getc (i := 2) X fc11 dX11_equation_109 tcn0 tc0 (Nat.le_of_ble_eq_true rfl) rfl lw646 rfl ?_
                refine go_geti (i := 0) X fc1 dX11_equation_112 tcn25 tc25 (Nat.le_of_ble_eq_true rfl) rfl lw767 rfl (fun v20 hv20 => ?_)
                refine go_bipush (v := 30) X dX11_equation_115 (by decide) ?_
                refine go_icmp_lt (tgt := 130) X dX11_equation_117 rfl hv20 kI_30 (fun c21 => ?_) (fun c21 => ?_)
                · refine go_aload_n X dX11_equation_130 rfl 0 rfl ?_
                  refine go_getc (i := 1) X fc11 dX11_equation_131 tcn0 tc0 (Nat.le_of_ble_eq_true rfl) rfl lw641 rfl ?_
                  refine go_iload_n X dX11_equation_134 rfl 1 rfl ?_
                  refine go_iload_n X dX11_equation_135 rfl 2 rfl ?_
                  refine go_iload_n X dX11_equation_136 rfl 3 rfl ?_
                  refine go_iload X dX11_equation_137 4 rfl ?_
                  refine goV (fun H locs ls r ho hW hL => runV X (ok_X0_place l D base M15 14 isE_14 a1 ha1 a2 ha2 a3 ha3 a4 ha4 H.size r ho) dX11_equation_139 lw774 lw31 lw32 lw33 ⟨lw23, cy_X0_place, Nat.le_of_ble_eq_true rfl, Nat.le_of_ble_eq_true rfl⟩ rfl tcn14 tc14 rfl rfl rfl rfl (Nat.le_of_ble_eq_true rfl) hW hL ⟨Nat.le_of_ble_eq_true rfl, Nat.le_of_ble_eq_true rfl⟩) (fun _ M22 => ?_)
                  refine go_aload_n X dX11_equation_142 rfl 0 rfl ?_
                  refine go_getc (i := 2) X fc11 dX11_equation_143 tcn0 tc0 (Nat.le_of_ble_eq_true rfl) rfl lw646 rfl ?_
                  refine go_aload_n X dX11_equation_146 rfl 0 rfl ?_
                  refine go_getc (i := 1) X fc11 dX11_equation_147 tcn0 tc0 (Nat.le_of_ble_eq_true rfl) rfl lw641 rfl ?_
                  refine goI (fun H locs ls r ho hW hL => runV X (ok_X1_append l D base M22 14 isE_14 H.size r ho) dX11_equation_150 lw775 lw776 lw777 lw105 ⟨lw61, cy_X1_append, Nat.le_of_ble_eq_true rfl, Nat.le_of_ble_eq_true rfl⟩ rfl tcn25 tc25 rfl rfl rfl rfl (Nat.le_of_ble_eq_true rfl) hW hL ⟨Nat.le_of_ble_eq_true rfl, Nat.le_of_ble_eq_true rfl⟩) (fun v24 M23 hv24 => ?_)
                  refine go_istore (i := 6) (L' := [(6, .int (Ii v24)), (0, .ref (base + 0)), (1, .int (Ii a1)), (2, .int (Ii a2)), (3, .int (Ii a3)), (4, .int (Ii a4))]) X dX11_equation_153 (by decide) rfl ?_
                  refine go_aload_n X dX11_equation_155 rfl 1 rfl ?_
                  refine go_getc (i := 1) X fc11 dX11_equation_156 tcn0 tc0 (Nat.le_of_ble_eq_true rfl) rfl lw641 rfl ?_
                  refine goV (fun H locs ls r ho hW hL => runV X (ok_X0_clear l D base M23 14 isE_14 H.size r ho) dX11_equation_159 lw762 lw763 lw764 lw33 ⟨lw22, cy_X0_clear, Nat.le_of_ble_eq_true rfl, Nat.le_of_ble_eq_true rfl⟩ rfl tcn14 tc14 rfl rfl rfl rfl (Nat.le_of_ble_eq_true rfl) hW hL ⟨Nat.le_of_ble_eq_true rfl, Nat.le_of_ble_eq_true rfl⟩) (fun _ M25 => ?_)
                  refine go_aload_n X dX11_equation_162 rfl 1 rfl ?_
                  refine goV (fun H locs ls r ho hW hL => runV X (ok_X11_followGrammar l D base M25  H.size r ho) dX11_equation_163 lw704 lw705 lw706 lw19 ⟨lw691, cy_X11_followGrammar, Nat.le_of_ble_eq_true rfl, Nat.le_of_ble_eq_true rfl⟩ rfl tcn0 tc0 rfl rfl rfl rfl (Nat.le_of_ble_eq_true rfl) hW hL ⟨Nat.le_of_ble_eq_true rfl, Nat.le_of_ble_eq_true rfl⟩) (fun _ M26 => ?_)
                  refine go_iload X dX11_equation_166 0 rfl ?_
                  exact go_xireturn X hrt hlk dX11_equation_168 hv24 (Nat.le_of_ble_eq_true rfl) (Nat.le_of_ble_eq_true rfl)
                · refine go_sub [] rfl ?_
                  exact hJ120_18 M15
              )
              (fun J105_16 hJ105_16 => ?_)
          refine go_icmp_ne (tgt := 104) X dX11_equation_97 rfl hv9 kI_2 (fun c27 => ?_) (fun c27 => ?_)
          · refine go_iconst (v := 1) X dX11_equation_104 rfl ?_
            refine go_sub [1, 2, 3, 4, 5] rfl ?_
            exact hJ105_16 1 M10 kI_1
          · refine go_iconst (v := 2) X dX11_equation_100 rfl ?_
            refine go_goto (tgt := 105) X dX11_equation_101 rfl ?_
            refine go_sub [1, 2, 3, 4, 5] rfl ?_
            exact hJ105_16 2 M10 kI_2
        · exact go_throwI (kc := 2) (ks := 12) (tx := "the target does not go with the attribute") X Z ⟨hb, hbs⟩ xd2 (List.mem_of_getElem? (i := 13) rfl) dX11_equation_77 dX11_equation_80 dX11_equation_81 dX11_equation_83 dX11_equation_86 ⟨Nat.le_of_ble_eq_true rfl, Nat.le_of_ble_eq_true rfl, Nat.le_of_ble_eq_true rfl, Nat.le_of_ble_eq_true rfl⟩ (Nat.le_of_ble_eq_true rfl) (Nat.le_of_ble_eq_true rfl)
        )
        (fun J52_6 hJ52_6 => ?_)
    refine go_if_lt (tgt := 52) X dX11_equation_27 rfl ha3 (fun c28 => ?_) (fun c28 => ?_)
    · exact hJ52_6 M4
    · refine go_iload_n X dX11_equation_30 rfl 3 rfl ?_
      refine go_aload_n X dX11_equation_31 rfl 0 rfl ?_
      refine go_getc (i := 0) X fc11 dX11_equation_32 tcn0 tc0 (Nat.le_of_ble_eq_true rfl) rfl lw639 rfl ?_
      refine go_iload_n X dX11_equation_35 rfl 1 rfl ?_
      refine goI (fun H locs ls r ho hW hL => runV X (ok_X5_childCountOf l D base M4 a1 ha1 H.size r ho) dX11_equation_36 lw709 lw78 lw79 lw80 ⟨lw67, cy_X5_childCountOf, Nat.le_of_ble_eq_true rfl, Nat.le_of_ble_eq_true rfl⟩ rfl tcn1 tc1 rfl rfl rfl rfl (Nat.le_of_ble_eq_true rfl) hW hL ⟨Nat.le_of_ble_eq_true rfl, Nat.le_of_ble_eq_true rfl⟩) (fun v30 M29 hv30 => ?_)
      refine go_icmp_lt (tgt := 52) X dX11_equation_39 rfl ha3 hv30 (fun c31 => ?_) (fun c31 => ?_)
      · exact hJ52_6 M29
      · exact go_throwI (kc := 1) (ks := 6) (tx := "no such child") X Z ⟨hb, hbs⟩ xd1 (List.mem_of_getElem? (i := 4) rfl) dX11_equation_42 dX11_equation_45 dX11_equation_46 dX11_equation_48 dX11_equation_51 ⟨Nat.le_of_ble_eq_true rfl, Nat.le_of_ble_eq_true rfl, Nat.le_of_ble_eq_true rfl, Nat.le_of_ble_eq_true rfl⟩ (Nat.le_of_ble_eq_true rfl) (Nat.le_of_ble_eq_true rfl)
  · exact go_throwI (kc := 0) (ks := 0) (tx := "no such production") X Z ⟨hb, hbs⟩ xd1 (List.mem_of_getElem? (i := 3) rfl) dX11_equation_11 dX11_equation_14 dX11_equation_15 dX11_equation_17 dX11_equation_20 ⟨Nat.le_of_ble_eq_true rfl, Nat.le_of_ble_eq_true rfl, Nat.le_of_ble_eq_true rfl, Nat.le_of_ble_eq_true rfl⟩ (Nat.le_of_ble_eq_true rfl) (Nat.le_of_ble_eq_true rfl)
def f_X11_toggle (a1 : Int) (M : Mm) : Rx :=
Clx (f_X11_mustBeAspect a1 M) fun _ M1 =>
Cl (f_X1_turnAspect a1 M1) fun v3 M2 =>
Cl (f_X11_followGrammar M2) fun _ M4 =>
some (0, v3, M4)
theorem cy_X11_toggle : yX11_toggle.cls ≠ "java/lang/invoke/MethodHandle" ∧ yX11_toggle.cls ≠ "java/lang/invoke/VarHandle" ∧ (parseMethodDescriptor yX11_toggle.desc).map (fun d => d.parameters.length) = some 1 := ⟨by decide +kernel, by decide +kernel, by decide +kernel⟩
set_option maxRecDepth 20000 in
theorem ok_X11_toggle (l : Launch) (hl : l.stackTraces = false) (D : Dd) (base b0 : Nat) (hb : b0 ≤ base) (M : Mm) (a1 : Int) (ha1 : i32 a1) : OkXi l D TC 681 base b0 yX11_toggle cX11_toggle 3 (some .boolean) 7 136 1 6 [.ref (base + 0), .int (Ii a1)] M bo (f_X11_toggle a1 M) := by
  refine metXi hl (by decide +kernel) [(0, .ref (base + 0)), (1, .int (Ii a1))] rfl (Nat.le_of_ble_eq_true rfl) (fun p e s m args below meth c X Z hbs hrt hlk => ?_) (by decide)
  have X : Cx p s m args c cX11_toggle D 3 RX11 := X
  unfold f_X11_toggle
  refine go_aload_n X dX11_toggle_0 rfl 0 rfl ?_
  refine go_iload_n X dX11_toggle_1 rfl 1 rfl ?_
  refine go_xcall (okr := bo) (Or.inl rfl) X Z hb (ok_X11_mustBeAspect l hl D base b0 hb M a1 ha1) dX11_toggle_2 lw768 lw769 lw770 lw19 ⟨lw765, cy_X11_mustBeAspect, Nat.le_of_ble_eq_true rfl, Nat.le_of_ble_eq_true rfl⟩ rfl tcn0 tc0 rfl rfl rfl rfl (Nat.le_of_ble_eq_true rfl) ⟨Nat.le_of_ble_eq_true rfl, Nat.le_of_ble_eq_true rfl⟩ ⟨Nat.le_of_ble_eq_true rfl, Nat.le_of_ble_eq_true rfl⟩ (fun _ M1 => ?_)
  refine go_aload_n X dX11_toggle_5 rfl 0 rfl ?_
  refine go_getc (i := 2) X fc11 dX11_toggle_6 tcn0 tc0 (Nat.le_of_ble_eq_true rfl) rfl lw646 rfl ?_
  refine go_iload_n X dX11_toggle_9 rfl 1 rfl ?_
  refine goI (fun H locs ls r ho hW hL => runV X (ok_X1_turnAspect l D base M1 a1 ha1 H.size r ho) dX11_toggle_10 lw779 lw780 lw781 lw105 ⟨lw62, cy_X1_turnAspect, Nat.le_of_ble_eq_true rfl, Nat.le_of_ble_eq_true rfl⟩ rfl tcn25 tc25 rfl rfl rfl rfl (Nat.le_of_ble_eq_true rfl) hW hL ⟨Nat.le_of_ble_eq_true rfl, Nat.le_of_ble_eq_true rfl⟩) (fun v3 M2 hv3 => ?_)
  refine go_istore_n (i := 2) (L' := [(2, .int (Ii v3)), (0, .ref (base + 0)), (1, .int (Ii a1))]) X dX11_toggle_13 rfl (by decide) rfl ?_
  refine go_aload_n X dX11_toggle_14 rfl 1 rfl ?_
  refine goV (fun H locs ls r ho hW hL => runV X (ok_X11_followGrammar l D base M2  H.size r ho) dX11_toggle_15 lw704 lw705 lw706 lw19 ⟨lw691, cy_X11_followGrammar, Nat.le_of_ble_eq_true rfl, Nat.le_of_ble_eq_true rfl⟩ rfl tcn0 tc0 rfl rfl rfl rfl (Nat.le_of_ble_eq_true rfl) hW hL ⟨Nat.le_of_ble_eq_true rfl, Nat.le_of_ble_eq_true rfl⟩) (fun _ M4 => ?_)
  refine go_iload_n X dX11_toggle_18 rfl 0 rfl ?_
  exact go_xzreturn X hrt hlk dX11_toggle_19 hv3 hv3 (Nat.le_of_ble_eq_true rfl) (Nat.le_of_ble_eq_true rfl)
def f_X11_insert (a1 : Int) (a2 : Int) (M : Mm) : Rx :=
Lt (fun (M1 : Mm) => 
some (1, 0, M1)) fun J15_2 =>
if a1 < 0 then (
J15_2 M) else (
Lt (M 273 0) fun v4 =>
if a1 ≤ v4 then (
Lt (fun (M6 : Mm) => 
some (2, 0, M6)) fun J37_7 =>
if a2 < 97 then (
J37_7 M) else (
if a2 < 103 then (
Lt (M 273 0) fun v10 =>
Lt (fun (M11 : Mm) => 
some (3, 0, M11)) fun J69_12 =>
if 12 ≤ v10 then (
J69_12 M) else (
Lt (M 1 0) fun v14 =>
if ¬ v14 = 0 then (
Lt (wr (a2 - 97)) fun v16 =>
Cl (f_X9_putLetter a1 v16 M) fun _ M17 =>
Cl (f_X11_readAgain M17) fun v19 M18 =>
some (0, v19, M18)) else (
J69_12 M))) else (
J37_7 M))) else (
J15_2 M))
theorem cy_X11_insert : yX11_insert.cls ≠ "java/lang/invoke/MethodHandle" ∧ yX11_insert.cls ≠ "java/lang/invoke/VarHandle" ∧ (parseMethodDescriptor yX11_insert.desc).map (fun d => d.parameters.length) = some 2 := ⟨by decide +kernel, by decide +kernel, by decide +kernel⟩
set_option maxRecDepth 20000 in
theorem ok_X11_insert (l : Launch) (hl : l.stackTraces = false) (D : Dd) (base b0 : Nat) (hb : b0 ≤ base) (M : Mm) (a1 : Int) (ha1 : i32 a1) (a2 : Int) (ha2 : i32 a2) : OkXi l D TC 681 base b0 yX11_insert cX11_insert 3 (some .int) 7 172 1 6 [.ref (base + 0), .int (Ii a1), .int (Ii a2)] M i32 (f_X11_insert a1 a2 M) := by
  refine metXi hl (by decide +kernel) [(0, .ref (base + 0)), (1, .int (Ii a1)), (2, .int (Ii a2))] rfl (Nat.le_of_ble_eq_true rfl) (fun p e s m args below meth c X Z hbs hrt hlk => ?_) (by decide)
  have X : Cx p s m args c cX11_insert D 3 RX11 := X
  unfold f_X11_insert
  refine go_iload_n X dX11_insert_0 rfl 1 rfl ?_
  refine go_lt (fun J => ∀ (M1 : Mm), Go p l e (rmX 7 172 1 6) s m args below meth c D TC 681 base 3 0 0 (FinXi D TC 681 base 1 6 below args s i32) M1 15 [] [] (J M1)) (by
      intro M1
      exact go_throwI (kc := 0) (ks := 0) (tx := "no such place") X Z ⟨hb, hbs⟩ xd1 (List.mem_of_getElem? (i := 15) rfl) dX11_insert_15 dX11_insert_18 dX11_insert_19 dX11_insert_21 dX11_insert_24 ⟨Nat.le_of_ble_eq_true rfl, Nat.le_of_ble_eq_true rfl, Nat.le_of_ble_eq_true rfl, Nat.le_of_ble_eq_true rfl⟩ (Nat.le_of_ble_eq_true rfl) (Nat.le_of_ble_eq_true rfl)
      )
      (fun J15_2 hJ15_2 => ?_)
  refine go_if_lt (tgt := 15) X dX11_insert_1 rfl ha1 (fun c3 => ?_) (fun c3 => ?_)
  · refine go_sub [] rfl ?_
    exact hJ15_2 M
  · refine go_iload_n X dX11_insert_4 rfl 1 rfl ?_
    refine go_aload_n X dX11_insert_5 rfl 0 rfl ?_
    refine go_getc (i := 3) X fc11 dX11_insert_6 tcn0 tc0 (Nat.le_of_ble_eq_true rfl) rfl lw649 rfl ?_
    refine go_geti (i := 0) X fc9 dX11_insert_9 tcn273 tc273 (Nat.le_of_ble_eq_true rfl) rfl lw812 rfl (fun v4 hv4 => ?_)
    refine go_icmp_le (tgt := 25) X dX11_insert_12 rfl ha1 hv4 (fun c5 => ?_) (fun c5 => ?_)
    · refine go_iload_n X dX11_insert_25 rfl 2 rfl ?_
      refine go_bipush (v := 97) X dX11_insert_26 (by decide) ?_
      refine go_lt (fun J => ∀ (M6 : Mm), Go p l e (rmX 7 172 1 6) s m args below meth c D TC 681 base 3 0 0 (FinXi D TC 681 base 1 6 below args s i32) M6 37 [] [] (J M6)) (by
          intro M6
          exact go_throwI (kc := 0) (ks := 0) (tx := "the letter is out of range") X Z ⟨hb, hbs⟩ xd2 (List.mem_of_getElem? (i := 16) rfl) dX11_insert_37 dX11_insert_40 dX11_insert_41 dX11_insert_43 dX11_insert_46 ⟨Nat.le_of_ble_eq_true rfl, Nat.le_of_ble_eq_true rfl, Nat.le_of_ble_eq_true rfl, Nat.le_of_ble_eq_true rfl⟩ (Nat.le_of_ble_eq_true rfl) (Nat.le_of_ble_eq_true rfl)
          )
          (fun J37_7 hJ37_7 => ?_)
      refine go_icmp_lt (tgt := 37) X dX11_insert_28 rfl ha2 kI_97 (fun c8 => ?_) (fun c8 => ?_)
      · refine go_sub [] rfl ?_
        exact hJ37_7 M
      · refine go_iload_n X dX11_insert_31 rfl 2 rfl ?_
        refine go_bipush (v := 103) X dX11_insert_32 (by decide) ?_
        refine go_icmp_lt (tgt := 47) X dX11_insert_34 rfl ha2 kI_103 (fun c9 => ?_) (fun c9 => ?_)
        · refine go_aload_n X dX11_insert_47 rfl 0 rfl ?_
          refine go_getc (i := 3) X fc11 dX11_insert_48 tcn0 tc0 (Nat.le_of_ble_eq_true rfl) rfl lw649 rfl ?_
          refine go_geti (i := 0) X fc9 dX11_insert_51 tcn273 tc273 (Nat.le_of_ble_eq_true rfl) rfl lw812 rfl (fun v10 hv10 => ?_)
          refine go_bipush (v := 12) X dX11_insert_54 (by decide) ?_
          refine go_lt (fun J => ∀ (M11 : Mm), Go p l e (rmX 7 172 1 6) s m args below meth c D TC 681 base 3 0 0 (FinXi D TC 681 base 1 6 below args s i32) M11 69 [] [] (J M11)) (by
              intro M11
              exact go_throwI (kc := 0) (ks := 0) (tx := "the text is full, or there is no production") X Z ⟨hb, hbs⟩ xd3 (List.mem_of_getElem? (i := 17) rfl) dX11_insert_69 dX11_insert_72 dX11_insert_73 dX11_insert_75 dX11_insert_78 ⟨Nat.le_of_ble_eq_true rfl, Nat.le_of_ble_eq_true rfl, Nat.le_of_ble_eq_true rfl, Nat.le_of_ble_eq_true rfl⟩ (Nat.le_of_ble_eq_true rfl) (Nat.le_of_ble_eq_true rfl)
              )
              (fun J69_12 hJ69_12 => ?_)
          refine go_icmp_ge (tgt := 69) X dX11_insert_56 rfl hv10 kI_12 (fun c13 => ?_) (fun c13 => ?_)
          · refine go_sub [] rfl ?_
            exact hJ69_12 M
          · refine go_aload_n X dX11_insert_59 rfl 0 rfl ?_
            refine go_getc (i := 0) X fc11 dX11_insert_60 tcn0 tc0 (Nat.le_of_ble_eq_true rfl) rfl lw639 rfl ?_
            refine go_geti (i := 0) X fc5 dX11_insert_63 tcn1 tc1 (Nat.le_of_ble_eq_true rfl) rfl lw698 rfl (fun v14 hv14 => ?_)
            refine go_if_ne (tgt := 79) X dX11_insert_66 rfl hv14 (fun c15 => ?_) (fun c15 => ?_)
            · refine go_aload_n X dX11_insert_79 rfl 0 rfl ?_
              refine go_getc (i := 3) X fc11 dX11_insert_80 tcn0 tc0 (Nat.le_of_ble_eq_true rfl) rfl lw649 rfl ?_
              refine go_iload_n X dX11_insert_83 rfl 1 rfl ?_
              refine go_iload_n X dX11_insert_84 rfl 2 rfl ?_
              refine go_bipush (v := 97) X dX11_insert_85 (by decide) ?_
              refine go_isub X dX11_insert_87 ha2 kI_97 (fun v16 hv16 => ?_)
              refine goV (fun H locs ls r ho hW hL => runV X (ok_X9_putLetter l D base M a1 ha1 v16 hv16 H.size r ho) dX11_insert_88 lw813 lw814 lw815 lw570 ⟨lw562, cy_X9_putLetter, Nat.le_of_ble_eq_true rfl, Nat.le_of_ble_eq_true rfl⟩ rfl tcn273 tc273 rfl rfl rfl rfl (Nat.le_of_ble_eq_true rfl) hW hL hk0) (fun _ M17 => ?_)
              refine go_aload_n X dX11_insert_91 rfl 0 rfl ?_
              refine goI (fun H locs ls r ho hW hL => runV X (ok_X11_readAgain l D base M17  H.size r ho) dX11_insert_92 lw816 lw817 lw818 lw19 ⟨lw811, cy_X11_readAgain, Nat.le_of_ble_eq_true rfl, Nat.le_of_ble_eq_true rfl⟩ rfl tcn0 tc0 rfl rfl rfl rfl (Nat.le_of_ble_eq_true rfl) hW hL hk0) (fun v19 M18 hv19 => ?_)
              exact go_xireturn X hrt hlk dX11_insert_95 hv19 (Nat.le_of_ble_eq_true rfl) (Nat.le_of_ble_eq_true rfl)
            · refine go_sub [] rfl ?_
              exact hJ69_12 M
        · refine go_sub [] rfl ?_
          exact hJ37_7 M
    · refine go_sub [] rfl ?_
      exact hJ15_2 M
def f_X11_delete (a1 : Int) (M : Mm) : Rx :=
Lt (fun (M1 : Mm) => 
some (1, 0, M1)) fun J15_2 =>
if a1 < 0 then (
J15_2 M) else (
Lt (M 273 0) fun v4 =>
if a1 < v4 then (
Lt (M 1 0) fun v6 =>
if ¬ v6 = 0 then (
Cl (f_X9_takeLetter a1 M) fun _ M8 =>
Cl (f_X11_readAgain M8) fun v10 M9 =>
some (0, v10, M9)) else (
some (3, 0, M))) else (
J15_2 M))
theorem cy_X11_delete : yX11_delete.cls ≠ "java/lang/invoke/MethodHandle" ∧ yX11_delete.cls ≠ "java/lang/invoke/VarHandle" ∧ (parseMethodDescriptor yX11_delete.desc).map (fun d => d.parameters.length) = some 1 := ⟨by decide +kernel, by decide +kernel, by decide +kernel⟩
set_option maxRecDepth 20000 in
theorem ok_X11_delete (l : Launch) (hl : l.stackTraces = false) (D : Dd) (base b0 : Nat) (hb : b0 ≤ base) (M : Mm) (a1 : Int) (ha1 : i32 a1) : OkXi l D TC 681 base b0 yX11_delete cX11_delete 2 (some .int) 7 172 1 6 [.ref (base + 0), .int (Ii a1)] M i32 (f_X11_delete a1 M) := by
  refine metXi hl (by decide +kernel) [(0, .ref (base + 0)), (1, .int (Ii a1))] rfl (Nat.le_of_ble_eq_true rfl) (fun p e s m args below meth c X Z hbs hrt hlk => ?_) (by decide)
  have X : Cx p s m args c cX11_delete D 2 RX11 := X
  unfold f_X11_delete
  refine go_iload_n X dX11_delete_0 rfl 1 rfl ?_
  refine go_lt (fun J => ∀ (M1 : Mm), Go p l e (rmX 7 172 1 6) s m args below meth c D TC 681 base 2 0 0 (FinXi D TC 681 base 1 6 below args s i32) M1 15 [] [] (J M1)) (by
      intro M1
      exact go_throwI (kc := 0) (ks := 0) (tx := "no such letter") X Z ⟨hb, hbs⟩ xd1 (List.mem_of_getElem? (i := 18) rfl) dX11_delete_15 dX11_delete_18 dX11_delete_19 dX11_delete_21 dX11_delete_24 ⟨Nat.le_of_ble_eq_true rfl, Nat.le_of_ble_eq_true rfl, Nat.le_of_ble_eq_true rfl, Nat.le_of_ble_eq_true rfl⟩ (Nat.le_of_ble_eq_true rfl) (Nat.le_of_ble_eq_true rfl)
      )
      (fun J15_2 hJ15_2 => ?_)
  refine go_if_lt (tgt := 15) X dX11_delete_1 rfl ha1 (fun c3 => ?_) (fun c3 => ?_)
  · refine go_sub [] rfl ?_
    exact hJ15_2 M
  · refine go_iload_n X dX11_delete_4 rfl 1 rfl ?_
    refine go_aload_n X dX11_delete_5 rfl 0 rfl ?_
    refine go_getc (i := 3) X fc11 dX11_delete_6 tcn0 tc0 (Nat.le_of_ble_eq_true rfl) rfl lw649 rfl ?_
    refine go_geti (i := 0) X fc9 dX11_delete_9 tcn273 tc273 (Nat.le_of_ble_eq_true rfl) rfl lw812 rfl (fun v4 hv4 => ?_)
    refine go_icmp_lt (tgt := 25) X dX11_delete_12 rfl ha1 hv4 (fun c5 => ?_) (fun c5 => ?_)
    · refine go_aload_n X dX11_delete_25 rfl 0 rfl ?_
      refine go_getc (i := 0) X fc11 dX11_delete_26 tcn0 tc0 (Nat.le_of_ble_eq_true rfl) rfl lw639 rfl ?_
      refine go_geti (i := 0) X fc5 dX11_delete_29 tcn1 tc1 (Nat.le_of_ble_eq_true rfl) rfl lw698 rfl (fun v6 hv6 => ?_)
      refine go_if_ne (tgt := 45) X dX11_delete_32 rfl hv6 (fun c7 => ?_) (fun c7 => ?_)
      · refine go_aload_n X dX11_delete_45 rfl 0 rfl ?_
        refine go_getc (i := 3) X fc11 dX11_delete_46 tcn0 tc0 (Nat.le_of_ble_eq_true rfl) rfl lw649 rfl ?_
        refine go_iload_n X dX11_delete_49 rfl 1 rfl ?_
        refine goV (fun H locs ls r ho hW hL => runV X (ok_X9_takeLetter l D base M a1 ha1 H.size r ho) dX11_delete_50 lw820 lw821 lw822 lw570 ⟨lw564, cy_X9_takeLetter, Nat.le_of_ble_eq_true rfl, Nat.le_of_ble_eq_true rfl⟩ rfl tcn273 tc273 rfl rfl rfl rfl (Nat.le_of_ble_eq_true rfl) hW hL hk0) (fun _ M8 => ?_)
        refine go_aload_n X dX11_delete_53 rfl 0 rfl ?_
        refine goI (fun H locs ls r ho hW hL => runV X (ok_X11_readAgain l D base M8  H.size r ho) dX11_delete_54 lw816 lw817 lw818 lw19 ⟨lw811, cy_X11_readAgain, Nat.le_of_ble_eq_true rfl, Nat.le_of_ble_eq_true rfl⟩ rfl tcn0 tc0 rfl rfl rfl rfl (Nat.le_of_ble_eq_true rfl) hW hL hk0) (fun v10 M9 hv10 => ?_)
        exact go_xireturn X hrt hlk dX11_delete_57 hv10 (Nat.le_of_ble_eq_true rfl) (Nat.le_of_ble_eq_true rfl)
      · exact go_throwI (kc := 0) (ks := 0) (tx := "there is no production") X Z ⟨hb, hbs⟩ xd3 (List.mem_of_getElem? (i := 19) rfl) dX11_delete_35 dX11_delete_38 dX11_delete_39 dX11_delete_41 dX11_delete_44 ⟨Nat.le_of_ble_eq_true rfl, Nat.le_of_ble_eq_true rfl, Nat.le_of_ble_eq_true rfl, Nat.le_of_ble_eq_true rfl⟩ (Nat.le_of_ble_eq_true rfl) (Nat.le_of_ble_eq_true rfl)
    · refine go_sub [] rfl ?_
      exact hJ15_2 M
def f_X11_read (M : Mm) : Rx :=
Lt (M 1 0) fun v1 =>
if ¬ v1 = 0 then (
Cl (f_X11_readAgain M) fun v4 M3 =>
some (0, v4, M3)) else (
some (3, 0, M))
theorem cy_X11_read : yX11_read.cls ≠ "java/lang/invoke/MethodHandle" ∧ yX11_read.cls ≠ "java/lang/invoke/VarHandle" ∧ (parseMethodDescriptor yX11_read.desc).map (fun d => d.parameters.length) = some 0 := ⟨by decide +kernel, by decide +kernel, by decide +kernel⟩
set_option maxRecDepth 20000 in
theorem ok_X11_read (l : Launch) (hl : l.stackTraces = false) (D : Dd) (base b0 : Nat) (hb : b0 ≤ base) (M : Mm) : OkXi l D TC 681 base b0 yX11_read cX11_read 1 (some .int) 7 172 1 6 [.ref (base + 0)] M i32 (f_X11_read M) := by
  refine metXi hl (by decide +kernel) [(0, .ref (base + 0))] rfl (Nat.le_of_ble_eq_true rfl) (fun p e s m args below meth c X Z hbs hrt hlk => ?_) (by decide)
  have X : Cx p s m args c cX11_read D 1 RX11 := X
  unfold f_X11_read
  refine go_aload_n X dX11_read_0 rfl 0 rfl ?_
  refine go_getc (i := 0) X fc11 dX11_read_1 tcn0 tc0 (Nat.le_of_ble_eq_true rfl) rfl lw639 rfl ?_
  refine go_geti (i := 0) X fc5 dX11_read_4 tcn1 tc1 (Nat.le_of_ble_eq_true rfl) rfl lw698 rfl (fun v1 hv1 => ?_)
  refine go_if_ne (tgt := 20) X dX11_read_7 rfl hv1 (fun c2 => ?_) (fun c2 => ?_)
  · refine go_aload_n X dX11_read_20 rfl 0 rfl ?_
    refine goI (fun H locs ls r ho hW hL => runV X (ok_X11_readAgain l D base M  H.size r ho) dX11_read_21 lw816 lw817 lw818 lw19 ⟨lw811, cy_X11_readAgain, Nat.le_of_ble_eq_true rfl, Nat.le_of_ble_eq_true rfl⟩ rfl tcn0 tc0 rfl rfl rfl rfl (Nat.le_of_ble_eq_true rfl) hW hL hk0) (fun v4 M3 hv4 => ?_)
    exact go_xireturn X hrt hlk dX11_read_24 hv4 (Nat.le_of_ble_eq_true rfl) (Nat.le_of_ble_eq_true rfl)
  · exact go_throwI (kc := 0) (ks := 0) (tx := "there is no production") X Z ⟨hb, hbs⟩ xd3 (List.mem_of_getElem? (i := 19) rfl) dX11_read_10 dX11_read_13 dX11_read_14 dX11_read_16 dX11_read_19 ⟨Nat.le_of_ble_eq_true rfl, Nat.le_of_ble_eq_true rfl, Nat.le_of_ble_eq_true rfl, Nat.le_of_ble_eq_true rfl⟩ (Nat.le_of_ble_eq_true rfl) (Nat.le_of_ble_eq_true rfl)
def f_X11_node (a1 : Int) (M : Mm) : Rx :=
Clx (f_X11_mustBeNode a1 M) fun _ M1 =>
Cl (f_X8_readAsOf 283 a1 M1) fun v3 M2 =>
Cl (f_X8_parentOf 283 a1 M2) fun v5 M4 =>
Lt (wr (v5 + 1)) fun v6 =>
Lt (wr (1000 * v6)) fun v7 =>
Lt (wr (10 * v3)) fun v8 =>
Lt (wr (v7 + v8)) fun v9 =>
Cl (f_X5_childCountOf v3 M4) fun v11 M10 =>
Lt (wr (v9 + v11)) fun v12 =>
some (0, v12, M10)
theorem cy_X11_node : yX11_node.cls ≠ "java/lang/invoke/MethodHandle" ∧ yX11_node.cls ≠ "java/lang/invoke/VarHandle" ∧ (parseMethodDescriptor yX11_node.desc).map (fun d => d.parameters.length) = some 1 := ⟨by decide +kernel, by decide +kernel, by decide +kernel⟩
set_option maxRecDepth 20000 in
theorem ok_X11_node (l : Launch) (hl : l.stackTraces = false) (D : Dd) (base b0 : Nat) (hb : b0 ≤ base) (M : Mm) (a1 : Int) (ha1 : i32 a1) : OkXi l D TC 681 base b0 yX11_node cX11_node 3 (some .int) 7 103 1 6 [.ref (base + 0), .int (Ii a1)] M i32 (f_X11_node a1 M) := by
  refine metXi hl (by decide +kernel) [(0, .ref (base + 0)), (1, .int (Ii a1))] rfl (Nat.le_of_ble_eq_true rfl) (fun p e s m args below meth c X Z hbs hrt hlk => ?_) (by decide)
  have X : Cx p s m args c cX11_node D 3 RX11 := X
  unfold f_X11_node
  refine go_aload_n X dX11_node_0 rfl 0 rfl ?_
  refine go_iload_n X dX11_node_1 rfl 1 rfl ?_
  refine go_xcall (okr := i32) (Or.inl rfl) X Z hb (ok_X11_mustBeNode l hl D base b0 hb M a1 ha1) dX11_node_2 lw828 lw829 lw830 lw19 ⟨lw827, cy_X11_mustBeNode, Nat.le_of_ble_eq_true rfl, Nat.le_of_ble_eq_true rfl⟩ rfl tcn0 tc0 rfl rfl rfl rfl (Nat.le_of_ble_eq_true rfl) ⟨Nat.le_of_ble_eq_true rfl, Nat.le_of_ble_eq_true rfl⟩ ⟨Nat.le_of_ble_eq_true rfl, Nat.le_of_ble_eq_true rfl⟩ (fun _ M1 => ?_)
  refine go_aload_n X dX11_node_5 rfl 0 rfl ?_
  refine go_getc (i := 4) X fc11 dX11_node_6 tcn0 tc0 (Nat.le_of_ble_eq_true rfl) rfl lw652 rfl ?_
  refine go_iload_n X dX11_node_9 rfl 1 rfl ?_
  refine goI (fun H locs ls r ho hW hL => runV X (ok_X8_readAsOf l D base M1 283 isT_283 a1 ha1 H.size r ho) dX11_node_10 lw831 lw284 lw285 lw189 ⟨lw277, cy_X8_readAsOf, Nat.le_of_ble_eq_true rfl, Nat.le_of_ble_eq_true rfl⟩ rfl tcn283 tc283 rfl rfl rfl rfl (Nat.le_of_ble_eq_true rfl) hW hL ⟨Nat.le_of_ble_eq_true rfl, Nat.le_of_ble_eq_true rfl⟩) (fun v3 M2 hv3 => ?_)
  refine go_istore_n (i := 2) (L' := [(2, .int (Ii v3)), (0, .ref (base + 0)), (1, .int (Ii a1))]) X dX11_node_13 rfl (by decide) rfl ?_
  refine go_sipush (v := 1000) X dX11_node_14 (by decide) ?_
  refine go_aload_n X dX11_node_17 rfl 1 rfl ?_
  refine go_getc (i := 4) X fc11 dX11_node_18 tcn0 tc0 (Nat.le_of_ble_eq_true rfl) rfl lw652 rfl ?_
  refine go_iload_n X dX11_node_21 rfl 2 rfl ?_
  refine goI (fun H locs ls r ho hW hL => runV X (ok_X8_parentOf l D base M2 283 isT_283 a1 ha1 H.size r ho) dX11_node_22 lw832 lw228 lw229 lw189 ⟨lw198, cy_X8_parentOf, Nat.le_of_ble_eq_true rfl, Nat.le_of_ble_eq_true rfl⟩ rfl tcn283 tc283 rfl rfl rfl rfl (Nat.le_of_ble_eq_true rfl) hW hL ⟨Nat.le_of_ble_eq_true rfl, Nat.le_of_ble_eq_true rfl⟩) (fun v5 M4 hv5 => ?_)
  refine go_iconst (v := 1) X dX11_node_25 rfl ?_
  refine go_iadd X dX11_node_26 hv5 kI_1 (fun v6 hv6 => ?_)
  refine go_imul X dX11_node_27 kI_1000 hv6 (fun v7 hv7 => ?_)
  refine go_bipush (v := 10) X dX11_node_28 (by decide) ?_
  refine go_iload_n X dX11_node_30 rfl 0 rfl ?_
  refine go_imul X dX11_node_31 kI_10 hv3 (fun v8 hv8 => ?_)
  refine go_iadd X dX11_node_32 hv7 hv8 (fun v9 hv9 => ?_)
  refine go_aload_n X dX11_node_33 rfl 1 rfl ?_
  refine go_getc (i := 0) X fc11 dX11_node_34 tcn0 tc0 (Nat.le_of_ble_eq_true rfl) rfl lw639 rfl ?_
  refine go_iload_n X dX11_node_37 rfl 0 rfl ?_
  refine goI (fun H locs ls r ho hW hL => runV X (ok_X5_childCountOf l D base M4 v3 hv3 H.size r ho) dX11_node_38 lw709 lw78 lw79 lw80 ⟨lw67, cy_X5_childCountOf, Nat.le_of_ble_eq_true rfl, Nat.le_of_ble_eq_true rfl⟩ rfl tcn1 tc1 rfl rfl rfl rfl (Nat.le_of_ble_eq_true rfl) hW hL ⟨Nat.le_of_ble_eq_true rfl, Nat.le_of_ble_eq_true rfl⟩) (fun v11 M10 hv11 => ?_)
  refine go_iadd X dX11_node_41 hv9 hv11 (fun v12 hv12 => ?_)
  exact go_xireturn X hrt hlk dX11_node_42 hv12 (Nat.le_of_ble_eq_true rfl) (Nat.le_of_ble_eq_true rfl)
def f_X11_rewrite (a1 : Int) (M : Mm) : Rx :=
Clx (f_X11_mustBeNode a1 M) fun _ M1 =>
Cl (f_X8_nowOf 283 a1 M1) fun v3 M2 =>
Cl (f_X5_ruleOtherOf v3 M2) fun v5 M4 =>
if ¬ v5 = ((-1)) then (
Cl (f_X7_settle M4) fun _ M7 =>
Cl (f_X5_ruleAttributeOf v3 M7) fun v9 M8 =>
Cl (f_X11_foundWith a1 v9 299 M8) fun v11 M10 =>
Lt (fun (M12 : Mm) => 
some (0, v3, M12)) fun J69_13 =>
if v11 ≤ 0 then (
J69_13 M10) else (
if v11 < 1000 then (
Cl (f_X8_rewriteTo 283 a1 v5 M10) fun _ M16 =>
Cl (f_X11_bitOf a1 M16) fun v18 M17 =>
Lt (jor v18 1073741824) fun v19 =>
Cl (f_X3_drop 299 v19 M17) fun _ M20 =>
Cl (f_X7_forget M20) fun _ M21 =>
some (0, v5, M21)) else (
J69_13 M10))) else (
some (0, v3, M4))
theorem cy_X11_rewrite : yX11_rewrite.cls ≠ "java/lang/invoke/MethodHandle" ∧ yX11_rewrite.cls ≠ "java/lang/invoke/VarHandle" ∧ (parseMethodDescriptor yX11_rewrite.desc).map (fun d => d.parameters.length) = some 1 := ⟨by decide +kernel, by decide +kernel, by decide +kernel⟩
set_option maxRecDepth 20000 in
theorem ok_X11_rewrite (l : Launch) (hl : l.stackTraces = false) (D : Dd) (base b0 : Nat) (hb : b0 ≤ base) (M : Mm) (a1 : Int) (ha1 : i32 a1) : OkXi l D TC 681 base b0 yX11_rewrite cX11_rewrite 5 (some .int) 7 169 1 6 [.ref (base + 0), .int (Ii a1)] M i32 (f_X11_rewrite a1 M) := by
  refine metXi hl (by decide +kernel) [(0, .ref (base + 0)), (1, .int (Ii a1))] rfl (Nat.le_of_ble_eq_true rfl) (fun p e s m args below meth c X Z hbs hrt hlk => ?_) (by decide)
  have X : Cx p s m args c cX11_rewrite D 5 RX11 := X
  unfold f_X11_rewrite
  refine go_aload_n X dX11_rewrite_0 rfl 0 rfl ?_
  refine go_iload_n X dX11_rewrite_1 rfl 1 rfl ?_
  refine go_xcall (okr := i32) (Or.inl rfl) X Z hb (ok_X11_mustBeNode l hl D base b0 hb M a1 ha1) dX11_rewrite_2 lw828 lw829 lw830 lw19 ⟨lw827, cy_X11_mustBeNode, Nat.le_of_ble_eq_true rfl, Nat.le_of_ble_eq_true rfl⟩ rfl tcn0 tc0 rfl rfl rfl rfl (Nat.le_of_ble_eq_true rfl) ⟨Nat.le_of_ble_eq_true rfl, Nat.le_of_ble_eq_true rfl⟩ ⟨Nat.le_of_ble_eq_true rfl, Nat.le_of_ble_eq_true rfl⟩ (fun _ M1 => ?_)
  refine go_aload_n X dX11_rewrite_5 rfl 0 rfl ?_
  refine go_getc (i := 4) X fc11 dX11_rewrite_6 tcn0 tc0 (Nat.le_of_ble_eq_true rfl) rfl lw652 rfl ?_
  refine go_iload_n X dX11_rewrite_9 rfl 1 rfl ?_
  refine goI (fun H locs ls r ho hW hL => runV X (ok_X8_nowOf l D base M1 283 isT_283 a1 ha1 H.size r ho) dX11_rewrite_10 lw838 lw187 lw188 lw189 ⟨lw171, cy_X8_nowOf, Nat.le_of_ble_eq_true rfl, Nat.le_of_ble_eq_true rfl⟩ rfl tcn283 tc283 rfl rfl rfl rfl (Nat.le_of_ble_eq_true rfl) hW hL ⟨Nat.le_of_ble_eq_true rfl, Nat.le_of_ble_eq_true rfl⟩) (fun v3 M2 hv3 => ?_)
  refine go_istore_n (i := 2) (L' := [(2, .int (Ii v3)), (0, .ref (base + 0)), (1, .int (Ii a1))]) X dX11_rewrite_13 rfl (by decide) rfl ?_
  refine go_aload_n X dX11_rewrite_14 rfl 1 rfl ?_
  refine go_getc (i := 0) X fc11 dX11_rewrite_15 tcn0 tc0 (Nat.le_of_ble_eq_true rfl) rfl lw639 rfl ?_
  refine go_iload_n X dX11_rewrite_18 rfl 0 rfl ?_
  refine goI (fun H locs ls r ho hW hL => runV X (ok_X5_ruleOtherOf l D base M2 v3 hv3 H.size r ho) dX11_rewrite_19 lw839 lw414 lw415 lw80 ⟨lw411, cy_X5_ruleOtherOf, Nat.le_of_ble_eq_true rfl, Nat.le_of_ble_eq_true rfl⟩ rfl tcn1 tc1 rfl rfl rfl rfl (Nat.le_of_ble_eq_true rfl) hW hL ⟨Nat.le_of_ble_eq_true rfl, Nat.le_of_ble_eq_true rfl⟩) (fun v5 M4 hv5 => ?_)
  refine go_istore_n (i := 3) (L' := [(3, .int (Ii v5)), (2, .int (Ii v3)), (0, .ref (base + 0)), (1, .int (Ii a1))]) X dX11_rewrite_22 rfl (by decide) rfl ?_
  refine go_iload_n X dX11_rewrite_23 rfl 0 rfl ?_
  refine go_iconst (v := (-1)) X dX11_rewrite_24 rfl ?_
  refine go_icmp_ne (tgt := 30) X dX11_rewrite_25 rfl hv5 kI_m1 (fun c6 => ?_) (fun c6 => ?_)
  · refine go_aload_n X dX11_rewrite_30 rfl 2 rfl ?_
    refine go_getc (i := 9) X fc11 dX11_rewrite_31 tcn0 tc0 (Nat.le_of_ble_eq_true rfl) rfl lw663 rfl ?_
    refine goV (fun H locs ls r ho hW hL => runV X (ok_X7_settle l D base M4  H.size r ho) dX11_rewrite_34 lw840 lw841 lw842 lw522 ⟨lw527, cy_X7_settle, Nat.le_of_ble_eq_true rfl, Nat.le_of_ble_eq_true rfl⟩ rfl tcn676 tc676 rfl rfl rfl rfl (Nat.le_of_ble_eq_true rfl) hW hL ⟨Nat.le_of_ble_eq_true rfl, Nat.le_of_ble_eq_true rfl⟩) (fun _ M7 => ?_)
    refine go_aload_n X dX11_rewrite_37 rfl 2 rfl ?_
    refine go_iload_n X dX11_rewrite_38 rfl 3 rfl ?_
    refine go_aload_n X dX11_rewrite_39 rfl 2 rfl ?_
    refine go_getc (i := 0) X fc11 dX11_rewrite_40 tcn0 tc0 (Nat.le_of_ble_eq_true rfl) rfl lw639 rfl ?_
    refine go_iload_n X dX11_rewrite_43 rfl 1 rfl ?_
    refine goI (fun H locs ls r ho hW hL => runV X (ok_X5_ruleAttributeOf l D base M7 v3 hv3 H.size r ho) dX11_rewrite_44 lw843 lw844 lw845 lw80 ⟨lw423, cy_X5_ruleAttributeOf, Nat.le_of_ble_eq_true rfl, Nat.le_of_ble_eq_true rfl⟩ rfl tcn1 tc1 rfl rfl rfl rfl (Nat.le_of_ble_eq_true rfl) hW hL ⟨Nat.le_of_ble_eq_true rfl, Nat.le_of_ble_eq_true rfl⟩) (fun v9 M8 hv9 => ?_)
    refine go_aload_n X dX11_rewrite_47 rfl 2 rfl ?_
    refine go_getc (i := 6) X fc11 dX11_rewrite_48 tcn0 tc0 (Nat.le_of_ble_eq_true rfl) rfl lw656 rfl ?_
    refine goI (fun H locs ls r ho hW hL => runV X (ok_X11_foundWith l D base M8 a1 ha1 v9 hv9 299 isF_299 H.size r ho) dX11_rewrite_51 lw846 lw847 lw848 lw19 ⟨lw837, cy_X11_foundWith, Nat.le_of_ble_eq_true rfl, Nat.le_of_ble_eq_true rfl⟩ rfl tcn0 tc0 rfl rfl rfl rfl (Nat.le_of_ble_eq_true rfl) hW hL ⟨Nat.le_of_ble_eq_true rfl, Nat.le_of_ble_eq_true rfl⟩) (fun v11 M10 hv11 => ?_)
    refine go_istore (i := 4) (L' := [(4, .int (Ii v11)), (3, .int (Ii v5)), (2, .int (Ii v3)), (0, .ref (base + 0)), (1, .int (Ii a1))]) X dX11_rewrite_54 (by decide) rfl ?_
    refine go_iload X dX11_rewrite_56 0 rfl ?_
    refine go_lt (fun J => ∀ (M12 : Mm), Go p l e (rmX 7 169 1 6) s m args below meth c D TC 681 base 5 1 6 (FinXi D TC 681 base 1 6 below args s i32) M12 69 [(2, .int (Ii v3))] [] (J M12)) (by
        intro M12
        refine go_iload_n X dX11_rewrite_69 rfl 0 rfl ?_
        exact go_xireturn X hrt hlk dX11_rewrite_70 hv3 (Nat.le_of_ble_eq_true rfl) (Nat.le_of_ble_eq_true rfl)
        )
        (fun J69_13 hJ69_13 => ?_)
    refine go_if_le (tgt := 69) X dX11_rewrite_58 rfl hv11 (fun c14 => ?_) (fun c14 => ?_)
    · refine go_sub [2] rfl ?_
      exact hJ69_13 M10
    · refine go_iload X dX11_rewrite_61 0 rfl ?_
      refine go_sipush (v := 1000) X dX11_rewrite_63 (by decide) ?_
      refine go_icmp_lt (tgt := 71) X dX11_rewrite_66 rfl hv11 kI_1000 (fun c15 => ?_) (fun c15 => ?_)
      · refine go_aload_n X dX11_rewrite_71 rfl 3 rfl ?_
        refine go_getc (i := 4) X fc11 dX11_rewrite_72 tcn0 tc0 (Nat.le_of_ble_eq_true rfl) rfl lw652 rfl ?_
        refine go_iload_n X dX11_rewrite_75 rfl 4 rfl ?_
        refine go_iload_n X dX11_rewrite_76 rfl 1 rfl ?_
        refine goV (fun H locs ls r ho hW hL => runV X (ok_X8_rewriteTo l D base M10 283 isT_283 a1 ha1 v5 hv5 H.size r ho) dX11_rewrite_77 lw849 lw545 lw546 lw189 ⟨lw533, cy_X8_rewriteTo, Nat.le_of_ble_eq_true rfl, Nat.le_of_ble_eq_true rfl⟩ rfl tcn283 tc283 rfl rfl rfl rfl (Nat.le_of_ble_eq_true rfl) hW hL ⟨Nat.le_of_ble_eq_true rfl, Nat.le_of_ble_eq_true rfl⟩) (fun _ M16 => ?_)
        refine go_aload_n X dX11_rewrite_80 rfl 3 rfl ?_
        refine go_getc (i := 6) X fc11 dX11_rewrite_81 tcn0 tc0 (Nat.le_of_ble_eq_true rfl) rfl lw656 rfl ?_
        refine go_iload_n X dX11_rewrite_84 rfl 4 rfl ?_
        refine goI (fun H locs ls r ho hW hL => runS X (ok_X11_bitOf l D base M16 a1 ha1 H.size r ho) dX11_rewrite_85 lw850 lw220 lw19 ⟨lw167, cy_X11_bitOf, Nat.le_of_ble_eq_true rfl, Nat.le_of_ble_eq_true rfl⟩ rfl rfl (Nat.le_of_ble_eq_true rfl) hW hL ⟨Nat.le_of_ble_eq_true rfl, Nat.le_of_ble_eq_true rfl⟩) (fun v18 M17 hv18 => ?_)
        refine go_ldcw (v := 1073741824) X dX11_rewrite_88 lw792 rfl ?_
        refine go_ior X dX11_rewrite_91 hv18 kI_1073741824 (fun v19 hv19 => ?_)
        refine goV (fun H locs ls r ho hW hL => runV X (ok_X3_drop l D base M17 299 isF_299 v19 hv19 H.size r ho) dX11_rewrite_92 lw802 lw803 lw804 lw245 ⟨lw371, cy_X3_drop, Nat.le_of_ble_eq_true rfl, Nat.le_of_ble_eq_true rfl⟩ rfl tcn299 tc299 rfl rfl rfl rfl (Nat.le_of_ble_eq_true rfl) hW hL ⟨Nat.le_of_ble_eq_true rfl, Nat.le_of_ble_eq_true rfl⟩) (fun _ M20 => ?_)
        refine go_aload_n X dX11_rewrite_95 rfl 3 rfl ?_
        refine go_getc (i := 9) X fc11 dX11_rewrite_96 tcn0 tc0 (Nat.le_of_ble_eq_true rfl) rfl lw663 rfl ?_
        refine goV (fun H locs ls r ho hW hL => runV X (ok_X7_forget l D base M20  H.size r ho) dX11_rewrite_99 lw688 lw689 lw690 lw522 ⟨lw510, cy_X7_forget, Nat.le_of_ble_eq_true rfl, Nat.le_of_ble_eq_true rfl⟩ rfl tcn676 tc676 rfl rfl rfl rfl (Nat.le_of_ble_eq_true rfl) hW hL ⟨Nat.le_of_ble_eq_true rfl, Nat.le_of_ble_eq_true rfl⟩) (fun _ M21 => ?_)
        refine go_iload_n X dX11_rewrite_102 rfl 1 rfl ?_
        exact go_xireturn X hrt hlk dX11_rewrite_103 hv5 (Nat.le_of_ble_eq_true rfl) (Nat.le_of_ble_eq_true rfl)
      · refine go_sub [2] rfl ?_
        exact hJ69_13 M10
  · refine go_iload_n X dX11_rewrite_28 rfl 1 rfl ?_
    exact go_xireturn X hrt hlk dX11_rewrite_29 hv3 (Nat.le_of_ble_eq_true rfl) (Nat.le_of_ble_eq_true rfl)
def f_X11_value (a1 : Int) (a2 : Int) (M : Mm) : Rx :=
Clx (f_X11_mustBeNode a1 M) fun _ M1 =>
Clx (f_X11_mustBeAttribute a2 M1) fun _ M2 =>
Cl (f_X7_settle M2) fun _ M3 =>
Cl (f_X11_foundWith a1 a2 299 M3) fun v5 M4 =>
some (0, v5, M4)
theorem cy_X11_value : yX11_value.cls ≠ "java/lang/invoke/MethodHandle" ∧ yX11_value.cls ≠ "java/lang/invoke/VarHandle" ∧ (parseMethodDescriptor yX11_value.desc).map (fun d => d.parameters.length) = some 2 := ⟨by decide +kernel, by decide +kernel, by decide +kernel⟩
set_option maxRecDepth 20000 in
theorem ok_X11_value (l : Launch) (hl : l.stackTraces = false) (D : Dd) (base b0 : Nat) (hb : b0 ≤ base) (M : Mm) (a1 : Int) (ha1 : i32 a1) (a2 : Int) (ha2 : i32 a2) : OkXi l D TC 681 base b0 yX11_value cX11_value 3 (some .int) 7 169 2 12 [.ref (base + 0), .int (Ii a1), .int (Ii a2)] M i32 (f_X11_value a1 a2 M) := by
  refine metXi hl (by decide +kernel) [(0, .ref (base + 0)), (1, .int (Ii a1)), (2, .int (Ii a2))] rfl (Nat.le_of_ble_eq_true rfl) (fun p e s m args below meth c X Z hbs hrt hlk => ?_) (by decide)
  have X : Cx p s m args c cX11_value D 3 RX11 := X
  unfold f_X11_value
  refine go_aload_n X dX11_value_0 rfl 0 rfl ?_
  refine go_iload_n X dX11_value_1 rfl 1 rfl ?_
  refine go_xcall (okr := i32) (Or.inl rfl) X Z hb (ok_X11_mustBeNode l hl D base b0 hb M a1 ha1) dX11_value_2 lw828 lw829 lw830 lw19 ⟨lw827, cy_X11_mustBeNode, Nat.le_of_ble_eq_true rfl, Nat.le_of_ble_eq_true rfl⟩ rfl tcn0 tc0 rfl rfl rfl rfl (Nat.le_of_ble_eq_true rfl) ⟨Nat.le_of_ble_eq_true rfl, Nat.le_of_ble_eq_true rfl⟩ ⟨Nat.le_of_ble_eq_true rfl, Nat.le_of_ble_eq_true rfl⟩ (fun _ M1 => ?_)
  refine go_aload_n X dX11_value_5 rfl 0 rfl ?_
  refine go_iload_n X dX11_value_6 rfl 2 rfl ?_
  refine go_xcall (okr := i32) (Or.inl rfl) X Z hb (ok_X11_mustBeAttribute l hl D base b0 hb M1 a2 ha2) dX11_value_7 lw730 lw731 lw732 lw19 ⟨lw726, cy_X11_mustBeAttribute, Nat.le_of_ble_eq_true rfl, Nat.le_of_ble_eq_true rfl⟩ rfl tcn0 tc0 rfl rfl rfl rfl (Nat.le_of_ble_eq_true rfl) ⟨Nat.le_of_ble_eq_true rfl, Nat.le_of_ble_eq_true rfl⟩ ⟨Nat.le_of_ble_eq_true rfl, Nat.le_of_ble_eq_true rfl⟩ (fun _ M2 => ?_)
  refine go_aload_n X dX11_value_10 rfl 0 rfl ?_
  refine go_getc (i := 9) X fc11 dX11_value_11 tcn0 tc0 (Nat.le_of_ble_eq_true rfl) rfl lw663 rfl ?_
  refine goV (fun H locs ls r ho hW hL => runV X (ok_X7_settle l D base M2  H.size r ho) dX11_value_14 lw840 lw841 lw842 lw522 ⟨lw527, cy_X7_settle, Nat.le_of_ble_eq_true rfl, Nat.le_of_ble_eq_true rfl⟩ rfl tcn676 tc676 rfl rfl rfl rfl (Nat.le_of_ble_eq_true rfl) hW hL ⟨Nat.le_of_ble_eq_true rfl, Nat.le_of_ble_eq_true rfl⟩) (fun _ M3 => ?_)
  refine go_aload_n X dX11_value_17 rfl 0 rfl ?_
  refine go_iload_n X dX11_value_18 rfl 1 rfl ?_
  refine go_iload_n X dX11_value_19 rfl 2 rfl ?_
  refine go_aload_n X dX11_value_20 rfl 0 rfl ?_
  refine go_getc (i := 6) X fc11 dX11_value_21 tcn0 tc0 (Nat.le_of_ble_eq_true rfl) rfl lw656 rfl ?_
  refine goI (fun H locs ls r ho hW hL => runV X (ok_X11_foundWith l D base M3 a1 ha1 a2 ha2 299 isF_299 H.size r ho) dX11_value_24 lw846 lw847 lw848 lw19 ⟨lw837, cy_X11_foundWith, Nat.le_of_ble_eq_true rfl, Nat.le_of_ble_eq_true rfl⟩ rfl tcn0 tc0 rfl rfl rfl rfl (Nat.le_of_ble_eq_true rfl) hW hL ⟨Nat.le_of_ble_eq_true rfl, Nat.le_of_ble_eq_true rfl⟩) (fun v5 M4 hv5 => ?_)
  exact go_xireturn X hrt hlk dX11_value_27 hv5 (Nat.le_of_ble_eq_true rfl) (Nat.le_of_ble_eq_true rfl)
def f_X11_valueAnew (a1 : Int) (a2 : Int) (M : Mm) : Rx :=
Clx (f_X11_mustBeNode a1 M) fun _ M1 =>
Clx (f_X11_mustBeAttribute a2 M1) fun _ M2 =>
Cl (f_X7_settle M2) fun _ M3 =>
Cl (f_X3_clear 304 M3) fun _ M4 =>
Cl (f_X11_foundWith a1 a2 304 M4) fun v6 M5 =>
some (0, v6, M5)
theorem cy_X11_valueAnew : yX11_valueAnew.cls ≠ "java/lang/invoke/MethodHandle" ∧ yX11_valueAnew.cls ≠ "java/lang/invoke/VarHandle" ∧ (parseMethodDescriptor yX11_valueAnew.desc).map (fun d => d.parameters.length) = some 2 := ⟨by decide +kernel, by decide +kernel, by decide +kernel⟩
set_option maxRecDepth 20000 in
theorem ok_X11_valueAnew (l : Launch) (hl : l.stackTraces = false) (D : Dd) (base b0 : Nat) (hb : b0 ≤ base) (M : Mm) (a1 : Int) (ha1 : i32 a1) (a2 : Int) (ha2 : i32 a2) : OkXi l D TC 681 base b0 yX11_valueAnew cX11_valueAnew 3 (some .int) 7 169 2 12 [.ref (base + 0), .int (Ii a1), .int (Ii a2)] M i32 (f_X11_valueAnew a1 a2 M) := by
  refine metXi hl (by decide +kernel) [(0, .ref (base + 0)), (1, .int (Ii a1)), (2, .int (Ii a2))] rfl (Nat.le_of_ble_eq_true rfl) (fun p e s m args below meth c X Z hbs hrt hlk => ?_) (by decide)
  have X : Cx p s m args c cX11_valueAnew D 3 RX11 := X
  unfold f_X11_valueAnew
  refine go_aload_n X dX11_valueAnew_0 rfl 0 rfl ?_
  refine go_iload_n X dX11_valueAnew_1 rfl 1 rfl ?_
  refine go_xcall (okr := i32) (Or.inl rfl) X Z hb (ok_X11_mustBeNode l hl D base b0 hb M a1 ha1) dX11_valueAnew_2 lw828 lw829 lw830 lw19 ⟨lw827, cy_X11_mustBeNode, Nat.le_of_ble_eq_true rfl, Nat.le_of_ble_eq_true rfl⟩ rfl tcn0 tc0 rfl rfl rfl rfl (Nat.le_of_ble_eq_true rfl) ⟨Nat.le_of_ble_eq_true rfl, Nat.le_of_ble_eq_true rfl⟩ ⟨Nat.le_of_ble_eq_true rfl, Nat.le_of_ble_eq_true rfl⟩ (fun _ M1 => ?_)
  refine go_aload_n X dX11_valueAnew_5 rfl 0 rfl ?_
  refine go_iload_n X dX11_valueAnew_6 rfl 2 rfl ?_
  refine go_xcall (okr := i32) (Or.inl rfl) X Z hb (ok_X11_mustBeAttribute l hl D base b0 hb M1 a2 ha2) dX11_valueAnew_7 lw730 lw731 lw732 lw19 ⟨lw726, cy_X11_mustBeAttribute, Nat.le_of_ble_eq_true rfl, Nat.le_of_ble_eq_true rfl⟩ rfl tcn0 tc0 rfl rfl rfl rfl (Nat.le_of_ble_eq_true rfl) ⟨Nat.le_of_ble_eq_true rfl, Nat.le_of_ble_eq_true rfl⟩ ⟨Nat.le_of_ble_eq_true rfl, Nat.le_of_ble_eq_true rfl⟩ (fun _ M2 => ?_)
  refine go_aload_n X dX11_valueAnew_10 rfl 0 rfl ?_
  refine go_getc (i := 9) X fc11 dX11_valueAnew_11 tcn0 tc0 (Nat.le_of_ble_eq_true rfl) rfl lw663 rfl ?_
  refine goV (fun H locs ls r ho hW hL => runV X (ok_X7_settle l D base M2  H.size r ho) dX11_valueAnew_14 lw840 lw841 lw842 lw522 ⟨lw527, cy_X7_settle, Nat.le_of_ble_eq_true rfl, Nat.le_of_ble_eq_true rfl⟩ rfl tcn676 tc676 rfl rfl rfl rfl (Nat.le_of_ble_eq_true rfl) hW hL ⟨Nat.le_of_ble_eq_true rfl, Nat.le_of_ble_eq_true rfl⟩) (fun _ M3 => ?_)
  refine go_aload_n X dX11_valueAnew_17 rfl 0 rfl ?_
  refine go_getc (i := 7) X fc11 dX11_valueAnew_18 tcn0 tc0 (Nat.le_of_ble_eq_true rfl) rfl lw657 rfl ?_
  refine goV (fun H locs ls r ho hW hL => runV X (ok_X3_clear l D base M3 304 isF_304 H.size r ho) dX11_valueAnew_21 lw687 lw515 lw516 lw245 ⟨lw370, cy_X3_clear, Nat.le_of_ble_eq_true rfl, Nat.le_of_ble_eq_true rfl⟩ rfl tcn304 tc304 rfl rfl rfl rfl (Nat.le_of_ble_eq_true rfl) hW hL ⟨Nat.le_of_ble_eq_true rfl, Nat.le_of_ble_eq_true rfl⟩) (fun _ M4 => ?_)
  refine go_aload_n X dX11_valueAnew_24 rfl 0 rfl ?_
  refine go_iload_n X dX11_valueAnew_25 rfl 1 rfl ?_
  refine go_iload_n X dX11_valueAnew_26 rfl 2 rfl ?_
  refine go_aload_n X dX11_valueAnew_27 rfl 0 rfl ?_
  refine go_getc (i := 7) X fc11 dX11_valueAnew_28 tcn0 tc0 (Nat.le_of_ble_eq_true rfl) rfl lw657 rfl ?_
  refine goI (fun H locs ls r ho hW hL => runV X (ok_X11_foundWith l D base M4 a1 ha1 a2 ha2 304 isF_304 H.size r ho) dX11_valueAnew_31 lw846 lw847 lw848 lw19 ⟨lw837, cy_X11_foundWith, Nat.le_of_ble_eq_true rfl, Nat.le_of_ble_eq_true rfl⟩ rfl tcn0 tc0 rfl rfl rfl rfl (Nat.le_of_ble_eq_true rfl) hW hL ⟨Nat.le_of_ble_eq_true rfl, Nat.le_of_ble_eq_true rfl⟩) (fun v6 M5 hv6 => ?_)
  exact go_xireturn X hrt hlk dX11_valueAnew_34 hv6 (Nat.le_of_ble_eq_true rfl) (Nat.le_of_ble_eq_true rfl)
def f_X11_isKept (a1 : Int) (a2 : Int) (M : Mm) : Rx :=
Clx (f_X11_mustBeNode a1 M) fun _ M1 =>
Clx (f_X11_mustBeAttribute a2 M1) fun _ M2 =>
Cl (f_X11_slotOf a1 a2 M2) fun v4 M3 =>
Cl (f_X3_has 299 v4 M3) fun v6 M5 =>
some (0, v6, M5)
theorem cy_X11_isKept : yX11_isKept.cls ≠ "java/lang/invoke/MethodHandle" ∧ yX11_isKept.cls ≠ "java/lang/invoke/VarHandle" ∧ (parseMethodDescriptor yX11_isKept.desc).map (fun d => d.parameters.length) = some 2 := ⟨by decide +kernel, by decide +kernel, by decide +kernel⟩
set_option maxRecDepth 20000 in
theorem ok_X11_isKept (l : Launch) (hl : l.stackTraces = false) (D : Dd) (base b0 : Nat) (hb : b0 ≤ base) (M : Mm) (a1 : Int) (ha1 : i32 a1) (a2 : Int) (ha2 : i32 a2) : OkXi l D TC 681 base b0 yX11_isKept cX11_isKept 3 (some .boolean) 7 103 2 12 [.ref (base + 0), .int (Ii a1), .int (Ii a2)] M bo (f_X11_isKept a1 a2 M) := by
  refine metXi hl (by decide +kernel) [(0, .ref (base + 0)), (1, .int (Ii a1)), (2, .int (Ii a2))] rfl (Nat.le_of_ble_eq_true rfl) (fun p e s m args below meth c X Z hbs hrt hlk => ?_) (by decide)
  have X : Cx p s m args c cX11_isKept D 3 RX11 := X
  unfold f_X11_isKept
  refine go_aload_n X dX11_isKept_0 rfl 0 rfl ?_
  refine go_iload_n X dX11_isKept_1 rfl 1 rfl ?_
  refine go_xcall (okr := bo) (Or.inl rfl) X Z hb (ok_X11_mustBeNode l hl D base b0 hb M a1 ha1) dX11_isKept_2 lw828 lw829 lw830 lw19 ⟨lw827, cy_X11_mustBeNode, Nat.le_of_ble_eq_true rfl, Nat.le_of_ble_eq_true rfl⟩ rfl tcn0 tc0 rfl rfl rfl rfl (Nat.le_of_ble_eq_true rfl) ⟨Nat.le_of_ble_eq_true rfl, Nat.le_of_ble_eq_true rfl⟩ ⟨Nat.le_of_ble_eq_true rfl, Nat.le_of_ble_eq_true rfl⟩ (fun _ M1 => ?_)
  refine go_aload_n X dX11_isKept_5 rfl 0 rfl ?_
  refine go_iload_n X dX11_isKept_6 rfl 2 rfl ?_
  refine go_xcall (okr := bo) (Or.inl rfl) X Z hb (ok_X11_mustBeAttribute l hl D base b0 hb M1 a2 ha2) dX11_isKept_7 lw730 lw731 lw732 lw19 ⟨lw726, cy_X11_mustBeAttribute, Nat.le_of_ble_eq_true rfl, Nat.le_of_ble_eq_true rfl⟩ rfl tcn0 tc0 rfl rfl rfl rfl (Nat.le_of_ble_eq_true rfl) ⟨Nat.le_of_ble_eq_true rfl, Nat.le_of_ble_eq_true rfl⟩ ⟨Nat.le_of_ble_eq_true rfl, Nat.le_of_ble_eq_true rfl⟩ (fun _ M2 => ?_)
  refine go_aload_n X dX11_isKept_10 rfl 0 rfl ?_
  refine go_getc (i := 6) X fc11 dX11_isKept_11 tcn0 tc0 (Nat.le_of_ble_eq_true rfl) rfl lw656 rfl ?_
  refine go_iload_n X dX11_isKept_14 rfl 1 rfl ?_
  refine go_iload_n X dX11_isKept_15 rfl 2 rfl ?_
  refine goI (fun H locs ls r ho hW hL => runS X (ok_X11_slotOf l D base M2 a1 ha1 a2 ha2 H.size r ho) dX11_isKept_16 lw834 lw241 lw19 ⟨lw159, cy_X11_slotOf, Nat.le_of_ble_eq_true rfl, Nat.le_of_ble_eq_true rfl⟩ rfl rfl (Nat.le_of_ble_eq_true rfl) hW hL ⟨Nat.le_of_ble_eq_true rfl, Nat.le_of_ble_eq_true rfl⟩) (fun v4 M3 hv4 => ?_)
  refine goI (fun H locs ls r ho hW hL => runV X (ok_X3_has l D base M3 299 isF_299 v4 hv4 H.size r ho) dX11_isKept_19 lw856 lw257 lw258 lw245 ⟨lw160, cy_X3_has, Nat.le_of_ble_eq_true rfl, Nat.le_of_ble_eq_true rfl⟩ rfl tcn299 tc299 rfl rfl rfl rfl (Nat.le_of_ble_eq_true rfl) hW hL ⟨Nat.le_of_ble_eq_true rfl, Nat.le_of_ble_eq_true rfl⟩) (fun v6 M5 hv6 => ?_)
  exact go_xzreturn X hrt hlk dX11_isKept_22 hv6 hv6 (Nat.le_of_ble_eq_true rfl) (Nat.le_of_ble_eq_true rfl)
def f_X11_why (a1 : Int) (a2 : Int) (a3 : Int) (M : Mm) : Rx :=
Clx (f_X11_mustBeNode a1 M) fun _ M1 =>
Clx (f_X11_mustBeAttribute a2 M1) fun _ M2 =>
Cl (f_X7_settle M2) fun _ M3 =>
Cl (f_X3_clear 304 M3) fun _ M4 =>
Cl (f_X2_findListing a1 a2 304 M4) fun _ M5 =>
Lt (fun (M6 : Mm) => 
some (1, 0, M6)) fun J52_7 =>
if a3 < 0 then (
J52_7 M5) else (
Lt (M5 310 0) fun v9 =>
if a3 < v9 then (
Cl (f_X11_entryOf 311 a3 M5) fun v12 M11 =>
Lt (wr (Int.tdiv v12 6)) fun v13 =>
Lt (wr (10 * v13)) fun v14 =>
Lt (jrem v12 6) fun v15 =>
Lt (wr (v14 + v15)) fun v16 =>
some (0, v16, M11)) else (
J52_7 M5))
theorem cy_X11_why : yX11_why.cls ≠ "java/lang/invoke/MethodHandle" ∧ yX11_why.cls ≠ "java/lang/invoke/VarHandle" ∧ (parseMethodDescriptor yX11_why.desc).map (fun d => d.parameters.length) = some 3 := ⟨by decide +kernel, by decide +kernel, by decide +kernel⟩
set_option maxRecDepth 20000 in
theorem ok_X11_why (l : Launch) (hl : l.stackTraces = false) (D : Dd) (base b0 : Nat) (hb : b0 ≤ base) (M : Mm) (a1 : Int) (ha1 : i32 a1) (a2 : Int) (ha2 : i32 a2) (a3 : Int) (ha3 : i32 a3) : OkXi l D TC 681 base b0 yX11_why cX11_why 5 (some .int) 7 169 3 18 [.ref (base + 0), .int (Ii a1), .int (Ii a2), .int (Ii a3)] M i32 (f_X11_why a1 a2 a3 M) := by
  refine metXi hl (by decide +kernel) [(0, .ref (base + 0)), (1, .int (Ii a1)), (2, .int (Ii a2)), (3, .int (Ii a3))] rfl (Nat.le_of_ble_eq_true rfl) (fun p e s m args below meth c X Z hbs hrt hlk => ?_) (by decide)
  have X : Cx p s m args c cX11_why D 5 RX11 := X
  unfold f_X11_why
  refine go_aload_n X dX11_why_0 rfl 0 rfl ?_
  refine go_iload_n X dX11_why_1 rfl 1 rfl ?_
  refine go_xcall (okr := i32) (Or.inl rfl) X Z hb (ok_X11_mustBeNode l hl D base b0 hb M a1 ha1) dX11_why_2 lw828 lw829 lw830 lw19 ⟨lw827, cy_X11_mustBeNode, Nat.le_of_ble_eq_true rfl, Nat.le_of_ble_eq_true rfl⟩ rfl tcn0 tc0 rfl rfl rfl rfl (Nat.le_of_ble_eq_true rfl) ⟨Nat.le_of_ble_eq_true rfl, Nat.le_of_ble_eq_true rfl⟩ ⟨Nat.le_of_ble_eq_true rfl, Nat.le_of_ble_eq_true rfl⟩ (fun _ M1 => ?_)
  refine go_aload_n X dX11_why_5 rfl 0 rfl ?_
  refine go_iload_n X dX11_why_6 rfl 2 rfl ?_
  refine go_xcall (okr := i32) (Or.inl rfl) X Z hb (ok_X11_mustBeAttribute l hl D base b0 hb M1 a2 ha2) dX11_why_7 lw730 lw731 lw732 lw19 ⟨lw726, cy_X11_mustBeAttribute, Nat.le_of_ble_eq_true rfl, Nat.le_of_ble_eq_true rfl⟩ rfl tcn0 tc0 rfl rfl rfl rfl (Nat.le_of_ble_eq_true rfl) ⟨Nat.le_of_ble_eq_true rfl, Nat.le_of_ble_eq_true rfl⟩ ⟨Nat.le_of_ble_eq_true rfl, Nat.le_of_ble_eq_true rfl⟩ (fun _ M2 => ?_)
  refine go_aload_n X dX11_why_10 rfl 0 rfl ?_
  refine go_getc (i := 9) X fc11 dX11_why_11 tcn0 tc0 (Nat.le_of_ble_eq_true rfl) rfl lw663 rfl ?_
  refine goV (fun H locs ls r ho hW hL => runV X (ok_X7_settle l D base M2  H.size r ho) dX11_why_14 lw840 lw841 lw842 lw522 ⟨lw527, cy_X7_settle, Nat.le_of_ble_eq_true rfl, Nat.le_of_ble_eq_true rfl⟩ rfl tcn676 tc676 rfl rfl rfl rfl (Nat.le_of_ble_eq_true rfl) hW hL ⟨Nat.le_of_ble_eq_true rfl, Nat.le_of_ble_eq_true rfl⟩) (fun _ M3 => ?_)
  refine go_aload_n X dX11_why_17 rfl 0 rfl ?_
  refine go_getc (i := 7) X fc11 dX11_why_18 tcn0 tc0 (Nat.le_of_ble_eq_true rfl) rfl lw657 rfl ?_
  refine goV (fun H locs ls r ho hW hL => runV X (ok_X3_clear l D base M3 304 isF_304 H.size r ho) dX11_why_21 lw687 lw515 lw516 lw245 ⟨lw370, cy_X3_clear, Nat.le_of_ble_eq_true rfl, Nat.le_of_ble_eq_true rfl⟩ rfl tcn304 tc304 rfl rfl rfl rfl (Nat.le_of_ble_eq_true rfl) hW hL ⟨Nat.le_of_ble_eq_true rfl, Nat.le_of_ble_eq_true rfl⟩) (fun _ M4 => ?_)
  refine go_aload_n X dX11_why_24 rfl 0 rfl ?_
  refine go_getc (i := 8) X fc11 dX11_why_25 tcn0 tc0 (Nat.le_of_ble_eq_true rfl) rfl lw660 rfl ?_
  refine go_iload_n X dX11_why_28 rfl 1 rfl ?_
  refine go_iload_n X dX11_why_29 rfl 2 rfl ?_
  refine go_aload_n X dX11_why_30 rfl 0 rfl ?_
  refine go_getc (i := 7) X fc11 dX11_why_31 tcn0 tc0 (Nat.le_of_ble_eq_true rfl) rfl lw657 rfl ?_
  refine goV (fun H locs ls r ho hW hL => runV X (ok_X2_findListing l D base M4 a1 ha1 a2 ha2 304 isF_304 H.size r ho) dX11_why_34 lw860 lw861 lw862 lw216 ⟨lw365, cy_X2_findListing, Nat.le_of_ble_eq_true rfl, Nat.le_of_ble_eq_true rfl⟩ rfl tcn310 tc310 rfl rfl rfl rfl (Nat.le_of_ble_eq_true rfl) hW hL ⟨Nat.le_of_ble_eq_true rfl, Nat.le_of_ble_eq_true rfl⟩) (fun _ M5 => ?_)
  refine go_iload_n X dX11_why_37 rfl 3 rfl ?_
  refine go_lt (fun J => ∀ (M6 : Mm), Go p l e (rmX 7 169 3 18) s m args below meth c D TC 681 base 5 2 12 (FinXi D TC 681 base 3 18 below args s i32) M6 52 [] [] (J M6)) (by
      intro M6
      exact go_throwWI (kc := 2) (ks := 12) (tx := "no such read") X Z ⟨hb, hbs⟩ xd1 (List.mem_of_getElem? (i := 21) rfl) dX11_why_52 dX11_why_55 dX11_why_56 dX11_why_59 dX11_why_62 ⟨Nat.le_of_ble_eq_true rfl, Nat.le_of_ble_eq_true rfl, Nat.le_of_ble_eq_true rfl, Nat.le_of_ble_eq_true rfl⟩ (Nat.le_of_ble_eq_true rfl) (Nat.le_of_ble_eq_true rfl)
      )
      (fun J52_7 hJ52_7 => ?_)
  refine go_if_lt (tgt := 52) X dX11_why_38 rfl ha3 (fun c8 => ?_) (fun c8 => ?_)
  · refine go_sub [] rfl ?_
    exact hJ52_7 M5
  · refine go_iload_n X dX11_why_41 rfl 3 rfl ?_
    refine go_aload_n X dX11_why_42 rfl 0 rfl ?_
    refine go_getc (i := 8) X fc11 dX11_why_43 tcn0 tc0 (Nat.le_of_ble_eq_true rfl) rfl lw660 rfl ?_
    refine go_geti (i := 0) X fc2 dX11_why_46 tcn310 tc310 (Nat.le_of_ble_eq_true rfl) rfl lw858 rfl (fun v9 hv9 => ?_)
    refine go_icmp_lt (tgt := 63) X dX11_why_49 rfl ha3 hv9 (fun c10 => ?_) (fun c10 => ?_)
    · refine go_aload_n X dX11_why_63 rfl 0 rfl ?_
      refine go_getc (i := 8) X fc11 dX11_why_64 tcn0 tc0 (Nat.le_of_ble_eq_true rfl) rfl lw660 rfl ?_
      refine go_getc (i := 1) X fc2 dX11_why_67 tcn310 tc310 (Nat.le_of_ble_eq_true rfl) rfl lw859 rfl ?_
      refine go_iload_n X dX11_why_70 rfl 3 rfl ?_
      refine goI (fun H locs ls r ho hW hL => runS X (ok_X11_entryOf l D base M5 311 isAC_311 a3 ha3 H.size r ho) dX11_why_71 lw863 lw20 lw19 ⟨lw13, cy_X11_entryOf, Nat.le_of_ble_eq_true rfl, Nat.le_of_ble_eq_true rfl⟩ rfl rfl (Nat.le_of_ble_eq_true rfl) hW hL ⟨Nat.le_of_ble_eq_true rfl, Nat.le_of_ble_eq_true rfl⟩) (fun v12 M11 hv12 => ?_)
      refine go_istore (i := 4) (L' := [(4, .int (Ii v12)), (0, .ref (base + 0)), (1, .int (Ii a1)), (2, .int (Ii a2)), (3, .int (Ii a3))]) X dX11_why_74 (by decide) rfl ?_
      refine go_bipush (v := 10) X dX11_why_76 (by decide) ?_
      refine go_iload X dX11_why_78 0 rfl ?_
      refine go_bipush (v := 6) X dX11_why_80 (by decide) ?_
      refine go_idiv X dX11_why_82 hv12 kI_6 (by decide) (fun v13 hv13 => ?_)
      refine go_imul X dX11_why_83 kI_10 hv13 (fun v14 hv14 => ?_)
      refine go_iload X dX11_why_84 0 rfl ?_
      refine go_bipush (v := 6) X dX11_why_86 (by decide) ?_
      refine go_irem X dX11_why_88 hv12 kI_6 (by decide) (fun v15 hv15 => ?_)
      refine go_iadd X dX11_why_89 hv14 hv15 (fun v16 hv16 => ?_)
      exact go_xireturn X hrt hlk dX11_why_90 hv16 (Nat.le_of_ble_eq_true rfl) (Nat.le_of_ble_eq_true rfl)
    · refine go_sub [] rfl ?_
      exact hJ52_7 M5
