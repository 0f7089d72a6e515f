theorem kI_16 : i32 (16) := by decide
theorem kI_27 : i32 (27) := by decide
theorem kI_31 : i32 (31) := by decide
theorem kI_60000 : i32 (60000) := by decide
theorem kI_70000 : i32 (70000) := by decide
def f_L_isLaw (N : Nat) (xs : Nat → Int32) (a3 : Int) (M : Mm) : Rs :=
Cl (f_L_part N xs a3 40 M) fun v2 M1 =>
Lt (wr (a3 + 1)) fun v3 =>
Cl (f_L_part N xs v3 60000 M1) fun v5 M4 =>
Lt (wr (a3 + 2)) fun v6 =>
Cl (f_L_part N xs v6 70000 M4) fun v8 M7 =>
if 5 ≤ v2 then (
if 12 ≤ v2 then (
if 14 ≤ v2 then (
if ¬ v2 = 14 then (
if ¬ v2 = 15 then (
if ¬ v2 = 16 then (
if 27 ≤ v2 then (
if 30 ≤ v2 then (
gd (0 ≤ 4 ∧ 4 < 11) <|
Lt (M7 684 4) fun v17 =>
Lt (fun (v18 : Int) (M19 : Mm) => 
gd (0 ≤ 4 ∧ 4 < 11) <|
Lt (M19 684 4) fun v21 =>
Lt (fun (v22 : Int) (M23 : Mm) => 
Lt (fun (v25 : Int) (M26 : Mm) => 
gd (0 ≤ 9 ∧ 9 < 11) <|
Lt (M26 684 9) fun v28 =>
Lt (fun (v29 : Int) (M30 : Mm) => 
Lt (wr (v28 + v29)) fun v32 =>
gd (0 ≤ 9 ∧ 9 < 11) <|
Lt (up M30 684 9 v32) fun M33 =>
gd (0 ≤ 4 ∧ 4 < 11) <|
Lt (M33 684 4) fun v34 =>
Lt (fun (v35 : Int) (M36 : Mm) => 
gd (0 ≤ 10 ∧ 10 < 11) <|
Lt (M36 684 10) fun v38 =>
Lt (fun (v39 : Int) (M40 : Mm) => 
Lt (wr (v38 + v39)) fun v42 =>
gd (0 ≤ 10 ∧ 10 < 11) <|
Lt (up M40 684 10 v42) fun M43 =>
Lt (fun (v44 : Int) (M45 : Mm) => 
some (v44, M45)) fun J716_46 =>
Lt (fun (M47 : Mm) => 
J716_46 0 M47) fun J715_48 =>
if v25 = 0 then (
J715_48 M43) else (
Lt (fun (M50 : Mm) => 
J716_46 1 M50) fun J711_51 =>
if v35 = 0 then (
J711_51 M43) else (
gd (0 ≤ 4 ∧ 4 < 11) <|
Lt (M43 684 4) fun v53 =>
gd (¬ v53 = 0) <|
Lt (jrem v5 v53) fun v54 =>
gd (0 ≤ 1 ∧ 1 < 11) <|
Lt (M43 684 1) fun v56 =>
gd (¬ v56 = 0) <|
Lt (jrem v8 v56) fun v57 =>
Cl (f_L_areReads v54 v57 M43) fun v60 M59 =>
if v60 = 0 then (
J715_48 M59) else (
J711_51 M59)))) fun J674_41 =>
if v35 = 0 then (
J674_41 0 M36) else (
J674_41 1 M36)) fun J656_37 =>
Lt (fun (M63 : Mm) => 
J656_37 0 M63) fun J655_64 =>
if v34 ≤ 0 then (
J655_64 M33) else (
gd (0 ≤ 1 ∧ 1 < 11) <|
Lt (M33 684 1) fun v66 =>
if v66 ≤ 0 then (
J655_64 M33) else (
Lt (jrem v5 2) fun v68 =>
if ¬ v68 = 1 then (
J655_64 M33) else (
gd (0 ≤ 10 ∧ 10 < 11) <|
Lt (M33 684 10) fun v70 =>
if 5 ≤ v70 then (
J655_64 M33) else (
J656_37 1 M33))))) fun J618_31 =>
if v22 = 0 then (
J618_31 0 M26) else (
J618_31 1 M26)) fun J600_27 =>
Lt (fun (M73 : Mm) => 
J600_27 1 M73) fun J595_74 =>
Lt (fun (M75 : Mm) => 
Lt (jrem v8 6) fun v77 =>
Cl (f_L_isTold v18 v77 M75) fun v79 M78 =>
if v79 = 0 then (
J600_27 0 M78) else (
J595_74 M78)) fun J577_76 =>
if v22 = 0 then (
J577_76 M23) else (
gd (0 ≤ 9 ∧ 9 < 11) <|
Lt (M23 684 9) fun v82 =>
if 15 < v82 then (
J595_74 M23) else (
J577_76 M23))) fun J560_24 =>
Lt (fun (M84 : Mm) => 
J560_24 0 M84) fun J559_85 =>
if v21 ≤ v18 then (
J559_85 M19) else (
Lt (jrem v8 6) fun v87 =>
gd (0 ≤ 1 ∧ 1 < 11) <|
Lt (M19 684 1) fun v88 =>
if v88 ≤ v87 then (
J559_85 M19) else (
J560_24 1 M19))) fun J532_20 =>
Lt (fun (M90 : Mm) => 
Lt (jrem v5 31) fun v92 =>
J532_20 v92 M90) fun J527_91 =>
if v17 ≤ 0 then (
J527_91 M7) else (
Lt (jrem v5 10) fun v94 =>
if v94 ≤ 0 then (
J527_91 M7) else (
gd (0 ≤ 4 ∧ 4 < 11) <|
Lt (M7 684 4) fun v96 =>
gd (¬ v96 = 0) <|
Lt (jrem v5 v96) fun v97 =>
J532_20 v97 M7))) else (
Lt (jrem v5 31) fun v99 =>
Cl (f_L_isRewritten v99 M7) fun v101 M100 =>
some (v101, M100))) else (
Lt (wr (v2 - 17)) fun v102 =>
Lt (wr (Int.tdiv v102 2)) fun v103 =>
Cl (f_L_isChanged v103 v5 v8 M7) fun v105 M104 =>
some (v105, M104))) else (
Lt (jrem v5 10) fun v106 =>
Lt (jrem v8 10) fun v107 =>
Lt (wr (Int.tdiv v5 10)) fun v108 =>
Lt (jrem v108 6) fun v109 =>
Cl (f_L_does 2 v106 v109 v107 0 0 M7) fun v111 M110 =>
gd (0 ≤ 0 ∧ 0 < 11) <|
Lt (M110 684 0) fun v112 =>
Lt (fun (v113 : Int) (M114 : Mm) => 
Lt (fun (v116 : Int) (M117 : Mm) => 
some (v116, M117)) fun J456_118 =>
if ¬ v113 = 0 then (
Lt (fun (M120 : Mm) => 
J456_118 1 M120) fun J451_121 =>
if v111 = ((-2000000)) then (
J451_121 M114) else (
Lt (fun (M123 : Mm) => 
J456_118 0 M123) fun J455_124 =>
if v106 = v107 then (
J455_124 M114) else (
gd (0 ≤ v106 ∧ v106 < 10) <|
Lt (M114 681 v106.toNat) fun v126 =>
Lt (jrem v126 10) fun v127 =>
gd (0 ≤ v107 ∧ v107 < 10) <|
Lt (M114 681 v107.toNat) fun v128 =>
Lt (jrem v128 10) fun v129 =>
if ¬ v127 = v129 then (
J455_124 M114) else (
Cl (f_L_children v106 M114) fun v132 M131 =>
Cl (f_L_children v107 M131) fun v134 M133 =>
if ¬ v132 = v134 then (
J455_124 M133) else (
if v111 < ((-1)) then (
J455_124 M133) else (
J451_121 M133)))))) else (
if ¬ v111 = ((-3000000)) then (
J456_118 0 M114) else (
J456_118 1 M114))) fun J377_115 =>
Lt (fun (M138 : Mm) => 
J377_115 0 M138) fun J376_139 =>
if v112 ≤ v106 then (
J376_139 M110) else (
gd (0 ≤ 0 ∧ 0 < 11) <|
Lt (M110 684 0) fun v141 =>
if v141 ≤ v107 then (
J376_139 M110) else (
Lt (wr (Int.tdiv v5 10)) fun v143 =>
Lt (jrem v143 6) fun v144 =>
gd (0 ≤ 1 ∧ 1 < 11) <|
Lt (M110 684 1) fun v145 =>
if v145 ≤ v144 then (
J376_139 M110) else (
J377_115 1 M110))))) else (
Lt (jrem v5 10) fun v147 =>
Lt (jrem v8 11) fun v148 =>
Lt (wr (v148 - 1)) fun v149 =>
Lt (wr (Int.tdiv v8 11)) fun v150 =>
Lt (jrem v150 3) fun v151 =>
Cl (f_L_does 1 v147 v149 v151 0 0 M7) fun v153 M152 =>
Lt (fun (v154 : Int) (M155 : Mm) => 
some (v154, M155)) fun J296_156 =>
Lt (fun (M157 : Mm) => 
J296_156 1 M157) fun J291_158 =>
if ((-1)) ≤ v153 then (
J291_158 M152) else (
if v153 = ((-3000000)) then (
J291_158 M152) else (
if ¬ v153 = ((-2000000)) then (
J296_156 0 M152) else (
J291_158 M152))))) else (
gd (0 ≤ 5 ∧ 5 < 11) <|
Lt (M7 684 5) fun v162 =>
Lt (jrem v5 4) fun v163 =>
Lt (jshl 1 v163) fun v164 =>
Lt (jxor v162 v164) fun v165 =>
gd (0 ≤ 5 ∧ 5 < 11) <|
Lt (up M7 684 5 v165) fun M166 =>
Lt (jrem v5 4) fun v167 =>
Cl (f_L_does 6 v167 0 0 0 0 M166) fun v169 M168 =>
gd (0 ≤ 5 ∧ 5 < 11) <|
Lt (M168 684 5) fun v170 =>
Lt (jrem v5 4) fun v171 =>
Lt (jshr v170 v171) fun v172 =>
Lt (jand v172 1) fun v173 =>
Lt (wr (1 - v173)) fun v174 =>
Lt (fun (v175 : Int) (M176 : Mm) => 
some (v175, M176)) fun J235_177 =>
Lt (fun (M178 : Mm) => 
J235_177 0 M178) fun J234_179 =>
if ¬ v169 = v174 then (
J234_179 M168) else (
Cl (f_L_does 6 4 0 0 0 0 M168) fun v182 M181 =>
if ¬ v182 = ((-3000000)) then (
J234_179 M181) else (
J235_177 1 M181)))) else (
Lt (jrem v5 5) fun v184 =>
Cl (f_L_does 3 v184 0 0 0 0 M7) fun v186 M185 =>
Lt (jrem v5 5) fun v187 =>
Lt (fun (v188 : Int) (M189 : Mm) => 
Lt (fun (M191 : Mm) => 
Lt (fun (v193 : Int) (M194 : Mm) => 
some (v193, M194)) fun J163_195 =>
if ¬ v186 = v188 then (
J163_195 0 M191) else (
J163_195 1 M191)) fun J151_192 =>
if v188 < 0 then (
J151_192 M189) else (
gd (0 ≤ 1 ∧ 1 < 11) <|
Lt (M189 684 1) fun v198 =>
Lt (jrem v5 5) fun v199 =>
gd (0 ≤ v198 ∧ v198 < 6) <|
Lt (up M189 683 v198.toNat v199) fun M200 =>
gd (0 ≤ 1 ∧ 1 < 11) <|
Lt (M200 684 1) fun v201 =>
Lt (wr (v201 + 1)) fun v202 =>
gd (0 ≤ 1 ∧ 1 < 11) <|
Lt (up M200 684 1 v202) fun M203 =>
J151_192 M203)) fun J125_190 =>
if ¬ v187 = 4 then (
gd (0 ≤ 1 ∧ 1 < 11) <|
Lt (M185 684 1) fun v205 =>
if ¬ v205 = 6 then (
gd (0 ≤ 1 ∧ 1 < 11) <|
Lt (M185 684 1) fun v207 =>
J125_190 v207 M185) else (
J125_190 ((-1000000)) M185)) else (
J125_190 ((-2000000)) M185))) else (
Lt (wr (a3 + 1)) fun v208 =>
Cl (f_L_isEquation N xs v208 M7) fun v210 M209 =>
some (v210, M209))) else (
Cl (f_L_isProduction v5 v8 M7) fun v212 M211 =>
some (v212, M211))
theorem cy_L_isLaw : yL_isLaw.cls ≠ "java/lang/invoke/MethodHandle" ∧ yL_isLaw.cls ≠ "java/lang/invoke/VarHandle" ∧ (parseMethodDescriptor yL_isLaw.desc).map (fun d => d.parameters.length) = some 8 := ⟨by decide +kernel, by decide +kernel, by decide +kernel⟩
set_option maxRecDepth 20000 in
theorem ok_L_isLaw (l : Launch) (hl : l.stackTraces = false) (D : Dd) (base b N : Nat) (xs : Nat → Int32) (hN : N ≤ 260) (M : Mm) (a3 : Int) (ha3 : i32 a3) : OkQ l D base b N xs yL_isLaw (.code yL_isLaw cL_isLaw 15 (some .boolean)) 10 257 34 204 [.ref (base + 0), .ref b, .int (Ii a3), .ref (base + 681), .ref (base + 682), .ref (base + 683), .ref (base + 684), .ref (base + 685)] M bo (f_L_isLaw N xs a3 M) := by
  have hN32 : i32 (N : Int) := by unfold i32; omega
  refine metQ (by decide +kernel) [(0, .ref (base + 0)), (1, .ref b), (2, .int (Ii a3)), (3, .ref (base + 681)), (4, .ref (base + 682)), (5, .ref (base + 683)), (6, .ref (base + 684)), (7, .ref (base + 685))] rfl (Nat.le_of_ble_eq_true rfl) (fun p e s m args below meth c X Y hrt hlk => ?_)
  have X : Cx p s m args c cL_isLaw D 15 RL := X
  unfold f_L_isLaw
  refine go_aload_n X dL_isLaw_0 rfl 1 rfl ?_
  refine go_iload_n X dL_isLaw_1 rfl 2 rfl ?_
  refine go_bipush (v := 40) X dL_isLaw_2 (by decide) ?_
  refine go_lcall X Y (ok_L_part l hl D base b N xs hN M a3 ha3 40 kI_40) dL_isLaw_4 lw945 lw946 lw926 ⟨lw865, cy_L_part, Nat.le_of_ble_eq_true rfl, Nat.le_of_ble_eq_true rfl⟩ rfl rfl (Nat.le_of_ble_eq_true rfl) ⟨Nat.le_of_ble_eq_true rfl, Nat.le_of_ble_eq_true rfl⟩ (fun v2 M1 hv2 => ?_)
  refine go_istore (i := 8) (L' := [(8, .int (Ii v2)), (0, .ref (base + 0)), (1, .ref b), (2, .int (Ii a3)), (3, .ref (base + 681)), (4, .ref (base + 682)), (5, .ref (base + 683)), (6, .ref (base + 684)), (7, .ref (base + 685))]) X dL_isLaw_7 (by decide) rfl ?_
  refine go_aload_n X dL_isLaw_9 rfl 2 rfl ?_
  refine go_iload_n X dL_isLaw_10 rfl 3 rfl ?_
  refine go_iconst (v := 1) X dL_isLaw_11 rfl ?_
  refine go_iadd X dL_isLaw_12 ha3 kI_1 (fun v3 hv3 => ?_)
  refine go_ldc (v := 60000) X dL_isLaw_13 lw956 rfl ?_
  refine go_lcall X Y (ok_L_part l hl D base b N xs hN M1 v3 hv3 60000 kI_60000) dL_isLaw_15 lw945 lw946 lw926 ⟨lw865, cy_L_part, Nat.le_of_ble_eq_true rfl, Nat.le_of_ble_eq_true rfl⟩ rfl rfl (Nat.le_of_ble_eq_true rfl) ⟨Nat.le_of_ble_eq_true rfl, Nat.le_of_ble_eq_true rfl⟩ (fun v5 M4 hv5 => ?_)
  refine go_istore (i := 9) (L' := [(9, .int (Ii v5)), (8, .int (Ii v2)), (0, .ref (base + 0)), (1, .ref b), (2, .int (Ii a3)), (3, .ref (base + 681)), (4, .ref (base + 682)), (5, .ref (base + 683)), (6, .ref (base + 684)), (7, .ref (base + 685))]) X dL_isLaw_18 (by decide) rfl ?_
  refine go_aload_n X dL_isLaw_20 rfl 3 rfl ?_
  refine go_iload_n X dL_isLaw_21 rfl 4 rfl ?_
  refine go_iconst (v := 2) X dL_isLaw_22 rfl ?_
  refine go_iadd X dL_isLaw_23 ha3 kI_2 (fun v6 hv6 => ?_)
  refine go_ldc (v := 70000) X dL_isLaw_24 lw957 rfl ?_
  refine go_lcall X Y (ok_L_part l hl D base b N xs hN M4 v6 hv6 70000 kI_70000) dL_isLaw_26 lw945 lw946 lw926 ⟨lw865, cy_L_part, Nat.le_of_ble_eq_true rfl, Nat.le_of_ble_eq_true rfl⟩ rfl rfl (Nat.le_of_ble_eq_true rfl) ⟨Nat.le_of_ble_eq_true rfl, Nat.le_of_ble_eq_true rfl⟩ (fun v8 M7 hv8 => ?_)
  refine go_istore (i := 10) (L' := [(10, .int (Ii v8)), (9, .int (Ii v5)), (8, .int (Ii v2)), (0, .ref (base + 0)), (1, .ref b), (2, .int (Ii a3)), (3, .ref (base + 681)), (4, .ref (base + 682)), (5, .ref (base + 683)), (6, .ref (base + 684)), (7, .ref (base + 685))]) X dL_isLaw_29 (by decide) rfl ?_
  refine go_iload X dL_isLaw_31 2 rfl ?_
  refine go_iconst (v := 5) X dL_isLaw_33 rfl ?_
  refine go_icmp_ge (tgt := 49) X dL_isLaw_34 rfl hv2 kI_5 (fun c9 => ?_) (fun c9 => ?_)
  · refine go_iload X dL_isLaw_49 2 rfl ?_
    refine go_bipush (v := 12) X dL_isLaw_51 (by decide) ?_
    refine go_icmp_ge (tgt := 72) X dL_isLaw_53 rfl hv2 kI_12 (fun c10 => ?_) (fun c10 => ?_)
    · refine go_iload X dL_isLaw_72 2 rfl ?_
      refine go_bipush (v := 14) X dL_isLaw_74 (by decide) ?_
      refine go_icmp_ge (tgt := 164) X dL_isLaw_76 rfl hv2 kI_14 (fun c11 => ?_) (fun c11 => ?_)
      · refine go_iload X dL_isLaw_164 2 rfl ?_
        refine go_bipush (v := 14) X dL_isLaw_166 (by decide) ?_
        refine go_icmp_ne (tgt := 236) X dL_isLaw_168 rfl hv2 kI_14 (fun c12 => ?_) (fun c12 => ?_)
        · refine go_iload X dL_isLaw_236 2 rfl ?_
          refine go_bipush (v := 15) X dL_isLaw_238 (by decide) ?_
          refine go_icmp_ne (tgt := 297) X dL_isLaw_240 rfl hv2 kI_15 (fun c13 => ?_) (fun c13 => ?_)
          · refine go_iload X dL_isLaw_297 2 rfl ?_
            refine go_bipush (v := 16) X dL_isLaw_299 (by decide) ?_
            refine go_icmp_ne (tgt := 457) X dL_isLaw_301 rfl hv2 kI_16 (fun c14 => ?_) (fun c14 => ?_)
            · refine go_iload X dL_isLaw_457 2 rfl ?_
              refine go_bipush (v := 27) X dL_isLaw_459 (by decide) ?_
              refine go_icmp_ge (tgt := 482) X dL_isLaw_461 rfl hv2 kI_27 (fun c15 => ?_) (fun c15 => ?_)
              · refine go_iload X dL_isLaw_482 2 rfl ?_
                refine go_bipush (v := 30) X dL_isLaw_484 (by decide) ?_
                refine go_icmp_ge (tgt := 502) X dL_isLaw_486 rfl hv2 kI_30 (fun c16 => ?_) (fun c16 => ?_)
                · refine go_aload X dL_isLaw_502 9 rfl ?_
                  refine go_iconst (v := 4) X dL_isLaw_504 rfl ?_
                  refine go_iaload X dL_isLaw_505 tln684 tl684 kI_4 (fun v17 hv17 => ?_)
                  refine go_lt (fun J => ∀ (v18 : Int) (M19 : Mm), i32 v18 → Go p l e (rmX 10 257 34 204) s m args below meth c D TL 686 base 15 0 0 (FinQ D base 34 204 below args s bo) M19 532 [(0, .ref (base + 0)), (5, .ref (base + 683)), (6, .ref (base + 684)), (9, .int (Ii v5)), (10, .int (Ii v8))] [.int (Ii v18)] (J v18 M19)) (by
                      intro v18 M19 hv18
                      refine go_istore (i := 11) (L' := [(11, .int (Ii v18)), (0, .ref (base + 0)), (5, .ref (base + 683)), (6, .ref (base + 684)), (9, .int (Ii v5)), (10, .int (Ii v8))]) X dL_isLaw_532 (by decide) rfl ?_
                      refine go_iload X dL_isLaw_534 0 rfl ?_
                      refine go_aload X dL_isLaw_536 3 rfl ?_
                      refine go_iconst (v := 4) X dL_isLaw_538 rfl ?_
                      refine go_iaload X dL_isLaw_539 tln684 tl684 kI_4 (fun v21 hv21 => ?_)
                      refine go_lt (fun J => ∀ (v22 : Int) (M23 : Mm), bo v22 → Go p l e (rmX 10 257 34 204) s m args below meth c D TL 686 base 15 0 0 (FinQ D base 34 204 below args s bo) M23 560 [(0, .ref (base + 0)), (5, .ref (base + 683)), (6, .ref (base + 684)), (9, .int (Ii v5)), (10, .int (Ii v8)), (11, .int (Ii v18))] [.int (Ii v22)] (J v22 M23)) (by
                          intro v22 M23 hv22
                          refine go_istore (i := 12) (L' := [(12, .int (Ii v22)), (0, .ref (base + 0)), (5, .ref (base + 683)), (6, .ref (base + 684)), (9, .int (Ii v5)), (10, .int (Ii v8)), (11, .int (Ii v18))]) X dL_isLaw_560 (by decide) rfl ?_
                          refine go_iload X dL_isLaw_562 0 rfl ?_
                          refine go_lt (fun J => ∀ (v25 : Int) (M26 : Mm), bo v25 → Go p l e (rmX 10 257 34 204) s m args below meth c D TL 686 base 15 12 72 (FinQ D base 34 204 below args s bo) M26 600 [(0, .ref (base + 0)), (5, .ref (base + 683)), (6, .ref (base + 684)), (9, .int (Ii v5)), (10, .int (Ii v8)), (12, .int (Ii v22))] [.int (Ii v25)] (J v25 M26)) (by
                              intro v25 M26 hv25
                              refine go_istore (i := 13) (L' := [(13, .int (Ii v25)), (0, .ref (base + 0)), (5, .ref (base + 683)), (6, .ref (base + 684)), (9, .int (Ii v5)), (10, .int (Ii v8)), (12, .int (Ii v22))]) X dL_isLaw_600 (by decide) rfl ?_
                              refine go_aload X dL_isLaw_602 3 rfl ?_
                              refine go_bipush (v := 9) X dL_isLaw_604 (by decide) ?_
                              refine go_dup2 X dL_isLaw_606 rfl rfl ?_
                              refine go_iaload X dL_isLaw_607 tln684 tl684 kI_9 (fun v28 hv28 => ?_)
                              refine go_iload X dL_isLaw_608 6 rfl ?_
                              refine go_lt (fun J => ∀ (v29 : Int) (M30 : Mm), bo v29 → Go p l e (rmX 10 257 34 204) s m args below meth c D TL 686 base 15 12 72 (FinQ D base 34 204 below args s bo) M30 618 [(0, .ref (base + 0)), (5, .ref (base + 683)), (6, .ref (base + 684)), (9, .int (Ii v5)), (10, .int (Ii v8)), (13, .int (Ii v25))] [.int (Ii v29), .int (Ii v28), .int (Ii 9), .ref (base + 684)] (J v29 M30)) (by
                                  intro v29 M30 hv29
                                  refine go_iadd X dL_isLaw_618 hv28 (bo_i32 hv29) (fun v32 hv32 => ?_)
                                  refine go_iastore X dL_isLaw_619 tln684 tl684 kI_9 hv32 (fun M33 => ?_)
                                  refine go_aload X dL_isLaw_620 2 rfl ?_
                                  refine go_iconst (v := 4) X dL_isLaw_622 rfl ?_
                                  refine go_iaload X dL_isLaw_623 tln684 tl684 kI_4 (fun v34 hv34 => ?_)
                                  refine go_lt (fun J => ∀ (v35 : Int) (M36 : Mm), bo v35 → Go p l e (rmX 10 257 34 204) s m args below meth c D TL 686 base 15 12 72 (FinQ D base 34 204 below args s bo) M36 656 [(0, .ref (base + 0)), (5, .ref (base + 683)), (6, .ref (base + 684)), (9, .int (Ii v5)), (10, .int (Ii v8)), (13, .int (Ii v25))] [.int (Ii v35)] (J v35 M36)) (by
                                      intro v35 M36 hv35
                                      refine go_istore (i := 14) (L' := [(14, .int (Ii v35)), (0, .ref (base + 0)), (5, .ref (base + 683)), (6, .ref (base + 684)), (9, .int (Ii v5)), (10, .int (Ii v8)), (13, .int (Ii v25))]) X dL_isLaw_656 (by decide) rfl ?_
                                      refine go_aload X dL_isLaw_658 3 rfl ?_
                                      refine go_bipush (v := 10) X dL_isLaw_660 (by decide) ?_
                                      refine go_dup2 X dL_isLaw_662 rfl rfl ?_
                                      refine go_iaload X dL_isLaw_663 tln684 tl684 kI_10 (fun v38 hv38 => ?_)
                                      refine go_iload X dL_isLaw_664 0 rfl ?_
                                      refine go_lt (fun J => ∀ (v39 : Int) (M40 : Mm), bo v39 → Go p l e (rmX 10 257 34 204) s m args below meth c D TL 686 base 15 12 72 (FinQ D base 34 204 below args s bo) M40 674 [(0, .ref (base + 0)), (5, .ref (base + 683)), (6, .ref (base + 684)), (9, .int (Ii v5)), (10, .int (Ii v8)), (13, .int (Ii v25)), (14, .int (Ii v35))] [.int (Ii v39), .int (Ii v38), .int (Ii 10), .ref (base + 684)] (J v39 M40)) (by
                                          intro v39 M40 hv39
                                          refine go_iadd X dL_isLaw_674 hv38 (bo_i32 hv39) (fun v42 hv42 => ?_)
                                          refine go_iastore X dL_isLaw_675 tln684 tl684 kI_10 hv42 (fun M43 => ?_)
                                          refine go_iload X dL_isLaw_676 5 rfl ?_
                                          refine go_lt (fun J => ∀ (v44 : Int) (M45 : Mm), bo v44 → Go p l e (rmX 10 257 34 204) s m args below meth c D TL 686 base 15 34 204 (FinQ D base 34 204 below args s bo) M45 716 [] [.int (Ii v44)] (J v44 M45)) (by
                                              intro v44 M45 hv44
                                              exact go_qzreturn X hrt hlk dL_isLaw_716 hv44 hv44 (Nat.le_of_ble_eq_true rfl) (Nat.le_of_ble_eq_true rfl)
                                              )
                                              (fun J716_46 hJ716_46 => ?_)
                                          refine go_lt (fun J => ∀ (M47 : Mm), Go p l e (rmX 10 257 34 204) s m args below meth c D TL 686 base 15 34 204 (FinQ D base 34 204 below args s bo) M47 715 [] [] (J M47)) (by
                                              intro M47
                                              refine go_iconst (v := 0) X dL_isLaw_715 rfl ?_
                                              exact hJ716_46 0 M47 (Or.inl rfl)
                                              )
                                              (fun J715_48 hJ715_48 => ?_)
                                          refine go_if_eq (tgt := 715) X dL_isLaw_678 rfl (bo_i32 hv25) (fun c49 => ?_) (fun c49 => ?_)
                                          · refine go_widen 34 204 (by decide) (by decide) ?_
                                            refine go_sub [] rfl ?_
                                            exact hJ715_48 M43
                                          · refine go_iload X dL_isLaw_681 6 rfl ?_
                                            refine go_lt (fun J => ∀ (M50 : Mm), Go p l e (rmX 10 257 34 204) s m args below meth c D TL 686 base 15 34 204 (FinQ D base 34 204 below args s bo) M50 711 [] [] (J M50)) (by
                                                intro M50
                                                refine go_iconst (v := 1) X dL_isLaw_711 rfl ?_
                                                refine go_goto (tgt := 716) X dL_isLaw_712 rfl ?_
                                                exact hJ716_46 1 M50 (Or.inr rfl)
                                                )
                                                (fun J711_51 hJ711_51 => ?_)
                                            refine go_if_eq (tgt := 711) X dL_isLaw_683 rfl (bo_i32 hv35) (fun c52 => ?_) (fun c52 => ?_)
                                            · refine go_widen 34 204 (by decide) (by decide) ?_
                                              refine go_sub [] rfl ?_
                                              exact hJ711_51 M43
                                            · refine go_aload_n X dL_isLaw_686 rfl 0 rfl ?_
                                              refine go_aload X dL_isLaw_687 1 rfl ?_
                                              refine go_aload X dL_isLaw_689 2 rfl ?_
                                              refine go_iload X dL_isLaw_691 3 rfl ?_
                                              refine go_aload X dL_isLaw_693 2 rfl ?_
                                              refine go_iconst (v := 4) X dL_isLaw_695 rfl ?_
                                              refine go_iaload X dL_isLaw_696 tln684 tl684 kI_4 (fun v53 hv53 => ?_)
                                              refine go_gd (fun g55 => ?_)
                                              refine go_irem X dL_isLaw_697 hv5 hv53 g55 (fun v54 hv54 => ?_)
                                              refine go_iload X dL_isLaw_698 4 rfl ?_
                                              refine go_aload X dL_isLaw_700 2 rfl ?_
                                              refine go_iconst (v := 1) X dL_isLaw_702 rfl ?_
                                              refine go_iaload X dL_isLaw_703 tln684 tl684 kI_1 (fun v56 hv56 => ?_)
                                              refine go_gd (fun g58 => ?_)
                                              refine go_irem X dL_isLaw_704 hv8 hv56 g58 (fun v57 hv57 => ?_)
                                              refine go_lcall X Y (ok_L_areReads l hl D base b N xs hN M43 v54 hv54 v57 hv57) dL_isLaw_705 lw968 lw969 lw926 ⟨lw942, cy_L_areReads, Nat.le_of_ble_eq_true rfl, Nat.le_of_ble_eq_true rfl⟩ rfl rfl (Nat.le_of_ble_eq_true rfl) ⟨Nat.le_of_ble_eq_true rfl, Nat.le_of_ble_eq_true rfl⟩ (fun v60 M59 hv60 => ?_)
                                              refine go_if_eq (tgt := 715) X dL_isLaw_708 rfl (bo_i32 hv60) (fun c61 => ?_) (fun c61 => ?_)
                                              · refine go_sub [] rfl ?_
                                                exact hJ715_48 M59
                                              · refine go_sub [] rfl ?_
                                                exact hJ711_51 M59
                                          )
                                          (fun J674_41 hJ674_41 => ?_)
                                      refine go_if_eq (tgt := 673) X dL_isLaw_666 rfl (bo_i32 hv35) (fun c62 => ?_) (fun c62 => ?_)
                                      · refine go_iconst (v := 0) X dL_isLaw_673 rfl ?_
                                        refine go_sub [1, 2, 3, 4, 5, 6, 0] rfl ?_
                                        exact hJ674_41 0 M36 (Or.inl rfl)
                                      · refine go_iconst (v := 1) X dL_isLaw_669 rfl ?_
                                        refine go_goto (tgt := 674) X dL_isLaw_670 rfl ?_
                                        refine go_sub [1, 2, 3, 4, 5, 6, 0] rfl ?_
                                        exact hJ674_41 1 M36 (Or.inr rfl)
                                      )
                                      (fun J656_37 hJ656_37 => ?_)
                                  refine go_lt (fun J => ∀ (M63 : Mm), Go p l e (rmX 10 257 34 204) s m args below meth c D TL 686 base 15 12 72 (FinQ D base 34 204 below args s bo) M63 655 [(0, .ref (base + 0)), (5, .ref (base + 683)), (6, .ref (base + 684)), (9, .int (Ii v5)), (10, .int (Ii v8)), (13, .int (Ii v25))] [] (J M63)) (by
                                      intro M63
                                      refine go_iconst (v := 0) X dL_isLaw_655 rfl ?_
                                      exact hJ656_37 0 M63 (Or.inl rfl)
                                      )
                                      (fun J655_64 hJ655_64 => ?_)
                                  refine go_if_le (tgt := 655) X dL_isLaw_624 rfl hv34 (fun c65 => ?_) (fun c65 => ?_)
                                  · exact hJ655_64 M33
                                  · refine go_aload X dL_isLaw_627 2 rfl ?_
                                    refine go_iconst (v := 1) X dL_isLaw_629 rfl ?_
                                    refine go_iaload X dL_isLaw_630 tln684 tl684 kI_1 (fun v66 hv66 => ?_)
                                    refine go_if_le (tgt := 655) X dL_isLaw_631 rfl hv66 (fun c67 => ?_) (fun c67 => ?_)
                                    · exact hJ655_64 M33
                                    · refine go_iload X dL_isLaw_634 3 rfl ?_
                                      refine go_iconst (v := 2) X dL_isLaw_636 rfl ?_
                                      refine go_irem X dL_isLaw_637 hv5 kI_2 (by decide) (fun v68 hv68 => ?_)
                                      refine go_iconst (v := 1) X dL_isLaw_638 rfl ?_
                                      refine go_icmp_ne (tgt := 655) X dL_isLaw_639 rfl hv68 kI_1 (fun c69 => ?_) (fun c69 => ?_)
                                      · exact hJ655_64 M33
                                      · refine go_aload X dL_isLaw_642 2 rfl ?_
                                        refine go_bipush (v := 10) X dL_isLaw_644 (by decide) ?_
                                        refine go_iaload X dL_isLaw_646 tln684 tl684 kI_10 (fun v70 hv70 => ?_)
                                        refine go_iconst (v := 5) X dL_isLaw_647 rfl ?_
                                        refine go_icmp_ge (tgt := 655) X dL_isLaw_648 rfl hv70 kI_5 (fun c71 => ?_) (fun c71 => ?_)
                                        · exact hJ655_64 M33
                                        · refine go_iconst (v := 1) X dL_isLaw_651 rfl ?_
                                          refine go_goto (tgt := 656) X dL_isLaw_652 rfl ?_
                                          exact hJ656_37 1 M33 (Or.inr rfl)
                                  )
                                  (fun J618_31 hJ618_31 => ?_)
                              refine go_if_eq (tgt := 617) X dL_isLaw_610 rfl (bo_i32 hv22) (fun c72 => ?_) (fun c72 => ?_)
                              · refine go_iconst (v := 0) X dL_isLaw_617 rfl ?_
                                refine go_sub [1, 2, 3, 4, 5, 0] rfl ?_
                                exact hJ618_31 0 M26 (Or.inl rfl)
                              · refine go_iconst (v := 1) X dL_isLaw_613 rfl ?_
                                refine go_goto (tgt := 618) X dL_isLaw_614 rfl ?_
                                refine go_sub [1, 2, 3, 4, 5, 0] rfl ?_
                                exact hJ618_31 1 M26 (Or.inr rfl)
                              )
                              (fun J600_27 hJ600_27 => ?_)
                          refine go_lt (fun J => ∀ (M73 : Mm), Go p l e (rmX 10 257 34 204) s m args below meth c D TL 686 base 15 12 72 (FinQ D base 34 204 below args s bo) M73 595 [(0, .ref (base + 0)), (5, .ref (base + 683)), (6, .ref (base + 684)), (9, .int (Ii v5)), (10, .int (Ii v8)), (12, .int (Ii v22))] [] (J M73)) (by
                              intro M73
                              refine go_iconst (v := 1) X dL_isLaw_595 rfl ?_
                              refine go_goto (tgt := 600) X dL_isLaw_596 rfl ?_
                              exact hJ600_27 1 M73 (Or.inr rfl)
                              )
                              (fun J595_74 hJ595_74 => ?_)
                          refine go_lt (fun J => ∀ (M75 : Mm), Go p l e (rmX 10 257 34 204) s m args below meth c D TL 686 base 15 0 0 (FinQ D base 34 204 below args s bo) M75 577 [(0, .ref (base + 0)), (5, .ref (base + 683)), (6, .ref (base + 684)), (9, .int (Ii v5)), (10, .int (Ii v8)), (11, .int (Ii v18)), (12, .int (Ii v22))] [] (J M75)) (by
                              intro M75
                              refine go_aload_n X dL_isLaw_577 rfl 0 rfl ?_
                              refine go_aload X dL_isLaw_578 1 rfl ?_
                              refine go_aload X dL_isLaw_580 2 rfl ?_
                              refine go_iload X dL_isLaw_582 5 rfl ?_
                              refine go_iload X dL_isLaw_584 4 rfl ?_
                              refine go_bipush (v := 6) X dL_isLaw_586 (by decide) ?_
                              refine go_irem X dL_isLaw_588 hv8 kI_6 (by decide) (fun v77 hv77 => ?_)
                              refine go_lcall X Y (ok_L_isTold l hl D base b N xs hN M75 v18 hv18 v77 hv77) dL_isLaw_589 lw966 lw967 lw926 ⟨lw941, cy_L_isTold, Nat.le_of_ble_eq_true rfl, Nat.le_of_ble_eq_true rfl⟩ rfl rfl (Nat.le_of_ble_eq_true rfl) ⟨Nat.le_of_ble_eq_true rfl, Nat.le_of_ble_eq_true rfl⟩ (fun v79 M78 hv79 => ?_)
                              refine go_if_eq (tgt := 599) X dL_isLaw_592 rfl (bo_i32 hv79) (fun c80 => ?_) (fun c80 => ?_)
                              · refine go_iconst (v := 0) X dL_isLaw_599 rfl ?_
                                refine go_sub [0, 1, 2, 3, 4, 6] rfl ?_
                                exact hJ600_27 0 M78 (Or.inl rfl)
                              · refine go_sub [0, 1, 2, 3, 4, 6] rfl ?_
                                exact hJ595_74 M78
                              )
                              (fun J577_76 hJ577_76 => ?_)
                          refine go_if_eq (tgt := 577) X dL_isLaw_564 rfl (bo_i32 hv22) (fun c81 => ?_) (fun c81 => ?_)
                          · refine go_sub [1, 2, 3, 4, 5, 6, 0] rfl ?_
                            exact hJ577_76 M23
                          · refine go_aload X dL_isLaw_567 3 rfl ?_
                            refine go_bipush (v := 9) X dL_isLaw_569 (by decide) ?_
                            refine go_iaload X dL_isLaw_571 tln684 tl684 kI_9 (fun v82 hv82 => ?_)
                            refine go_bipush (v := 15) X dL_isLaw_572 (by decide) ?_
                            refine go_icmp_gt (tgt := 595) X dL_isLaw_574 rfl hv82 kI_15 (fun c83 => ?_) (fun c83 => ?_)
                            · refine go_widen 12 72 (by decide) (by decide) ?_
                              refine go_sub [1, 2, 3, 4, 5, 0] rfl ?_
                              exact hJ595_74 M23
                            · refine go_sub [1, 2, 3, 4, 5, 6, 0] rfl ?_
                              exact hJ577_76 M23
                          )
                          (fun J560_24 hJ560_24 => ?_)
                      refine go_lt (fun J => ∀ (M84 : Mm), Go p l e (rmX 10 257 34 204) s m args below meth c D TL 686 base 15 0 0 (FinQ D base 34 204 below args s bo) M84 559 [(0, .ref (base + 0)), (5, .ref (base + 683)), (6, .ref (base + 684)), (9, .int (Ii v5)), (10, .int (Ii v8)), (11, .int (Ii v18))] [] (J M84)) (by
                          intro M84
                          refine go_iconst (v := 0) X dL_isLaw_559 rfl ?_
                          exact hJ560_24 0 M84 (Or.inl rfl)
                          )
                          (fun J559_85 hJ559_85 => ?_)
                      refine go_icmp_ge (tgt := 559) X dL_isLaw_540 rfl hv18 hv21 (fun c86 => ?_) (fun c86 => ?_)
                      · refine go_sub [1, 2, 3, 4, 5, 0] rfl ?_
                        exact hJ559_85 M19
                      · refine go_iload X dL_isLaw_543 5 rfl ?_
                        refine go_bipush (v := 6) X dL_isLaw_545 (by decide) ?_
                        refine go_irem X dL_isLaw_547 hv8 kI_6 (by decide) (fun v87 hv87 => ?_)
                        refine go_aload X dL_isLaw_548 3 rfl ?_
                        refine go_iconst (v := 1) X dL_isLaw_550 rfl ?_
                        refine go_iaload X dL_isLaw_551 tln684 tl684 kI_1 (fun v88 hv88 => ?_)
                        refine go_icmp_ge (tgt := 559) X dL_isLaw_552 rfl hv87 hv88 (fun c89 => ?_) (fun c89 => ?_)
                        · refine go_sub [1, 2, 3, 4, 5, 0] rfl ?_
                          exact hJ559_85 M19
                        · refine go_iconst (v := 1) X dL_isLaw_555 rfl ?_
                          refine go_goto (tgt := 560) X dL_isLaw_556 rfl ?_
                          refine go_sub [1, 2, 3, 4, 5, 0] rfl ?_
                          exact hJ560_24 1 M19 (Or.inr rfl)
                      )
                      (fun J532_20 hJ532_20 => ?_)
                  refine go_lt (fun J => ∀ (M90 : Mm), Go p l e (rmX 10 257 34 204) s m args below meth c D TL 686 base 15 0 0 (FinQ D base 34 204 below args s bo) M90 527 [(0, .ref (base + 0)), (5, .ref (base + 683)), (6, .ref (base + 684)), (9, .int (Ii v5)), (10, .int (Ii v8))] [] (J M90)) (by
                      intro M90
                      refine go_iload X dL_isLaw_527 3 rfl ?_
                      refine go_bipush (v := 31) X dL_isLaw_529 (by decide) ?_
                      refine go_irem X dL_isLaw_531 hv5 kI_31 (by decide) (fun v92 hv92 => ?_)
                      exact hJ532_20 v92 M90 hv92
                      )
                      (fun J527_91 hJ527_91 => ?_)
                  refine go_if_le (tgt := 527) X dL_isLaw_506 rfl hv17 (fun c93 => ?_) (fun c93 => ?_)
                  · refine go_sub [3, 8, 9, 1, 0] rfl ?_
                    exact hJ527_91 M7
                  · refine go_iload X dL_isLaw_509 1 rfl ?_
                    refine go_bipush (v := 10) X dL_isLaw_511 (by decide) ?_
                    refine go_irem X dL_isLaw_513 hv5 kI_10 (by decide) (fun v94 hv94 => ?_)
                    refine go_if_le (tgt := 527) X dL_isLaw_514 rfl hv94 (fun c95 => ?_) (fun c95 => ?_)
                    · refine go_sub [3, 8, 9, 1, 0] rfl ?_
                      exact hJ527_91 M7
                    · refine go_iload X dL_isLaw_517 1 rfl ?_
                      refine go_aload X dL_isLaw_519 9 rfl ?_
                      refine go_iconst (v := 4) X dL_isLaw_521 rfl ?_
                      refine go_iaload X dL_isLaw_522 tln684 tl684 kI_4 (fun v96 hv96 => ?_)
                      refine go_gd (fun g98 => ?_)
                      refine go_irem X dL_isLaw_523 hv5 hv96 g98 (fun v97 hv97 => ?_)
                      refine go_goto (tgt := 532) X dL_isLaw_524 rfl ?_
                      refine go_sub [3, 8, 9, 1, 0] rfl ?_
                      exact hJ532_20 v97 M7 hv97
                · refine go_aload_n X dL_isLaw_489 rfl 3 rfl ?_
                  refine go_aload_n X dL_isLaw_490 rfl 6 rfl ?_
                  refine go_aload X dL_isLaw_491 9 rfl ?_
                  refine go_iload X dL_isLaw_493 1 rfl ?_
                  refine go_bipush (v := 31) X dL_isLaw_495 (by decide) ?_
                  refine go_irem X dL_isLaw_497 hv5 kI_31 (by decide) (fun v99 hv99 => ?_)
                  refine go_lcall X Y (ok_L_isRewritten l hl D base b N xs hN M7 v99 hv99) dL_isLaw_498 lw964 lw965 lw926 ⟨lw955, cy_L_isRewritten, Nat.le_of_ble_eq_true rfl, Nat.le_of_ble_eq_true rfl⟩ rfl rfl (Nat.le_of_ble_eq_true rfl) ⟨Nat.le_of_ble_eq_true rfl, Nat.le_of_ble_eq_true rfl⟩ (fun v101 M100 hv101 => ?_)
                  exact go_qzreturn X hrt hlk dL_isLaw_501 hv101 hv101 (Nat.le_of_ble_eq_true rfl) (Nat.le_of_ble_eq_true rfl)
              · refine go_aload_n X dL_isLaw_464 rfl 3 rfl ?_
                refine go_aload X dL_isLaw_465 9 rfl ?_
                refine go_iload X dL_isLaw_467 2 rfl ?_
                refine go_bipush (v := 17) X dL_isLaw_469 (by decide) ?_
                refine go_isub X dL_isLaw_471 hv2 kI_17 (fun v102 hv102 => ?_)
                refine go_iconst (v := 2) X dL_isLaw_472 rfl ?_
                refine go_idiv X dL_isLaw_473 hv102 kI_2 (by decide) (fun v103 hv103 => ?_)
                refine go_iload X dL_isLaw_474 1 rfl ?_
                refine go_iload X dL_isLaw_476 0 rfl ?_
                refine go_lcall X Y (ok_L_isChanged l hl D base b N xs hN M7 v103 hv103 v5 hv5 v8 hv8) dL_isLaw_478 lw962 lw963 lw926 ⟨lw954, cy_L_isChanged, Nat.le_of_ble_eq_true rfl, Nat.le_of_ble_eq_true rfl⟩ rfl rfl (Nat.le_of_ble_eq_true rfl) ⟨Nat.le_of_ble_eq_true rfl, Nat.le_of_ble_eq_true rfl⟩ (fun v105 M104 hv105 => ?_)
                exact go_qzreturn X hrt hlk dL_isLaw_481 hv105 hv105 (Nat.le_of_ble_eq_true rfl) (Nat.le_of_ble_eq_true rfl)
            · refine go_iload X dL_isLaw_304 1 rfl ?_
              refine go_bipush (v := 10) X dL_isLaw_306 (by decide) ?_
              refine go_irem X dL_isLaw_308 hv5 kI_10 (by decide) (fun v106 hv106 => ?_)
              refine go_istore (i := 11) (L' := [(11, .int (Ii v106)), (10, .int (Ii v8)), (9, .int (Ii v5)), (8, .int (Ii v2)), (0, .ref (base + 0)), (1, .ref b), (2, .int (Ii a3)), (3, .ref (base + 681)), (4, .ref (base + 682)), (5, .ref (base + 683)), (6, .ref (base + 684)), (7, .ref (base + 685))]) X dL_isLaw_309 (by decide) rfl ?_
              refine go_iload X dL_isLaw_311 1 rfl ?_
              refine go_bipush (v := 10) X dL_isLaw_313 (by decide) ?_
              refine go_irem X dL_isLaw_315 hv8 kI_10 (by decide) (fun v107 hv107 => ?_)
              refine go_istore (i := 12) (L' := [(12, .int (Ii v107)), (11, .int (Ii v106)), (10, .int (Ii v8)), (9, .int (Ii v5)), (8, .int (Ii v2)), (0, .ref (base + 0)), (1, .ref b), (2, .int (Ii a3)), (3, .ref (base + 681)), (4, .ref (base + 682)), (5, .ref (base + 683)), (6, .ref (base + 684)), (7, .ref (base + 685))]) X dL_isLaw_316 (by decide) rfl ?_
              refine go_aload_n X dL_isLaw_318 rfl 5 rfl ?_
              refine go_iconst (v := 2) X dL_isLaw_319 rfl ?_
              refine go_iload X dL_isLaw_320 1 rfl ?_
              refine go_iload X dL_isLaw_322 3 rfl ?_
              refine go_bipush (v := 10) X dL_isLaw_324 (by decide) ?_
              refine go_idiv X dL_isLaw_326 hv5 kI_10 (by decide) (fun v108 hv108 => ?_)
              refine go_bipush (v := 6) X dL_isLaw_327 (by decide) ?_
              refine go_irem X dL_isLaw_329 hv108 kI_6 (by decide) (fun v109 hv109 => ?_)
              refine go_iload X dL_isLaw_330 0 rfl ?_
              refine go_iconst (v := 0) X dL_isLaw_332 rfl ?_
              refine go_iconst (v := 0) X dL_isLaw_333 rfl ?_
              refine go_lcallH X Y (ok_L_does l hl D base b N xs hN M7 2 kI_2 v106 hv106 v109 hv109 v107 hv107 0 kI_0 0 kI_0) dL_isLaw_334 lw931 lw932 lw926 lw921 cy_L_does ⟨Nat.le_of_ble_eq_true rfl, Nat.le_of_ble_eq_true rfl⟩ rfl rfl (Nat.le_of_ble_eq_true rfl) ⟨Nat.le_of_ble_eq_true rfl, Nat.le_of_ble_eq_true rfl⟩ (fun v111 M110 hv111 => ?_)
              refine go_istore (i := 13) (L' := [(13, .int (Ii v111)), (12, .int (Ii v107)), (11, .int (Ii v106)), (10, .int (Ii v8)), (9, .int (Ii v5)), (8, .int (Ii v2)), (0, .ref (base + 0)), (1, .ref b), (2, .int (Ii a3)), (3, .ref (base + 681)), (4, .ref (base + 682)), (5, .ref (base + 683)), (6, .ref (base + 684)), (7, .ref (base + 685))]) X dL_isLaw_337 (by decide) rfl ?_
              refine go_iload X dL_isLaw_339 2 rfl ?_
              refine go_aload X dL_isLaw_341 12 rfl ?_
              refine go_iconst (v := 0) X dL_isLaw_343 rfl ?_
              refine go_iaload X dL_isLaw_344 tln684 tl684 kI_0 (fun v112 hv112 => ?_)
              refine go_lt (fun J => ∀ (v113 : Int) (M114 : Mm), bo v113 → Go p l e (rmX 10 257 34 204) s m args below meth c D TL 686 base 15 3 18 (FinQ D base 34 204 below args s bo) M114 377 [(3, .ref (base + 681)), (11, .int (Ii v106)), (12, .int (Ii v107)), (13, .int (Ii v111))] [.int (Ii v113)] (J v113 M114)) (by
                  intro v113 M114 hv113
                  refine go_istore (i := 14) (L' := [(14, .int (Ii v113)), (3, .ref (base + 681)), (11, .int (Ii v106)), (12, .int (Ii v107)), (13, .int (Ii v111))]) X dL_isLaw_377 (by decide) rfl ?_
                  refine go_iload X dL_isLaw_379 0 rfl ?_
                  refine go_lt (fun J => ∀ (v116 : Int) (M117 : Mm), bo v116 → Go p l e (rmX 10 257 34 204) s m args below meth c D TL 686 base 15 3 18 (FinQ D base 34 204 below args s bo) M117 456 [] [.int (Ii v116)] (J v116 M117)) (by
                      intro v116 M117 hv116
                      exact go_qzreturn X hrt hlk dL_isLaw_456 hv116 hv116 (Nat.le_of_ble_eq_true rfl) (Nat.le_of_ble_eq_true rfl)
                      )
                      (fun J456_118 hJ456_118 => ?_)
                  refine go_if_ne (tgt := 399) X dL_isLaw_381 rfl (bo_i32 hv113) (fun c119 => ?_) (fun c119 => ?_)
                  · refine go_iload X dL_isLaw_399 4 rfl ?_
                    refine go_ldc (v := (-2000000)) X dL_isLaw_401 lw871 rfl ?_
                    refine go_lt (fun J => ∀ (M120 : Mm), Go p l e (rmX 10 257 34 204) s m args below meth c D TL 686 base 15 3 18 (FinQ D base 34 204 below args s bo) M120 451 [] [] (J M120)) (by
                        intro M120
                        refine go_iconst (v := 1) X dL_isLaw_451 rfl ?_
                        refine go_goto (tgt := 456) X dL_isLaw_452 rfl ?_
                        exact hJ456_118 1 M120 (Or.inr rfl)
                        )
                        (fun J451_121 hJ451_121 => ?_)
                    refine go_icmp_eq (tgt := 451) X dL_isLaw_403 rfl hv111 kI_m2000000 (fun c122 => ?_) (fun c122 => ?_)
                    · refine go_sub [] rfl ?_
                      exact hJ451_121 M114
                    · refine go_iload X dL_isLaw_406 2 rfl ?_
                      refine go_iload X dL_isLaw_408 3 rfl ?_
                      refine go_lt (fun J => ∀ (M123 : Mm), Go p l e (rmX 10 257 34 204) s m args below meth c D TL 686 base 15 3 18 (FinQ D base 34 204 below args s bo) M123 455 [] [] (J M123)) (by
                          intro M123
                          refine go_iconst (v := 0) X dL_isLaw_455 rfl ?_
                          exact hJ456_118 0 M123 (Or.inl rfl)
                          )
                          (fun J455_124 hJ455_124 => ?_)
                      refine go_icmp_eq (tgt := 455) X dL_isLaw_410 rfl hv106 hv107 (fun c125 => ?_) (fun c125 => ?_)
                      · refine go_sub [] rfl ?_
                        exact hJ455_124 M114
                      · refine go_aload_n X dL_isLaw_413 rfl 1 rfl ?_
                        refine go_iload X dL_isLaw_414 2 rfl ?_
                        refine go_iaload X dL_isLaw_416 tln681 tl681 hv106 (fun v126 hv126 => ?_)
                        refine go_bipush (v := 10) X dL_isLaw_417 (by decide) ?_
                        refine go_irem X dL_isLaw_419 hv126 kI_10 (by decide) (fun v127 hv127 => ?_)
                        refine go_aload_n X dL_isLaw_420 rfl 1 rfl ?_
                        refine go_iload X dL_isLaw_421 3 rfl ?_
                        refine go_iaload X dL_isLaw_423 tln681 tl681 hv107 (fun v128 hv128 => ?_)
                        refine go_bipush (v := 10) X dL_isLaw_424 (by decide) ?_
                        refine go_irem X dL_isLaw_426 hv128 kI_10 (by decide) (fun v129 hv129 => ?_)
                        refine go_icmp_ne (tgt := 455) X dL_isLaw_427 rfl hv127 hv129 (fun c130 => ?_) (fun c130 => ?_)
                        · refine go_sub [] rfl ?_
                          exact hJ455_124 M114
                        · refine go_aload_n X dL_isLaw_430 rfl 1 rfl ?_
                          refine go_iload X dL_isLaw_431 2 rfl ?_
                          refine goI (fun H locs ls r ho hW hL => runS X (ok_L_children l D base M114 v106 hv106 H.size r ho) dL_isLaw_433 lw933 lw934 lw926 ⟨lw923, cy_L_children, Nat.le_of_ble_eq_true rfl, Nat.le_of_ble_eq_true rfl⟩ rfl rfl (Nat.le_of_ble_eq_true rfl) hW hL ⟨Nat.le_of_ble_eq_true rfl, Nat.le_of_ble_eq_true rfl⟩) (fun v132 M131 hv132 => ?_)
                          refine go_aload_n X dL_isLaw_436 rfl 1 rfl ?_
                          refine go_iload X dL_isLaw_437 3 rfl ?_
                          refine goI (fun H locs ls r ho hW hL => runS X (ok_L_children l D base M131 v107 hv107 H.size r ho) dL_isLaw_439 lw933 lw934 lw926 ⟨lw923, cy_L_children, Nat.le_of_ble_eq_true rfl, Nat.le_of_ble_eq_true rfl⟩ rfl rfl (Nat.le_of_ble_eq_true rfl) hW hL ⟨Nat.le_of_ble_eq_true rfl, Nat.le_of_ble_eq_true rfl⟩) (fun v134 M133 hv134 => ?_)
                          refine go_icmp_ne (tgt := 455) X dL_isLaw_442 rfl hv132 hv134 (fun c135 => ?_) (fun c135 => ?_)
                          · refine go_sub [] rfl ?_
                            exact hJ455_124 M133
                          · refine go_iload X dL_isLaw_445 4 rfl ?_
                            refine go_iconst (v := (-1)) X dL_isLaw_447 rfl ?_
                            refine go_icmp_lt (tgt := 455) X dL_isLaw_448 rfl hv111 kI_m1 (fun c136 => ?_) (fun c136 => ?_)
                            · refine go_sub [] rfl ?_
                              exact hJ455_124 M133
                            · refine go_sub [] rfl ?_
                              exact hJ451_121 M133
                  · refine go_iload X dL_isLaw_384 4 rfl ?_
                    refine go_ldc (v := (-3000000)) X dL_isLaw_386 lw870 rfl ?_
                    refine go_icmp_ne (tgt := 395) X dL_isLaw_388 rfl hv111 kI_m3000000 (fun c137 => ?_) (fun c137 => ?_)
                    · refine go_iconst (v := 0) X dL_isLaw_395 rfl ?_
                      refine go_goto (tgt := 456) X dL_isLaw_396 rfl ?_
                      refine go_sub [] rfl ?_
                      exact hJ456_118 0 M114 (Or.inl rfl)
                    · refine go_iconst (v := 1) X dL_isLaw_391 rfl ?_
                      refine go_goto (tgt := 456) X dL_isLaw_392 rfl ?_
                      refine go_sub [] rfl ?_
                      exact hJ456_118 1 M114 (Or.inr rfl)
                  )
                  (fun J377_115 hJ377_115 => ?_)
              refine go_lt (fun J => ∀ (M138 : Mm), Go p l e (rmX 10 257 34 204) s m args below meth c D TL 686 base 15 3 18 (FinQ D base 34 204 below args s bo) M138 376 [(3, .ref (base + 681)), (11, .int (Ii v106)), (12, .int (Ii v107)), (13, .int (Ii v111))] [] (J M138)) (by
                  intro M138
                  refine go_iconst (v := 0) X dL_isLaw_376 rfl ?_
                  exact hJ377_115 0 M138 (Or.inl rfl)
                  )
                  (fun J376_139 hJ376_139 => ?_)
              refine go_icmp_ge (tgt := 376) X dL_isLaw_345 rfl hv106 hv112 (fun c140 => ?_) (fun c140 => ?_)
              · refine go_sub [9, 2, 1, 0] rfl ?_
                exact hJ376_139 M110
              · refine go_iload X dL_isLaw_348 1 rfl ?_
                refine go_aload X dL_isLaw_350 12 rfl ?_
                refine go_iconst (v := 0) X dL_isLaw_352 rfl ?_
                refine go_iaload X dL_isLaw_353 tln684 tl684 kI_0 (fun v141 hv141 => ?_)
                refine go_icmp_ge (tgt := 376) X dL_isLaw_354 rfl hv107 hv141 (fun c142 => ?_) (fun c142 => ?_)
                · refine go_sub [9, 2, 1, 0] rfl ?_
                  exact hJ376_139 M110
                · refine go_iload X dL_isLaw_357 4 rfl ?_
                  refine go_bipush (v := 10) X dL_isLaw_359 (by decide) ?_
                  refine go_idiv X dL_isLaw_361 hv5 kI_10 (by decide) (fun v143 hv143 => ?_)
                  refine go_bipush (v := 6) X dL_isLaw_362 (by decide) ?_
                  refine go_irem X dL_isLaw_364 hv143 kI_6 (by decide) (fun v144 hv144 => ?_)
                  refine go_aload X dL_isLaw_365 12 rfl ?_
                  refine go_iconst (v := 1) X dL_isLaw_367 rfl ?_
                  refine go_iaload X dL_isLaw_368 tln684 tl684 kI_1 (fun v145 hv145 => ?_)
                  refine go_icmp_ge (tgt := 376) X dL_isLaw_369 rfl hv144 hv145 (fun c146 => ?_) (fun c146 => ?_)
                  · refine go_sub [9, 2, 1, 0] rfl ?_
                    exact hJ376_139 M110
                  · refine go_iconst (v := 1) X dL_isLaw_372 rfl ?_
                    refine go_goto (tgt := 377) X dL_isLaw_373 rfl ?_
                    refine go_sub [9, 2, 1, 0] rfl ?_
                    exact hJ377_115 1 M110 (Or.inr rfl)
          · refine go_aload_n X dL_isLaw_243 rfl 3 rfl ?_
            refine go_iconst (v := 1) X dL_isLaw_244 rfl ?_
            refine go_iload X dL_isLaw_245 1 rfl ?_
            refine go_bipush (v := 10) X dL_isLaw_247 (by decide) ?_
            refine go_irem X dL_isLaw_249 hv5 kI_10 (by decide) (fun v147 hv147 => ?_)
            refine go_iload X dL_isLaw_250 0 rfl ?_
            refine go_bipush (v := 11) X dL_isLaw_252 (by decide) ?_
            refine go_irem X dL_isLaw_254 hv8 kI_11 (by decide) (fun v148 hv148 => ?_)
            refine go_iconst (v := 1) X dL_isLaw_255 rfl ?_
            refine go_isub X dL_isLaw_256 hv148 kI_1 (fun v149 hv149 => ?_)
            refine go_iload X dL_isLaw_257 0 rfl ?_
            refine go_bipush (v := 11) X dL_isLaw_259 (by decide) ?_
            refine go_idiv X dL_isLaw_261 hv8 kI_11 (by decide) (fun v150 hv150 => ?_)
            refine go_iconst (v := 3) X dL_isLaw_262 rfl ?_
            refine go_irem X dL_isLaw_263 hv150 kI_3 (by decide) (fun v151 hv151 => ?_)
            refine go_iconst (v := 0) X dL_isLaw_264 rfl ?_
            refine go_iconst (v := 0) X dL_isLaw_265 rfl ?_
            refine go_lcallH X Y (ok_L_does l hl D base b N xs hN M7 1 kI_1 v147 hv147 v149 hv149 v151 hv151 0 kI_0 0 kI_0) dL_isLaw_266 lw931 lw932 lw926 lw921 cy_L_does ⟨Nat.le_of_ble_eq_true rfl, Nat.le_of_ble_eq_true rfl⟩ rfl rfl (Nat.le_of_ble_eq_true rfl) ⟨Nat.le_of_ble_eq_true rfl, Nat.le_of_ble_eq_true rfl⟩ (fun v153 M152 hv153 => ?_)
            refine go_istore (i := 11) (L' := [(11, .int (Ii v153)), (10, .int (Ii v8)), (9, .int (Ii v5)), (8, .int (Ii v2)), (0, .ref (base + 0)), (1, .ref b), (2, .int (Ii a3)), (3, .ref (base + 681)), (4, .ref (base + 682)), (5, .ref (base + 683)), (6, .ref (base + 684)), (7, .ref (base + 685))]) X dL_isLaw_269 (by decide) rfl ?_
            refine go_iload X dL_isLaw_271 0 rfl ?_
            refine go_iconst (v := (-1)) X dL_isLaw_273 rfl ?_
            refine go_lt (fun J => ∀ (v154 : Int) (M155 : Mm), bo v154 → Go p l e (rmX 10 257 34 204) s m args below meth c D TL 686 base 15 3 18 (FinQ D base 34 204 below args s bo) M155 296 [] [.int (Ii v154)] (J v154 M155)) (by
                intro v154 M155 hv154
                exact go_qzreturn X hrt hlk dL_isLaw_296 hv154 hv154 (Nat.le_of_ble_eq_true rfl) (Nat.le_of_ble_eq_true rfl)
                )
                (fun J296_156 hJ296_156 => ?_)
            refine go_lt (fun J => ∀ (M157 : Mm), Go p l e (rmX 10 257 34 204) s m args below meth c D TL 686 base 15 3 18 (FinQ D base 34 204 below args s bo) M157 291 [] [] (J M157)) (by
                intro M157
                refine go_iconst (v := 1) X dL_isLaw_291 rfl ?_
                refine go_goto (tgt := 296) X dL_isLaw_292 rfl ?_
                exact hJ296_156 1 M157 (Or.inr rfl)
                )
                (fun J291_158 hJ291_158 => ?_)
            refine go_icmp_ge (tgt := 291) X dL_isLaw_274 rfl hv153 kI_m1 (fun c159 => ?_) (fun c159 => ?_)
            · refine go_sub [] rfl ?_
              exact hJ291_158 M152
            · refine go_iload X dL_isLaw_277 0 rfl ?_
              refine go_ldc (v := (-3000000)) X dL_isLaw_279 lw870 rfl ?_
              refine go_icmp_eq (tgt := 291) X dL_isLaw_281 rfl hv153 kI_m3000000 (fun c160 => ?_) (fun c160 => ?_)
              · refine go_sub [] rfl ?_
                exact hJ291_158 M152
              · refine go_iload X dL_isLaw_284 0 rfl ?_
                refine go_ldc (v := (-2000000)) X dL_isLaw_286 lw871 rfl ?_
                refine go_icmp_ne (tgt := 295) X dL_isLaw_288 rfl hv153 kI_m2000000 (fun c161 => ?_) (fun c161 => ?_)
                · refine go_iconst (v := 0) X dL_isLaw_295 rfl ?_
                  refine go_sub [] rfl ?_
                  exact hJ296_156 0 M152 (Or.inl rfl)
                · refine go_sub [] rfl ?_
                  exact hJ291_158 M152
        · refine go_aload X dL_isLaw_171 9 rfl ?_
          refine go_iconst (v := 5) X dL_isLaw_173 rfl ?_
          refine go_dup2 X dL_isLaw_174 rfl rfl ?_
          refine go_iaload X dL_isLaw_175 tln684 tl684 kI_5 (fun v162 hv162 => ?_)
          refine go_iconst (v := 1) X dL_isLaw_176 rfl ?_
          refine go_iload X dL_isLaw_177 1 rfl ?_
          refine go_iconst (v := 4) X dL_isLaw_179 rfl ?_
          refine go_irem X dL_isLaw_180 hv5 kI_4 (by decide) (fun v163 hv163 => ?_)
          refine go_ishl X dL_isLaw_181 kI_1 hv163 (fun v164 hv164 => ?_)
          refine go_ixor X dL_isLaw_182 hv162 hv164 (fun v165 hv165 => ?_)
          refine go_iastore X dL_isLaw_183 tln684 tl684 kI_5 hv165 (fun M166 => ?_)
          refine go_aload_n X dL_isLaw_184 rfl 3 rfl ?_
          refine go_bipush (v := 6) X dL_isLaw_185 (by decide) ?_
          refine go_iload X dL_isLaw_187 1 rfl ?_
          refine go_iconst (v := 4) X dL_isLaw_189 rfl ?_
          refine go_irem X dL_isLaw_190 hv5 kI_4 (by decide) (fun v167 hv167 => ?_)
          refine go_iconst (v := 0) X dL_isLaw_191 rfl ?_
          refine go_iconst (v := 0) X dL_isLaw_192 rfl ?_
          refine go_iconst (v := 0) X dL_isLaw_193 rfl ?_
          refine go_iconst (v := 0) X dL_isLaw_194 rfl ?_
          refine go_lcallH X Y (ok_L_does l hl D base b N xs hN M166 6 kI_6 v167 hv167 0 kI_0 0 kI_0 0 kI_0 0 kI_0) dL_isLaw_195 lw931 lw932 lw926 lw921 cy_L_does ⟨Nat.le_of_ble_eq_true rfl, Nat.le_of_ble_eq_true rfl⟩ rfl rfl (Nat.le_of_ble_eq_true rfl) ⟨Nat.le_of_ble_eq_true rfl, Nat.le_of_ble_eq_true rfl⟩ (fun v169 M168 hv169 => ?_)
          refine go_iconst (v := 1) X dL_isLaw_198 rfl ?_
          refine go_aload X dL_isLaw_199 9 rfl ?_
          refine go_iconst (v := 5) X dL_isLaw_201 rfl ?_
          refine go_iaload X dL_isLaw_202 tln684 tl684 kI_5 (fun v170 hv170 => ?_)
          refine go_iload X dL_isLaw_203 1 rfl ?_
          refine go_iconst (v := 4) X dL_isLaw_205 rfl ?_
          refine go_irem X dL_isLaw_206 hv5 kI_4 (by decide) (fun v171 hv171 => ?_)
          refine go_ishr X dL_isLaw_207 hv170 hv171 (fun v172 hv172 => ?_)
          refine go_iconst (v := 1) X dL_isLaw_208 rfl ?_
          refine go_iand X dL_isLaw_209 hv172 kI_1 (fun v173 hv173 => ?_)
          refine go_isub X dL_isLaw_210 kI_1 hv173 (fun v174 hv174 => ?_)
          refine go_lt (fun J => ∀ (v175 : Int) (M176 : Mm), bo v175 → Go p l e (rmX 10 257 34 204) s m args below meth c D TL 686 base 15 6 36 (FinQ D base 34 204 below args s bo) M176 235 [] [.int (Ii v175)] (J v175 M176)) (by
              intro v175 M176 hv175
              exact go_qzreturn X hrt hlk dL_isLaw_235 hv175 hv175 (Nat.le_of_ble_eq_true rfl) (Nat.le_of_ble_eq_true rfl)
              )
              (fun J235_177 hJ235_177 => ?_)
          refine go_lt (fun J => ∀ (M178 : Mm), Go p l e (rmX 10 257 34 204) s m args below meth c D TL 686 base 15 6 36 (FinQ D base 34 204 below args s bo) M178 234 [] [] (J M178)) (by
              intro M178
              refine go_iconst (v := 0) X dL_isLaw_234 rfl ?_
              exact hJ235_177 0 M178 (Or.inl rfl)
              )
              (fun J234_179 hJ234_179 => ?_)
          refine go_icmp_ne (tgt := 234) X dL_isLaw_211 rfl hv169 hv174 (fun c180 => ?_) (fun c180 => ?_)
          · refine go_widen 6 36 (by decide) (by decide) ?_
            refine go_sub [] rfl ?_
            exact hJ234_179 M168
          · refine go_aload_n X dL_isLaw_214 rfl 3 rfl ?_
            refine go_bipush (v := 6) X dL_isLaw_215 (by decide) ?_
            refine go_iconst (v := 4) X dL_isLaw_217 rfl ?_
            refine go_iconst (v := 0) X dL_isLaw_218 rfl ?_
            refine go_iconst (v := 0) X dL_isLaw_219 rfl ?_
            refine go_iconst (v := 0) X dL_isLaw_220 rfl ?_
            refine go_iconst (v := 0) X dL_isLaw_221 rfl ?_
            refine go_lcallH X Y (ok_L_does l hl D base b N xs hN M168 6 kI_6 4 kI_4 0 kI_0 0 kI_0 0 kI_0 0 kI_0) dL_isLaw_222 lw931 lw932 lw926 lw921 cy_L_does ⟨Nat.le_of_ble_eq_true rfl, Nat.le_of_ble_eq_true rfl⟩ rfl rfl (Nat.le_of_ble_eq_true rfl) ⟨Nat.le_of_ble_eq_true rfl, Nat.le_of_ble_eq_true rfl⟩ (fun v182 M181 hv182 => ?_)
            refine go_ldc (v := (-3000000)) X dL_isLaw_225 lw870 rfl ?_
            refine go_icmp_ne (tgt := 234) X dL_isLaw_227 rfl hv182 kI_m3000000 (fun c183 => ?_) (fun c183 => ?_)
            · refine go_sub [] rfl ?_
              exact hJ234_179 M181
            · refine go_iconst (v := 1) X dL_isLaw_230 rfl ?_
              refine go_goto (tgt := 235) X dL_isLaw_231 rfl ?_
              refine go_sub [] rfl ?_
              exact hJ235_177 1 M181 (Or.inr rfl)
      · refine go_aload_n X dL_isLaw_79 rfl 3 rfl ?_
        refine go_iconst (v := 3) X dL_isLaw_80 rfl ?_
        refine go_iload X dL_isLaw_81 1 rfl ?_
        refine go_iconst (v := 5) X dL_isLaw_83 rfl ?_
        refine go_irem X dL_isLaw_84 hv5 kI_5 (by decide) (fun v184 hv184 => ?_)
        refine go_iconst (v := 0) X dL_isLaw_85 rfl ?_
        refine go_iconst (v := 0) X dL_isLaw_86 rfl ?_
        refine go_iconst (v := 0) X dL_isLaw_87 rfl ?_
        refine go_iconst (v := 0) X dL_isLaw_88 rfl ?_
        refine go_lcallH X Y (ok_L_does l hl D base b N xs hN M7 3 kI_3 v184 hv184 0 kI_0 0 kI_0 0 kI_0 0 kI_0) dL_isLaw_89 lw931 lw932 lw926 lw921 cy_L_does ⟨Nat.le_of_ble_eq_true rfl, Nat.le_of_ble_eq_true rfl⟩ rfl rfl (Nat.le_of_ble_eq_true rfl) ⟨Nat.le_of_ble_eq_true rfl, Nat.le_of_ble_eq_true rfl⟩ (fun v186 M185 hv186 => ?_)
        refine go_istore (i := 11) (L' := [(11, .int (Ii v186)), (10, .int (Ii v8)), (9, .int (Ii v5)), (8, .int (Ii v2)), (0, .ref (base + 0)), (1, .ref b), (2, .int (Ii a3)), (3, .ref (base + 681)), (4, .ref (base + 682)), (5, .ref (base + 683)), (6, .ref (base + 684)), (7, .ref (base + 685))]) X dL_isLaw_92 (by decide) rfl ?_
        refine go_iload X dL_isLaw_94 2 rfl ?_
        refine go_iconst (v := 5) X dL_isLaw_96 rfl ?_
        refine go_irem X dL_isLaw_97 hv5 kI_5 (by decide) (fun v187 hv187 => ?_)
        refine go_iconst (v := 4) X dL_isLaw_98 rfl ?_
        refine go_lt (fun J => ∀ (v188 : Int) (M189 : Mm), i32 v188 → Go p l e (rmX 10 257 34 204) s m args below meth c D TL 686 base 15 3 18 (FinQ D base 34 204 below args s bo) M189 125 [(5, .ref (base + 683)), (6, .ref (base + 684)), (9, .int (Ii v5)), (11, .int (Ii v186))] [.int (Ii v188)] (J v188 M189)) (by
            intro v188 M189 hv188
            refine go_istore (i := 12) (L' := [(12, .int (Ii v188)), (5, .ref (base + 683)), (6, .ref (base + 684)), (9, .int (Ii v5)), (11, .int (Ii v186))]) X dL_isLaw_125 (by decide) rfl ?_
            refine go_iload X dL_isLaw_127 0 rfl ?_
            refine go_lt (fun J => ∀ (M191 : Mm), Go p l e (rmX 10 257 34 204) s m args below meth c D TL 686 base 15 3 18 (FinQ D base 34 204 below args s bo) M191 151 [(11, .int (Ii v186)), (12, .int (Ii v188))] [] (J M191)) (by
                intro M191
                refine go_iload X dL_isLaw_151 0 rfl ?_
                refine go_iload X dL_isLaw_153 1 rfl ?_
                refine go_lt (fun J => ∀ (v193 : Int) (M194 : Mm), bo v193 → Go p l e (rmX 10 257 34 204) s m args below meth c D TL 686 base 15 3 18 (FinQ D base 34 204 below args s bo) M194 163 [] [.int (Ii v193)] (J v193 M194)) (by
                    intro v193 M194 hv193
                    exact go_qzreturn X hrt hlk dL_isLaw_163 hv193 hv193 (Nat.le_of_ble_eq_true rfl) (Nat.le_of_ble_eq_true rfl)
                    )
                    (fun J163_195 hJ163_195 => ?_)
                refine go_icmp_ne (tgt := 162) X dL_isLaw_155 rfl hv186 hv188 (fun c196 => ?_) (fun c196 => ?_)
                · refine go_iconst (v := 0) X dL_isLaw_162 rfl ?_
                  refine go_sub [] rfl ?_
                  exact hJ163_195 0 M191 (Or.inl rfl)
                · refine go_iconst (v := 1) X dL_isLaw_158 rfl ?_
                  refine go_goto (tgt := 163) X dL_isLaw_159 rfl ?_
                  refine go_sub [] rfl ?_
                  exact hJ163_195 1 M191 (Or.inr rfl)
                )
                (fun J151_192 hJ151_192 => ?_)
            refine go_if_lt (tgt := 151) X dL_isLaw_129 rfl hv188 (fun c197 => ?_) (fun c197 => ?_)
            · refine go_sub [4, 0] rfl ?_
              exact hJ151_192 M189
            · refine go_aload X dL_isLaw_132 1 rfl ?_
              refine go_aload X dL_isLaw_134 2 rfl ?_
              refine go_iconst (v := 1) X dL_isLaw_136 rfl ?_
              refine go_iaload X dL_isLaw_137 tln684 tl684 kI_1 (fun v198 hv198 => ?_)
              refine go_iload X dL_isLaw_138 3 rfl ?_
              refine go_iconst (v := 5) X dL_isLaw_140 rfl ?_
              refine go_irem X dL_isLaw_141 hv5 kI_5 (by decide) (fun v199 hv199 => ?_)
              refine go_iastore X dL_isLaw_142 tln683 tl683 hv198 hv199 (fun M200 => ?_)
              refine go_aload X dL_isLaw_143 2 rfl ?_
              refine go_iconst (v := 1) X dL_isLaw_145 rfl ?_
              refine go_dup2 X dL_isLaw_146 rfl rfl ?_
              refine go_iaload X dL_isLaw_147 tln684 tl684 kI_1 (fun v201 hv201 => ?_)
              refine go_iconst (v := 1) X dL_isLaw_148 rfl ?_
              refine go_iadd X dL_isLaw_149 hv201 kI_1 (fun v202 hv202 => ?_)
              refine go_iastore X dL_isLaw_150 tln684 tl684 kI_1 hv202 (fun M203 => ?_)
              refine go_sub [4, 0] rfl ?_
              exact hJ151_192 M203
            )
            (fun J125_190 hJ125_190 => ?_)
        refine go_icmp_ne (tgt := 107) X dL_isLaw_99 rfl hv187 kI_4 (fun c204 => ?_) (fun c204 => ?_)
        · refine go_aload X dL_isLaw_107 10 rfl ?_
          refine go_iconst (v := 1) X dL_isLaw_109 rfl ?_
          refine go_iaload X dL_isLaw_110 tln684 tl684 kI_1 (fun v205 hv205 => ?_)
          refine go_bipush (v := 6) X dL_isLaw_111 (by decide) ?_
          refine go_icmp_ne (tgt := 121) X dL_isLaw_113 rfl hv205 kI_6 (fun c206 => ?_) (fun c206 => ?_)
          · refine go_aload X dL_isLaw_121 10 rfl ?_
            refine go_iconst (v := 1) X dL_isLaw_123 rfl ?_
            refine go_iaload X dL_isLaw_124 tln684 tl684 kI_1 (fun v207 hv207 => ?_)
            refine go_sub [9, 10, 2, 0] rfl ?_
            exact hJ125_190 v207 M185 hv207
          · refine go_ldc (v := (-1000000)) X dL_isLaw_116 lw872 rfl ?_
            refine go_goto (tgt := 125) X dL_isLaw_118 rfl ?_
            refine go_sub [9, 10, 2, 0] rfl ?_
            exact hJ125_190 ((-1000000)) M185 kI_m1000000
        · refine go_ldc (v := (-2000000)) X dL_isLaw_102 lw871 rfl ?_
          refine go_goto (tgt := 125) X dL_isLaw_104 rfl ?_
          refine go_sub [9, 10, 2, 0] rfl ?_
          exact hJ125_190 ((-2000000)) M185 kI_m2000000
    · refine go_aload_n X dL_isLaw_56 rfl 3 rfl ?_
      refine go_aload_n X dL_isLaw_57 rfl 6 rfl ?_
      refine go_aload X dL_isLaw_58 7 rfl ?_
      refine go_aload X dL_isLaw_60 8 rfl ?_
      refine go_aload X dL_isLaw_62 9 rfl ?_
      refine go_aload_n X dL_isLaw_64 rfl 4 rfl ?_
      refine go_iload_n X dL_isLaw_65 rfl 5 rfl ?_
      refine go_iconst (v := 1) X dL_isLaw_66 rfl ?_
      refine go_iadd X dL_isLaw_67 ha3 kI_1 (fun v208 hv208 => ?_)
      refine go_lcall X Y (ok_L_isEquation l hl D base b N xs hN M7 v208 hv208) dL_isLaw_68 lw960 lw961 lw926 ⟨lw950, cy_L_isEquation, Nat.le_of_ble_eq_true rfl, Nat.le_of_ble_eq_true rfl⟩ rfl rfl (Nat.le_of_ble_eq_true rfl) ⟨Nat.le_of_ble_eq_true rfl, Nat.le_of_ble_eq_true rfl⟩ (fun v210 M209 hv210 => ?_)
      exact go_qzreturn X hrt hlk dL_isLaw_71 hv210 hv210 (Nat.le_of_ble_eq_true rfl) (Nat.le_of_ble_eq_true rfl)
  · refine go_aload_n X dL_isLaw_37 rfl 3 rfl ?_
    refine go_aload_n X dL_isLaw_38 rfl 6 rfl ?_
    refine go_aload X dL_isLaw_39 9 rfl ?_
    refine go_iload X dL_isLaw_41 1 rfl ?_
    refine go_iload X dL_isLaw_43 0 rfl ?_
    refine go_lcall X Y (ok_L_isProduction l hl D base b N xs hN M7 v5 hv5 v8 hv8) dL_isLaw_45 lw958 lw959 lw926 ⟨lw944, cy_L_isProduction, Nat.le_of_ble_eq_true rfl, Nat.le_of_ble_eq_true rfl⟩ rfl rfl (Nat.le_of_ble_eq_true rfl) ⟨Nat.le_of_ble_eq_true rfl, Nat.le_of_ble_eq_true rfl⟩ (fun v212 M211 hv212 => ?_)
    exact go_qzreturn X hrt hlk dL_isLaw_48 hv212 hv212 (Nat.le_of_ble_eq_true rfl) (Nat.le_of_ble_eq_true rfl)
