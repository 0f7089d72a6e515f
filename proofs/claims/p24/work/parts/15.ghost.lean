/-! the models of the reference alone: nothing of it runs here -/
def TRl : List (Nat × Ck) := [(0, (0, 12, [(0, 0), (2, 1), (2, 2), (2, 3), (2, 4), (2, 5), (2, 6), (2, 7), (2, 8), (2, 9), (2, 10), (2, 11), (0, 0), (2, 12), (0, 0), (0, 0), (2, 13), (2, 14), (2, 15), (0, 0), (2, 16), (2, 17), (2, 18), (2, 19), (2, 20), (2, 21), (2, 22), (2, 23), (2, 24), (2, 25), (2, 26), (2, 27), (2, 28), (0, 0), (2, 29), (0, 0), (0, 0), (2, 30), (2, 31), (2, 32), (2, 33), (2, 34), (2, 35), (2, 36), (0, 0), (2, 37), (2, 38), (2, 39), (2, 40), (2, 41), (2, 42), (2, 43), (2, 44), (2, 45), (2, 46), (2, 47), (2, 48), (2, 49), (0, 0), (0, 0), (2, 50), (2, 51), (2, 52), (2, 53), (2, 54), (2, 55), (2, 56), (0, 0), (0, 0), (0, 0), (2, 57), (2, 58), (0, 0), (0, 0), (4, 0), (1, 0), (1, 0), (2, 59), (2, 60), (1, 0), (0, 0), (2, 61), (2, 62), (2, 63), (2, 64), (2, 65), (2, 66), (0, 0)])), (1, (1, 10, [])), (2, (1, 10, [])), (3, (1, 30, [])), (4, (1, 10, [])), (5, (1, 30, [])), (6, (1, 10, [])), (7, (1, 30, [])), (8, (1, 10, [])), (9, (1, 30, [])), (10, (1, 10, [])), (11, (1, 10, [])), (12, (1, 6, [])), (13, (1, 8, [])), (14, (1, 8, [])), (15, (1, 8, [])), (16, (1, 30, [])), (17, (1, 30, [])), (18, (1, 30, [])), (19, (1, 30, [])), (20, (1, 30, [])), (21, (1, 240, [])), (22, (1, 240, [])), (23, (1, 240, [])), (24, (1, 720, [])), (25, (1, 30, [])), (26, (1, 30, [])), (27, (2, 4, [])), (28, (1, 9, [])), (29, (1, 12, [])), (30, (1, 30, [])), (31, (1, 30, [])), (32, (1, 30, [])), (33, (1, 30, [])), (34, (1, 90, [])), (35, (1, 30, [])), (36, (1, 30, [])), (37, (1, 30, [])), (38, (1, 30, [])), (39, (1, 90, [])), (40, (1, 30, [])), (41, (1, 30, [])), (42, (1, 30, [])), (43, (1, 676, [])), (44, (1, 676, [])), (45, (1, 64, [])), (46, (1, 64, [])), (47, (1, 64, [])), (48, (1, 64, [])), (49, (1, 64, [])), (50, (2, 720, [])), (51, (2, 720, [])), (52, (1, 720, [])), (53, (3, 720, [])), (54, (2, 720, [])), (55, (1, 360, [])), (56, (1, 360, [])), (57, (1, 200, [])), (58, (1, 200, [])), (59, (1, 3, [])), (60, (1, 3, [])), (61, (1, 240, [])), (62, (1, 9, [])), (63, (1, 9, [])), (64, (1, 9, [])), (65, (1, 24, [])), (66, (1, 24, []))]
def TR (k : Nat) : Ck := (TRl.lookup k).getD (9, 0, [])
def f_X12_thrown (M : Mm) : Rs :=
Lt (M 0 87) fun v1 =>
some (v1, M)
def f_X12_fails (a1 : Int) (M : Mm) : Rs :=
Lt (up M 0 87 a1) fun M1 =>
Lt (fun (v2 : Int) (M3 : Mm) => 
some (v2, M3)) fun J14_4 =>
if a1 ≤ 0 then (
J14_4 0 M1) else (
J14_4 1 M1)
def f_X12_tells (a1 : Int) (M : Mm) : Rs :=
Lt (up M 0 87 0) fun M1 =>
some (a1, M1)
def f_X12_isIn (a1 : Int) (a2 : Int) (a3 : Int) (M : Mm) : Rs :=
Lt (fun (v1 : Int) (M2 : Mm) => 
some (v1, M2)) fun J15_3 =>
Lt (fun (M4 : Mm) => 
J15_3 0 M4) fun J14_5 =>
if a1 < a2 then (
J14_5 M) else (
if a3 < a1 then (
J14_5 M) else (
J15_3 1 M))
def f_X12_isProduction (a1 : Int) (M : Mm) : Rs :=
Lt (M 0 0) fun v1 =>
Lt (wr (v1 - 1)) fun v2 =>
Cl (f_X12_isIn a1 0 v2 M) fun v4 M3 =>
some (v4, M3)
def f_X12_isAttribute (a1 : Int) (M : Mm) : Rs :=
Lt (M 0 12) fun v1 =>
Lt (wr (v1 - 1)) fun v2 =>
Cl (f_X12_isIn a1 0 v2 M) fun v4 M3 =>
some (v4, M3)
def f_X12_isNode (a1 : Int) (M : Mm) : Rs :=
Lt (M 0 35) fun v1 =>
Lt (wr (v1 - 1)) fun v2 =>
Cl (f_X12_isIn a1 0 v2 M) fun v4 M3 =>
some (v4, M3)
def f_X12_dropsAll_L2_9 (J22_2 : Mm → Rs) (rc2_5 : Int × Mm → Rs) : Int × Mm → Rs := fun (v3, M4) =>
if 360 ≤ v3 then (
J22_2 M4) else (
gd (0 ≤ v3 ∧ v3 < 720) <|
Lt (up M4 50 v3.toNat 0) fun M7 =>
Lt (wr (v3 + 1)) fun v8 =>
rc2_5 (v8, M7))
def f_X12_dropsAll (M : Mm) : Rs :=
Lt (fun (M1 : Mm) => 
some (0, M1)) fun J22_2 =>
Lp (f_X12_dropsAll_L2_9 J22_2) FU (0, M)
def f_X12_isSymbol (a1 : Int) (M : Mm) : Rs :=
Cl (f_X12_isIn a1 ((-1)) 9 M) fun v2 M1 =>
some (v2, M1)
def f_X12_adds (a1 : Int) (M : Mm) : Rs :=
Lt (M 0 0) fun v1 =>
Lt (wr (3 * v1)) fun v2 =>
if ¬ a1 = ((-1)) then (
Lt (M 0 0) fun v4 =>
gd (0 ≤ v4 ∧ v4 < 10) <|
Lt (M 2 v4.toNat) fun v5 =>
Lt (wr (v2 + v5)) fun v6 =>
gd (0 ≤ v6 ∧ v6 < 30) <|
Lt (up M 3 v6.toNat a1) fun M7 =>
Lt (M7 0 0) fun v8 =>
gd (0 ≤ v8 ∧ v8 < 10) <|
Lt (M7 2 v8.toNat) fun v9 =>
Lt (wr (v9 + 1)) fun v10 =>
gd (0 ≤ v8 ∧ v8 < 10) <|
Lt (up M7 2 v8.toNat v10) fun M11 =>
Lt (fun (M12 : Mm) => 
some (0, M12)) fun J111_13 =>
if 4 ≤ a1 then (
Lt (M11 0 0) fun v15 =>
gd (0 ≤ v15 ∧ v15 < 10) <|
Lt (M11 6 v15.toNat) fun v16 =>
Lt (wr (v2 + v16)) fun v17 =>
gd (0 ≤ v17 ∧ v17 < 30) <|
Lt (up M11 7 v17.toNat a1) fun M18 =>
Lt (M18 0 0) fun v19 =>
gd (0 ≤ v19 ∧ v19 < 10) <|
Lt (M18 6 v19.toNat) fun v20 =>
Lt (wr (v20 + 1)) fun v21 =>
gd (0 ≤ v19 ∧ v19 < 10) <|
Lt (up M18 6 v19.toNat v21) fun M22 =>
J111_13 M22) else (
Lt (M11 0 0) fun v23 =>
gd (0 ≤ v23 ∧ v23 < 10) <|
Lt (M11 4 v23.toNat) fun v24 =>
Lt (wr (v2 + v24)) fun v25 =>
gd (0 ≤ v25 ∧ v25 < 30) <|
Lt (up M11 5 v25.toNat a1) fun M26 =>
Lt (M26 0 0) fun v27 =>
gd (0 ≤ v27 ∧ v27 < 10) <|
Lt (M26 4 v27.toNat) fun v28 =>
Lt (wr (v28 + 1)) fun v29 =>
gd (0 ≤ v27 ∧ v27 < 10) <|
Lt (up M26 4 v27.toNat v29) fun M30 =>
J111_13 M30)) else (
some (0, M))
def f_X12_production (a1 : Int) (a2 : Int) (a3 : Int) (a4 : Int) (M : Mm) : Rs :=
Cl (f_X12_isSymbol a2 M) fun v2 M1 =>
Lt (fun (v3 : Int) (M4 : Mm) => 
Cl (f_X12_isIn a1 0 3 M4) fun v7 M6 =>
Lt (fun (v8 : Int) (M9 : Mm) => 
Cl (f_X12_fails v8 M9) fun v12 M11 =>
if v12 = 0 then (
Lt (M11 0 0) fun v14 =>
gd (0 ≤ v14 ∧ v14 < 10) <|
Lt (up M11 1 v14.toNat a1) fun M15 =>
Cl (f_X12_adds a2 M15) fun _ M16 =>
Cl (f_X12_adds a3 M16) fun _ M17 =>
Cl (f_X12_adds a4 M17) fun _ M18 =>
Lt (M18 0 0) fun v19 =>
Lt (wr (v19 + 1)) fun v20 =>
Lt (up M18 0 0 v20) fun M21 =>
Cl (f_X12_dropsAll M21) fun _ M22 =>
Lt (M22 0 0) fun v23 =>
Lt (wr (v23 - 1)) fun v24 =>
some (v24, M22)) else (
some (0, M11))) fun J87_10 =>
if ¬ v7 = 0 then (
if ¬ v3 = 0 then (
Lt (M6 0 0) fun v27 =>
if ¬ v27 = 10 then (
J87_10 0 M6) else (
J87_10 3 M6)) else (
J87_10 2 M6)) else (
J87_10 1 M6)) fun J48_5 =>
Lt (fun (M29 : Mm) => 
J48_5 0 M29) fun J47_30 =>
if v2 = 0 then (
J47_30 M1) else (
Cl (f_X12_isSymbol a3 M1) fun v33 M32 =>
if v33 = 0 then (
J47_30 M32) else (
Cl (f_X12_isSymbol a4 M32) fun v36 M35 =>
if v36 = 0 then (
J47_30 M35) else (
Lt (fun (M38 : Mm) => 
Lt (fun (M40 : Mm) => 
J48_5 1 M40) fun J43_41 =>
if ¬ a3 = ((-1)) then (
J43_41 M38) else (
if ¬ a4 = ((-1)) then (
J47_30 M38) else (
J43_41 M38))) fun J32_39 =>
if ¬ a2 = ((-1)) then (
J32_39 M35) else (
if ¬ a3 = ((-1)) then (
J47_30 M35) else (
J32_39 M35)))))
def f_X12_nth (a1 : Int) (a2 : Int) (a3 : Int) (a4 : Int) (M : Mm) : Rs :=
Lt (fun (v1 : Int) (M2 : Mm) => 
some (v1, M2)) fun J18_3 =>
if ¬ a1 = 0 then (
if ¬ a1 = 1 then (
J18_3 a4 M) else (
J18_3 a3 M)) else (
J18_3 a2 M)
def f_X12_forward_L237_34 (a1 : Int) (a3 : Int) (a4 : Int) (a5 : Int) (J270_22 : Mm → Rs) (rc237_26 : Int × Mm → Rs) : Int × Mm → Rs := fun (v24, M25) =>
if 3 ≤ v24 then (
J270_22 M25) else (
Lt (wr (3 * a1)) fun v28 =>
Lt (wr (v28 + v24)) fun v29 =>
Cl (f_X12_nth v24 a3 a4 a5 M25) fun v31 M30 =>
gd (0 ≤ v29 ∧ v29 < 30) <|
Lt (up M30 9 v29.toNat v31) fun M32 =>
Lt (wr (v24 + 1)) fun v33 =>
rc237_26 (v33, M32))
def f_X12_forward_L68_91 (a1 : Int) (a2 : Int) (a3 : Int) (a4 : Int) (a5 : Int) (J191_12 : Int → Int → Mm → Rs) (rc68_41 : Int × Int × Int × Mm → Rs) : Int × Int × Int × Mm → Rs := fun (v37, v38, v39, M40) =>
if 3 ≤ v39 then (
J191_12 v37 v38 M40) else (
if v37 = 0 then (
J191_12 v37 v38 M40) else (
Cl (f_X12_nth v39 a3 a4 a5 M40) fun v45 M44 =>
Lt (fun (v46 : Int) (v47 : Int) (v48 : Int) (M49 : Mm) => 
Lt (wr (v48 + 1)) fun v51 =>
rc68_41 (v46, v47, v51, M49)) fun J185_50 =>
Lt (fun (v52 : Int) (v53 : Int) (v54 : Int) (M55 : Mm) => 
Lt (fun (v57 : Int) (v58 : Int) (v59 : Int) (M60 : Mm) => 
J185_50 v57 v59 v58 M60) fun J183_61 =>
Lt (fun (v62 : Int) (v63 : Int) (M64 : Mm) => 
J183_61 v62 v63 0 M64) fun J182_65 =>
if v53 = 0 then (
J182_65 v52 v54 M55) else (
if ¬ v45 = 0 then (
J182_65 v52 v54 M55) else (
J183_61 v52 v54 1 M55))) fun J168_56 =>
if a2 = ((-1)) then (
J168_56 v37 v38 v39 M44) else (
gd (0 ≤ a2 ∧ a2 < 10) <|
Lt (M44 4 a2.toNat) fun v69 =>
if v69 ≤ v39 then (
J168_56 v37 v38 v39 M44) else (
gd (0 ≤ a1 ∧ a1 < 10) <|
Lt (M44 4 a1.toNat) fun v71 =>
Lt (wr (v71 - 1)) fun v72 =>
Cl (f_X12_isIn v45 0 v72 M44) fun v74 M73 =>
Lt (fun (v75 : Int) (v76 : Int) (M77 : Mm) => 
J185_50 v74 v76 v75 M77) fun J163_78 =>
Lt (fun (v79 : Int) (M80 : Mm) => 
J163_78 v79 0 M80) fun J162_81 =>
if v38 = 0 then (
J162_81 v39 M73) else (
if v74 = 0 then (
J162_81 v39 M73) else (
Lt (wr (3 * a2)) fun v84 =>
Lt (wr (v84 + v39)) fun v85 =>
gd (0 ≤ v85 ∧ v85 < 30) <|
Lt (M73 5 v85.toNat) fun v86 =>
Lt (wr (3 * a1)) fun v87 =>
Lt (wr (v87 + v45)) fun v88 =>
gd (0 ≤ v88 ∧ v88 < 30) <|
Lt (M73 5 v88.toNat) fun v89 =>
if ¬ v86 = v89 then (
J162_81 v39 M73) else (
J163_78 v39 1 M73)))))))
def f_X12_forward (a1 : Int) (a2 : Int) (a3 : Int) (a4 : Int) (a5 : Int) (M : Mm) : Rs :=
Cl (f_X12_isProduction a1 M) fun v2 M1 =>
Lt (fun (v3 : Int) (M4 : Mm) => 
Lt (fun (v6 : Int) (M7 : Mm) => 
Lt (fun (v9 : Int) (v10 : Int) (M11 : Mm) => 
Lt (fun (v13 : Int) (M14 : Mm) => 
Cl (f_X12_fails v13 M14) fun v17 M16 =>
if v17 = 0 then (
gd (0 ≤ a1 ∧ a1 < 10) <|
Lt (M16 8 a1.toNat) fun v19 =>
gd (0 ≤ a1 ∧ a1 < 10) <|
Lt (up M16 8 a1.toNat a2) fun M20 =>
Lt (fun (M21 : Mm) => 
Cl (f_X12_dropsAll M21) fun _ M23 =>
some (v19, M23)) fun J270_22 =>
Lp (f_X12_forward_L237_34 a1 a3 a4 a5 J270_22) FU (0, M20)) else (
some (0, M16))) fun J211_15 =>
if ¬ v9 = 0 then (
if v10 = 0 then (
J211_15 2 M11) else (
J211_15 0 M11)) else (
J211_15 1 M11)) fun J191_12 =>
Lp (f_X12_forward_L68_91 a1 a2 a3 a4 a5 J191_12) FU (v3, v6, 0, M7)) fun J63_8 =>
Lt (fun (M92 : Mm) => 
J63_8 0 M92) fun J62_93 =>
if v3 = 0 then (
J62_93 M4) else (
if a2 = a1 then (
J62_93 M4) else (
Lt (fun (M96 : Mm) => 
J63_8 1 M96) fun J58_97 =>
if a2 = ((-1)) then (
J58_97 M4) else (
gd (0 ≤ a2 ∧ a2 < 10) <|
Lt (M4 1 a2.toNat) fun v99 =>
gd (0 ≤ a1 ∧ a1 < 10) <|
Lt (M4 1 a1.toNat) fun v100 =>
if ¬ v99 = v100 then (
J62_93 M4) else (
J58_97 M4))))) fun J26_5 =>
Lt (fun (M102 : Mm) => 
J26_5 0 M102) fun J25_103 =>
if v2 = 0 then (
J25_103 M1) else (
Lt (fun (M105 : Mm) => 
J26_5 1 M105) fun J21_106 =>
if a2 = ((-1)) then (
J21_106 M1) else (
Cl (f_X12_isProduction a2 M1) fun v109 M108 =>
if v109 = 0 then (
J25_103 M108) else (
J21_106 M108)))
def f_X12_rule_L96_47 (a1 : Int) (a3 : Int) (J156_11 : Int → Mm → Rs) (rc96_27 : Int × Int × Mm → Rs) : Int × Int × Mm → Rs := fun (v24, v25, M26) =>
if 3 ≤ v25 then (
J156_11 v24 M26) else (
if v24 = 0 then (
J156_11 v24 M26) else (
gd (0 ≤ a1 ∧ a1 < 10) <|
Lt (M26 4 a1.toNat) fun v30 =>
Lt (fun (v31 : Int) (v32 : Int) (M33 : Mm) => 
Lt (wr (v31 + 1)) fun v35 =>
rc96_27 (v32, v35, M33)) fun J148_34 =>
Lt (fun (v36 : Int) (M37 : Mm) => 
J148_34 v36 1 M37) fun J143_38 =>
if v30 ≤ v25 then (
J143_38 v25 M26) else (
Lt (wr (3 * a1)) fun v40 =>
Lt (wr (v40 + v25)) fun v41 =>
gd (0 ≤ v41 ∧ v41 < 30) <|
Lt (M26 5 v41.toNat) fun v42 =>
Lt (wr (3 * a3)) fun v43 =>
Lt (wr (v43 + v25)) fun v44 =>
gd (0 ≤ v44 ∧ v44 < 30) <|
Lt (M26 5 v44.toNat) fun v45 =>
if ¬ v42 = v45 then (
J148_34 v25 0 M26) else (
J143_38 v25 M26))))
def f_X12_rule (a1 : Int) (a2 : Int) (a3 : Int) (M : Mm) : Rs :=
Cl (f_X12_isProduction a1 M) fun v2 M1 =>
Lt (fun (v3 : Int) (M4 : Mm) => 
Lt (fun (v6 : Int) (M7 : Mm) => 
Lt (fun (v9 : Int) (M10 : Mm) => 
Lt (fun (v12 : Int) (M13 : Mm) => 
Cl (f_X12_fails v12 M13) fun v16 M15 =>
if v16 = 0 then (
gd (0 ≤ a1 ∧ a1 < 10) <|
Lt (M15 10 a1.toNat) fun v18 =>
gd (0 ≤ a1 ∧ a1 < 10) <|
Lt (up M15 10 a1.toNat a3) fun M19 =>
gd (0 ≤ a1 ∧ a1 < 10) <|
Lt (up M19 11 a1.toNat a2) fun M20 =>
Cl (f_X12_dropsAll M20) fun _ M21 =>
some (v18, M21)) else (
some (0, M15))) fun J176_14 =>
if ¬ v3 = 0 then (
if v9 = 0 then (
J176_14 2 M10) else (
J176_14 0 M10)) else (
J176_14 1 M10)) fun J156_11 =>
Lp (f_X12_rule_L96_47 a1 a3 J156_11) FU (v6, 0, M7)) fun J91_8 =>
Lt (fun (M48 : Mm) => 
J91_8 0 M48) fun J90_49 =>
if v3 = 0 then (
J90_49 M4) else (
if a1 = a3 then (
J90_49 M4) else (
gd (0 ≤ a1 ∧ a1 < 10) <|
Lt (M4 1 a1.toNat) fun v52 =>
gd (0 ≤ a3 ∧ a3 < 10) <|
Lt (M4 1 a3.toNat) fun v53 =>
if ¬ v52 = v53 then (
J90_49 M4) else (
gd (0 ≤ a1 ∧ a1 < 10) <|
Lt (M4 4 a1.toNat) fun v55 =>
gd (0 ≤ a3 ∧ a3 < 10) <|
Lt (M4 4 a3.toNat) fun v56 =>
if ¬ v55 = v56 then (
J90_49 M4) else (
gd (0 ≤ a1 ∧ a1 < 10) <|
Lt (M4 6 a1.toNat) fun v58 =>
gd (0 ≤ a3 ∧ a3 < 10) <|
Lt (M4 6 a3.toNat) fun v59 =>
if ¬ v58 = v59 then (
J90_49 M4) else (
J91_8 1 M4)))))) fun J29_5 =>
Lt (fun (M61 : Mm) => 
J29_5 0 M61) fun J28_62 =>
if v2 = 0 then (
J28_62 M1) else (
Cl (f_X12_isProduction a3 M1) fun v65 M64 =>
if v65 = 0 then (
J28_62 M64) else (
Cl (f_X12_isAttribute a2 M64) fun v68 M67 =>
if v68 = 0 then (
J28_62 M67) else (
J29_5 1 M67)))
def f_X12_attribute (a1 : Int) (M : Mm) : Rs :=
Cl (f_X12_isIn a1 0 3 M) fun v2 M1 =>
Lt (fun (v3 : Int) (M4 : Mm) => 
Cl (f_X12_fails v3 M4) fun v7 M6 =>
if v7 = 0 then (
Lt (M6 0 12) fun v9 =>
gd (0 ≤ v9 ∧ v9 < 6) <|
Lt (up M6 12 v9.toNat a1) fun M10 =>
Lt (M10 0 12) fun v11 =>
Lt (wr (v11 + 1)) fun v12 =>
Lt (up M10 0 12 v12) fun M13 =>
Cl (f_X12_dropsAll M13) fun _ M14 =>
Lt (M14 0 12) fun v15 =>
Lt (wr (v15 - 1)) fun v16 =>
some (v16, M14)) else (
some (0, M6))) fun J28_5 =>
if ¬ v2 = 0 then (
Lt (M1 0 12) fun v18 =>
if ¬ v18 = 6 then (
J28_5 0 M1) else (
J28_5 2 M1)) else (
J28_5 1 M1)
def f_X12_taken (a1 : Int) (M : Mm) : Rs :=
Lt (fun (v1 : Int) (M2 : Mm) => 
some (v1, M2)) fun J36_3 =>
if ¬ a1 = 7 then (
Cl (f_X12_isIn a1 8 12 M) fun v6 M5 =>
if v6 = 0 then (
if ¬ a1 = 13 then (
J36_3 0 M5) else (
J36_3 3 M5)) else (
J36_3 2 M5)) else (
J36_3 1 M)
def f_X12_isOfAttribute (a1 : Int) (M : Mm) : Rs :=
Lt (fun (v1 : Int) (M2 : Mm) => 
some (v1, M2)) fun J21_3 =>
Lt (fun (M4 : Mm) => 
J21_3 1 M4) fun J16_5 =>
if a1 = 1 then (
J16_5 M) else (
if a1 = 2 then (
J16_5 M) else (
if ¬ a1 = 7 then (
J21_3 0 M) else (
J16_5 M)))
def f_X12_step (a1 : Int) (a2 : Int) (a3 : Int) (M : Mm) : Rs :=
Cl (f_X12_isOfAttribute a1 M) fun v2 M1 =>
Lt (fun (v3 : Int) (M4 : Mm) => 
Lt (fun (v6 : Int) (M7 : Mm) => 
Cl (f_X12_isIn a1 0 14 M7) fun v10 M9 =>
Lt (fun (v11 : Int) (M12 : Mm) => 
Lt (fun (v14 : Int) (M15 : Mm) => 
Cl (f_X12_fails v14 M15) fun v18 M17 =>
if v18 = 0 then (
Lt (M17 0 14) fun v20 =>
gd (0 ≤ v20 ∧ v20 < 8) <|
Lt (up M17 13 v20.toNat a1) fun M21 =>
Lt (M21 0 14) fun v22 =>
gd (0 ≤ v22 ∧ v22 < 8) <|
Lt (up M21 14 v22.toNat a2) fun M23 =>
Lt (M23 0 14) fun v24 =>
gd (0 ≤ v24 ∧ v24 < 8) <|
Lt (up M23 15 v24.toNat a3) fun M25 =>
Lt (M25 0 14) fun v26 =>
Lt (wr (v26 + 1)) fun v27 =>
Lt (up M25 0 14 v27) fun M28 =>
Lt (M28 0 15) fun v29 =>
Cl (f_X12_taken a1 M28) fun v31 M30 =>
Lt (wr (1 - v31)) fun v32 =>
Lt (wr (v29 + v32)) fun v33 =>
Lt (up M30 0 15 v33) fun M34 =>
Lt (M34 0 15) fun v35 =>
some (v35, M34)) else (
some (0, M17))) fun J156_16 =>
if ¬ v3 = 0 then (
if ¬ v11 = 0 then (
Lt (M12 0 15) fun v38 =>
Cl (f_X12_taken a1 M12) fun v40 M39 =>
Lt (fun (M41 : Mm) => 
J156_16 3 M41) fun J151_42 =>
if v38 < v40 then (
J151_42 M39) else (
Lt (M39 0 14) fun v44 =>
if ¬ v44 = 8 then (
J156_16 0 M39) else (
J151_42 M39))) else (
J156_16 2 M12)) else (
J156_16 1 M12)) fun J110_13 =>
Lt (fun (M46 : Mm) => 
J110_13 0 M46) fun J109_47 =>
if v10 = 0 then (
J109_47 M9) else (
Cl (f_X12_isIn a2 0 v6 M9) fun v50 M49 =>
if v50 = 0 then (
J109_47 M49) else (
Lt (fun (v52 : Int) (M53 : Mm) => 
Cl (f_X12_isIn a3 0 v52 M53) fun v56 M55 =>
if v56 = 0 then (
J109_47 M55) else (
J110_13 1 M55)) fun J99_54 =>
Lt (fun (M58 : Mm) => 
J99_54 2 M58) fun J94_59 =>
if a1 = 2 then (
J94_59 M49) else (
if ¬ a1 = 6 then (
J99_54 0 M49) else (
J94_59 M49))))) fun J59_8 =>
if ¬ a1 = 0 then (
Lt (fun (M63 : Mm) => 
J59_8 2 M63) fun J42_64 =>
if a1 = 3 then (
J42_64 M4) else (
if ¬ a1 = 4 then (
Cl (f_X12_isOfAttribute a1 M4) fun v68 M67 =>
if v68 = 0 then (
J59_8 0 M67) else (
J59_8 6 M67)) else (
J42_64 M4))) else (
J59_8 999 M4)) fun J20_5 =>
Lt (fun (M70 : Mm) => 
J20_5 1 M70) fun J15_71 =>
if v2 = 0 then (
J15_71 M1) else (
Cl (f_X12_isAttribute a2 M1) fun v74 M73 =>
if v74 = 0 then (
J20_5 0 M73) else (
J15_71 M73))
def f_X12_dropSteps (M : Mm) : Rs :=
Lt (up M 0 87 0) fun M1 =>
Lt (M1 0 14) fun v2 =>
Lt (up M1 0 14 0) fun M3 =>
Lt (up M3 0 15 0) fun M4 =>
some (v2, M4)
def f_X12_lays_L78_44 (v16 : Int) (v25 : Int) (v26 : Int) (J112_29 : Int → Mm → Rs) (rc78_36 : Int × Int × Mm → Rs) : Int × Int × Mm → Rs := fun (v33, v34, M35) =>
if v25 ≤ v34 then (
J112_29 v33 M35) else (
Lt (wr (3 * v16)) fun v38 =>
Lt (wr (v38 + v34)) fun v39 =>
Lt (wr (v26 + v34)) fun v40 =>
gd (0 ≤ v40 ∧ v40 < 9) <|
Lt (M35 28 v40.toNat) fun v41 =>
gd (0 ≤ v39 ∧ v39 < 720) <|
Lt (up M35 24 v39.toNat v41) fun M42 =>
Lt (wr (v34 + 1)) fun v43 =>
rc78_36 (v33, v43, M42))
def f_X12_lays_L4_45 (a1 : Int) (J129_2 : Mm → Rs) (rc4_12 : Int × Int × Mm → Rs) : Int × Int × Mm → Rs := fun (v9, v10, M11) =>
Lt (M11 0 14) fun v13 =>
if v13 ≤ v10 then (
J129_2 M11) else (
Lt (wr (8 * a1)) fun v15 =>
Lt (wr (v15 + v10)) fun v16 =>
gd (0 ≤ v10 ∧ v10 < 8) <|
Lt (M11 13 v10.toNat) fun v17 =>
gd (0 ≤ v16 ∧ v16 < 240) <|
Lt (up M11 21 v16.toNat v17) fun M18 =>
gd (0 ≤ v10 ∧ v10 < 8) <|
Lt (M18 14 v10.toNat) fun v19 =>
gd (0 ≤ v16 ∧ v16 < 240) <|
Lt (up M18 22 v16.toNat v19) fun M20 =>
gd (0 ≤ v10 ∧ v10 < 8) <|
Lt (M20 15 v10.toNat) fun v21 =>
gd (0 ≤ v16 ∧ v16 < 240) <|
Lt (up M20 23 v16.toNat v21) fun M22 =>
gd (0 ≤ v10 ∧ v10 < 8) <|
Lt (M22 13 v10.toNat) fun v23 =>
Cl (f_X12_taken v23 M22) fun v25 M24 =>
Lt (wr (v9 - v25)) fun v26 =>
Lt (fun (v27 : Int) (M28 : Mm) => 
gd (0 ≤ v26 ∧ v26 < 9) <|
Lt (up M28 28 v26.toNat v16) fun M30 =>
Lt (wr (v26 + 1)) fun v31 =>
Lt (wr (v27 + 1)) fun v32 =>
rc4_12 (v31, v32, M30)) fun J112_29 =>
Lp (f_X12_lays_L78_44 v16 v25 v26 J112_29) FU (v10, 0, M24))
def f_X12_lays (a1 : Int) (M : Mm) : Rs :=
Lt (fun (M1 : Mm) => 
gd (0 ≤ 0 ∧ 0 < 9) <|
Lt (M1 28 0) fun v3 =>
gd (0 ≤ a1 ∧ a1 < 30) <|
Lt (up M1 25 a1.toNat v3) fun M4 =>
gd (0 ≤ 1 ∧ 1 < 9) <|
Lt (M4 28 1) fun v5 =>
gd (0 ≤ a1 ∧ a1 < 30) <|
Lt (up M4 26 a1.toNat v5) fun M6 =>
Lt (M6 0 14) fun v7 =>
gd (0 ≤ a1 ∧ a1 < 30) <|
Lt (up M6 20 a1.toNat v7) fun M8 =>
some (0, M8)) fun J129_2 =>
Lp (f_X12_lays_L4_45 a1 J129_2) FU (0, 0, M)
def f_X12_equation (a1 : Int) (a2 : Int) (a3 : Int) (a4 : Int) (M : Mm) : Rs :=
Cl (f_X12_isProduction a1 M) fun v2 M1 =>
Lt (fun (v3 : Int) (M4 : Mm) => 
Lt (fun (v6 : Int) (M7 : Mm) => 
Lt (fun (v9 : Int) (M10 : Mm) => 
Lt (fun (v12 : Int) (M13 : Mm) => 
Cl (f_X12_fails v12 M13) fun v16 M15 =>
if v16 = 0 then (
Lt (M15 0 19) fun v18 =>
gd (0 ≤ v18 ∧ v18 < 30) <|
Lt (up M15 16 v18.toNat a1) fun M19 =>
Lt (M19 0 19) fun v20 =>
gd (0 ≤ v20 ∧ v20 < 30) <|
Lt (up M19 17 v20.toNat a2) fun M21 =>
Lt (M21 0 19) fun v22 =>
gd (0 ≤ v22 ∧ v22 < 30) <|
Lt (up M21 18 v22.toNat a3) fun M23 =>
Lt (M23 0 19) fun v24 =>
gd (0 ≤ v24 ∧ v24 < 30) <|
Lt (up M23 19 v24.toNat a4) fun M25 =>
Lt (M25 0 19) fun v26 =>
Cl (f_X12_lays v26 M25) fun _ M27 =>
Lt (up M27 0 14 0) fun M28 =>
Lt (up M28 0 15 0) fun M29 =>
Lt (M29 0 19) fun v30 =>
Lt (wr (v30 + 1)) fun v31 =>
Lt (up M29 0 19 v31) fun M32 =>
Cl (f_X12_dropsAll M32) fun _ M33 =>
Lt (M33 0 19) fun v34 =>
Lt (wr (v34 - 1)) fun v35 =>
some (v35, M33)) else (
some (0, M15))) fun J165_14 =>
if ¬ v3 = 0 then (
if ¬ v9 = 0 then (
Lt (M10 0 15) fun v38 =>
Lt (fun (v39 : Int) (M40 : Mm) => 
Lt (fun (M42 : Mm) => 
J165_14 3 M42) fun J160_43 =>
if ¬ v38 = v39 then (
J160_43 M40) else (
Lt (M40 0 19) fun v45 =>
if ¬ v45 = 30 then (
J165_14 0 M40) else (
J160_43 M40))) fun J148_41 =>
if ¬ v6 = 2 then (
J148_41 1 M10) else (
J148_41 2 M10)) else (
J165_14 2 M10)) else (
J165_14 1 M10)) fun J112_11 =>
if ¬ v6 = 1 then (
if ¬ v6 = 2 then (
if ¬ a3 = ((-1)) then (
J112_11 0 M7) else (
J112_11 1 M7)) else (
if ¬ a3 = ((-2)) then (
J112_11 0 M7) else (
J112_11 1 M7))) else (
if a3 < 0 then (
J112_11 0 M7) else (
J112_11 1 M7))) fun J62_8 =>
if v3 = 0 then (
J62_8 0 M4) else (
gd (0 ≤ a2 ∧ a2 < 6) <|
Lt (M4 12 a2.toNat) fun v54 =>
J62_8 v54 M4)) fun J45_5 =>
Lt (fun (M55 : Mm) => 
J45_5 0 M55) fun J44_56 =>
if v2 = 0 then (
J44_56 M1) else (
Cl (f_X12_isAttribute a2 M1) fun v59 M58 =>
if v59 = 0 then (
J44_56 M58) else (
Cl (f_X12_isIn a4 0 3 M58) fun v62 M61 =>
if v62 = 0 then (
J44_56 M61) else (
Lt (fun (M64 : Mm) => 
J45_5 1 M64) fun J40_65 =>
if a3 < 0 then (
J40_65 M61) else (
gd (0 ≤ a1 ∧ a1 < 10) <|
Lt (M61 4 a1.toNat) fun v67 =>
if v67 ≤ a3 then (
J44_56 M61) else (
J40_65 M61)))))
def f_X12_toggle (a1 : Int) (M : Mm) : Rs :=
Cl (f_X12_isIn a1 0 3 M) fun v2 M1 =>
Lt (fun (v3 : Int) (M4 : Mm) => 
Cl (f_X12_fails v3 M4) fun v7 M6 =>
if v7 = 0 then (
gd (0 ≤ a1 ∧ a1 < 4) <|
Lt (M6 27 a1.toNat) fun v9 =>
Lt (fun (v10 : Int) (M11 : Mm) => 
gd (0 ≤ a1 ∧ a1 < 4) <|
Lt (up M11 27 a1.toNat v10) fun M13 =>
Cl (f_X12_dropsAll M13) fun _ M14 =>
gd (0 ≤ a1 ∧ a1 < 4) <|
Lt (M14 27 a1.toNat) fun v15 =>
Lt (fun (v16 : Int) (M17 : Mm) => 
some (v16, M17)) fun J61_18 =>
if ¬ v15 = 0 then (
J61_18 0 M14) else (
J61_18 1 M14)) fun J42_12 =>
if ¬ v9 = 0 then (
J42_12 0 M6) else (
J42_12 1 M6)) else (
some (0, M6))) fun J15_5 =>
if v2 = 0 then (
J15_5 1 M1) else (
J15_5 0 M1)
def f_X12_counts (a1 : Int) (a2 : Int) (a3 : Int) (a4 : Int) (M : Mm) : Rs :=
gd (0 ≤ a1 ∧ a1 < 30) <|
Lt (M 16 a1.toNat) fun v1 =>
Lt (fun (v2 : Int) (M3 : Mm) => 
some (v2, M3)) fun J50_4 =>
Lt (fun (M5 : Mm) => 
J50_4 0 M5) fun J49_6 =>
if ¬ v1 = a2 then (
J49_6 M) else (
gd (0 ≤ a1 ∧ a1 < 30) <|
Lt (M 17 a1.toNat) fun v8 =>
if ¬ v8 = a3 then (
J49_6 M) else (
gd (0 ≤ a1 ∧ a1 < 30) <|
Lt (M 18 a1.toNat) fun v10 =>
if ¬ v10 = a4 then (
J49_6 M) else (
gd (0 ≤ a1 ∧ a1 < 30) <|
Lt (M 19 a1.toNat) fun v12 =>
gd (0 ≤ v12 ∧ v12 < 4) <|
Lt (M 27 v12.toNat) fun v13 =>
if ¬ v13 = 0 then (
J49_6 M) else (
J50_4 1 M))))
def f_X12_conflicts_L17_63 (J100_16 : Int → Int → Int → Mm → Rs) (rc17_30 : Int × Int × Int × Int × Mm → Rs) : Int × Int × Int × Int × Mm → Rs := fun (v25, v26, v27, v28, M29) =>
Lt (M29 0 19) fun v31 =>
if v31 ≤ v28 then (
J100_16 v25 v26 v27 M29) else (
Lt (fun (v33 : Int) (v34 : Int) (v35 : Int) (v36 : Int) (M37 : Mm) => 
Lt (wr (v35 + 1)) fun v39 =>
rc17_30 (v33, v34, v36, v39, M37)) fun J93_38 =>
Lt (fun (v40 : Int) (v41 : Int) (v42 : Int) (M43 : Mm) => 
J93_38 v40 v41 v42 1 M43) fun J88_44 =>
if ¬ v27 = 0 then (
J88_44 v25 v26 v28 M29) else (
Lt (fun (v46 : Int) (v47 : Int) (v48 : Int) (M49 : Mm) => 
J93_38 v46 v47 v48 0 M49) fun J92_50 =>
if v28 = v26 then (
J92_50 v25 v26 v28 M29) else (
gd (0 ≤ v26 ∧ v26 < 30) <|
Lt (M29 18 v26.toNat) fun v52 =>
if v52 = ((-2)) then (
J92_50 v25 v26 v28 M29) else (
gd (0 ≤ v26 ∧ v26 < 30) <|
Lt (M29 19 v26.toNat) fun v54 =>
gd (0 ≤ v54 ∧ v54 < 4) <|
Lt (M29 27 v54.toNat) fun v55 =>
if ¬ v55 = 0 then (
J92_50 v25 v26 v28 M29) else (
gd (0 ≤ v26 ∧ v26 < 30) <|
Lt (M29 16 v26.toNat) fun v57 =>
gd (0 ≤ v26 ∧ v26 < 30) <|
Lt (M29 17 v26.toNat) fun v58 =>
gd (0 ≤ v26 ∧ v26 < 30) <|
Lt (M29 18 v26.toNat) fun v59 =>
Cl (f_X12_counts v28 v57 v58 v59 M29) fun v61 M60 =>
if v61 = 0 then (
J92_50 v25 v26 v28 M60) else (
J88_44 v25 v26 v28 M60))))))
def f_X12_conflicts_L4_64 (J118_3 : Int → Mm → Rs) (rc4_9 : Int × Int × Mm → Rs) : Int × Int × Mm → Rs := fun (v6, v7, M8) =>
Lt (M8 0 19) fun v10 =>
if v10 ≤ v7 then (
J118_3 v6 M8) else (
Lt (fun (v12 : Int) (v13 : Int) (v14 : Int) (M15 : Mm) => 
Lt (fun (v17 : Int) (v18 : Int) (v19 : Int) (M20 : Mm) => 
Lt (wr (v18 + v19)) fun v22 =>
Lt (wr (v17 + 1)) fun v23 =>
rc4_9 (v22, v23, M20)) fun J110_21 =>
if v14 = 0 then (
J110_21 v13 v12 0 M15) else (
J110_21 v13 v12 1 M15)) fun J100_16 =>
Lp (f_X12_conflicts_L17_63 J100_16) FU (v6, v7, 0, 0, M8))
def f_X12_conflicts (M : Mm) : Rs :=
Lt (fun (v1 : Int) (M2 : Mm) => 
Cl (f_X12_tells v1 M2) fun v5 M4 =>
some (v5, M4)) fun J118_3 =>
Lp (f_X12_conflicts_L4_64 J118_3) FU (0, 0, M)
def f_X12_childThere_L9_15 (a1 : Int) (a2 : Int) (J37_3 : Mm → Rs) (J29_6 : Int → Mm → Rs) (rc9_9 : Int × Mm → Rs) : Int × Mm → Rs := fun (v7, M8) =>
gd (0 ≤ a1 ∧ a1 < 10) <|
Lt (M8 4 a1.toNat) fun v10 =>
if v10 ≤ v7 then (
J37_3 M8) else (
gd (0 ≤ v7 ∧ v7 < 3) <|
Lt (M8 59 v7.toNat) fun v12 =>
if ¬ v12 = a2 then (
Lt (wr (v7 + 1)) fun v14 =>
rc9_9 (v14, M8)) else (
J29_6 v7 M8))
def f_X12_childThere (a1 : Int) (a2 : Int) (M : Mm) : Rs :=
if ¬ a2 = ((-1)) then (
Lt (fun (M2 : Mm) => 
some (99999, M2)) fun J37_3 =>
Lt (fun (v4 : Int) (M5 : Mm) => 
some (v4, M5)) fun J29_6 =>
Lp (f_X12_childThere_L9_15 a1 a2 J37_3 J29_6) FU (0, M)) else (
some ((-1), M))
def f_X12_tellersOf_L6_20 (a1 : Int) (a2 : Int) (a3 : Int) (J43_3 : Int → Mm → Rs) (rc6_7 : Int × Int × Mm → Rs) : Int × Int × Mm → Rs := fun (v4, v5, M6) =>
Lt (M6 0 19) fun v8 =>
if v8 ≤ v5 then (
J43_3 v4 M6) else (
Cl (f_X12_counts v5 a1 a2 a3 M6) fun v11 M10 =>
Lt (fun (v12 : Int) (v13 : Int) (v14 : Int) (M15 : Mm) => 
Lt (wr (v13 + v14)) fun v17 =>
Lt (wr (v12 + 1)) fun v18 =>
rc6_7 (v17, v18, M15)) fun J34_16 =>
if v11 = 0 then (
J34_16 v5 v4 0 M10) else (
J34_16 v5 v4 1 M10))
def f_X12_tellersOf (a1 : Int) (a2 : Int) (a3 : Int) (M : Mm) : Rs :=
Lt (fun (v1 : Int) (M2 : Mm) => 
some (v1, M2)) fun J43_3 =>
Lp (f_X12_tellersOf_L6_20 a1 a2 a3 J43_3) FU (0, 0, M)
def f_X12_teller_L140_38 (v20 : Int) (J172_26 : Int → Mm → Rs) (rc140_32 : Int × Int × Mm → Rs) : Int × Int × Mm → Rs := fun (v29, v30, M31) =>
if 3 ≤ v30 then (
J172_26 v29 M31) else (
if v20 = ((-1)) then (
J172_26 v29 M31) else (
gd (0 ≤ v30 ∧ v30 < 3) <|
Lt (M31 60 v30.toNat) fun v35 =>
gd (0 ≤ v30 ∧ v30 < 3) <|
Lt (up M31 59 v30.toNat v35) fun M36 =>
Lt (wr (v30 + 1)) fun v37 =>
rc140_32 (v29, v37, M36)))
def f_X12_teller_L79_61 (v20 : Int) (J137_23 : Int → Mm → Rs) (rc79_43 : Int × Int × Int × Mm → Rs) : Int × Int × Int × Mm → Rs := fun (v39, v40, v41, M42) =>
if 3 ≤ v41 then (
J137_23 v40 M42) else (
if v20 = ((-1)) then (
J137_23 v40 M42) else (
gd (0 ≤ v20 ∧ v20 < 10) <|
Lt (M42 4 v20.toNat) fun v46 =>
Lt (fun (v47 : Int) (v48 : Int) (v49 : Int) (v50 : Int) (v51 : Int) (M52 : Mm) => 
gd (0 ≤ v50 ∧ v50 < 3) <|
Lt (up M52 60 v50.toNat v51) fun M54 =>
Lt (wr (v49 + 1)) fun v55 =>
rc79_43 (v47, v48, v55, M54)) fun J130_53 =>
if v46 ≤ v41 then (
J130_53 v39 v40 v41 v41 ((-1)) M42) else (
Lt (wr (3 * v39)) fun v57 =>
Lt (wr (v57 + v41)) fun v58 =>
gd (0 ≤ v58 ∧ v58 < 30) <|
Lt (M42 9 v58.toNat) fun v59 =>
gd (0 ≤ v59 ∧ v59 < 3) <|
Lt (M42 59 v59.toNat) fun v60 =>
J130_53 v39 v40 v41 v41 v60 M42)))
def f_X12_teller_L35_62 (a2 : Int) (a3 : Int) (J187_5 : Mm → Rs) (J64_8 : Int → Mm → Rs) (rc35_12 : Int × Int × Mm → Rs) : Int × Int × Mm → Rs := fun (v9, v10, M11) =>
if 3 < v10 then (
J187_5 M11) else (
if v9 = ((-1)) then (
J187_5 M11) else (
Cl (f_X12_childThere v9 a3 M11) fun v16 M15 =>
Cl (f_X12_tellersOf v9 a2 v16 M15) fun v18 M17 =>
if v18 ≤ 0 then (
gd (0 ≤ v9 ∧ v9 < 10) <|
Lt (M17 8 v9.toNat) fun v20 =>
Lt (fun (v21 : Int) (M22 : Mm) => 
Lt (fun (v24 : Int) (M25 : Mm) => 
Lt (up M25 0 76 1) fun M27 =>
Lt (wr (v24 + 1)) fun v28 =>
rc35_12 (v20, v28, M27)) fun J172_26 =>
Lp (f_X12_teller_L140_38 v20 J172_26) FU (v21, 0, M22)) fun J137_23 =>
Lp (f_X12_teller_L79_61 v20 J137_23) FU (v9, v10, 0, M17)) else (
J64_8 v9 M17)))
def f_X12_teller_L8_69 (J29_3 : Mm → Rs) (rc8_65 : Int × Mm → Rs) : Int × Mm → Rs := fun (v63, M64) =>
if 3 ≤ v63 then (
J29_3 M64) else (
gd (0 ≤ v63 ∧ v63 < 3) <|
Lt (up M64 59 v63.toNat v63) fun M67 =>
Lt (wr (v63 + 1)) fun v68 =>
rc8_65 (v68, M67))
def f_X12_teller (a1 : Int) (a2 : Int) (a3 : Int) (M : Mm) : Rs :=
Lt (up M 0 76 0) fun M1 =>
Lt (fun (M2 : Mm) => 
Lt (fun (M4 : Mm) => 
some ((-1), M4)) fun J187_5 =>
Lt (fun (v6 : Int) (M7 : Mm) => 
some (v6, M7)) fun J64_8 =>
Lp (f_X12_teller_L35_62 a2 a3 J187_5 J64_8) FU (a1, 0, M2)) fun J29_3 =>
Lp (f_X12_teller_L8_69 J29_3) FU (0, M1)
def f_X12_equationFor_L48_26 (a2 : Int) (v2 : Int) (v5 : Int) (J86_11 : Int → Mm → Rs) (rc48_15 : Int × Int × Mm → Rs) : Int × Int × Mm → Rs := fun (v12, v13, M14) =>
Lt (M14 0 19) fun v16 =>
if v16 ≤ v13 then (
J86_11 v12 M14) else (
Cl (f_X12_counts v13 v2 a2 v5 M14) fun v19 M18 =>
Lt (fun (v20 : Int) (v21 : Int) (M22 : Mm) => 
Lt (wr (v20 + 1)) fun v24 =>
rc48_15 (v21, v24, M22)) fun J78_23 =>
if v19 = 0 then (
J78_23 v13 v12 M18) else (
J78_23 v13 v13 M18))
def f_X12_equationFor (a1 : Int) (a2 : Int) (a3 : Int) (M : Mm) : Rs :=
Cl (f_X12_teller a1 a2 a3 M) fun v2 M1 =>
if ¬ v2 = ((-1)) then (
Cl (f_X12_childThere v2 a3 M1) fun v5 M4 =>
Cl (f_X12_tellersOf v2 a2 v5 M4) fun v7 M6 =>
if v7 ≤ 1 then (
Lt (fun (v9 : Int) (M10 : Mm) => 
some (v9, M10)) fun J86_11 =>
Lp (f_X12_equationFor_L48_26 a2 v2 v5 J86_11) FU ((-1), 0, M6)) else (
some ((-3), M6))) else (
some ((-1), M1))
def f_X12_vertex (a1 : Int) (a2 : Int) (M : Mm) : Rs :=
Lt (fun (v1 : Int) (M2 : Mm) => 
some (v1, M2)) fun J18_3 =>
if ¬ a1 = ((-1)) then (
Lt (wr (6 * a1)) fun v5 =>
Lt (wr (6 + v5)) fun v6 =>
Lt (wr (v6 + a2)) fun v7 =>
J18_3 v7 M) else (
J18_3 a2 M)
def f_X12_isStill (a1 : Int) (M : Mm) : Rs :=
gd (0 ≤ a1 ∧ a1 < 6) <|
Lt (M 12 a1.toNat) fun v1 =>
Lt (fun (v2 : Int) (M3 : Mm) => 
some (v2, M3)) fun J15_4 =>
if 1 < v1 then (
J15_4 0 M) else (
J15_4 1 M)
def f_X12_addsEdges_L5_44 (a1 : Int) (a2 : Int) (J135_3 : Mm → Rs) (rc5_6 : Int × Mm → Rs) : Int × Mm → Rs := fun (v4, M5) =>
Lt (wr (8 * a1)) fun v7 =>
gd (0 ≤ a1 ∧ a1 < 30) <|
Lt (M5 20 a1.toNat) fun v8 =>
Lt (wr (v7 + v8)) fun v9 =>
if v9 ≤ v4 then (
J135_3 M5) else (
gd (0 ≤ v4 ∧ v4 < 240) <|
Lt (M5 22 v4.toNat) fun v11 =>
gd (0 ≤ v4 ∧ v4 < 240) <|
Lt (M5 23 v4.toNat) fun v12 =>
gd (0 ≤ v4 ∧ v4 < 240) <|
Lt (M5 21 v4.toNat) fun v13 =>
Lt (fun (v14 : Int) (M15 : Mm) => 
Lt (wr (v14 + 1)) fun v17 =>
rc5_6 (v17, M15)) fun J129_16 =>
Lt (fun (v18 : Int) (M19 : Mm) => 
gd (0 ≤ v18 ∧ v18 < 240) <|
Lt (M19 21 v18.toNat) fun v21 =>
if ¬ v21 = 2 then (
J129_16 v18 M19) else (
Cl (f_X12_isStill v11 M19) fun v24 M23 =>
if v24 = 0 then (
J129_16 v18 M23) else (
gd (0 ≤ a1 ∧ a1 < 30) <|
Lt (M23 16 a1.toNat) fun v26 =>
gd (0 ≤ v26 ∧ v26 < 10) <|
Lt (M23 4 v26.toNat) fun v27 =>
if v27 ≤ v12 then (
J129_16 v18 M23) else (
gd (0 ≤ a2 ∧ a2 < 24) <|
Lt (M23 65 a2.toNat) fun v29 =>
gd (0 ≤ v12 ∧ v12 < 3) <|
Lt (M23 59 v12.toNat) fun v30 =>
Cl (f_X12_vertex v30 v11 M23) fun v32 M31 =>
Lt (jshl 1 v32) fun v33 =>
Lt (jor v29 v33) fun v34 =>
gd (0 ≤ a2 ∧ a2 < 24) <|
Lt (up M31 65 a2.toNat v34) fun M35 =>
J129_16 v18 M35)))) fun J71_20 =>
if ¬ v13 = 1 then (
J71_20 v4 M5) else (
Cl (f_X12_isStill v11 M5) fun v38 M37 =>
if v38 = 0 then (
J71_20 v4 M37) else (
gd (0 ≤ a2 ∧ a2 < 24) <|
Lt (M37 65 a2.toNat) fun v40 =>
Lt (jshl 1 v11) fun v41 =>
Lt (jor v40 v41) fun v42 =>
gd (0 ≤ a2 ∧ a2 < 24) <|
Lt (up M37 65 a2.toNat v42) fun M43 =>
J129_16 v4 M43)))
def f_X12_addsEdges (a1 : Int) (a2 : Int) (M : Mm) : Rs :=
Lt (wr (8 * a1)) fun v1 =>
Lt (fun (M2 : Mm) => 
some (0, M2)) fun J135_3 =>
Lp (f_X12_addsEdges_L5_44 a1 a2 J135_3) FU (v1, M)
def f_X12_addsAll_L40_32 (a2 : Int) (v2 : Int) (v4 : Int) (v5 : Int) (J83_9 : Mm → Rs) (rc40_20 : Int × Mm → Rs) : Int × Mm → Rs := fun (v18, M19) =>
Lt (M19 0 19) fun v21 =>
if v21 ≤ v18 then (
J83_9 M19) else (
if v4 = ((-1)) then (
J83_9 M19) else (
Cl (f_X12_counts v18 v4 a2 v5 M19) fun v25 M24 =>
Lt (fun (v26 : Int) (M27 : Mm) => 
Lt (wr (v26 + 1)) fun v29 =>
rc40_20 (v29, M27)) fun J77_28 =>
if v25 = 0 then (
J77_28 v18 M24) else (
Cl (f_X12_addsEdges v18 v2 M24) fun _ M31 =>
J77_28 v18 M31)))
def f_X12_addsAll (a1 : Int) (a2 : Int) (a3 : Int) (M : Mm) : Rs :=
Cl (f_X12_vertex a3 a2 M) fun v2 M1 =>
Cl (f_X12_teller a1 a2 a3 M1) fun v4 M3 =>
Lt (fun (v5 : Int) (M6 : Mm) => 
Lt (fun (M8 : Mm) => 
Lt (fun (M10 : Mm) => 
some (0, M10)) fun J107_11 =>
if ¬ v4 = ((-1)) then (
J107_11 M8) else (
if a3 = ((-1)) then (
J107_11 M8) else (
gd (0 ≤ v2 ∧ v2 < 24) <|
Lt (M8 65 v2.toNat) fun v14 =>
Lt (jshl 1 a2) fun v15 =>
Lt (jor v14 v15) fun v16 =>
gd (0 ≤ v2 ∧ v2 < 24) <|
Lt (up M8 65 v2.toNat v16) fun M17 =>
J107_11 M17))) fun J83_9 =>
Lp (f_X12_addsAll_L40_32 a2 v2 v4 v5 J83_9) FU (0, M6)) fun J35_7 =>
if ¬ v4 = ((-1)) then (
Cl (f_X12_childThere v4 a3 M3) fun v35 M34 =>
J35_7 v35 M34) else (
J35_7 99999 M3)
def f_X12_findsEdges_L149_35 (J194_13 : Int → Mm → Rs) (rc149_18 : Int × Int × Mm → Rs) : Int × Int × Mm → Rs := fun (v15, v16, M17) =>
if 24 ≤ v16 then (
J194_13 v15 M17) else (
gd (0 ≤ v16 ∧ v16 < 24) <|
Lt (M17 65 v16.toNat) fun v20 =>
gd (0 ≤ v16 ∧ v16 < 24) <|
Lt (M17 65 v16.toNat) fun v21 =>
Lt (jshr v21 v15) fun v22 =>
Lt (jand v22 1) fun v23 =>
Lt (fun (v24 : Int) (v25 : Int) (v26 : Int) (v27 : Int) (M28 : Mm) => 
Lt (jor v20 v27) fun v30 =>
gd (0 ≤ v26 ∧ v26 < 24) <|
Lt (up M28 65 v26.toNat v30) fun M31 =>
Lt (wr (v25 + 1)) fun v32 =>
rc149_18 (v24, v32, M31)) fun J186_29 =>
if ¬ v23 = 1 then (
J186_29 v15 v16 v16 0 M17) else (
gd (0 ≤ v15 ∧ v15 < 24) <|
Lt (M17 65 v15.toNat) fun v34 =>
J186_29 v15 v16 v16 v34 M17))
def f_X12_findsEdges_L141_36 (J200_6 : Mm → Rs) (rc141_9 : Int × Mm → Rs) : Int × Mm → Rs := fun (v7, M8) =>
if 24 ≤ v7 then (
J200_6 M8) else (
Lt (fun (v11 : Int) (M12 : Mm) => 
Lt (wr (v11 + 1)) fun v14 =>
rc141_9 (v14, M12)) fun J194_13 =>
Lp (f_X12_findsEdges_L149_35 J194_13) FU (v7, 0, M8))
def f_X12_findsEdges_L49_80 (a1 : Int) (J133_48 : Int → Mm → Rs) (rc49_53 : Int × Int × Mm → Rs) : Int × Int × Mm → Rs := fun (v50, v51, M52) =>
gd (0 ≤ a1 ∧ a1 < 10) <|
Lt (M52 4 a1.toNat) fun v54 =>
if v54 ≤ v51 then (
J133_48 v50 M52) else (
gd (0 ≤ v50 ∧ v50 < 6) <|
Lt (M52 12 v50.toNat) fun v56 =>
Lt (fun (v57 : Int) (v58 : Int) (M59 : Mm) => 
Lt (wr (v58 + 1)) fun v61 =>
rc49_53 (v57, v61, M59)) fun J127_60 =>
if ¬ v56 = 1 then (
gd (0 ≤ v50 ∧ v50 < 6) <|
Lt (M52 12 v50.toNat) fun v63 =>
if ¬ v63 = 0 then (
J127_60 v50 v51 M52) else (
Cl (f_X12_vertex v51 v50 M52) fun v66 M65 =>
gd (0 ≤ v66 ∧ v66 < 24) <|
Lt (M65 65 v66.toNat) fun v67 =>
Lt (wr (3 * a1)) fun v68 =>
Lt (wr (v68 + v51)) fun v69 =>
gd (0 ≤ v69 ∧ v69 < 30) <|
Lt (M65 5 v69.toNat) fun v70 =>
Lt (wr (6 * v70)) fun v71 =>
Lt (wr (v71 + v50)) fun v72 =>
gd (0 ≤ v72 ∧ v72 < 24) <|
Lt (M65 66 v72.toNat) fun v73 =>
Cl (f_X12_vertex v51 0 M65) fun v75 M74 =>
Lt (jshl v73 v75) fun v76 =>
Lt (jor v67 v76) fun v77 =>
gd (0 ≤ v66 ∧ v66 < 24) <|
Lt (up M74 65 v66.toNat v77) fun M78 =>
J127_60 v50 v51 M78)) else (
Cl (f_X12_addsAll a1 v50 v51 M52) fun _ M79 =>
J127_60 v50 v51 M79))
def f_X12_findsEdges_L23_83 (a1 : Int) (J139_4 : Mm → Rs) (rc23_39 : Int × Mm → Rs) : Int × Mm → Rs := fun (v37, M38) =>
Lt (M38 0 12) fun v40 =>
if v40 ≤ v37 then (
J139_4 M38) else (
gd (0 ≤ v37 ∧ v37 < 6) <|
Lt (M38 12 v37.toNat) fun v42 =>
Lt (fun (v43 : Int) (M44 : Mm) => 
Lt (fun (v46 : Int) (M47 : Mm) => 
Lt (wr (v46 + 1)) fun v49 =>
rc23_39 (v49, M47)) fun J133_48 =>
Lp (f_X12_findsEdges_L49_80 a1 J133_48) FU (v43, 0, M44)) fun J47_45 =>
if ¬ v42 = 0 then (
J47_45 v37 M38) else (
Cl (f_X12_addsAll a1 v37 ((-1)) M38) fun _ M82 =>
J47_45 v37 M82))
def f_X12_findsEdges_L2_90 (J21_2 : Mm → Rs) (rc2_86 : Int × Mm → Rs) : Int × Mm → Rs := fun (v84, M85) =>
if 24 ≤ v84 then (
J21_2 M85) else (
gd (0 ≤ v84 ∧ v84 < 24) <|
Lt (up M85 65 v84.toNat 0) fun M88 =>
Lt (wr (v84 + 1)) fun v89 =>
rc2_86 (v89, M88))
def f_X12_findsEdges (a1 : Int) (M : Mm) : Rs :=
Lt (fun (M1 : Mm) => 
Lt (fun (M3 : Mm) => 
Lt (fun (M5 : Mm) => 
some (0, M5)) fun J200_6 =>
Lp (f_X12_findsEdges_L141_36 J200_6) FU (0, M3)) fun J139_4 =>
Lp (f_X12_findsEdges_L23_83 a1 J139_4) FU (0, M1)) fun J21_2 =>
Lp (f_X12_findsEdges_L2_90 J21_2) FU (0, M)
def f_X12_downs_L4_20 (J38_3 : Int → Mm → Rs) (rc4_7 : Int × Int × Mm → Rs) : Int × Int × Mm → Rs := fun (v4, v5, M6) =>
Lt (M6 0 12) fun v8 =>
if v8 ≤ v5 then (
J38_3 v4 M6) else (
gd (0 ≤ v5 ∧ v5 < 6) <|
Lt (M6 12 v5.toNat) fun v10 =>
Lt (fun (v11 : Int) (v12 : Int) (v13 : Int) (M14 : Mm) => 
Lt (jor v12 v13) fun v16 =>
Lt (wr (v11 + 1)) fun v17 =>
rc4_7 (v16, v17, M14)) fun J30_15 =>
if ¬ v10 = 1 then (
J30_15 v5 v4 0 M6) else (
Lt (jshl 1 v5) fun v19 =>
J30_15 v5 v4 v19 M6))
def f_X12_downs (M : Mm) : Rs :=
Lt (fun (v1 : Int) (M2 : Mm) => 
some (v1, M2)) fun J38_3 =>
Lp (f_X12_downs_L4_20 J38_3) FU (0, 0, M)
def f_X12_ringIn_L167_31 (J187_10 : Int → Mm → Rs) (J195_19 : Int → Mm → Rs) (rc167_24 : Int × Int × Mm → Rs) : Int × Int × Mm → Rs := fun (v21, v22, M23) =>
if 24 ≤ v22 then (
J195_19 v21 M23) else (
gd (0 ≤ v22 ∧ v22 < 24) <|
Lt (M23 65 v22.toNat) fun v26 =>
Lt (jshr v26 v22) fun v27 =>
Lt (jand v27 1) fun v28 =>
if ¬ v28 = 1 then (
Lt (wr (v22 + 1)) fun v30 =>
rc167_24 (v21, v30, M23)) else (
J187_10 v21 M23))
def f_X12_ringIn_L152_32 (J201_7 : Mm → Rs) (J187_10 : Int → Mm → Rs) (rc152_13 : Int × Mm → Rs) : Int × Mm → Rs := fun (v11, M12) =>
Lt (M12 0 0) fun v14 =>
if v14 ≤ v11 then (
J201_7 M12) else (
Cl (f_X12_findsEdges v11 M12) fun _ M16 =>
Lt (fun (v17 : Int) (M18 : Mm) => 
Lt (wr (v17 + 1)) fun v20 =>
rc152_13 (v20, M18)) fun J195_19 =>
Lp (f_X12_ringIn_L167_31 J187_10 J195_19) FU (v11, 0, M16))
def f_X12_ringIn_L51_92 (J141_50 : Int → Int → Mm → Rs) (rc51_56 : Int × Int × Int × Mm → Rs) : Int × Int × Int × Mm → Rs := fun (v52, v53, v54, M55) =>
Lt (M55 0 12) fun v57 =>
if v57 ≤ v54 then (
J141_50 v52 v53 M55) else (
gd (0 ≤ v53 ∧ v53 < 10) <|
Lt (M55 1 v53.toNat) fun v59 =>
Lt (wr (6 * v59)) fun v60 =>
Lt (wr (v60 + v54)) fun v61 =>
gd (0 ≤ v54 ∧ v54 < 6) <|
Lt (M55 12 v54.toNat) fun v62 =>
Lt (fun (v63 : Int) (v64 : Int) (v65 : Int) (v66 : Int) (M67 : Mm) => 
Lt (fun (v69 : Int) (v70 : Int) (v71 : Int) (M72 : Mm) => 
gd (0 ≤ v61 ∧ v61 < 24) <|
Lt (M72 66 v61.toNat) fun v74 =>
Lt (jor v74 v66) fun v75 =>
gd (0 ≤ v61 ∧ v61 < 24) <|
Lt (up M72 66 v61.toNat v75) fun M76 =>
Lt (wr (v70 + 1)) fun v77 =>
rc51_56 (v71, v69, v77, M76)) fun J122_73 =>
Lt (fun (v78 : Int) (v79 : Int) (M80 : Mm) => 
J122_73 v78 v79 1 M80) fun J117_81 =>
if ¬ v63 = 0 then (
J117_81 v64 v65 M67) else (
gd (0 ≤ v61 ∧ v61 < 24) <|
Lt (M67 66 v61.toNat) fun v83 =>
Lt (jxor v83 ((-1))) fun v84 =>
Lt (jand v66 v84) fun v85 =>
if v85 = 0 then (
J122_73 v64 v65 0 M67) else (
J117_81 v64 v65 M67))) fun J96_68 =>
if ¬ v62 = 0 then (
J96_68 v52 v53 v54 0 M55) else (
gd (0 ≤ v54 ∧ v54 < 24) <|
Lt (M55 65 v54.toNat) fun v88 =>
Cl (f_X12_downs M55) fun v90 M89 =>
Lt (jand v88 v90) fun v91 =>
J96_68 v52 v53 v54 v91 M89))
def f_X12_ringIn_L36_93 (J147_39 : Int → Mm → Rs) (rc36_43 : Int × Int × Mm → Rs) : Int × Int × Mm → Rs := fun (v40, v41, M42) =>
Lt (M42 0 0) fun v44 =>
if v44 ≤ v41 then (
J147_39 v40 M42) else (
Cl (f_X12_findsEdges v41 M42) fun _ M46 =>
Lt (fun (v47 : Int) (v48 : Int) (M49 : Mm) => 
Lt (wr (v48 + 1)) fun v51 =>
rc36_43 (v47, v51, M49)) fun J141_50 =>
Lp (f_X12_ringIn_L51_92 J141_50) FU (v40, v41, 0, M46))
def f_X12_ringIn_L28_94 (J150_5 : Mm → Rs) (rc28_35 : Int × Mm → Rs) : Int × Mm → Rs := fun (v33, M34) =>
if v33 = 0 then (
J150_5 M34) else (
Lt (fun (v37 : Int) (M38 : Mm) => 
rc28_35 (v37, M38)) fun J147_39 =>
Lp (f_X12_ringIn_L36_93 J147_39) FU (0, 0, M34))
def f_X12_ringIn_L7_101 (J26_3 : Mm → Rs) (rc7_97 : Int × Mm → Rs) : Int × Mm → Rs := fun (v95, M96) =>
if 24 ≤ v95 then (
J26_3 M96) else (
gd (0 ≤ v95 ∧ v95 < 24) <|
Lt (up M96 66 v95.toNat 0) fun M99 =>
Lt (wr (v95 + 1)) fun v100 =>
rc7_97 (v100, M99))
def f_X12_ringIn (M : Mm) : Rs :=
Lt (up M 0 87 0) fun M1 =>
Lt (fun (M2 : Mm) => 
Lt (fun (M4 : Mm) => 
Lt (fun (M6 : Mm) => 
some ((-1), M6)) fun J201_7 =>
Lt (fun (v8 : Int) (M9 : Mm) => 
some (v8, M9)) fun J187_10 =>
Lp (f_X12_ringIn_L152_32 J201_7 J187_10) FU (0, M4)) fun J150_5 =>
Lp (f_X12_ringIn_L28_94 J150_5) FU (1, M2)) fun J26_3 =>
Lp (f_X12_ringIn_L7_101 J26_3) FU (0, M1)
def f_X12_stretch (a1 : Int) (a2 : Int) (a3 : Int) (M : Mm) : Rs :=
Lt (wr (169 * a1)) fun v1 =>
Lt (wr (13 * a2)) fun v2 =>
Lt (wr (v1 + v2)) fun v3 =>
Lt (wr (v3 + a3)) fun v4 =>
some (v4, M)
def f_X12_hasLetter_L6_21 (a1 : Int) (a3 : Int) (J44_3 : Int → Mm → Rs) (rc6_7 : Int × Int × Mm → Rs) : Int × Int × Mm → Rs := fun (v4, v5, M6) =>
if a3 ≤ v5 then (
J44_3 v4 M6) else (
Lt (fun (v9 : Int) (v10 : Int) (M11 : Mm) => 
Lt (wr (v9 + 1)) fun v13 =>
rc6_7 (v10, v13, M11)) fun J36_12 =>
Lt (fun (v14 : Int) (M15 : Mm) => 
J36_12 v14 1 M15) fun J31_16 =>
if ¬ v4 = 0 then (
J31_16 v5 M6) else (
gd (0 ≤ v5 ∧ v5 < 12) <|
Lt (M6 29 v5.toNat) fun v18 =>
Lt (wr (a1 + 93)) fun v19 =>
if ¬ v18 = v19 then (
J36_12 v5 0 M6) else (
J31_16 v5 M6)))
def f_X12_hasLetter (a1 : Int) (a2 : Int) (a3 : Int) (M : Mm) : Rs :=
Lt (fun (v1 : Int) (M2 : Mm) => 
some (v1, M2)) fun J44_3 =>
Lp (f_X12_hasLetter_L6_21 a1 a3 J44_3) FU (0, a2, M)
def f_X12_costOf (a1 : Int) (a2 : Int) (a3 : Int) (M : Mm) : Rs :=
if 4 ≤ a1 then (
Lt (wr (a3 - a2)) fun v2 =>
Cl (f_X12_hasLetter a1 a2 a3 M) fun v4 M3 =>
Lt (fun (v5 : Int) (M6 : Mm) => 
Lt (wr (v2 + v5)) fun v8 =>
some (v8, M6)) fun J35_7 =>
if v4 = 0 then (
J35_7 1 M3) else (
J35_7 ((-1)) M3)) else (
Cl (f_X12_stretch a1 a2 a3 M) fun v11 M10 =>
gd (0 ≤ v11 ∧ v11 < 676) <|
Lt (M10 43 v11.toNat) fun v12 =>
some (v12, M10))
def f_X12_nodesOf (a1 : Int) (a2 : Int) (a3 : Int) (M : Mm) : Rs :=
Lt (fun (v1 : Int) (M2 : Mm) => 
some (v1, M2)) fun J20_3 =>
if 4 ≤ a1 then (
J20_3 0 M) else (
Cl (f_X12_stretch a1 a2 a3 M) fun v6 M5 =>
gd (0 ≤ v6 ∧ v6 < 676) <|
Lt (M5 44 v6.toNat) fun v7 =>
J20_3 v7 M5)
def f_X12_weight (a1 : Int) (a2 : Int) (a3 : Int) (a4 : Int) (a5 : Int) (M : Mm) : Rs :=
Lt (wr (3 * a1)) fun v1 =>
gd (0 ≤ a1 ∧ a1 < 10) <|
Lt (M 2 a1.toNat) fun v2 =>
if ¬ v2 = 0 then (
Lt (fun (v4 : Int) (M5 : Mm) => 
Lt (fun (v7 : Int) (M8 : Mm) => 
gd (0 ≤ v1 ∧ v1 < 30) <|
Lt (M8 3 v1.toNat) fun v10 =>
Cl (f_X12_costOf v10 a2 v4 M8) fun v12 M11 =>
Lt (fun (v13 : Int) (M14 : Mm) => 
Lt (wr (v12 + v13)) fun v16 =>
Lt (fun (v17 : Int) (M18 : Mm) => 
Lt (wr (v16 + v17)) fun v20 =>
gd (0 ≤ v1 ∧ v1 < 30) <|
Lt (M18 3 v1.toNat) fun v21 =>
Cl (f_X12_nodesOf v21 a2 v4 M18) fun v23 M22 =>
Lt (wr (1 + v23)) fun v24 =>
Lt (fun (v25 : Int) (M26 : Mm) => 
Lt (wr (v24 + v25)) fun v28 =>
Lt (fun (v29 : Int) (M30 : Mm) => 
Lt (wr (v28 + v29)) fun v32 =>
Lt (fun (v33 : Int) (M34 : Mm) => 
some (v33, M34)) fun J227_35 =>
if v20 < 99999 then (
Lt (wr (10000 * v20)) fun v37 =>
Lt (wr (v37 + v32)) fun v38 =>
J227_35 v38 M30) else (
J227_35 999990000 M30)) fun J201_31 =>
if v2 ≤ 2 then (
J201_31 0 M26) else (
Lt (wr (v1 + 2)) fun v40 =>
gd (0 ≤ v40 ∧ v40 < 30) <|
Lt (M26 3 v40.toNat) fun v41 =>
Cl (f_X12_nodesOf v41 v7 a5 M26) fun v43 M42 =>
J201_31 v43 M42)) fun J173_27 =>
if v2 ≤ 1 then (
J173_27 0 M22) else (
Lt (wr (v1 + 1)) fun v45 =>
gd (0 ≤ v45 ∧ v45 < 30) <|
Lt (M22 3 v45.toNat) fun v46 =>
Cl (f_X12_nodesOf v46 v4 v7 M22) fun v48 M47 =>
J173_27 v48 M47)) fun J127_19 =>
if v2 ≤ 2 then (
J127_19 0 M14) else (
Lt (wr (v1 + 2)) fun v50 =>
gd (0 ≤ v50 ∧ v50 < 30) <|
Lt (M14 3 v50.toNat) fun v51 =>
Cl (f_X12_costOf v51 v7 a5 M14) fun v53 M52 =>
J127_19 v53 M52)) fun J99_15 =>
if v2 ≤ 1 then (
J99_15 0 M11) else (
Lt (wr (v1 + 1)) fun v55 =>
gd (0 ≤ v55 ∧ v55 < 30) <|
Lt (M11 3 v55.toNat) fun v56 =>
Cl (f_X12_costOf v56 v4 v7 M11) fun v58 M57 =>
J99_15 v58 M57)) fun J56_9 =>
if 3 ≤ v2 then (
J56_9 a4 M5) else (
J56_9 a5 M5)) fun J41_6 =>
if ¬ v2 = 1 then (
J41_6 a3 M) else (
J41_6 a5 M)) else (
Lt (wr (a5 - a2)) fun v61 =>
Lt (wr (10000 * v61)) fun v62 =>
Lt (wr (v62 + 1)) fun v63 =>
some (v63, M))
def f_X12_betters_L65_57 (a1 : Int) (a2 : Int) (a3 : Int) (v3 : Int) (v19 : Int) (J165_25 : Int → Int → Mm → Rs) (rc65_31 : Int × Int × Int × Mm → Rs) : Int × Int × Int × Mm → Rs := fun (v27, v28, v29, M30) =>
if v19 < v29 then (
J165_25 v27 v28 M30) else (
Cl (f_X12_weight a1 a2 v28 v29 a3 M30) fun v34 M33 =>
Lt (fun (v35 : Int) (v36 : Int) (v37 : Int) (M38 : Mm) => 
Lt (wr (v37 + 1)) fun v40 =>
rc65_31 (v35, v36, v40, M38)) fun J159_39 =>
if 999990000 ≤ v34 then (
J159_39 v27 v28 v29 M33) else (
gd (0 ≤ v3 ∧ v3 < 676) <|
Lt (M33 43 v3.toNat) fun v42 =>
Lt (fun (v43 : Int) (v44 : Int) (M45 : Mm) => 
Lt (wr (Int.tdiv v34 10000)) fun v47 =>
gd (0 ≤ v3 ∧ v3 < 676) <|
Lt (up M45 43 v3.toNat v47) fun M48 =>
Lt (jrem v34 10000) fun v49 =>
gd (0 ≤ v3 ∧ v3 < 676) <|
Lt (up M48 44 v3.toNat v49) fun M50 =>
J159_39 1 v43 v44 M50) fun J130_46 =>
if v42 = 99999 then (
J130_46 v28 v29 M33) else (
gd (0 ≤ v3 ∧ v3 < 676) <|
Lt (M33 43 v3.toNat) fun v52 =>
Lt (wr (10000 * v52)) fun v53 =>
gd (0 ≤ v3 ∧ v3 < 676) <|
Lt (M33 44 v3.toNat) fun v54 =>
Lt (wr (v53 + v54)) fun v55 =>
if v55 ≤ v34 then (
J159_39 v27 v28 v29 M33) else (
J130_46 v28 v29 M33))))
def f_X12_betters_L36_59 (a1 : Int) (a2 : Int) (a3 : Int) (v3 : Int) (v5 : Int) (J171_10 : Int → Mm → Rs) (rc36_14 : Int × Int × Mm → Rs) : Int × Int × Mm → Rs := fun (v11, v12, M13) =>
if v5 < v12 then (
J171_10 v11 M13) else (
gd (0 ≤ a1 ∧ a1 < 10) <|
Lt (M13 2 a1.toNat) fun v16 =>
Lt (fun (v17 : Int) (v18 : Int) (v19 : Int) (M20 : Mm) => 
Lt (fun (v22 : Int) (v23 : Int) (M24 : Mm) => 
Lt (wr (v23 + 1)) fun v26 =>
rc36_14 (v22, v26, M24)) fun J165_25 =>
Lp (f_X12_betters_L65_57 a1 a2 a3 v3 v19 J165_25) FU (v17, v18, v18, M20)) fun J59_21 =>
if v16 ≤ 2 then (
J59_21 v11 v12 v12 M13) else (
J59_21 v11 v12 a3 M13))
def f_X12_betters (a1 : Int) (a2 : Int) (a3 : Int) (M : Mm) : Rs :=
gd (0 ≤ a1 ∧ a1 < 10) <|
Lt (M 1 a1.toNat) fun v1 =>
Cl (f_X12_stretch v1 a2 a3 M) fun v3 M2 =>
gd (0 ≤ a1 ∧ a1 < 10) <|
Lt (M2 2 a1.toNat) fun v4 =>
Lt (fun (v5 : Int) (M6 : Mm) => 
Lt (fun (v8 : Int) (M9 : Mm) => 
some (v8, M9)) fun J171_10 =>
Lp (f_X12_betters_L36_59 a1 a2 a3 v3 v5 J171_10) FU (0, a2, M6)) fun J31_7 =>
if v4 ≤ 1 then (
J31_7 a2 M2) else (
J31_7 a3 M2)
def f_X12_findsBest_L64_62 (J102_35 : Int → Int → Int → Mm → Rs) (rc64_42 : Int × Int × Int × Int × Mm → Rs) : Int × Int × Int × Int × Mm → Rs := fun (v37, v38, v39, v40, M41) =>
Lt (M41 0 0) fun v43 =>
if v43 ≤ v40 then (
J102_35 v37 v38 v39 M41) else (
Lt (wr (v39 + v38)) fun v45 =>
Cl (f_X12_betters v40 v39 v45 M41) fun v47 M46 =>
Lt (fun (v48 : Int) (v49 : Int) (v50 : Int) (v51 : Int) (M52 : Mm) => 
Lt (wr (v50 + 1)) fun v54 =>
rc64_42 (v51, v48, v49, v54, M52)) fun J95_53 =>
Lt (fun (v55 : Int) (v56 : Int) (v57 : Int) (M58 : Mm) => 
J95_53 v55 v56 v57 1 M58) fun J90_59 =>
if ¬ v47 = 0 then (
J90_59 v38 v39 v40 M46) else (
if v37 = 0 then (
J95_53 v38 v39 v40 0 M46) else (
J90_59 v38 v39 v40 M46)))
def f_X12_findsBest_L51_63 (J108_21 : Int → Int → Mm → Rs) (rc51_27 : Int × Int × Int × Mm → Rs) : Int × Int × Int × Mm → Rs := fun (v23, v24, v25, M26) =>
Lt (wr (v25 + v24)) fun v28 =>
Lt (M26 0 33) fun v29 =>
if v29 < v28 then (
J108_21 v23 v24 M26) else (
Lt (fun (v31 : Int) (v32 : Int) (v33 : Int) (M34 : Mm) => 
Lt (wr (v33 + 1)) fun v36 =>
rc51_27 (v31, v32, v36, M34)) fun J102_35 =>
Lp (f_X12_findsBest_L64_62 J102_35) FU (v23, v24, v25, 0, M26))
def f_X12_findsBest_L41_64 (J114_11 : Int → Mm → Rs) (rc41_15 : Int × Int × Mm → Rs) : Int × Int × Mm → Rs := fun (v12, v13, M14) =>
Lt (M14 0 33) fun v16 =>
if v16 < v13 then (
J114_11 v12 M14) else (
Lt (fun (v18 : Int) (v19 : Int) (M20 : Mm) => 
Lt (wr (v19 + 1)) fun v22 =>
rc41_15 (v18, v22, M20)) fun J108_21 =>
Lp (f_X12_findsBest_L51_63 J108_21) FU (v12, v13, 0, M14))
def f_X12_findsBest_L33_65 (J117_4 : Mm → Rs) (rc33_7 : Int × Mm → Rs) : Int × Mm → Rs := fun (v5, M6) =>
if v5 = 0 then (
J117_4 M6) else (
Lt (fun (v9 : Int) (M10 : Mm) => 
rc33_7 (v9, M10)) fun J114_11 =>
Lp (f_X12_findsBest_L41_64 J114_11) FU (0, 0, M6))
def f_X12_findsBest_L2_73 (J31_2 : Mm → Rs) (rc2_68 : Int × Mm → Rs) : Int × Mm → Rs := fun (v66, M67) =>
if 676 ≤ v66 then (
J31_2 M67) else (
gd (0 ≤ v66 ∧ v66 < 676) <|
Lt (up M67 43 v66.toNat 99999) fun M70 =>
gd (0 ≤ v66 ∧ v66 < 676) <|
Lt (up M70 44 v66.toNat 0) fun M71 =>
Lt (wr (v66 + 1)) fun v72 =>
rc2_68 (v72, M71))
def f_X12_findsBest (M : Mm) : Rs :=
Lt (fun (M1 : Mm) => 
Lt (fun (M3 : Mm) => 
some (0, M3)) fun J117_4 =>
Lp (f_X12_findsBest_L33_65 J117_4) FU (1, M1)) fun J31_2 =>
Lp (f_X12_findsBest_L2_73 J31_2) FU (0, M)
def f_X12_chosen_L103_71 (a2 : Int) (a3 : Int) (v6 : Int) (J127_13 : Int → Int → Int → Mm → Rs) (v53 : Int) (J178_59 : Int → Int → Mm → Rs) (rc103_65 : Int × Int × Int × Mm → Rs) : Int × Int × Int × Mm → Rs := fun (v61, v62, v63, M64) =>
if v53 < v63 then (
J178_59 v61 v62 M64) else (
Cl (f_X12_weight v61 a2 v62 v63 a3 M64) fun v68 M67 =>
if ¬ v68 = v6 then (
Lt (wr (v63 + 1)) fun v70 =>
rc103_65 (v61, v62, v70, M67)) else (
J127_13 v61 v62 v63 M67))
def f_X12_chosen_L62_73 (a1 : Int) (a2 : Int) (a3 : Int) (v6 : Int) (J127_13 : Int → Int → Int → Mm → Rs) (v36 : Int) (J184_41 : Int → Mm → Rs) (rc62_46 : Int × Int × Mm → Rs) : Int × Int × Mm → Rs := fun (v43, v44, M45) =>
if v36 < v44 then (
J184_41 v43 M45) else (
gd (0 ≤ v43 ∧ v43 < 10) <|
Lt (M45 1 v43.toNat) fun v48 =>
if ¬ v48 = a1 then (
J184_41 v43 M45) else (
gd (0 ≤ v43 ∧ v43 < 10) <|
Lt (M45 2 v43.toNat) fun v50 =>
Lt (fun (v51 : Int) (v52 : Int) (v53 : Int) (M54 : Mm) => 
Lt (fun (v56 : Int) (v57 : Int) (M58 : Mm) => 
Lt (wr (v57 + 1)) fun v60 =>
rc62_46 (v56, v60, M58)) fun J178_59 =>
Lp (f_X12_chosen_L103_71 a2 a3 v6 J127_13 v53 J178_59) FU (v51, v52, v52, M54)) fun J97_55 =>
if v50 ≤ 2 then (
J97_55 v43 v44 v44 M45) else (
J97_55 v43 v44 a3 M45)))
def f_X12_chosen_L32_75 (a1 : Int) (a2 : Int) (a3 : Int) (v6 : Int) (J190_8 : Mm → Rs) (J127_13 : Int → Int → Int → Mm → Rs) (rc32_31 : Int × Mm → Rs) : Int × Mm → Rs := fun (v29, M30) =>
Lt (M30 0 0) fun v32 =>
if v32 ≤ v29 then (
J190_8 M30) else (
gd (0 ≤ v29 ∧ v29 < 10) <|
Lt (M30 2 v29.toNat) fun v34 =>
Lt (fun (v35 : Int) (v36 : Int) (M37 : Mm) => 
Lt (fun (v39 : Int) (M40 : Mm) => 
Lt (wr (v39 + 1)) fun v42 =>
rc32_31 (v42, M40)) fun J184_41 =>
Lp (f_X12_chosen_L62_73 a1 a2 a3 v6 J127_13 v36 J184_41) FU (v35, a2, M37)) fun J57_38 =>
if v34 ≤ 1 then (
J57_38 v29 a2 M30) else (
J57_38 v29 a3 M30))
def f_X12_chosen (a1 : Int) (a2 : Int) (a3 : Int) (M : Mm) : Rs :=
Cl (f_X12_stretch a1 a2 a3 M) fun v2 M1 =>
gd (0 ≤ v2 ∧ v2 < 676) <|
Lt (M1 43 v2.toNat) fun v3 =>
Lt (wr (10000 * v3)) fun v4 =>
gd (0 ≤ v2 ∧ v2 < 676) <|
Lt (M1 44 v2.toNat) fun v5 =>
Lt (wr (v4 + v5)) fun v6 =>
Lt (fun (M7 : Mm) => 
some ((-1), M7)) fun J190_8 =>
Lt (fun (v9 : Int) (v10 : Int) (v11 : Int) (M12 : Mm) => 
gd (0 ≤ v9 ∧ v9 < 10) <|
Lt (M12 2 v9.toNat) fun v14 =>
Lt (fun (v15 : Int) (v16 : Int) (v17 : Int) (M18 : Mm) => 
Lt (up M18 0 58 v17) fun M20 =>
gd (0 ≤ v15 ∧ v15 < 10) <|
Lt (M20 2 v15.toNat) fun v21 =>
Lt (fun (v22 : Int) (v23 : Int) (M24 : Mm) => 
Lt (up M24 0 59 v23) fun M26 =>
some (v22, M26)) fun J166_25 =>
if v21 ≤ 2 then (
J166_25 v15 a3 M20) else (
J166_25 v15 v16 M20)) fun J145_19 =>
if v14 ≤ 1 then (
J145_19 v9 v11 a3 M12) else (
J145_19 v9 v11 v10 M12)) fun J127_13 =>
Lp (f_X12_chosen_L32_75 a1 a2 a3 v6 J190_8 J127_13) FU (0, M1)
def f_X12_makes_L216_100 (v15 : Int) (v19 : Int) (v20 : Int) (v23 : Int) (v34 : Int) (v35 : Int) (J377_42 : Int → Mm → Rs) (rc216_48 : Int × Int × Int × Int × Mm → Rs) : Int × Int × Int × Int × Mm → Rs := fun (v43, v44, v45, v46, M47) =>
if v46 < 0 then (
J377_42 v43 M47) else (
Lt (wr (3 * v23)) fun v50 =>
Lt (wr (v50 + v46)) fun v51 =>
gd (0 ≤ v51 ∧ v51 < 30) <|
Lt (M47 3 v51.toNat) fun v52 =>
Lt (fun (v53 : Int) (v54 : Int) (v55 : Int) (v56 : Int) (v57 : Int) (M58 : Mm) => 
Lt (fun (v60 : Int) (v61 : Int) (v62 : Int) (v63 : Int) (v64 : Int) (M65 : Mm) => 
Lt (fun (v67 : Int) (v68 : Int) (v69 : Int) (v70 : Int) (M71 : Mm) => 
Lt (wr (v70 + (-1))) fun v73 =>
rc216_48 (v67, v68, v69, v73, M71)) fun J371_72 =>
if 4 ≤ v52 then (
Lt (wr (v62 + (-1))) fun v75 =>
gd (0 ≤ v15 ∧ v15 < 30) <|
Lt (M65 35 v15.toNat) fun v76 =>
Cl (f_X12_hasLetter v52 v57 v64 M65) fun v78 M77 =>
Lt (fun (v79 : Int) (v80 : Int) (v81 : Int) (v82 : Int) (M83 : Mm) => 
Lt (jor v76 v82) fun v85 =>
gd (0 ≤ v15 ∧ v15 < 30) <|
Lt (up M83 35 v15.toNat v85) fun M86 =>
J371_72 v79 v80 v75 v81 M86) fun J369_84 =>
if v78 = 0 then (
Lt (jshl 1 v75) fun v88 =>
J369_84 v60 v61 v63 v88 M77) else (
J369_84 v60 v61 v63 0 M77)) else (
Lt (wr (v61 + (-1))) fun v89 =>
gd (0 ≤ v60 ∧ v60 < 64) <|
Lt (up M65 45 v60.toNat v52) fun M90 =>
gd (0 ≤ v60 ∧ v60 < 64) <|
Lt (up M90 46 v60.toNat v57) fun M91 =>
gd (0 ≤ v60 ∧ v60 < 64) <|
Lt (up M91 47 v60.toNat v64) fun M92 =>
gd (0 ≤ v60 ∧ v60 < 64) <|
Lt (up M92 48 v60.toNat v15) fun M93 =>
gd (0 ≤ v60 ∧ v60 < 64) <|
Lt (up M93 49 v60.toNat v89) fun M94 =>
Lt (wr (v60 + 1)) fun v95 =>
J371_72 v95 v89 v62 v63 M94)) fun J282_66 =>
if ¬ v56 = 0 then (
if ¬ v56 = 1 then (
J282_66 v53 v54 v55 v56 v20 M58) else (
J282_66 v53 v54 v55 v56 v35 M58)) else (
J282_66 v53 v54 v55 v56 v34 M58)) fun J257_59 =>
if ¬ v46 = 0 then (
if ¬ v46 = 1 then (
J257_59 v43 v44 v45 v46 v35 M47) else (
J257_59 v43 v44 v45 v46 v34 M47)) else (
J257_59 v43 v44 v45 v46 v19 M47))
def f_X12_makes_L45_107 (J380_9 : Mm → Rs) (rc45_12 : Int × Mm → Rs) : Int × Mm → Rs := fun (v10, M11) =>
if v10 ≤ 0 then (
J380_9 M11) else (
Lt (wr (v10 + (-1))) fun v14 =>
Lt (M11 0 35) fun v15 =>
Lt (M11 0 35) fun v16 =>
Lt (wr (v16 + 1)) fun v17 =>
Lt (up M11 0 35 v17) fun M18 =>
gd (0 ≤ v14 ∧ v14 < 64) <|
Lt (M18 46 v14.toNat) fun v19 =>
gd (0 ≤ v14 ∧ v14 < 64) <|
Lt (M18 47 v14.toNat) fun v20 =>
gd (0 ≤ v14 ∧ v14 < 64) <|
Lt (M18 45 v14.toNat) fun v21 =>
Cl (f_X12_chosen v21 v19 v20 M18) fun v23 M22 =>
gd (0 ≤ v15 ∧ v15 < 30) <|
Lt (up M22 30 v15.toNat v23) fun M24 =>
gd (0 ≤ v15 ∧ v15 < 30) <|
Lt (up M24 31 v15.toNat v23) fun M25 =>
gd (0 ≤ v14 ∧ v14 < 64) <|
Lt (M25 48 v14.toNat) fun v26 =>
gd (0 ≤ v15 ∧ v15 < 30) <|
Lt (up M25 32 v15.toNat v26) fun M27 =>
gd (0 ≤ v14 ∧ v14 < 64) <|
Lt (M27 49 v14.toNat) fun v28 =>
gd (0 ≤ v15 ∧ v15 < 30) <|
Lt (up M27 33 v15.toNat v28) fun M29 =>
gd (0 ≤ v15 ∧ v15 < 30) <|
Lt (up M29 35 v15.toNat 0) fun M30 =>
gd (0 ≤ v15 ∧ v15 < 30) <|
Lt (M30 32 v15.toNat) fun v31 =>
Lt (fun (M32 : Mm) => 
Lt (M32 0 58) fun v34 =>
Lt (M32 0 59) fun v35 =>
gd (0 ≤ v23 ∧ v23 < 10) <|
Lt (M32 4 v23.toNat) fun v36 =>
gd (0 ≤ v23 ∧ v23 < 10) <|
Lt (M32 6 v23.toNat) fun v37 =>
gd (0 ≤ v23 ∧ v23 < 10) <|
Lt (M32 2 v23.toNat) fun v38 =>
Lt (wr (v38 - 1)) fun v39 =>
Lt (fun (v40 : Int) (M41 : Mm) => 
rc45_12 (v40, M41)) fun J377_42 =>
Lp (f_X12_makes_L216_100 v15 v19 v20 v23 v34 v35 J377_42) FU (v14, v36, v37, v39, M32)) fun J175_33 =>
if v31 = ((-1)) then (
J175_33 M30) else (
gd (0 ≤ v15 ∧ v15 < 30) <|
Lt (M30 32 v15.toNat) fun v102 =>
Lt (wr (3 * v102)) fun v103 =>
gd (0 ≤ v15 ∧ v15 < 30) <|
Lt (M30 33 v15.toNat) fun v104 =>
Lt (wr (v103 + v104)) fun v105 =>
gd (0 ≤ v105 ∧ v105 < 90) <|
Lt (up M30 34 v105.toNat v15) fun M106 =>
J175_33 M106))
def f_X12_makes (M : Mm) : Rs :=
Lt (up M 0 35 0) fun M1 =>
gd (0 ≤ 0 ∧ 0 < 64) <|
Lt (up M1 45 0 0) fun M2 =>
gd (0 ≤ 0 ∧ 0 < 64) <|
Lt (up M2 46 0 0) fun M3 =>
Lt (M3 0 33) fun v4 =>
gd (0 ≤ 0 ∧ 0 < 64) <|
Lt (up M3 47 0 v4) fun M5 =>
gd (0 ≤ 0 ∧ 0 < 64) <|
Lt (up M5 48 0 ((-1))) fun M6 =>
gd (0 ≤ 0 ∧ 0 < 64) <|
Lt (up M6 49 0 0) fun M7 =>
Lt (fun (M8 : Mm) => 
some (0, M8)) fun J380_9 =>
Lp (f_X12_makes_L45_107 J380_9) FU (1, M7)
def f_X12_drops_L3_43 (a1 : Int) (a2 : Int) (a3 : Int) (J94_2 : Mm → Rs) (rc3_5 : Int × Mm → Rs) : Int × Mm → Rs := fun (v3, M4) =>
if 360 ≤ v3 then (
J94_2 M4) else (
gd (0 ≤ v3 ∧ v3 < 720) <|
Lt (M4 53 v3.toNat) fun v7 =>
Lt (land_ v7 a1) fun v8 =>
Lt (lcmp_ v8 0) fun v9 =>
Lt (fun (v10 : Int) (v11 : Int) (M12 : Mm) => 
gd (0 ≤ v10 ∧ v10 < 720) <|
Lt (M12 50 v10.toNat) fun v14 =>
Lt (fun (v15 : Int) (v16 : Int) (v17 : Int) (M18 : Mm) => 
gd (0 ≤ v16 ∧ v16 < 720) <|
Lt (up M18 50 v16.toNat v17) fun M20 =>
Lt (wr (v15 + 1)) fun v21 =>
rc3_5 (v21, M20)) fun J87_19 =>
Lt (fun (v22 : Int) (v23 : Int) (M24 : Mm) => 
J87_19 v22 v23 0 M24) fun J86_25 =>
if v14 = 0 then (
J86_25 v10 v10 M12) else (
if ¬ v11 = 0 then (
J86_25 v10 v10 M12) else (
J87_19 v10 v10 1 M12))) fun J59_13 =>
Lt (fun (v28 : Int) (M29 : Mm) => 
J59_13 v28 1 M29) fun J54_30 =>
if ¬ v9 = 0 then (
J54_30 v3 M4) else (
Lt (wr (Int.tdiv v3 6)) fun v32 =>
Lt (lshr_ a2 v32) fun v33 =>
Lt (land_ v33 1) fun v34 =>
Lt (lcmp_ v34 1) fun v35 =>
if v35 = 0 then (
J54_30 v3 M4) else (
gd (0 ≤ v3 ∧ v3 < 720) <|
Lt (M4 54 v3.toNat) fun v37 =>
Lt (fun (v38 : Int) (M39 : Mm) => 
J59_13 v38 0 M39) fun J58_40 =>
if v37 = 0 then (
J58_40 v3 M4) else (
if a3 = 0 then (
J58_40 v3 M4) else (
J54_30 v3 M4)))))
def f_X12_drops (a1 : Int) (a2 : Int) (a3 : Int) (M : Mm) : Rs :=
Lt (fun (M1 : Mm) => 
some (0, M1)) fun J94_2 =>
Lp (f_X12_drops_L3_43 a1 a2 a3 J94_2) FU (0, M)
def f_X12_keepsNodes_L285_95 (v11 : Int) (J314_60 : Int → Int → Int → Int → Int → Mm → Rs) (rc285_78 : Int × Int × Int × Int × Int × Mm → Rs) : Int × Int × Int × Int × Int × Mm → Rs := fun (v72, v73, v74, v75, v76, M77) =>
Lt (lshr_ v72 v75) fun v79 =>
Lt (land_ v79 1) fun v80 =>
Lt (lcmp_ v80 1) fun v81 =>
Lt (fun (v82 : Int) (v83 : Int) (v84 : Int) (v85 : Int) (v86 : Int) (M87 : Mm) => 
Lt (wr (v85 + 1)) fun v89 =>
rc285_78 (v82, v83, v84, v89, v86, M87)) fun J308_88 =>
if v81 = 0 then (
J308_88 v72 v73 v74 v75 v76 M77) else (
Lt (lshr_ v11 v75) fun v91 =>
Lt (land_ v91 1) fun v92 =>
Lt (lcmp_ v92 1) fun v93 =>
if ¬ v93 = 0 then (
J314_60 v72 v73 v74 v75 v76 M77) else (
J308_88 v72 v73 v74 v75 v76 M77))
def f_X12_keepsNodes_L262_96 (v11 : Int) (J378_16 : Int → Int → Int → Mm → Rs) (rc262_40 : Int × Int × Int × Int × Int × Int × Mm → Rs) : Int × Int × Int × Int × Int × Int × Mm → Rs := fun (v33, v34, v35, v36, v37, v38, M39) =>
Lt (M39 0 35) fun v41 =>
if v41 ≤ v38 then (
J378_16 v34 v35 v36 M39) else (
gd (0 ≤ v38 ∧ v38 < 30) <|
Lt (M39 42 v38.toNat) fun v43 =>
Lt (fun (v44 : Int) (v45 : Int) (v46 : Int) (v47 : Int) (v48 : Int) (v49 : Int) (M50 : Mm) => 
Lt (wr (v49 + 1)) fun v52 =>
rc262_40 (v44, v45, v46, v47, v48, v52, M50)) fun J372_51 =>
if ¬ v43 = ((-1)) then (
J372_51 v33 v34 v35 v36 v37 v38 M39) else (
Lt (fun (v54 : Int) (v55 : Int) (v56 : Int) (v57 : Int) (v58 : Int) (M59 : Mm) => 
gd (0 ≤ v58 ∧ v58 < 30) <|
Lt (up M59 36 v58.toNat v57) fun M61 =>
Lt (wr (v57 + 1)) fun v62 =>
gd (0 ≤ v58 ∧ v58 < 30) <|
Lt (M61 32 v58.toNat) fun v63 =>
if v63 = ((-1)) then (
J372_51 v54 v55 v56 1 v62 v58 M61) else (
gd (0 ≤ v58 ∧ v58 < 30) <|
Lt (M61 32 v58.toNat) fun v65 =>
gd (0 ≤ v65 ∧ v65 < 30) <|
Lt (M61 42 v65.toNat) fun v66 =>
if v66 = ((-1)) then (
J372_51 v54 v55 v56 1 v62 v58 M61) else (
gd (0 ≤ v58 ∧ v58 < 30) <|
Lt (M61 32 v58.toNat) fun v68 =>
gd (0 ≤ v68 ∧ v68 < 30) <|
Lt (M61 36 v68.toNat) fun v69 =>
Lt (lshl_ 1 v69) fun v70 =>
Lt (lor_ v56 v70) fun v71 =>
J372_51 v54 v55 v71 1 v62 v58 M61))) fun J314_60 =>
Lp (f_X12_keepsNodes_L285_95 v11 J314_60) FU (v33, v34, v35, v37, v38, M39)))
def f_X12_keepsNodes_L210_109 (J239_9 : Int → Int → Int → Mm → Rs) (rc210_102 : Int × Int × Int × Int × Mm → Rs) : Int × Int × Int × Int × Mm → Rs := fun (v97, v98, v99, v100, M101) =>
Lt (M101 0 44) fun v103 =>
if v103 ≤ v100 then (
J239_9 v97 v98 v99 M101) else (
gd (0 ≤ v100 ∧ v100 < 30) <|
Lt (M101 41 v100.toNat) fun v105 =>
Lt (lshl_ 1 v105) fun v106 =>
Lt (lor_ v99 v106) fun v107 =>
Lt (wr (v100 + 1)) fun v108 =>
rc210_102 (v97, v98, v107, v108, M101))
def f_X12_keepsNodes_L7_176 (J204_4 : Int → Int → Mm → Rs) (rc7_114 : Int × Int × Int × Mm → Rs) : Int × Int × Int × Mm → Rs := fun (v110, v111, v112, M113) =>
Lt (M113 0 35) fun v115 =>
if v115 ≤ v112 then (
J204_4 v110 v111 M113) else (
gd (0 ≤ v112 ∧ v112 < 30) <|
Lt (M113 32 v112.toNat) fun v117 =>
Lt (fun (v118 : Int) (v119 : Int) (v120 : Int) (v121 : Int) (M122 : Mm) => 
Lt (fun (v124 : Int) (v125 : Int) (v126 : Int) (v127 : Int) (M128 : Mm) => 
Lt (fun (v130 : Int) (v131 : Int) (v132 : Int) (v133 : Int) (v134 : Int) (M135 : Mm) => 
gd (0 ≤ v133 ∧ v133 < 30) <|
Lt (up M135 42 v133.toNat v134) fun M137 =>
Lt (fun (v138 : Int) (v139 : Int) (v140 : Int) (M141 : Mm) => 
Lt (wr (v140 + 1)) fun v143 =>
rc7_114 (v138, v139, v143, M141)) fun J198_142 =>
if v127 = 0 then (
J198_142 v130 v131 v132 M137) else (
gd (0 ≤ v121 ∧ v121 < 30) <|
Lt (M137 38 v121.toNat) fun v145 =>
gd (0 ≤ v132 ∧ v132 < 30) <|
Lt (up M137 31 v132.toNat v145) fun M146 =>
gd (0 ≤ v121 ∧ v121 < 30) <|
Lt (M146 41 v121.toNat) fun v147 =>
gd (0 ≤ v132 ∧ v132 < 30) <|
Lt (up M146 36 v132.toNat v147) fun M148 =>
gd (0 ≤ v132 ∧ v132 < 30) <|
Lt (M148 36 v132.toNat) fun v149 =>
Lt (lshl_ 1 v149) fun v150 =>
Lt (lor_ v130 v150) fun v151 =>
Lt (wr (v131 + 1)) fun v152 =>
J198_142 v151 v152 v132 M148)) fun J149_136 =>
if v127 = 0 then (
J149_136 v124 v125 v126 v126 ((-1)) M128) else (
J149_136 v124 v125 v126 v126 v121 M128)) fun J130_129 =>
Lt (fun (v154 : Int) (v155 : Int) (v156 : Int) (M157 : Mm) => 
J130_129 v154 v155 v156 0 M157) fun J129_158 =>
if v121 = ((-1)) then (
J129_158 v118 v119 v120 M122) else (
gd (0 ≤ v121 ∧ v121 < 30) <|
Lt (M122 37 v121.toNat) fun v160 =>
gd (0 ≤ v120 ∧ v120 < 30) <|
Lt (M122 30 v120.toNat) fun v161 =>
if ¬ v160 = v161 then (
J129_158 v118 v119 v120 M122) else (
gd (0 ≤ v121 ∧ v121 < 30) <|
Lt (M122 40 v121.toNat) fun v163 =>
gd (0 ≤ v120 ∧ v120 < 30) <|
Lt (M122 35 v120.toNat) fun v164 =>
if ¬ v163 = v164 then (
J129_158 v118 v119 v120 M122) else (
J130_129 v118 v119 v120 1 M122)))) fun J83_123 =>
if ¬ v117 = ((-1)) then (
gd (0 ≤ v117 ∧ v117 < 30) <|
Lt (M113 42 v117.toNat) fun v167 =>
if ¬ v167 = ((-1)) then (
gd (0 ≤ v117 ∧ v117 < 30) <|
Lt (M113 42 v117.toNat) fun v169 =>
Lt (wr (3 * v169)) fun v170 =>
gd (0 ≤ v112 ∧ v112 < 30) <|
Lt (M113 33 v112.toNat) fun v171 =>
Lt (wr (v170 + v171)) fun v172 =>
gd (0 ≤ v172 ∧ v172 < 90) <|
Lt (M113 39 v172.toNat) fun v173 =>
J83_123 v110 v111 v112 v173 M113) else (
J83_123 v110 v111 v112 ((-1)) M113)) else (
Lt (M113 0 44) fun v174 =>
if v174 ≤ 0 then (
J83_123 v110 v111 v112 ((-1)) M113) else (
J83_123 v110 v111 v112 0 M113)))
def f_X12_keepsNodes (M : Mm) : Rs :=
Lt (fun (v1 : Int) (v2 : Int) (M3 : Mm) => 
Lt (fun (v5 : Int) (v6 : Int) (v7 : Int) (M8 : Mm) => 
Lt (lxor_ v5 ((-1))) fun v10 =>
Lt (land_ v7 v10) fun v11 =>
Lt (fun (v12 : Int) (v13 : Int) (v14 : Int) (M15 : Mm) => 
Lt (fun (v17 : Int) (v18 : Int) (v19 : Int) (M20 : Mm) => 
Cl (f_X12_drops v18 v11 v19 M20) fun _ M22 =>
Lt (M22 0 35) fun v23 =>
Lt (wr (100 * v23)) fun v24 =>
Lt (wr (v24 + v17)) fun v25 =>
some (v25, M22)) fun J400_21 =>
Lt (fun (v26 : Int) (v27 : Int) (M28 : Mm) => 
J400_21 v26 v27 1 M28) fun J395_29 =>
if ¬ v14 = 0 then (
J395_29 v12 v13 M15) else (
Lt (lcmp_ v13 0) fun v31 =>
if v31 = 0 then (
J400_21 v12 v13 0 M15) else (
J395_29 v12 v13 M15))) fun J378_16 =>
Lp (f_X12_keepsNodes_L262_96 v11 J378_16) FU (v5, v6, v11, 0, 0, 0, M8)) fun J239_9 =>
Lp (f_X12_keepsNodes_L210_109 J239_9) FU (v1, v2, 0, 0, M3)) fun J204_4 =>
Lp (f_X12_keepsNodes_L7_176 J204_4) FU (0, 0, 0, M)
def f_X12_reads_L68_60 (J99_46 : Int → Mm → Rs) (rc68_51 : Int × Int × Mm → Rs) : Int × Int × Mm → Rs := fun (v48, v49, M50) =>
if 3 ≤ v49 then (
J99_46 v48 M50) else (
Lt (wr (3 * v48)) fun v53 =>
Lt (wr (v53 + v49)) fun v54 =>
Lt (wr (3 * v48)) fun v55 =>
Lt (wr (v55 + v49)) fun v56 =>
gd (0 ≤ v56 ∧ v56 < 90) <|
Lt (M50 34 v56.toNat) fun v57 =>
gd (0 ≤ v54 ∧ v54 < 90) <|
Lt (up M50 39 v54.toNat v57) fun M58 =>
Lt (wr (v49 + 1)) fun v59 =>
rc68_51 (v48, v59, M58))
def f_X12_reads_L10_61 (J105_4 : Mm → Rs) (rc10_33 : Int × Mm → Rs) : Int × Mm → Rs := fun (v31, M32) =>
Lt (M32 0 35) fun v34 =>
if v34 ≤ v31 then (
J105_4 M32) else (
gd (0 ≤ v31 ∧ v31 < 30) <|
Lt (M32 30 v31.toNat) fun v36 =>
gd (0 ≤ v31 ∧ v31 < 30) <|
Lt (up M32 37 v31.toNat v36) fun M37 =>
gd (0 ≤ v31 ∧ v31 < 30) <|
Lt (M37 31 v31.toNat) fun v38 =>
gd (0 ≤ v31 ∧ v31 < 30) <|
Lt (up M37 38 v31.toNat v38) fun M39 =>
gd (0 ≤ v31 ∧ v31 < 30) <|
Lt (M39 35 v31.toNat) fun v40 =>
gd (0 ≤ v31 ∧ v31 < 30) <|
Lt (up M39 40 v31.toNat v40) fun M41 =>
gd (0 ≤ v31 ∧ v31 < 30) <|
Lt (M41 36 v31.toNat) fun v42 =>
gd (0 ≤ v31 ∧ v31 < 30) <|
Lt (up M41 41 v31.toNat v42) fun M43 =>
Lt (fun (v44 : Int) (M45 : Mm) => 
Lt (wr (v44 + 1)) fun v47 =>
rc10_33 (v47, M45)) fun J99_46 =>
Lp (f_X12_reads_L68_60 J99_46) FU (v31, 0, M43))
def f_X12_reads (M : Mm) : Rs :=
Lt (M 0 35) fun v1 =>
Lt (up M 0 44 v1) fun M2 =>
Lt (fun (M3 : Mm) => 
Cl (f_X12_findsBest M3) fun _ M5 =>
Lt (M5 0 33) fun v6 =>
Cl (f_X12_stretch 0 0 v6 M5) fun v8 M7 =>
gd (0 ≤ v8 ∧ v8 < 676) <|
Lt (M7 43 v8.toNat) fun v9 =>
Lt (fun (v10 : Int) (M11 : Mm) => 
Lt (up M11 0 35 0) fun M13 =>
Lt (fun (v14 : Int) (M15 : Mm) => 
Lt (up M15 0 36 v14) fun M17 =>
Lt (fun (M18 : Mm) => 
Cl (f_X12_keepsNodes M18) fun v21 M20 =>
some (v21, M20)) fun J179_19 =>
if v10 = 0 then (
J179_19 M17) else (
Cl (f_X12_makes M17) fun _ M23 =>
J179_19 M23)) fun J168_16 =>
if v10 = 0 then (
J168_16 ((-1)) M13) else (
gd (0 ≤ v8 ∧ v8 < 676) <|
Lt (M13 43 v8.toNat) fun v25 =>
J168_16 v25 M13)) fun J147_12 =>
Lt (fun (M26 : Mm) => 
J147_12 0 M26) fun J146_27 =>
if 99999 ≤ v9 then (
J146_27 M7) else (
gd (0 ≤ v8 ∧ v8 < 676) <|
Lt (M7 44 v8.toNat) fun v29 =>
if 30 < v29 then (
J146_27 M7) else (
J147_12 1 M7))) fun J105_4 =>
Lp (f_X12_reads_L10_61 J105_4) FU (0, M2)
def f_X12_insert_L69_27 (a1 : Int) (J97_12 : Mm → Rs) (rc69_21 : Int × Mm → Rs) : Int × Mm → Rs := fun (v19, M20) =>
if v19 ≤ a1 then (
J97_12 M20) else (
Lt (wr (v19 - 1)) fun v23 =>
gd (0 ≤ v23 ∧ v23 < 12) <|
Lt (M20 29 v23.toNat) fun v24 =>
gd (0 ≤ v19 ∧ v19 < 12) <|
Lt (up M20 29 v19.toNat v24) fun M25 =>
Lt (wr (v19 + (-1))) fun v26 =>
rc69_21 (v26, M25))
def f_X12_insert (a1 : Int) (a2 : Int) (M : Mm) : Rs :=
Lt (M 0 33) fun v1 =>
Cl (f_X12_isIn a1 0 v1 M) fun v3 M2 =>
Lt (fun (v4 : Int) (M5 : Mm) => 
Cl (f_X12_fails v4 M5) fun v8 M7 =>
if v8 = 0 then (
Lt (M7 0 33) fun v10 =>
Lt (fun (M11 : Mm) => 
gd (0 ≤ a1 ∧ a1 < 12) <|
Lt (up M11 29 a1.toNat a2) fun M13 =>
Lt (M13 0 33) fun v14 =>
Lt (wr (v14 + 1)) fun v15 =>
Lt (up M13 0 33 v15) fun M16 =>
Cl (f_X12_reads M16) fun v18 M17 =>
some (v18, M17)) fun J97_12 =>
Lp (f_X12_insert_L69_27 a1 J97_12) FU (v10, M7)) else (
some (0, M7))) fun J55_6 =>
if ¬ v3 = 0 then (
Cl (f_X12_isIn a2 97 102 M2) fun v30 M29 =>
if ¬ v30 = 0 then (
Lt (M29 0 33) fun v32 =>
Lt (fun (M33 : Mm) => 
J55_6 3 M33) fun J50_34 =>
if v32 = 12 then (
J50_34 M29) else (
Lt (M29 0 0) fun v36 =>
if ¬ v36 = 0 then (
J55_6 0 M29) else (
J50_34 M29))) else (
J55_6 2 M29)) else (
J55_6 1 M2)
def f_X12_delete_L53_27 (J81_15 : Mm → Rs) (rc53_20 : Int × Mm → Rs) : Int × Mm → Rs := fun (v18, M19) =>
Lt (M19 0 33) fun v21 =>
if v21 ≤ v18 then (
J81_15 M19) else (
Lt (wr (v18 + 1)) fun v23 =>
gd (0 ≤ v23 ∧ v23 < 12) <|
Lt (M19 29 v23.toNat) fun v24 =>
gd (0 ≤ v18 ∧ v18 < 12) <|
Lt (up M19 29 v18.toNat v24) fun M25 =>
Lt (wr (v18 + 1)) fun v26 =>
rc53_20 (v26, M25))
def f_X12_delete (a1 : Int) (M : Mm) : Rs :=
Lt (M 0 33) fun v1 =>
Lt (wr (v1 - 1)) fun v2 =>
Cl (f_X12_isIn a1 0 v2 M) fun v4 M3 =>
Lt (fun (v5 : Int) (M6 : Mm) => 
Cl (f_X12_fails v5 M6) fun v9 M8 =>
if v9 = 0 then (
Lt (M8 0 33) fun v11 =>
Lt (wr (v11 - 1)) fun v12 =>
Lt (up M8 0 33 v12) fun M13 =>
Lt (fun (M14 : Mm) => 
Cl (f_X12_reads M14) fun v17 M16 =>
some (v17, M16)) fun J81_15 =>
Lp (f_X12_delete_L53_27 J81_15) FU (a1, M13)) else (
some (0, M8))) fun J33_7 =>
if ¬ v4 = 0 then (
Lt (M3 0 0) fun v29 =>
if ¬ v29 = 0 then (
J33_7 0 M3) else (
J33_7 2 M3)) else (
J33_7 1 M3)
def f_X12_read (M : Mm) : Rs :=
Lt (M 0 0) fun v1 =>
Lt (fun (v2 : Int) (M3 : Mm) => 
Cl (f_X12_fails v2 M3) fun v6 M5 =>
Lt (fun (v7 : Int) (M8 : Mm) => 
some (v7, M8)) fun J27_9 =>
if v6 = 0 then (
Cl (f_X12_reads M5) fun v12 M11 =>
J27_9 v12 M11) else (
J27_9 0 M5)) fun J13_4 =>
if ¬ v1 = 0 then (
J13_4 0 M) else (
J13_4 1 M)
def f_X12_cost (M : Mm) : Rs :=
Lt (M 0 36) fun v1 =>
Cl (f_X12_tells v1 M) fun v3 M2 =>
some (v3, M2)
def f_X12_node (a1 : Int) (M : Mm) : Rs :=
Cl (f_X12_isNode a1 M) fun v2 M1 =>
Lt (fun (v3 : Int) (M4 : Mm) => 
Cl (f_X12_fails v3 M4) fun v7 M6 =>
Lt (fun (v8 : Int) (M9 : Mm) => 
some (v8, M9)) fun J58_10 =>
if v7 = 0 then (
gd (0 ≤ a1 ∧ a1 < 30) <|
Lt (M6 32 a1.toNat) fun v12 =>
Lt (wr (v12 + 1)) fun v13 =>
Lt (wr (1000 * v13)) fun v14 =>
gd (0 ≤ a1 ∧ a1 < 30) <|
Lt (M6 30 a1.toNat) fun v15 =>
Lt (wr (10 * v15)) fun v16 =>
Lt (wr (v14 + v16)) fun v17 =>
gd (0 ≤ a1 ∧ a1 < 30) <|
Lt (M6 30 a1.toNat) fun v18 =>
gd (0 ≤ v18 ∧ v18 < 10) <|
Lt (M6 4 v18.toNat) fun v19 =>
Lt (wr (v17 + v19)) fun v20 =>
J58_10 v20 M6) else (
J58_10 0 M6)) fun J14_5 =>
if v2 = 0 then (
J14_5 1 M1) else (
J14_5 0 M1)
def f_X12_at (a1 : Int) (a2 : Int) (M : Mm) : Rs :=
Lt (M 0 68) fun v1 =>
gd (0 ≤ a1 ∧ a1 < 30) <|
Lt (M 36 a1.toNat) fun v2 =>
Lt (wr (6 * v2)) fun v3 =>
Lt (wr (v1 + v3)) fun v4 =>
Lt (wr (v4 + a2)) fun v5 =>
some (v5, M)
def f_X12_records_L4_29 (a1 : Int) (J38_3 : Int → Mm → Rs) (rc4_15 : Int × Int × Mm → Rs) : Int × Int × Mm → Rs := fun (v12, v13, M14) =>
Lt (M14 0 80) fun v16 =>
if v16 ≤ v13 then (
J38_3 v12 M14) else (
Lt (fun (v18 : Int) (v19 : Int) (M20 : Mm) => 
Lt (wr (v18 + 1)) fun v22 =>
rc4_15 (v19, v22, M20)) fun J31_21 =>
Lt (fun (v23 : Int) (M24 : Mm) => 
J31_21 v23 1 M24) fun J26_25 =>
if ¬ v12 = 0 then (
J26_25 v13 M14) else (
gd (0 ≤ v13 ∧ v13 < 240) <|
Lt (M14 61 v13.toNat) fun v27 =>
if ¬ v27 = a1 then (
J31_21 v13 0 M14) else (
J26_25 v13 M14)))
def f_X12_records (a1 : Int) (M : Mm) : Rs :=
Lt (fun (v1 : Int) (M2 : Mm) => 
Lt (fun (M4 : Mm) => 
some (0, M4)) fun J62_5 =>
if ¬ v1 = 0 then (
J62_5 M2) else (
Lt (M2 0 80) fun v7 =>
gd (0 ≤ v7 ∧ v7 < 240) <|
Lt (up M2 61 v7.toNat a1) fun M8 =>
Lt (M8 0 80) fun v9 =>
Lt (wr (v9 + 1)) fun v10 =>
Lt (up M8 0 80 v10) fun M11 =>
J62_5 M11)) fun J38_3 =>
Lp (f_X12_records_L4_29 a1 J38_3) FU (0, 0, M)
def f_X12_looksAt (a1 : Int) (a2 : Int) (M : Mm) : Rs :=
Lt (M 0 72) fun v1 =>
if v1 = ((-1)) then (
Lt (M 0 79) fun v3 =>
Lt (fun (M4 : Mm) => 
gd (0 ≤ a2 ∧ a2 < 6) <|
Lt (M4 12 a2.toNat) fun v6 =>
if ¬ v6 = 3 then (
Cl (f_X12_at a1 a2 M4) fun v9 M8 =>
gd (0 ≤ v9 ∧ v9 < 720) <|
Lt (M8 50 v9.toNat) fun v10 =>
if v10 = 0 then (
gd (0 ≤ v9 ∧ v9 < 720) <|
Lt (M8 51 v9.toNat) fun v12 =>
if v12 = 0 then (
Lt (up M8 0 72 a1) fun M14 =>
Lt (up M14 0 73 a2) fun M15 =>
some ((-1), M15)) else (
some ((-2), M8))) else (
Lt (M8 0 74) fun v16 =>
gd (0 ≤ v9 ∧ v9 < 720) <|
Lt (M8 53 v9.toNat) fun v17 =>
Lt (lor_ v16 v17) fun v18 =>
Lt (up M8 0 74 v18) fun M19 =>
Lt (M19 0 75) fun v20 =>
Lt (fun (v21 : Int) (M22 : Mm) => 
Lt (up M22 0 75 v21) fun M24 =>
gd (0 ≤ v9 ∧ v9 < 720) <|
Lt (M24 52 v9.toNat) fun v25 =>
some (v25, M24)) fun J120_23 =>
Lt (fun (M26 : Mm) => 
J120_23 1 M26) fun J115_27 =>
if ¬ v20 = 0 then (
J115_27 M19) else (
gd (0 ≤ v9 ∧ v9 < 720) <|
Lt (M19 54 v9.toNat) fun v29 =>
if v29 = 0 then (
J120_23 0 M19) else (
J115_27 M19)))) else (
Lt (up M4 0 75 1) fun M31 =>
gd (0 ≤ a1 ∧ a1 < 30) <|
Lt (M31 36 a1.toNat) fun v32 =>
Lt (wr (6 * v32)) fun v33 =>
Lt (wr (v33 + a2)) fun v34 =>
gd (0 ≤ v34 ∧ v34 < 360) <|
Lt (M31 55 v34.toNat) fun v35 =>
some (v35, M31))) fun J35_5 =>
if v3 = 0 then (
J35_5 M) else (
Lt (M 0 69) fun v37 =>
if ¬ v37 = 1 then (
J35_5 M) else (
Lt (wr (10 * a1)) fun v39 =>
Lt (wr (v39 + a2)) fun v40 =>
Cl (f_X12_records v40 M) fun _ M41 =>
J35_5 M41))) else (
some ((-1), M))
def f_X12_childFor (a1 : Int) (a2 : Int) (M : Mm) : Rs :=
Lt (fun (v1 : Int) (M2 : Mm) => 
Lt (fun (v4 : Int) (M5 : Mm) => 
some (v4, M5)) fun J50_6 =>
Lt (fun (M7 : Mm) => 
J50_6 ((-1)) M7) fun J36_8 =>
if v1 = ((-1)) then (
J36_8 M2) else (
gd (0 ≤ a1 ∧ a1 < 30) <|
Lt (M2 31 a1.toNat) fun v10 =>
gd (0 ≤ v10 ∧ v10 < 10) <|
Lt (M2 4 v10.toNat) fun v11 =>
if v1 < v11 then (
Lt (wr (3 * a1)) fun v13 =>
Lt (wr (v13 + v1)) fun v14 =>
gd (0 ≤ v14 ∧ v14 < 90) <|
Lt (M2 34 v14.toNat) fun v15 =>
J50_6 v15 M2) else (
J36_8 M2))) fun J15_3 =>
if 3 ≤ a2 then (
J15_3 ((-1)) M) else (
gd (0 ≤ a2 ∧ a2 < 3) <|
Lt (M 59 a2.toNat) fun v17 =>
J15_3 v17 M)
def f_X12_plain (a1 : Int) (a2 : Int) (a3 : Int) (M : Mm) : Rs :=
gd (0 ≤ a1 ∧ a1 < 240) <|
Lt (M 22 a1.toNat) fun v1 =>
gd (0 ≤ a1 ∧ a1 < 240) <|
Lt (M 23 a1.toNat) fun v2 =>
Lt (M 0 76) fun v3 =>
Lt (fun (v4 : Int) (M5 : Mm) => 
gd (0 ≤ a3 ∧ a3 < 10) <|
Lt (M5 4 a3.toNat) fun v7 =>
Lt (fun (v8 : Int) (M9 : Mm) => 
gd (0 ≤ a1 ∧ a1 < 240) <|
Lt (M9 21 a1.toNat) fun v11 =>
if v11 = 0 then (
some (v1, M9)) else (
if v11 = 1 then (
Cl (f_X12_looksAt a2 v1 M9) fun v14 M13 =>
some (v14, M13)) else (
if v11 = 2 then (
Lt (fun (v16 : Int) (M17 : Mm) => 
some (v16, M17)) fun J149_18 =>
if ¬ v8 = ((-1)) then (
Cl (f_X12_looksAt v8 v1 M9) fun v21 M20 =>
J149_18 v21 M20) else (
J149_18 ((-1)) M9)) else (
if v11 = 3 then (
Lt (fun (v23 : Int) (M24 : Mm) => 
some (v23, M24)) fun J178_25 =>
if ¬ v4 = ((-1)) then (
gd (0 ≤ a2 ∧ a2 < 30) <|
Lt (M9 30 a2.toNat) fun v27 =>
Lt (wr (3 * v27)) fun v28 =>
Lt (wr (v28 + v4)) fun v29 =>
gd (0 ≤ v29 ∧ v29 < 30) <|
Lt (M9 7 v29.toNat) fun v30 =>
Lt (wr (v30 - 3)) fun v31 =>
J178_25 v31 M9) else (
J178_25 ((-1)) M9)) else (
if v11 = 4 then (
Lt (fun (v33 : Int) (M34 : Mm) => 
some (v33, M34)) fun J200_35 =>
if ¬ v4 = ((-1)) then (
gd (0 ≤ a2 ∧ a2 < 30) <|
Lt (M9 35 a2.toNat) fun v37 =>
Lt (jshr v37 v4) fun v38 =>
Lt (jand v38 1) fun v39 =>
J200_35 v39 M9) else (
J200_35 ((-1)) M9)) else (
if v11 = 5 then (
gd (0 ≤ a2 ∧ a2 < 30) <|
Lt (M9 36 a2.toNat) fun v41 =>
Lt (wr (1000 + v41)) fun v42 =>
some (v42, M9)) else (
if v11 = 6 then (
Lt (fun (v44 : Int) (M45 : Mm) => 
some (v44, M45)) fun J233_46 =>
if ¬ v8 = ((-1)) then (
gd (0 ≤ v8 ∧ v8 < 30) <|
Lt (M9 36 v8.toNat) fun v48 =>
Lt (wr (1000 + v48)) fun v49 =>
J233_46 v49 M9) else (
J233_46 ((-1)) M9)) else (
gd (0 ≤ a2 ∧ a2 < 30) <|
Lt (M9 31 a2.toNat) fun v51 =>
some (v51, M9))))))))) fun J69_10 =>
if v7 ≤ v2 then (
J69_10 ((-1)) M5) else (
Cl (f_X12_childFor a2 v2 M5) fun v54 M53 =>
J69_10 v54 M53)) fun J45_6 =>
Lt (fun (M55 : Mm) => 
J45_6 ((-1)) M55) fun J44_56 =>
if ¬ v3 = 0 then (
J44_56 M) else (
gd (0 ≤ a2 ∧ a2 < 30) <|
Lt (M 30 a2.toNat) fun v58 =>
gd (0 ≤ v58 ∧ v58 < 10) <|
Lt (M 6 v58.toNat) fun v59 =>
if v59 ≤ v1 then (
J44_56 M) else (
J45_6 v1 M))
def f_X12_nodeAt_L4_17 (a1 : Int) (J34_3 : Int → Mm → Rs) (rc4_7 : Int × Int × Mm → Rs) : Int × Int × Mm → Rs := fun (v4, v5, M6) =>
Lt (M6 0 35) fun v8 =>
if v8 ≤ v5 then (
J34_3 v4 M6) else (
gd (0 ≤ v5 ∧ v5 < 30) <|
Lt (M6 36 v5.toNat) fun v10 =>
Lt (fun (v11 : Int) (v12 : Int) (M13 : Mm) => 
Lt (wr (v11 + 1)) fun v15 =>
rc4_7 (v12, v15, M13)) fun J27_14 =>
if ¬ v10 = a1 then (
J27_14 v5 v4 M6) else (
J27_14 v5 v5 M6))
def f_X12_nodeAt (a1 : Int) (M : Mm) : Rs :=
Lt (fun (v1 : Int) (M2 : Mm) => 
some (v1, M2)) fun J34_3 =>
Lp (f_X12_nodeAt_L4_17 a1 J34_3) FU ((-1), 0, M)
def f_X12_joined (a1 : Int) (a2 : Int) (a3 : Int) (M : Mm) : Rs :=
if ¬ a1 = 12 then (
Lt (fun (M2 : Mm) => 
some ((-1), M2)) fun J31_3 =>
if 1000 ≤ a2 then (
J31_3 M) else (
if a3 < 1000 then (
Lt (fun (v6 : Int) (M7 : Mm) => 
some (v6, M7)) fun J91_8 =>
if ¬ a1 = 8 then (
if ¬ a1 = 9 then (
if ¬ a1 = 10 then (
Lt (jor a2 a3) fun v12 =>
Lt (jrem v12 1000) fun v13 =>
J91_8 v13 M) else (
if a2 ≤ a3 then (
J91_8 a3 M) else (
J91_8 a2 M))) else (
Lt (wr (a2 * a3)) fun v15 =>
Lt (jrem v15 1000) fun v16 =>
J91_8 v16 M)) else (
Lt (wr (a2 + a3)) fun v17 =>
Lt (jrem v17 1000) fun v18 =>
J91_8 v18 M)) else (
J31_3 M))) else (
Lt (fun (v19 : Int) (M20 : Mm) => 
some (v19, M20)) fun J16_21 =>
if ¬ a2 = a3 then (
J16_21 0 M) else (
J16_21 1 M))
def f_X12_expressed_L28_102 (a3 : Int) (v1 : Int) (J330_6 : Int → Mm → Rs) (rc28_10 : Int × Int × Mm → Rs) : Int × Int × Mm → Rs := fun (v7, v8, M9) =>
if v7 ≤ 0 then (
J330_6 v8 M9) else (
Lt (M9 0 72) fun v12 =>
if ¬ v12 = ((-1)) then (
J330_6 v8 M9) else (
Lt (wr (v7 - 1)) fun v14 =>
gd (0 ≤ v14 ∧ v14 < 9) <|
Lt (M9 62 v14.toNat) fun v15 =>
gd (0 ≤ v15 ∧ v15 < 240) <|
Lt (M9 21 v15.toNat) fun v16 =>
Lt (wr (v7 - 1)) fun v17 =>
gd (0 ≤ v17 ∧ v17 < 9) <|
Lt (M9 63 v17.toNat) fun v18 =>
Lt (fun (v19 : Int) (v20 : Int) (v21 : Int) (M22 : Mm) => 
Cl (f_X12_taken v16 M22) fun v25 M24 =>
Lt (fun (v26 : Int) (v27 : Int) (M28 : Mm) => 
rc28_10 (v26, v27, M28)) fun J327_29 =>
if ¬ v25 = 0 then (
if ¬ v18 = 0 then (
Lt (fun (v32 : Int) (v33 : Int) (M34 : Mm) => 
Lt (wr (v32 + (-1))) fun v36 =>
J327_29 v36 v33 M34) fun J177_35 =>
if ¬ v21 = 0 then (
J177_35 v19 v20 M24) else (
Lt (fun (v38 : Int) (v39 : Int) (M40 : Mm) => 
if ¬ v16 = 7 then (
if ¬ v18 = 1 then (
Lt (wr (v38 - 1)) fun v44 =>
gd (0 ≤ v44 ∧ v44 < 9) <|
Lt (M40 64 v44.toNat) fun v45 =>
Cl (f_X12_joined v16 v45 v39 M40) fun v47 M46 =>
Lt (wr (v38 + (-1))) fun v48 =>
J327_29 v48 v47 M46) else (
Lt (wr (v38 - 1)) fun v49 =>
gd (0 ≤ v49 ∧ v49 < 9) <|
Lt (up M40 64 v49.toNat v39) fun M50 =>
Lt (wr (v38 - 1)) fun v51 =>
gd (0 ≤ v51 ∧ v51 < 9) <|
Lt (up M50 63 v51.toNat 2) fun M52 =>
Lt (wr (3 * v15)) fun v53 =>
Lt (fun (v54 : Int) (v55 : Int) (v56 : Int) (v57 : Int) (M58 : Mm) => 
Lt (wr (v53 + v57)) fun v60 =>
gd (0 ≤ v60 ∧ v60 < 720) <|
Lt (M58 24 v60.toNat) fun v61 =>
gd (0 ≤ v56 ∧ v56 < 9) <|
Lt (up M58 62 v56.toNat v61) fun M62 =>
gd (0 ≤ v54 ∧ v54 < 9) <|
Lt (up M62 63 v54.toNat 0) fun M63 =>
Lt (wr (v54 + 1)) fun v64 =>
J327_29 v64 v55 M63) fun J289_59 =>
Lt (fun (v65 : Int) (v66 : Int) (v67 : Int) (M68 : Mm) => 
J289_59 v65 v66 v67 1 M68) fun J288_69 =>
if ¬ v16 = 13 then (
J288_69 v38 v39 v38 M52) else (
if ¬ v39 = 0 then (
J288_69 v38 v39 v38 M52) else (
J289_59 v38 v39 v38 2 M52)))) else (
Lt (fun (v72 : Int) (v73 : Int) (M74 : Mm) => 
Lt (wr (v72 + (-1))) fun v76 =>
J327_29 v76 v73 M74) fun J223_75 =>
if 1000 ≤ v39 then (
Lt (wr (v39 - 1000)) fun v78 =>
Cl (f_X12_nodeAt v78 M40) fun v80 M79 =>
gd (0 ≤ v15 ∧ v15 < 240) <|
Lt (M79 22 v15.toNat) fun v81 =>
Cl (f_X12_looksAt v80 v81 M79) fun v83 M82 =>
J223_75 v38 v83 M82) else (
J223_75 v38 ((-1)) M40))) fun J183_41 =>
if ¬ v18 = 2 then (
J183_41 v19 v20 M24) else (
if ¬ v16 = 13 then (
J183_41 v19 v20 M24) else (
J177_35 v19 v20 M24)))) else (
Lt (wr (v19 - 1)) fun v86 =>
gd (0 ≤ v86 ∧ v86 < 9) <|
Lt (up M24 63 v86.toNat 1) fun M87 =>
Lt (wr (3 * v15)) fun v88 =>
gd (0 ≤ v88 ∧ v88 < 720) <|
Lt (M87 24 v88.toNat) fun v89 =>
gd (0 ≤ v19 ∧ v19 < 9) <|
Lt (up M87 62 v19.toNat v89) fun M90 =>
gd (0 ≤ v19 ∧ v19 < 9) <|
Lt (up M90 63 v19.toNat 0) fun M91 =>
Lt (wr (v19 + 1)) fun v92 =>
J327_29 v92 v20 M91)) else (
Cl (f_X12_plain v15 a3 v1 M24) fun v94 M93 =>
Lt (wr (v19 + (-1))) fun v95 =>
J327_29 v95 v94 M93)) fun J87_23 =>
Lt (fun (v96 : Int) (v97 : Int) (M98 : Mm) => 
J87_23 v96 v97 0 M98) fun J86_99 =>
if v18 ≤ 0 then (
J86_99 v7 v8 M9) else (
if 0 ≤ v8 then (
J86_99 v7 v8 M9) else (
J87_23 v7 v8 1 M9))))
def f_X12_expressed (a1 : Int) (a2 : Int) (a3 : Int) (M : Mm) : Rs :=
gd (0 ≤ a1 ∧ a1 < 30) <|
Lt (M 16 a1.toNat) fun v1 =>
gd (0 ≤ 0 ∧ 0 < 9) <|
Lt (up M 62 0 a2) fun M2 =>
gd (0 ≤ 0 ∧ 0 < 9) <|
Lt (up M2 63 0 0) fun M3 =>
Lt (fun (v4 : Int) (M5 : Mm) => 
some (v4, M5)) fun J330_6 =>
Lp (f_X12_expressed_L28_102 a3 v1 J330_6) FU (1, (-1), M3)
def f_X12_gathers_L58_94 (J79_42 : Int → Int → Int → Mm → Rs) (rc58_90 : Int × Int × Int × Int × Mm → Rs) : Int × Int × Int × Int × Mm → Rs := fun (v85, v86, v87, v88, M89) =>
if 3 ≤ v88 then (
J79_42 v85 v86 v87 M89) else (
gd (0 ≤ v88 ∧ v88 < 3) <|
Lt (up M89 59 v88.toNat v88) fun M92 =>
Lt (wr (v88 + 1)) fun v93 =>
rc58_90 (v85, v86, v87, v93, M92))
def f_X12_gathers_L22_95 (a1 : Int) (a2 : Int) (J167_8 : Int → Mm → Rs) (J202_18 : Int → Int → Mm → Rs) (rc22_24 : Int × Int × Int × Mm → Rs) : Int × Int × Int × Mm → Rs := fun (v20, v21, v22, M23) =>
Lt (M23 0 19) fun v25 =>
if v25 ≤ v22 then (
J202_18 v20 v21 M23) else (
gd (0 ≤ v21 ∧ v21 < 30) <|
Lt (M23 31 v21.toNat) fun v27 =>
Cl (f_X12_counts v22 v27 a2 ((-2)) M23) fun v29 M28 =>
Lt (fun (v30 : Int) (v31 : Int) (v32 : Int) (M33 : Mm) => 
Lt (wr (v32 + 1)) fun v35 =>
rc22_24 (v30, v31, v35, M33)) fun J196_34 =>
if v29 = 0 then (
J196_34 v20 v21 v22 M28) else (
Lt (up M28 0 76 0) fun M37 =>
Lt (fun (v38 : Int) (v39 : Int) (v40 : Int) (M41 : Mm) => 
gd (0 ≤ v40 ∧ v40 < 30) <|
Lt (M41 25 v40.toNat) fun v43 =>
Cl (f_X12_expressed v40 v43 v39 M41) fun v45 M44 =>
gd (0 ≤ a1 ∧ a1 < 30) <|
Lt (M44 36 a1.toNat) fun v46 =>
Lt (wr (1000 + v46)) fun v47 =>
Lt (fun (v48 : Int) (v49 : Int) (v50 : Int) (v51 : Int) (M52 : Mm) => 
Lt (fun (v54 : Int) (v55 : Int) (v56 : Int) (v57 : Int) (M58 : Mm) => 
Lt (M58 0 72) fun v60 =>
if ¬ v60 = ((-1)) then (
J167_8 v57 M58) else (
if v57 = ((-2)) then (
J167_8 v57 M58) else (
if ¬ v57 = ((-3)) then (
Lt (fun (v64 : Int) (v65 : Int) (v66 : Int) (v67 : Int) (M68 : Mm) => 
Lt (wr (v66 + v67)) fun v70 =>
J196_34 v70 v64 v65 M68) fun J194_69 =>
Lt (fun (v71 : Int) (v72 : Int) (v73 : Int) (M74 : Mm) => 
J194_69 v71 v72 v73 0 M74) fun J193_75 =>
if v51 = 0 then (
J193_75 v55 v56 v54 M58) else (
Cl (f_X12_isIn v57 0 999 M58) fun v78 M77 =>
if v78 = 0 then (
J193_75 v55 v56 v54 M77) else (
J194_69 v55 v56 v54 v57 M77))) else (
J167_8 v57 M58)))) fun J143_59 =>
if v51 = 0 then (
J143_59 v48 v49 v50 v45 M52) else (
gd (0 ≤ v50 ∧ v50 < 30) <|
Lt (M52 26 v50.toNat) fun v81 =>
Cl (f_X12_expressed v50 v81 v49 M52) fun v83 M82 =>
J143_59 v48 v49 v50 v83 M82)) fun J116_53 =>
if ¬ v45 = v47 then (
J116_53 v38 v39 v40 0 M44) else (
J116_53 v38 v39 v40 1 M44)) fun J79_42 =>
Lp (f_X12_gathers_L58_94 J79_42) FU (v20, v21, v22, 0, M37)))
def f_X12_gathers_L10_96 (a1 : Int) (a2 : Int) (J208_4 : Int → Mm → Rs) (J167_8 : Int → Mm → Rs) (rc10_12 : Int × Int × Mm → Rs) : Int × Int × Mm → Rs := fun (v9, v10, M11) =>
Lt (M11 0 35) fun v13 =>
if v13 ≤ v10 then (
J208_4 v9 M11) else (
Lt (fun (v15 : Int) (v16 : Int) (M17 : Mm) => 
Lt (wr (v16 + 1)) fun v19 =>
rc10_12 (v15, v19, M17)) fun J202_18 =>
Lp (f_X12_gathers_L22_95 a1 a2 J167_8 J202_18) FU (v9, v10, 0, M11))
def f_X12_gathers (a1 : Int) (a2 : Int) (M : Mm) : Rs :=
Lt (up M 0 75 1) fun M1 =>
Lt (fun (v2 : Int) (M3 : Mm) => 
Lt (jrem v2 1000) fun v5 =>
some (v5, M3)) fun J208_4 =>
Lt (fun (v6 : Int) (M7 : Mm) => 
some (v6, M7)) fun J167_8 =>
Lp (f_X12_gathers_L10_96 a1 a2 J208_4 J167_8) FU (0, 0, M1)
def f_X12_tries (a1 : Int) (a2 : Int) (M : Mm) : Rs :=
Lt (up M 0 72 ((-1))) fun M1 =>
gd (0 ≤ a1 ∧ a1 < 30) <|
Lt (M1 36 a1.toNat) fun v2 =>
Lt (lshl_ 1 v2) fun v3 =>
Lt (up M1 0 74 v3) fun M4 =>
Lt (up M4 0 75 0) fun M5 =>
Lt (M5 0 79) fun v6 =>
Lt (fun (v7 : Int) (M8 : Mm) => 
Lt (up M8 0 80 v7) fun M10 =>
gd (0 ≤ a2 ∧ a2 < 6) <|
Lt (M10 12 a2.toNat) fun v11 =>
if ¬ v11 = 2 then (
gd (0 ≤ a2 ∧ a2 < 6) <|
Lt (M10 12 a2.toNat) fun v13 =>
Lt (fun (v14 : Int) (v15 : Int) (M16 : Mm) => 
gd (0 ≤ v14 ∧ v14 < 30) <|
Lt (M16 31 v14.toNat) fun v18 =>
Cl (f_X12_equationFor v18 a2 v15 M16) fun v20 M19 =>
if ¬ v20 = ((-3)) then (
if ¬ v20 = ((-1)) then (
gd (0 ≤ v20 ∧ v20 < 30) <|
Lt (M19 25 v20.toNat) fun v23 =>
Cl (f_X12_expressed v20 v23 v14 M19) fun v25 M24 =>
some (v25, M24)) else (
gd (0 ≤ a2 ∧ a2 < 6) <|
Lt (M19 12 a2.toNat) fun v26 =>
Lt (fun (v27 : Int) (M28 : Mm) => 
some (v27, M28)) fun J171_29 =>
if ¬ v26 = 1 then (
J171_29 ((-1)) M19) else (
Cl (f_X12_looksAt v14 a2 M19) fun v32 M31 =>
J171_29 v32 M31))) else (
some ((-3), M19))) fun J120_17 =>
if ¬ v13 = 1 then (
J120_17 a1 ((-1)) M10) else (
gd (0 ≤ a1 ∧ a1 < 30) <|
Lt (M10 32 a1.toNat) fun v34 =>
gd (0 ≤ a1 ∧ a1 < 30) <|
Lt (M10 33 a1.toNat) fun v35 =>
if ¬ v34 = ((-1)) then (
Lt (M10 0 74) fun v37 =>
gd (0 ≤ v34 ∧ v34 < 30) <|
Lt (M10 36 v34.toNat) fun v38 =>
Lt (lshl_ 1 v38) fun v39 =>
Lt (lor_ v37 v39) fun v40 =>
Lt (up M10 0 74 v40) fun M41 =>
J120_17 v34 v35 M41) else (
some ((-1), M10)))) else (
Cl (f_X12_gathers a1 a2 M10) fun v43 M42 =>
some (v43, M42))) fun J46_9 =>
Lt (fun (M44 : Mm) => 
Lt (M44 0 80) fun v46 =>
J46_9 v46 M44) fun J42_45 =>
if v6 = 0 then (
J42_45 M5) else (
Lt (M5 0 69) fun v48 =>
if ¬ v48 = 1 then (
J42_45 M5) else (
J46_9 0 M5))
def f_X12_enters (a1 : Int) (a2 : Int) (M : Mm) : Rs :=
Lt (M 0 69) fun v1 =>
gd (0 ≤ v1 ∧ v1 < 200) <|
Lt (up M 57 v1.toNat a1) fun M2 =>
Lt (M2 0 69) fun v3 =>
gd (0 ≤ v3 ∧ v3 < 200) <|
Lt (up M2 58 v3.toNat a2) fun M4 =>
Cl (f_X12_at a1 a2 M4) fun v6 M5 =>
gd (0 ≤ v6 ∧ v6 < 720) <|
Lt (up M5 51 v6.toNat 1) fun M7 =>
Lt (M7 0 69) fun v8 =>
Lt (wr (v8 + 1)) fun v9 =>
Lt (up M7 0 69 v9) fun M10 =>
some (0, M10)
def f_X12_finds_L13_55 (J193_5 : Int → Mm → Rs) (rc13_8 : Int × Mm → Rs) : Int × Mm → Rs := fun (v6, M7) =>
Lt (M7 0 69) fun v9 =>
if v9 ≤ 0 then (
J193_5 v6 M7) else (
Lt (M7 0 69) fun v11 =>
Lt (wr (v11 - 1)) fun v12 =>
gd (0 ≤ v12 ∧ v12 < 200) <|
Lt (M7 57 v12.toNat) fun v13 =>
Lt (M7 0 69) fun v14 =>
Lt (wr (v14 - 1)) fun v15 =>
gd (0 ≤ v15 ∧ v15 < 200) <|
Lt (M7 58 v15.toNat) fun v16 =>
Cl (f_X12_tries v13 v16 M7) fun v18 M17 =>
Lt (M17 0 72) fun v19 =>
Lt (fun (M20 : Mm) => 
rc13_8 (v18, M20)) fun J190_21 =>
if v19 = ((-1)) then (
Lt (M17 0 69) fun v23 =>
Lt (wr (v23 - 1)) fun v24 =>
Lt (up M17 0 69 v24) fun M25 =>
Cl (f_X12_at v13 v16 M25) fun v27 M26 =>
gd (0 ≤ v27 ∧ v27 < 720) <|
Lt (up M26 51 v27.toNat 0) fun M28 =>
gd (0 ≤ v16 ∧ v16 < 6) <|
Lt (M28 12 v16.toNat) fun v29 =>
if v29 = 3 then (
J190_21 M28) else (
gd (0 ≤ v27 ∧ v27 < 720) <|
Lt (up M28 50 v27.toNat 1) fun M31 =>
gd (0 ≤ v27 ∧ v27 < 720) <|
Lt (up M31 52 v27.toNat v18) fun M32 =>
Lt (M32 0 74) fun v33 =>
gd (0 ≤ v27 ∧ v27 < 720) <|
Lt (up M32 53 v27.toNat v33) fun M34 =>
Lt (M34 0 75) fun v35 =>
Lt (fun (v36 : Int) (M37 : Mm) => 
gd (0 ≤ v27 ∧ v27 < 720) <|
Lt (up M37 54 v27.toNat v36) fun M39 =>
Lt (M39 0 67) fun v40 =>
Lt (M39 0 68) fun v41 =>
Lt (fun (v42 : Int) (M43 : Mm) => 
Lt (wr (v40 + v42)) fun v45 =>
Lt (up M43 0 67 v45) fun M46 =>
J190_21 M46) fun J186_44 =>
if ¬ v41 = 0 then (
J186_44 0 M39) else (
J186_44 1 M39)) fun J168_38 =>
Lt (fun (M48 : Mm) => 
J168_38 1 M48) fun J163_49 =>
if ¬ v35 = 0 then (
J163_49 M34) else (
if ¬ v18 = ((-2)) then (
J168_38 0 M34) else (
J163_49 M34)))) else (
Lt (M17 0 72) fun v52 =>
Lt (M17 0 73) fun v53 =>
Cl (f_X12_enters v52 v53 M17) fun _ M54 =>
J190_21 M54))
def f_X12_finds (a1 : Int) (a2 : Int) (M : Mm) : Rs :=
Lt (up M 0 69 0) fun M1 =>
Cl (f_X12_enters a1 a2 M1) fun _ M2 =>
Lt (fun (v3 : Int) (M4 : Mm) => 
some (v3, M4)) fun J193_5 =>
Lp (f_X12_finds_L13_55 J193_5) FU ((-1), M2)
def f_X12_clears_L11_10 (J31_3 : Mm → Rs) (rc11_6 : Int × Mm → Rs) : Int × Mm → Rs := fun (v4, M5) =>
if 720 ≤ v4 then (
J31_3 M5) else (
gd (0 ≤ v4 ∧ v4 < 720) <|
Lt (up M5 50 v4.toNat 0) fun M8 =>
Lt (wr (v4 + 1)) fun v9 =>
rc11_6 (v9, M8))
def f_X12_clears (M : Mm) : Rs :=
Lt (up M 0 68 360) fun M1 =>
Lt (fun (M2 : Mm) => 
some (0, M2)) fun J31_3 =>
Lp (f_X12_clears_L11_10 J31_3) FU (360, M1)
def f_X12_changes_L129_36 (J203_7 : Int → Mm → Rs) (rc129_11 : Int × Int × Mm → Rs) : Int × Int × Mm → Rs := fun (v8, v9, M10) =>
Lt (M10 0 35) fun v12 =>
Lt (wr (v12 * 6)) fun v13 =>
if v13 ≤ v9 then (
J203_7 v8 M10) else (
Lt (jrem v9 6) fun v15 =>
Lt (wr (Int.tdiv v9 6)) fun v16 =>
gd (0 ≤ v16 ∧ v16 < 30) <|
Lt (M10 36 v16.toNat) fun v17 =>
Lt (wr (6 * v17)) fun v18 =>
Lt (wr (v18 + v15)) fun v19 =>
Lt (M10 0 12) fun v20 =>
Lt (fun (v21 : Int) (v22 : Int) (v23 : Int) (M24 : Mm) => 
gd (0 ≤ v19 ∧ v19 < 360) <|
Lt (up M24 55 v19.toNat v23) fun M26 =>
Lt (wr (v22 + 1)) fun v27 =>
rc129_11 (v21, v27, M26)) fun J196_25 =>
Lt (fun (v28 : Int) (v29 : Int) (M30 : Mm) => 
J196_25 v28 v29 0 M30) fun J195_31 =>
if v20 ≤ v15 then (
J195_31 v8 v9 M10) else (
gd (0 ≤ v15 ∧ v15 < 6) <|
Lt (M10 12 v15.toNat) fun v33 =>
if ¬ v33 = 3 then (
J195_31 v8 v9 M10) else (
gd (0 ≤ v19 ∧ v19 < 360) <|
Lt (M10 56 v19.toNat) fun v35 =>
J196_25 v8 v9 v35 M10)))
def f_X12_changes_L8_78 (J127_4 : Int → Mm → Rs) (rc8_40 : Int × Int × Mm → Rs) : Int × Int × Mm → Rs := fun (v37, v38, M39) =>
Lt (M39 0 35) fun v41 =>
Lt (wr (v41 * 6)) fun v42 =>
if v42 ≤ v38 then (
J127_4 v37 M39) else (
Lt (wr (Int.tdiv v38 6)) fun v44 =>
Lt (jrem v38 6) fun v45 =>
Lt (M39 0 12) fun v46 =>
Lt (fun (v47 : Int) (v48 : Int) (M49 : Mm) => 
Lt (wr (v48 + 1)) fun v51 =>
rc8_40 (v47, v51, M49)) fun J121_50 =>
if v46 ≤ v45 then (
J121_50 v37 v38 M39) else (
gd (0 ≤ v45 ∧ v45 < 6) <|
Lt (M39 12 v45.toNat) fun v53 =>
if ¬ v53 = 3 then (
J121_50 v37 v38 M39) else (
Cl (f_X12_finds v44 v45 M39) fun v56 M55 =>
gd (0 ≤ v44 ∧ v44 < 30) <|
Lt (M55 36 v44.toNat) fun v57 =>
Lt (wr (6 * v57)) fun v58 =>
Lt (wr (v58 + v45)) fun v59 =>
Lt (fun (v60 : Int) (v61 : Int) (v62 : Int) (M63 : Mm) => 
gd (0 ≤ v59 ∧ v59 < 360) <|
Lt (up M63 56 v59.toNat v62) fun M65 =>
Lt (fun (v66 : Int) (v67 : Int) (M68 : Mm) => 
J121_50 v67 v66 M68) fun J120_69 =>
Lt (fun (v70 : Int) (M71 : Mm) => 
J120_69 v70 1 M71) fun J115_72 =>
if ¬ v60 = 0 then (
J115_72 v61 M65) else (
gd (0 ≤ v59 ∧ v59 < 360) <|
Lt (M65 56 v59.toNat) fun v74 =>
gd (0 ≤ v59 ∧ v59 < 360) <|
Lt (M65 55 v59.toNat) fun v75 =>
if v74 = v75 then (
J120_69 v61 0 M65) else (
J115_72 v61 M65))) fun J93_64 =>
if v56 < 1000 then (
J93_64 v37 v38 v56 M55) else (
J93_64 v37 v38 ((-1)) M55))))
def f_X12_changes (M : Mm) : Rs :=
Cl (f_X12_clears M) fun _ M1 =>
Lt (fun (v2 : Int) (M3 : Mm) => 
Lt (fun (v5 : Int) (M6 : Mm) => 
some (v5, M6)) fun J203_7 =>
Lp (f_X12_changes_L129_36 J203_7) FU (v2, 0, M3)) fun J127_4 =>
Lp (f_X12_changes_L8_78 J127_4) FU (0, 0, M1)
def f_X12_findsRings_L87_21 (J112_11 : Mm → Rs) (rc87_16 : Int × Int × Mm → Rs) : Int × Int × Mm → Rs := fun (v13, v14, M15) =>
if 360 ≤ v14 then (
J112_11 M15) else (
if v13 = 0 then (
J112_11 M15) else (
gd (0 ≤ v14 ∧ v14 < 360) <|
Lt (up M15 55 v14.toNat ((-2))) fun M19 =>
Lt (wr (v14 + 1)) fun v20 =>
rc87_16 (v13, v20, M19)))
def f_X12_findsRings_L64_31 (J85_9 : Int → Mm → Rs) (rc64_25 : Int × Int × Mm → Rs) : Int × Int × Mm → Rs := fun (v22, v23, M24) =>
if 30 < v23 then (
J85_9 v22 M24) else (
if v22 = 0 then (
J85_9 v22 M24) else (
Cl (f_X12_changes M24) fun v29 M28 =>
Lt (wr (v23 + 1)) fun v30 =>
rc64_25 (v29, v30, M28)))
def f_X12_findsRings_L40_39 (J60_6 : Int → Mm → Rs) (rc40_35 : Int × Int × Mm → Rs) : Int × Int × Mm → Rs := fun (v32, v33, M34) =>
if 360 ≤ v33 then (
J60_6 v32 M34) else (
gd (0 ≤ v33 ∧ v33 < 360) <|
Lt (up M34 55 v33.toNat 0) fun M37 =>
Lt (wr (v33 + 1)) fun v38 =>
rc40_35 (v32, v38, M37))
def f_X12_findsRings_L4_57 (J38_3 : Int → Mm → Rs) (rc4_43 : Int × Int × Mm → Rs) : Int × Int × Mm → Rs := fun (v40, v41, M42) =>
Lt (M42 0 12) fun v44 =>
if v44 ≤ v41 then (
J38_3 v40 M42) else (
Lt (fun (v46 : Int) (v47 : Int) (M48 : Mm) => 
Lt (wr (v46 + 1)) fun v50 =>
rc4_43 (v47, v50, M48)) fun J31_49 =>
Lt (fun (v51 : Int) (M52 : Mm) => 
J31_49 v51 1 M52) fun J26_53 =>
if ¬ v40 = 0 then (
J26_53 v41 M42) else (
gd (0 ≤ v41 ∧ v41 < 6) <|
Lt (M42 12 v41.toNat) fun v55 =>
if ¬ v55 = 3 then (
J31_49 v41 0 M42) else (
J26_53 v41 M42)))
def f_X12_findsRings (M : Mm) : Rs :=
Lt (fun (v1 : Int) (M2 : Mm) => 
Lt (fun (v4 : Int) (M5 : Mm) => 
Lt (fun (v7 : Int) (M8 : Mm) => 
Lt (fun (M10 : Mm) => 
Lt (up M10 0 68 0) fun M12 =>
some (0, M12)) fun J112_11 =>
Lp (f_X12_findsRings_L87_21 J112_11) FU (v7, 0, M8)) fun J85_9 =>
Lp (f_X12_findsRings_L64_31 J85_9) FU (v4, 1, M5)) fun J60_6 =>
Lp (f_X12_findsRings_L40_39 J60_6) FU (v1, 0, M2)) fun J38_3 =>
Lp (f_X12_findsRings_L4_57 J38_3) FU (0, 0, M)
def f_X12_told (a1 : Int) (M : Mm) : Rs :=
Lt (fun (v1 : Int) (M2 : Mm) => 
some (v1, M2)) fun J24_3 =>
if 1000 ≤ a1 then (
Lt (wr (a1 - 1000)) fun v5 =>
Cl (f_X12_nodeAt v5 M) fun v7 M6 =>
Lt (wr (1000 + v7)) fun v8 =>
J24_3 v8 M6) else (
J24_3 a1 M)
def f_X12_keeps (a1 : Int) (a2 : Int) (M : Mm) : Rs :=
Cl (f_X12_findsRings M) fun _ M1 =>
gd (0 ≤ a2 ∧ a2 < 6) <|
Lt (M1 12 a2.toNat) fun v2 =>
if ¬ v2 = 3 then (
Cl (f_X12_at a1 a2 M1) fun v5 M4 =>
gd (0 ≤ v5 ∧ v5 < 720) <|
Lt (M4 50 v5.toNat) fun v6 =>
Lt (fun (v7 : Int) (M8 : Mm) => 
some (v7, M8)) fun J62_9 =>
if v6 = 0 then (
Cl (f_X12_finds a1 a2 M4) fun v12 M11 =>
J62_9 v12 M11) else (
gd (0 ≤ v5 ∧ v5 < 720) <|
Lt (M4 52 v5.toNat) fun v13 =>
J62_9 v13 M4)) else (
gd (0 ≤ a1 ∧ a1 < 30) <|
Lt (M1 36 a1.toNat) fun v14 =>
Lt (wr (6 * v14)) fun v15 =>
Lt (wr (v15 + a2)) fun v16 =>
gd (0 ≤ v16 ∧ v16 < 360) <|
Lt (M1 55 v16.toNat) fun v17 =>
some (v17, M1))
def f_X12_isPair (a1 : Int) (a2 : Int) (M : Mm) : Rs :=
Cl (f_X12_isNode a1 M) fun v2 M1 =>
Lt (fun (v3 : Int) (M4 : Mm) => 
some (v3, M4)) fun J21_5 =>
Lt (fun (M6 : Mm) => 
J21_5 0 M6) fun J20_7 =>
if v2 = 0 then (
J20_7 M1) else (
Cl (f_X12_isAttribute a2 M1) fun v10 M9 =>
if v10 = 0 then (
J20_7 M9) else (
J21_5 1 M9))
def f_X12_rewrite (a1 : Int) (M : Mm) : Rs :=
Cl (f_X12_isNode a1 M) fun v2 M1 =>
Lt (fun (v3 : Int) (M4 : Mm) => 
Cl (f_X12_fails v3 M4) fun v7 M6 =>
if v7 = 0 then (
gd (0 ≤ a1 ∧ a1 < 30) <|
Lt (M6 31 a1.toNat) fun v9 =>
gd (0 ≤ v9 ∧ v9 < 10) <|
Lt (M6 10 v9.toNat) fun v10 =>
Lt (fun (v11 : Int) (M12 : Mm) => 
Cl (f_X12_isIn v11 1 999 M12) fun v15 M14 =>
Lt (fun (M16 : Mm) => 
gd (0 ≤ a1 ∧ a1 < 30) <|
Lt (M16 31 a1.toNat) fun v18 =>
some (v18, M16)) fun J92_17 =>
if v15 = 0 then (
J92_17 M14) else (
gd (0 ≤ a1 ∧ a1 < 30) <|
Lt (up M14 31 a1.toNat v10) fun M20 =>
gd (0 ≤ a1 ∧ a1 < 30) <|
Lt (M20 36 a1.toNat) fun v21 =>
Lt (lshl_ 1 v21) fun v22 =>
Cl (f_X12_drops v22 0 1 M20) fun _ M23 =>
J92_17 M23)) fun J59_13 =>
if ¬ v10 = ((-1)) then (
gd (0 ≤ a1 ∧ a1 < 30) <|
Lt (M6 31 a1.toNat) fun v25 =>
gd (0 ≤ v25 ∧ v25 < 10) <|
Lt (M6 11 v25.toNat) fun v26 =>
Cl (f_X12_keeps a1 v26 M6) fun v28 M27 =>
J59_13 v28 M27) else (
J59_13 ((-1)) M6)) else (
some (0, M6))) fun J14_5 =>
if v2 = 0 then (
J14_5 1 M1) else (
J14_5 0 M1)
def f_X12_value (a1 : Int) (a2 : Int) (M : Mm) : Rs :=
Cl (f_X12_isPair a1 a2 M) fun v2 M1 =>
Lt (fun (v3 : Int) (M4 : Mm) => 
Cl (f_X12_fails v3 M4) fun v7 M6 =>
Lt (fun (v8 : Int) (M9 : Mm) => 
some (v8, M9)) fun J35_10 =>
if v7 = 0 then (
Cl (f_X12_keeps a1 a2 M6) fun v13 M12 =>
Cl (f_X12_told v13 M12) fun v15 M14 =>
J35_10 v15 M14) else (
J35_10 0 M6)) fun J15_5 =>
if v2 = 0 then (
J15_5 1 M1) else (
J15_5 0 M1)
def f_X12_findsAnew (a1 : Int) (a2 : Int) (M : Mm) : Rs :=
Cl (f_X12_findsRings M) fun _ M1 =>
Cl (f_X12_clears M1) fun _ M2 =>
Cl (f_X12_finds a1 a2 M2) fun v4 M3 =>
Lt (up M3 0 68 0) fun M5 =>
gd (0 ≤ a2 ∧ a2 < 6) <|
Lt (M5 12 a2.toNat) fun v6 =>
Lt (fun (v7 : Int) (M8 : Mm) => 
some (v7, M8)) fun J50_9 =>
if ¬ v6 = 3 then (
J50_9 v4 M5) else (
gd (0 ≤ a1 ∧ a1 < 30) <|
Lt (M5 36 a1.toNat) fun v11 =>
Lt (wr (6 * v11)) fun v12 =>
Lt (wr (v12 + a2)) fun v13 =>
gd (0 ≤ v13 ∧ v13 < 360) <|
Lt (M5 55 v13.toNat) fun v14 =>
J50_9 v14 M5)
def f_X12_valueAnew (a1 : Int) (a2 : Int) (M : Mm) : Rs :=
Cl (f_X12_isPair a1 a2 M) fun v2 M1 =>
Lt (fun (v3 : Int) (M4 : Mm) => 
Cl (f_X12_fails v3 M4) fun v7 M6 =>
Lt (fun (v8 : Int) (M9 : Mm) => 
some (v8, M9)) fun J35_10 =>
if v7 = 0 then (
Cl (f_X12_findsAnew a1 a2 M6) fun v13 M12 =>
Cl (f_X12_told v13 M12) fun v15 M14 =>
J35_10 v15 M14) else (
J35_10 0 M6)) fun J15_5 =>
if v2 = 0 then (
J15_5 1 M1) else (
J15_5 0 M1)
def f_X12_found (M : Mm) : Rs :=
Lt (M 0 67) fun v1 =>
Cl (f_X12_tells v1 M) fun v3 M2 =>
some (v3, M2)
def f_X12_isKept (a1 : Int) (a2 : Int) (M : Mm) : Rs :=
Cl (f_X12_isPair a1 a2 M) fun v2 M1 =>
Lt (fun (v3 : Int) (M4 : Mm) => 
Cl (f_X12_fails v3 M4) fun v7 M6 =>
Lt (fun (v8 : Int) (M9 : Mm) => 
some (v8, M9)) fun J45_10 =>
Lt (fun (M11 : Mm) => 
J45_10 0 M11) fun J44_12 =>
if ¬ v7 = 0 then (
J44_12 M6) else (
gd (0 ≤ a1 ∧ a1 < 30) <|
Lt (M6 36 a1.toNat) fun v14 =>
Lt (wr (6 * v14)) fun v15 =>
Lt (wr (v15 + a2)) fun v16 =>
gd (0 ≤ v16 ∧ v16 < 720) <|
Lt (M6 50 v16.toNat) fun v17 =>
if v17 = 0 then (
J44_12 M6) else (
J45_10 1 M6))) fun J15_5 =>
if v2 = 0 then (
J15_5 1 M1) else (
J15_5 0 M1)
def f_X12_why (a1 : Int) (a2 : Int) (a3 : Int) (M : Mm) : Rs :=
Cl (f_X12_isPair a1 a2 M) fun v2 M1 =>
Lt (up M1 0 80 0) fun M3 =>
Lt (fun (M4 : Mm) => 
Lt (fun (v6 : Int) (M7 : Mm) => 
Cl (f_X12_fails v6 M7) fun v10 M9 =>
Lt (fun (v11 : Int) (M12 : Mm) => 
some (v11, M12)) fun J89_13 =>
if v10 = 0 then (
gd (0 ≤ a3 ∧ a3 < 240) <|
Lt (M9 61 a3.toNat) fun v15 =>
J89_13 v15 M9) else (
J89_13 0 M9)) fun J73_8 =>
Lt (fun (M16 : Mm) => 
J73_8 1 M16) fun J72_17 =>
if v2 = 0 then (
J72_17 M4) else (
Lt (M4 0 80) fun v19 =>
Lt (wr (v19 - 1)) fun v20 =>
Cl (f_X12_isIn a3 0 v20 M4) fun v22 M21 =>
if v22 = 0 then (
J72_17 M21) else (
J73_8 0 M21))) fun J48_5 =>
if v2 = 0 then (
J48_5 M3) else (
Cl (f_X12_findsRings M3) fun _ M25 =>
Lt (up M25 0 79 1) fun M26 =>
Cl (f_X12_clears M26) fun _ M27 =>
Cl (f_X12_finds a1 a2 M27) fun v29 M28 =>
Lt (up M28 0 68 0) fun M30 =>
Lt (up M30 0 79 0) fun M31 =>
J48_5 M31)
