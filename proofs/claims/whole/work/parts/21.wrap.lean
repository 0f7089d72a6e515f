def LLX : List Cond := [.classLink RL 13 "java/lang/IndexOutOfBoundsException", .classLink RL 15 "java/lang/IllegalArgumentException", .classLink RL 17 "java/lang/IllegalStateException", .methodLink RL 7 yX11_production, .instanceMethod yX11_production, .selects RX11 yX11_production yX11_production, .codeWith yL_production cL_production 7 (some .int) [(0, 14, 17, 13), (0, 14, 21, 15), (0, 14, 25, 17)], .methodLink RL 19 yX11_forward, .instanceMethod yX11_forward, .selects RX11 yX11_forward yX11_forward, .codeWith yL_forward cL_forward 8 (some .int) [(0, 16, 19, 13), (0, 16, 23, 15)], .methodLink RL 23 yX11_rule, .instanceMethod yX11_rule, .selects RX11 yX11_rule yX11_rule, .codeWith yL_rule cL_rule 6 (some .int) [(0, 12, 15, 13), (0, 12, 19, 15)], .methodLink RL 27 yX11_attribute, .instanceMethod yX11_attribute, .selects RX11 yX11_attribute yX11_attribute, .codeWith yL_attribute cL_attribute 4 (some .int) [(0, 9, 12, 15), (0, 9, 15, 17)], .methodLink RL 31 yX11_step, .instanceMethod yX11_step, .selects RX11 yX11_step yX11_step, .codeWith yL_step cL_step 6 (some .int) [(0, 12, 15, 13), (0, 12, 19, 15), (0, 12, 23, 17)], .methodLink RL 34 yX11_equation, .instanceMethod yX11_equation, .selects RX11 yX11_equation yX11_equation, .codeWith yL_equation cL_equation 7 (some .int) [(0, 14, 17, 13), (0, 14, 21, 15), (0, 14, 25, 17)], .methodLink RL 37 yX11_toggle, .instanceMethod yX11_toggle, .selects RX11 yX11_toggle yX11_toggle, .codeWith yL_toggle cL_toggle 4 (some .int) [(0, 16, 19, 13)], .methodLink RL 41 yX11_insert, .instanceMethod yX11_insert, .selects RX11 yX11_insert yX11_insert, .codeWith yL_insert cL_insert 5 (some .int) [(0, 10, 13, 13), (0, 10, 17, 15), (0, 10, 21, 17)], .methodLink RL 45 yX11_delete, .instanceMethod yX11_delete, .selects RX11 yX11_delete yX11_delete, .codeWith yL_delete cL_delete 4 (some .int) [(0, 9, 12, 13), (0, 9, 15, 17)], .methodLink RL 48 yX11_read, .instanceMethod yX11_read, .selects RX11 yX11_read yX11_read, .codeWith yL_read cL_read 3 (some .int) [(0, 8, 11, 17)], .methodLink RL 52 yX11_node, .instanceMethod yX11_node, .selects RX11 yX11_node yX11_node, .codeWith yL_node cL_node 4 (some .int) [(0, 9, 12, 13)], .methodLink RL 55 yX11_rewrite, .instanceMethod yX11_rewrite, .selects RX11 yX11_rewrite yX11_rewrite, .codeWith yL_rewrite cL_rewrite 4 (some .int) [(0, 9, 12, 13)], .methodLink RL 58 yX11_value, .instanceMethod yX11_value, .selects RX11 yX11_value yX11_value, .codeWith yL_value cL_value 5 (some .int) [(0, 10, 13, 13)], .methodLink RL 61 yX11_valueAnew, .instanceMethod yX11_valueAnew, .selects RX11 yX11_valueAnew yX11_valueAnew, .codeWith yL_valueAnew cL_valueAnew 5 (some .int) [(0, 10, 13, 13)], .methodLink RL 64 yX11_isKept, .instanceMethod yX11_isKept, .selects RX11 yX11_isKept yX11_isKept, .codeWith yL_isKept cL_isKept 5 (some .int) [(0, 17, 20, 13)], .methodLink RL 68 yX11_why, .instanceMethod yX11_why, .selects RX11 yX11_why yX11_why, .codeWith yL_why cL_why 6 (some .int) [(0, 12, 15, 13)], .classLink RL 8 RX11, .instantiable RX11 11, .classLink RL 72 RX12, .instantiable RX12 88, .methodLink RL 71 yX11_init, .instanceMethod yX11_init, .methodLink RL 74 yX12_init, .instanceMethod yX12_init, .methodLink RL 75 yL_production, .static yL_production, .initialized RL, .methodLink RL 80 yX12_production, .instanceMethod yX12_production, .selects RX12 yX12_production yX12_production, .methodLink RL 81 yX12_thrown, .instanceMethod yX12_thrown, .selects RX12 yX12_thrown yX12_thrown, .methodLink RL 84 yL_forward, .static yL_forward, .methodLink RL 87 yX12_forward, .instanceMethod yX12_forward, .selects RX12 yX12_forward yX12_forward, .methodLink RL 88 yL_rule, .static yL_rule, .methodLink RL 91 yX12_rule, .instanceMethod yX12_rule, .selects RX12 yX12_rule yX12_rule, .methodLink RL 92 yL_attribute, .static yL_attribute, .methodLink RL 95 yX12_attribute, .instanceMethod yX12_attribute, .selects RX12 yX12_attribute yX12_attribute, .methodLink RL 96 yL_step, .static yL_step, .methodLink RL 98 yX12_step, .instanceMethod yX12_step, .selects RX12 yX12_step yX12_step, .methodLink RL 99 yX11_dropSteps, .instanceMethod yX11_dropSteps, .selects RX11 yX11_dropSteps yX11_dropSteps, .methodLink RL 102 yX12_dropSteps, .instanceMethod yX12_dropSteps, .selects RX12 yX12_dropSteps yX12_dropSteps, .methodLink RL 103 yL_equation, .static yL_equation, .methodLink RL 105 yX12_equation, .instanceMethod yX12_equation, .selects RX12 yX12_equation yX12_equation, .methodLink RL 106 yL_toggle, .static yL_toggle, .methodLink RL 108 yX12_toggle, .instanceMethod yX12_toggle, .selects RX12 yX12_toggle yX12_toggle, .methodLink RL 109 yX11_conflicts, .instanceMethod yX11_conflicts, .selects RX11 yX11_conflicts yX11_conflicts, .methodLink RL 112 yX12_conflicts, .instanceMethod yX12_conflicts, .selects RX12 yX12_conflicts yX12_conflicts, .methodLink RL 113 yX11_ringIn, .instanceMethod yX11_ringIn, .selects RX11 yX11_ringIn yX11_ringIn, .methodLink RL 116 yX12_ringIn, .instanceMethod yX12_ringIn, .selects RX12 yX12_ringIn yX12_ringIn, .methodLink RL 117 yL_insert, .static yL_insert, .methodLink RL 120 yX12_insert, .instanceMethod yX12_insert, .selects RX12 yX12_insert yX12_insert, .methodLink RL 121 yL_delete, .static yL_delete, .methodLink RL 123 yX12_delete, .instanceMethod yX12_delete, .selects RX12 yX12_delete yX12_delete, .methodLink RL 124 yL_read, .static yL_read, .methodLink RL 127 yX12_read, .instanceMethod yX12_read, .selects RX12 yX12_read yX12_read, .methodLink RL 128 yX11_cost, .instanceMethod yX11_cost, .selects RX11 yX11_cost yX11_cost, .methodLink RL 131 yX12_cost, .instanceMethod yX12_cost, .selects RX12 yX12_cost yX12_cost, .methodLink RL 132 yL_node, .static yL_node, .methodLink RL 134 yX12_node, .instanceMethod yX12_node, .selects RX12 yX12_node yX12_node, .methodLink RL 135 yL_rewrite, .static yL_rewrite, .methodLink RL 137 yX12_rewrite, .instanceMethod yX12_rewrite, .selects RX12 yX12_rewrite yX12_rewrite, .methodLink RL 138 yL_value, .static yL_value, .methodLink RL 140 yX12_value, .instanceMethod yX12_value, .selects RX12 yX12_value yX12_value, .methodLink RL 141 yL_valueAnew, .static yL_valueAnew, .methodLink RL 143 yX12_valueAnew, .instanceMethod yX12_valueAnew, .selects RX12 yX12_valueAnew yX12_valueAnew, .methodLink RL 144 yX11_found, .instanceMethod yX11_found, .selects RX11 yX11_found yX11_found, .methodLink RL 147 yX12_found, .instanceMethod yX12_found, .selects RX12 yX12_found yX12_found, .methodLink RL 148 yL_isKept, .static yL_isKept, .methodLink RL 150 yX12_isKept, .instanceMethod yX12_isKept, .selects RX12 yX12_isKept yX12_isKept, .methodLink RL 151 yL_why, .static yL_why, .methodLink RL 153 yX12_why, .instanceMethod yX12_why, .selects RX12 yX12_why yX12_why]
theorem ll0 : Cond.classLink RL 13 "java/lang/IndexOutOfBoundsException" ∈ LLX := List.mem_of_getElem? (i := 0) rfl
theorem ll1 : Cond.classLink RL 15 "java/lang/IllegalArgumentException" ∈ LLX := List.mem_of_getElem? (i := 1) rfl
theorem ll2 : Cond.classLink RL 17 "java/lang/IllegalStateException" ∈ LLX := List.mem_of_getElem? (i := 2) rfl
theorem ll3 : Cond.methodLink RL 7 yX11_production ∈ LLX := List.mem_of_getElem? (i := 3) rfl
theorem ll4 : Cond.instanceMethod yX11_production ∈ LLX := List.mem_of_getElem? (i := 4) rfl
theorem ll5 : Cond.selects RX11 yX11_production yX11_production ∈ LLX := List.mem_of_getElem? (i := 5) rfl
theorem ll6 : Cond.codeWith yL_production cL_production 7 (some .int) [(0, 14, 17, 13), (0, 14, 21, 15), (0, 14, 25, 17)] ∈ LLX := List.mem_of_getElem? (i := 6) rfl
theorem ll7 : Cond.methodLink RL 19 yX11_forward ∈ LLX := List.mem_of_getElem? (i := 7) rfl
theorem ll8 : Cond.instanceMethod yX11_forward ∈ LLX := List.mem_of_getElem? (i := 8) rfl
theorem ll9 : Cond.selects RX11 yX11_forward yX11_forward ∈ LLX := List.mem_of_getElem? (i := 9) rfl
theorem ll10 : Cond.codeWith yL_forward cL_forward 8 (some .int) [(0, 16, 19, 13), (0, 16, 23, 15)] ∈ LLX := List.mem_of_getElem? (i := 10) rfl
theorem ll11 : Cond.methodLink RL 23 yX11_rule ∈ LLX := List.mem_of_getElem? (i := 11) rfl
theorem ll12 : Cond.instanceMethod yX11_rule ∈ LLX := List.mem_of_getElem? (i := 12) rfl
theorem ll13 : Cond.selects RX11 yX11_rule yX11_rule ∈ LLX := List.mem_of_getElem? (i := 13) rfl
theorem ll14 : Cond.codeWith yL_rule cL_rule 6 (some .int) [(0, 12, 15, 13), (0, 12, 19, 15)] ∈ LLX := List.mem_of_getElem? (i := 14) rfl
theorem ll15 : Cond.methodLink RL 27 yX11_attribute ∈ LLX := List.mem_of_getElem? (i := 15) rfl
theorem ll16 : Cond.instanceMethod yX11_attribute ∈ LLX := List.mem_of_getElem? (i := 16) rfl
theorem ll17 : Cond.selects RX11 yX11_attribute yX11_attribute ∈ LLX := List.mem_of_getElem? (i := 17) rfl
theorem ll18 : Cond.codeWith yL_attribute cL_attribute 4 (some .int) [(0, 9, 12, 15), (0, 9, 15, 17)] ∈ LLX := List.mem_of_getElem? (i := 18) rfl
theorem ll19 : Cond.methodLink RL 31 yX11_step ∈ LLX := List.mem_of_getElem? (i := 19) rfl
theorem ll20 : Cond.instanceMethod yX11_step ∈ LLX := List.mem_of_getElem? (i := 20) rfl
theorem ll21 : Cond.selects RX11 yX11_step yX11_step ∈ LLX := List.mem_of_getElem? (i := 21) rfl
theorem ll22 : Cond.codeWith yL_step cL_step 6 (some .int) [(0, 12, 15, 13), (0, 12, 19, 15), (0, 12, 23, 17)] ∈ LLX := List.mem_of_getElem? (i := 22) rfl
theorem ll23 : Cond.methodLink RL 34 yX11_equation ∈ LLX := List.mem_of_getElem? (i := 23) rfl
theorem ll24 : Cond.instanceMethod yX11_equation ∈ LLX := List.mem_of_getElem? (i := 24) rfl
theorem ll25 : Cond.selects RX11 yX11_equation yX11_equation ∈ LLX := List.mem_of_getElem? (i := 25) rfl
theorem ll26 : Cond.codeWith yL_equation cL_equation 7 (some .int) [(0, 14, 17, 13), (0, 14, 21, 15), (0, 14, 25, 17)] ∈ LLX := List.mem_of_getElem? (i := 26) rfl
theorem ll27 : Cond.methodLink RL 37 yX11_toggle ∈ LLX := List.mem_of_getElem? (i := 27) rfl
theorem ll28 : Cond.instanceMethod yX11_toggle ∈ LLX := List.mem_of_getElem? (i := 28) rfl
theorem ll29 : Cond.selects RX11 yX11_toggle yX11_toggle ∈ LLX := List.mem_of_getElem? (i := 29) rfl
theorem ll30 : Cond.codeWith yL_toggle cL_toggle 4 (some .int) [(0, 16, 19, 13)] ∈ LLX := List.mem_of_getElem? (i := 30) rfl
theorem ll31 : Cond.methodLink RL 41 yX11_insert ∈ LLX := List.mem_of_getElem? (i := 31) rfl
theorem ll32 : Cond.instanceMethod yX11_insert ∈ LLX := List.mem_of_getElem? (i := 32) rfl
theorem ll33 : Cond.selects RX11 yX11_insert yX11_insert ∈ LLX := List.mem_of_getElem? (i := 33) rfl
theorem ll34 : Cond.codeWith yL_insert cL_insert 5 (some .int) [(0, 10, 13, 13), (0, 10, 17, 15), (0, 10, 21, 17)] ∈ LLX := List.mem_of_getElem? (i := 34) rfl
theorem ll35 : Cond.methodLink RL 45 yX11_delete ∈ LLX := List.mem_of_getElem? (i := 35) rfl
theorem ll36 : Cond.instanceMethod yX11_delete ∈ LLX := List.mem_of_getElem? (i := 36) rfl
theorem ll37 : Cond.selects RX11 yX11_delete yX11_delete ∈ LLX := List.mem_of_getElem? (i := 37) rfl
theorem ll38 : Cond.codeWith yL_delete cL_delete 4 (some .int) [(0, 9, 12, 13), (0, 9, 15, 17)] ∈ LLX := List.mem_of_getElem? (i := 38) rfl
theorem ll39 : Cond.methodLink RL 48 yX11_read ∈ LLX := List.mem_of_getElem? (i := 39) rfl
theorem ll40 : Cond.instanceMethod yX11_read ∈ LLX := List.mem_of_getElem? (i := 40) rfl
theorem ll41 : Cond.selects RX11 yX11_read yX11_read ∈ LLX := List.mem_of_getElem? (i := 41) rfl
theorem ll42 : Cond.codeWith yL_read cL_read 3 (some .int) [(0, 8, 11, 17)] ∈ LLX := List.mem_of_getElem? (i := 42) rfl
theorem ll43 : Cond.methodLink RL 52 yX11_node ∈ LLX := List.mem_of_getElem? (i := 43) rfl
theorem ll44 : Cond.instanceMethod yX11_node ∈ LLX := List.mem_of_getElem? (i := 44) rfl
theorem ll45 : Cond.selects RX11 yX11_node yX11_node ∈ LLX := List.mem_of_getElem? (i := 45) rfl
theorem ll46 : Cond.codeWith yL_node cL_node 4 (some .int) [(0, 9, 12, 13)] ∈ LLX := List.mem_of_getElem? (i := 46) rfl
theorem ll47 : Cond.methodLink RL 55 yX11_rewrite ∈ LLX := List.mem_of_getElem? (i := 47) rfl
theorem ll48 : Cond.instanceMethod yX11_rewrite ∈ LLX := List.mem_of_getElem? (i := 48) rfl
theorem ll49 : Cond.selects RX11 yX11_rewrite yX11_rewrite ∈ LLX := List.mem_of_getElem? (i := 49) rfl
theorem ll50 : Cond.codeWith yL_rewrite cL_rewrite 4 (some .int) [(0, 9, 12, 13)] ∈ LLX := List.mem_of_getElem? (i := 50) rfl
theorem ll51 : Cond.methodLink RL 58 yX11_value ∈ LLX := List.mem_of_getElem? (i := 51) rfl
theorem ll52 : Cond.instanceMethod yX11_value ∈ LLX := List.mem_of_getElem? (i := 52) rfl
theorem ll53 : Cond.selects RX11 yX11_value yX11_value ∈ LLX := List.mem_of_getElem? (i := 53) rfl
theorem ll54 : Cond.codeWith yL_value cL_value 5 (some .int) [(0, 10, 13, 13)] ∈ LLX := List.mem_of_getElem? (i := 54) rfl
theorem ll55 : Cond.methodLink RL 61 yX11_valueAnew ∈ LLX := List.mem_of_getElem? (i := 55) rfl
theorem ll56 : Cond.instanceMethod yX11_valueAnew ∈ LLX := List.mem_of_getElem? (i := 56) rfl
theorem ll57 : Cond.selects RX11 yX11_valueAnew yX11_valueAnew ∈ LLX := List.mem_of_getElem? (i := 57) rfl
theorem ll58 : Cond.codeWith yL_valueAnew cL_valueAnew 5 (some .int) [(0, 10, 13, 13)] ∈ LLX := List.mem_of_getElem? (i := 58) rfl
theorem ll59 : Cond.methodLink RL 64 yX11_isKept ∈ LLX := List.mem_of_getElem? (i := 59) rfl
theorem ll60 : Cond.instanceMethod yX11_isKept ∈ LLX := List.mem_of_getElem? (i := 60) rfl
theorem ll61 : Cond.selects RX11 yX11_isKept yX11_isKept ∈ LLX := List.mem_of_getElem? (i := 61) rfl
theorem ll62 : Cond.codeWith yL_isKept cL_isKept 5 (some .int) [(0, 17, 20, 13)] ∈ LLX := List.mem_of_getElem? (i := 62) rfl
theorem ll63 : Cond.methodLink RL 68 yX11_why ∈ LLX := List.mem_of_getElem? (i := 63) rfl
theorem ll64 : Cond.instanceMethod yX11_why ∈ LLX := List.mem_of_getElem? (i := 64) rfl
theorem ll65 : Cond.selects RX11 yX11_why yX11_why ∈ LLX := List.mem_of_getElem? (i := 65) rfl
theorem ll66 : Cond.codeWith yL_why cL_why 6 (some .int) [(0, 12, 15, 13)] ∈ LLX := List.mem_of_getElem? (i := 66) rfl
theorem ll67 : Cond.classLink RL 8 RX11 ∈ LLX := List.mem_of_getElem? (i := 67) rfl
theorem ll68 : Cond.instantiable RX11 11 ∈ LLX := List.mem_of_getElem? (i := 68) rfl
theorem ll69 : Cond.classLink RL 72 RX12 ∈ LLX := List.mem_of_getElem? (i := 69) rfl
theorem ll70 : Cond.instantiable RX12 88 ∈ LLX := List.mem_of_getElem? (i := 70) rfl
theorem ll71 : Cond.methodLink RL 71 yX11_init ∈ LLX := List.mem_of_getElem? (i := 71) rfl
theorem ll72 : Cond.instanceMethod yX11_init ∈ LLX := List.mem_of_getElem? (i := 72) rfl
theorem ll73 : Cond.methodLink RL 74 yX12_init ∈ LLX := List.mem_of_getElem? (i := 73) rfl
theorem ll74 : Cond.instanceMethod yX12_init ∈ LLX := List.mem_of_getElem? (i := 74) rfl
theorem ll75 : Cond.methodLink RL 75 yL_production ∈ LLX := List.mem_of_getElem? (i := 75) rfl
theorem ll76 : Cond.static yL_production ∈ LLX := List.mem_of_getElem? (i := 76) rfl
theorem ll77 : Cond.initialized RL ∈ LLX := List.mem_of_getElem? (i := 77) rfl
theorem ll78 : Cond.methodLink RL 80 yX12_production ∈ LLX := List.mem_of_getElem? (i := 78) rfl
theorem ll79 : Cond.instanceMethod yX12_production ∈ LLX := List.mem_of_getElem? (i := 79) rfl
theorem ll80 : Cond.selects RX12 yX12_production yX12_production ∈ LLX := List.mem_of_getElem? (i := 80) rfl
theorem ll81 : Cond.methodLink RL 81 yX12_thrown ∈ LLX := List.mem_of_getElem? (i := 81) rfl
theorem ll82 : Cond.instanceMethod yX12_thrown ∈ LLX := List.mem_of_getElem? (i := 82) rfl
theorem ll83 : Cond.selects RX12 yX12_thrown yX12_thrown ∈ LLX := List.mem_of_getElem? (i := 83) rfl
theorem ll84 : Cond.methodLink RL 84 yL_forward ∈ LLX := List.mem_of_getElem? (i := 84) rfl
theorem ll85 : Cond.static yL_forward ∈ LLX := List.mem_of_getElem? (i := 85) rfl
theorem ll86 : Cond.methodLink RL 87 yX12_forward ∈ LLX := List.mem_of_getElem? (i := 86) rfl
theorem ll87 : Cond.instanceMethod yX12_forward ∈ LLX := List.mem_of_getElem? (i := 87) rfl
theorem ll88 : Cond.selects RX12 yX12_forward yX12_forward ∈ LLX := List.mem_of_getElem? (i := 88) rfl
theorem ll89 : Cond.methodLink RL 88 yL_rule ∈ LLX := List.mem_of_getElem? (i := 89) rfl
theorem ll90 : Cond.static yL_rule ∈ LLX := List.mem_of_getElem? (i := 90) rfl
theorem ll91 : Cond.methodLink RL 91 yX12_rule ∈ LLX := List.mem_of_getElem? (i := 91) rfl
theorem ll92 : Cond.instanceMethod yX12_rule ∈ LLX := List.mem_of_getElem? (i := 92) rfl
theorem ll93 : Cond.selects RX12 yX12_rule yX12_rule ∈ LLX := List.mem_of_getElem? (i := 93) rfl
theorem ll94 : Cond.methodLink RL 92 yL_attribute ∈ LLX := List.mem_of_getElem? (i := 94) rfl
theorem ll95 : Cond.static yL_attribute ∈ LLX := List.mem_of_getElem? (i := 95) rfl
theorem ll96 : Cond.methodLink RL 95 yX12_attribute ∈ LLX := List.mem_of_getElem? (i := 96) rfl
theorem ll97 : Cond.instanceMethod yX12_attribute ∈ LLX := List.mem_of_getElem? (i := 97) rfl
theorem ll98 : Cond.selects RX12 yX12_attribute yX12_attribute ∈ LLX := List.mem_of_getElem? (i := 98) rfl
theorem ll99 : Cond.methodLink RL 96 yL_step ∈ LLX := List.mem_of_getElem? (i := 99) rfl
theorem ll100 : Cond.static yL_step ∈ LLX := List.mem_of_getElem? (i := 100) rfl
theorem ll101 : Cond.methodLink RL 98 yX12_step ∈ LLX := List.mem_of_getElem? (i := 101) rfl
theorem ll102 : Cond.instanceMethod yX12_step ∈ LLX := List.mem_of_getElem? (i := 102) rfl
theorem ll103 : Cond.selects RX12 yX12_step yX12_step ∈ LLX := List.mem_of_getElem? (i := 103) rfl
theorem ll104 : Cond.methodLink RL 99 yX11_dropSteps ∈ LLX := List.mem_of_getElem? (i := 104) rfl
theorem ll105 : Cond.instanceMethod yX11_dropSteps ∈ LLX := List.mem_of_getElem? (i := 105) rfl
theorem ll106 : Cond.selects RX11 yX11_dropSteps yX11_dropSteps ∈ LLX := List.mem_of_getElem? (i := 106) rfl
theorem ll107 : Cond.methodLink RL 102 yX12_dropSteps ∈ LLX := List.mem_of_getElem? (i := 107) rfl
theorem ll108 : Cond.instanceMethod yX12_dropSteps ∈ LLX := List.mem_of_getElem? (i := 108) rfl
theorem ll109 : Cond.selects RX12 yX12_dropSteps yX12_dropSteps ∈ LLX := List.mem_of_getElem? (i := 109) rfl
theorem ll110 : Cond.methodLink RL 103 yL_equation ∈ LLX := List.mem_of_getElem? (i := 110) rfl
theorem ll111 : Cond.static yL_equation ∈ LLX := List.mem_of_getElem? (i := 111) rfl
theorem ll112 : Cond.methodLink RL 105 yX12_equation ∈ LLX := List.mem_of_getElem? (i := 112) rfl
theorem ll113 : Cond.instanceMethod yX12_equation ∈ LLX := List.mem_of_getElem? (i := 113) rfl
theorem ll114 : Cond.selects RX12 yX12_equation yX12_equation ∈ LLX := List.mem_of_getElem? (i := 114) rfl
theorem ll115 : Cond.methodLink RL 106 yL_toggle ∈ LLX := List.mem_of_getElem? (i := 115) rfl
theorem ll116 : Cond.static yL_toggle ∈ LLX := List.mem_of_getElem? (i := 116) rfl
theorem ll117 : Cond.methodLink RL 108 yX12_toggle ∈ LLX := List.mem_of_getElem? (i := 117) rfl
theorem ll118 : Cond.instanceMethod yX12_toggle ∈ LLX := List.mem_of_getElem? (i := 118) rfl
theorem ll119 : Cond.selects RX12 yX12_toggle yX12_toggle ∈ LLX := List.mem_of_getElem? (i := 119) rfl
theorem ll120 : Cond.methodLink RL 109 yX11_conflicts ∈ LLX := List.mem_of_getElem? (i := 120) rfl
theorem ll121 : Cond.instanceMethod yX11_conflicts ∈ LLX := List.mem_of_getElem? (i := 121) rfl
theorem ll122 : Cond.selects RX11 yX11_conflicts yX11_conflicts ∈ LLX := List.mem_of_getElem? (i := 122) rfl
theorem ll123 : Cond.methodLink RL 112 yX12_conflicts ∈ LLX := List.mem_of_getElem? (i := 123) rfl
theorem ll124 : Cond.instanceMethod yX12_conflicts ∈ LLX := List.mem_of_getElem? (i := 124) rfl
theorem ll125 : Cond.selects RX12 yX12_conflicts yX12_conflicts ∈ LLX := List.mem_of_getElem? (i := 125) rfl
theorem ll126 : Cond.methodLink RL 113 yX11_ringIn ∈ LLX := List.mem_of_getElem? (i := 126) rfl
theorem ll127 : Cond.instanceMethod yX11_ringIn ∈ LLX := List.mem_of_getElem? (i := 127) rfl
theorem ll128 : Cond.selects RX11 yX11_ringIn yX11_ringIn ∈ LLX := List.mem_of_getElem? (i := 128) rfl
theorem ll129 : Cond.methodLink RL 116 yX12_ringIn ∈ LLX := List.mem_of_getElem? (i := 129) rfl
theorem ll130 : Cond.instanceMethod yX12_ringIn ∈ LLX := List.mem_of_getElem? (i := 130) rfl
theorem ll131 : Cond.selects RX12 yX12_ringIn yX12_ringIn ∈ LLX := List.mem_of_getElem? (i := 131) rfl
theorem ll132 : Cond.methodLink RL 117 yL_insert ∈ LLX := List.mem_of_getElem? (i := 132) rfl
theorem ll133 : Cond.static yL_insert ∈ LLX := List.mem_of_getElem? (i := 133) rfl
theorem ll134 : Cond.methodLink RL 120 yX12_insert ∈ LLX := List.mem_of_getElem? (i := 134) rfl
theorem ll135 : Cond.instanceMethod yX12_insert ∈ LLX := List.mem_of_getElem? (i := 135) rfl
theorem ll136 : Cond.selects RX12 yX12_insert yX12_insert ∈ LLX := List.mem_of_getElem? (i := 136) rfl
theorem ll137 : Cond.methodLink RL 121 yL_delete ∈ LLX := List.mem_of_getElem? (i := 137) rfl
theorem ll138 : Cond.static yL_delete ∈ LLX := List.mem_of_getElem? (i := 138) rfl
theorem ll139 : Cond.methodLink RL 123 yX12_delete ∈ LLX := List.mem_of_getElem? (i := 139) rfl
theorem ll140 : Cond.instanceMethod yX12_delete ∈ LLX := List.mem_of_getElem? (i := 140) rfl
theorem ll141 : Cond.selects RX12 yX12_delete yX12_delete ∈ LLX := List.mem_of_getElem? (i := 141) rfl
theorem ll142 : Cond.methodLink RL 124 yL_read ∈ LLX := List.mem_of_getElem? (i := 142) rfl
theorem ll143 : Cond.static yL_read ∈ LLX := List.mem_of_getElem? (i := 143) rfl
theorem ll144 : Cond.methodLink RL 127 yX12_read ∈ LLX := List.mem_of_getElem? (i := 144) rfl
theorem ll145 : Cond.instanceMethod yX12_read ∈ LLX := List.mem_of_getElem? (i := 145) rfl
theorem ll146 : Cond.selects RX12 yX12_read yX12_read ∈ LLX := List.mem_of_getElem? (i := 146) rfl
theorem ll147 : Cond.methodLink RL 128 yX11_cost ∈ LLX := List.mem_of_getElem? (i := 147) rfl
theorem ll148 : Cond.instanceMethod yX11_cost ∈ LLX := List.mem_of_getElem? (i := 148) rfl
theorem ll149 : Cond.selects RX11 yX11_cost yX11_cost ∈ LLX := List.mem_of_getElem? (i := 149) rfl
theorem ll150 : Cond.methodLink RL 131 yX12_cost ∈ LLX := List.mem_of_getElem? (i := 150) rfl
theorem ll151 : Cond.instanceMethod yX12_cost ∈ LLX := List.mem_of_getElem? (i := 151) rfl
theorem ll152 : Cond.selects RX12 yX12_cost yX12_cost ∈ LLX := List.mem_of_getElem? (i := 152) rfl
theorem ll153 : Cond.methodLink RL 132 yL_node ∈ LLX := List.mem_of_getElem? (i := 153) rfl
theorem ll154 : Cond.static yL_node ∈ LLX := List.mem_of_getElem? (i := 154) rfl
theorem ll155 : Cond.methodLink RL 134 yX12_node ∈ LLX := List.mem_of_getElem? (i := 155) rfl
theorem ll156 : Cond.instanceMethod yX12_node ∈ LLX := List.mem_of_getElem? (i := 156) rfl
theorem ll157 : Cond.selects RX12 yX12_node yX12_node ∈ LLX := List.mem_of_getElem? (i := 157) rfl
theorem ll158 : Cond.methodLink RL 135 yL_rewrite ∈ LLX := List.mem_of_getElem? (i := 158) rfl
theorem ll159 : Cond.static yL_rewrite ∈ LLX := List.mem_of_getElem? (i := 159) rfl
theorem ll160 : Cond.methodLink RL 137 yX12_rewrite ∈ LLX := List.mem_of_getElem? (i := 160) rfl
theorem ll161 : Cond.instanceMethod yX12_rewrite ∈ LLX := List.mem_of_getElem? (i := 161) rfl
theorem ll162 : Cond.selects RX12 yX12_rewrite yX12_rewrite ∈ LLX := List.mem_of_getElem? (i := 162) rfl
theorem ll163 : Cond.methodLink RL 138 yL_value ∈ LLX := List.mem_of_getElem? (i := 163) rfl
theorem ll164 : Cond.static yL_value ∈ LLX := List.mem_of_getElem? (i := 164) rfl
theorem ll165 : Cond.methodLink RL 140 yX12_value ∈ LLX := List.mem_of_getElem? (i := 165) rfl
theorem ll166 : Cond.instanceMethod yX12_value ∈ LLX := List.mem_of_getElem? (i := 166) rfl
theorem ll167 : Cond.selects RX12 yX12_value yX12_value ∈ LLX := List.mem_of_getElem? (i := 167) rfl
theorem ll168 : Cond.methodLink RL 141 yL_valueAnew ∈ LLX := List.mem_of_getElem? (i := 168) rfl
theorem ll169 : Cond.static yL_valueAnew ∈ LLX := List.mem_of_getElem? (i := 169) rfl
theorem ll170 : Cond.methodLink RL 143 yX12_valueAnew ∈ LLX := List.mem_of_getElem? (i := 170) rfl
theorem ll171 : Cond.instanceMethod yX12_valueAnew ∈ LLX := List.mem_of_getElem? (i := 171) rfl
theorem ll172 : Cond.selects RX12 yX12_valueAnew yX12_valueAnew ∈ LLX := List.mem_of_getElem? (i := 172) rfl
theorem ll173 : Cond.methodLink RL 144 yX11_found ∈ LLX := List.mem_of_getElem? (i := 173) rfl
theorem ll174 : Cond.instanceMethod yX11_found ∈ LLX := List.mem_of_getElem? (i := 174) rfl
theorem ll175 : Cond.selects RX11 yX11_found yX11_found ∈ LLX := List.mem_of_getElem? (i := 175) rfl
theorem ll176 : Cond.methodLink RL 147 yX12_found ∈ LLX := List.mem_of_getElem? (i := 176) rfl
theorem ll177 : Cond.instanceMethod yX12_found ∈ LLX := List.mem_of_getElem? (i := 177) rfl
theorem ll178 : Cond.selects RX12 yX12_found yX12_found ∈ LLX := List.mem_of_getElem? (i := 178) rfl
theorem ll179 : Cond.methodLink RL 148 yL_isKept ∈ LLX := List.mem_of_getElem? (i := 179) rfl
theorem ll180 : Cond.static yL_isKept ∈ LLX := List.mem_of_getElem? (i := 180) rfl
theorem ll181 : Cond.methodLink RL 150 yX12_isKept ∈ LLX := List.mem_of_getElem? (i := 181) rfl
theorem ll182 : Cond.instanceMethod yX12_isKept ∈ LLX := List.mem_of_getElem? (i := 182) rfl
theorem ll183 : Cond.selects RX12 yX12_isKept yX12_isKept ∈ LLX := List.mem_of_getElem? (i := 183) rfl
theorem ll184 : Cond.methodLink RL 151 yL_why ∈ LLX := List.mem_of_getElem? (i := 184) rfl
theorem ll185 : Cond.static yL_why ∈ LLX := List.mem_of_getElem? (i := 185) rfl
theorem ll186 : Cond.methodLink RL 153 yX12_why ∈ LLX := List.mem_of_getElem? (i := 186) rfl
theorem ll187 : Cond.instanceMethod yX12_why ∈ LLX := List.mem_of_getElem? (i := 187) rfl
theorem ll188 : Cond.selects RX12 yX12_why yX12_why ∈ LLX := List.mem_of_getElem? (i := 188) rfl
theorem LLX_good : ∀ w ∈ LLX, goodWord w = true := List.all_eq_true.mp (by decide +kernel)
def LWL : List Cond := LWX ++ LLX
theorem LWL_good : ∀ w ∈ LWL, goodWord w = true := fun w h => (List.mem_append.mp h).elim (LWX_good w) (LLX_good w)
theorem good_callL {x : Cond} {pre : List Cond} (hpre : ∀ w ∈ pre, w ∈ LWL) (hx : x ∈ LWL) {tl : List Cond} (htl : ∀ w ∈ tl, w ∈ LWL) : GoodIn LWL (pre ++ (x :: tl)) := by
  intro w hw
  have hm : w ∈ LWL := by
    rcases List.mem_append.mp hw with h | h
    · exact hpre w h
    · rcases List.mem_cons.mp h with h | h
      · rw [h]; exact hx
      · exact htl w h
  exact ⟨hm, good_of_word (LWL_good w hm)⟩
theorem inWX : ∀ w ∈ LWX, w ∈ LWL := fun w h => List.mem_append_left _ h
theorem inW : ∀ w ∈ LW, w ∈ LWL := fun w h => List.mem_append_left _ (List.mem_append_left _ h)
theorem inL : ∀ w ∈ LLX, w ∈ LWL := fun w h => List.mem_append_right _ h
theorem Met_ofWH {l : Launch} {y : MethodName} {ws ws' : List Cond} {rm : Room} {Pc : Array Value → State → Prop} {Qc : Array Value → State → Outcome → State → Prop} {mc ms : Nat} {free : Addr → Prop} {cc : ByteArray} {maxL : Nat} {ret : Option FieldType} {hh : List (Nat × Nat × Nat × Nat)}
    (hy : plainName y.cls = true) (hw : ws = Cond.codeWith y cc maxL ret hh :: ws')
    (body : ∀ p e s m args below meth c s₁, BodyLoose p l y (headSpec ws rm) cc maxL ret e s m args below meth c s₁ → c.maxLocals = maxL → Pc args s →
      W p l e (headSpec ws rm).room s m args below meth c s.heap [] 0 0 (MQ below Qc args s mc ms free) (entryFrame m args maxL)) : Met l y ws rm Pc Qc mc ms free := by
  refine MetFree.of_bodyS (code := cc) (maxLocals := maxL) (ret := ret) hy ?_ ?_
  · intro args s m h hn
    obtain ⟨m9, meth, c, hn9, h1, h2, h3, h4, -, h5, h6, -⟩ := Cond.codeWith_spec (atoms_spec (ws := ws) h _ (by rw [hw]; exact List.mem_cons_self))
    cases hn.symm.trans hn9
    exact ⟨meth, c, h1, h2, h3, h4, h5, h6⟩
  · intro p e s m args below meth c s₁ B hml hP _
    have hh0 : s₁.heap = s.heap := by rw [B.state]; rfl
    obtain ⟨t, a1, o, b1, b2, b3⟩ := body p e s m args below meth c s₁ B hml hP s₁ hh0 (Stand.of_body B)
    exact ⟨t, o, a1, b1, b2, ⟨b3.1, b3.2⟩⟩
section WR
variable {p : Program} {l : Launch} {e : Env} {R : Room} {s : State} {m : MethodId} {args : Array Value} {below : List Frame} {meth : Method} {c : Code} {cc : ByteArray} {D : Dd} {base b0 ao nL kc ks : Nat} {own : String} {Q : State → Prop} {M : Mm} {fo : Nat → Int64} {pc : Nat} {L : List (Nat × Value)} {st : List Value}
def FW (base ao sz : Nat) : Addr → Prop := fun q => (base ≤ q ∧ q < base + 681) ∨ q = ao ∨ sz ≤ q
def OutAt (D : Dd) (ao : Nat) (fo : Nat → Int64) (H : Heap) : Prop := H[ao]? = some (vp_cell (D.2 2) (1, .inr (.inl fo)))
def Gw (p : Program) (l : Launch) (e : Env) (R : Room) (s : State) (m : MethodId) (args : Array Value) (below : List Frame) (meth : Method) (c : Code) (D : Dd) (base ao nL kc ks : Nat) (Q : State → Prop) (M : Mm) (fo : Nat → Int64) (pc : Nat) (L : List (Nat × Value)) (st : List Value) : Prop :=
  ∀ (H : Heap) (locs : List Loc) (ls : Array Slot), Wd D TC 681 base M H → OutAt D ao fo H → va_S (FW base ao s.heap.size) s.heap H locs → lv_has ls nL L → W p l e R s m args below meth c H locs kc ks Q (F0 m pc ls st)
/-- what stands through a wrapper's walk -/
def Cl_ (p : Program) (l : Launch) (s : State) (m : MethodId) (args : Array Value) (c : Code) (cc : ByteArray) (D : Dd) (nL b0 : Nat) : Prop := p.tables.exec = Jvm.exec ∧ c.code = cc ∧ c.maxLocals = nL ∧ s.vm.findClass RL = some m.cls ∧ (∀ w ∈ LWL, w.before args s = true) ∧ va_K D.1 vwCl (tys D) s ∧ Nw_ s ∧ KX b0 s s.heap
theorem gw_iload_n {kf : Fin 4} {i : Nat} {v : Int32} (X : Cl_ p l s m args c cc D nL b0) (hd : decode cc pc = .ok (.iload_n kf, 1)) (hi : (kf : Nat) = i) (j : Nat) (hl : L[j]? = some (i, .int v)) (kk : Gw p l e R s m args below meth c D base ao nL kc ks Q M fo (pc + 1) L (.int v :: st)) : Gw p l e R s m args below meth c D base ao nL kc ks Q M fo pc L st := by
  intro H locs ls hW hO hS hL
  obtain ⟨hx, hb, hml, hown, hts, hK, hN, hKX⟩ := X
  exact lv_iload_n hx hb hd hi (lv_at hL j hl) (kk H locs ls hW hO hS hL)
theorem gw_iload {i : Nat} {v : Int32} (X : Cl_ p l s m args c cc D nL b0) (hd : decode cc pc = .ok (.iload i, 2)) (j : Nat) (hl : L[j]? = some (i, .int v)) (kk : Gw p l e R s m args below meth c D base ao nL kc ks Q M fo (pc + 2) L (.int v :: st)) : Gw p l e R s m args below meth c D base ao nL kc ks Q M fo pc L st := by
  intro H locs ls hW hO hS hL
  obtain ⟨hx, hb, hml, hown, hts, hK, hN, hKX⟩ := X
  exact lv_iload hx hb hd (lv_at hL j hl) (kk H locs ls hW hO hS hL)
theorem gw_aload_n {kf : Fin 4} {i : Nat} {v : Nat} (X : Cl_ p l s m args c cc D nL b0) (hd : decode cc pc = .ok (.aload_n kf, 1)) (hi : (kf : Nat) = i) (j : Nat) (hl : L[j]? = some (i, .ref v)) (kk : Gw p l e R s m args below meth c D base ao nL kc ks Q M fo (pc + 1) L (.ref v :: st)) : Gw p l e R s m args below meth c D base ao nL kc ks Q M fo pc L st := by
  intro H locs ls hW hO hS hL
  obtain ⟨hx, hb, hml, hown, hts, hK, hN, hKX⟩ := X
  exact lv_aload_n hx hb hd hi (lv_at hL j hl) (kk H locs ls hW hO hS hL)
theorem gw_aload {i : Nat} {v : Nat} (X : Cl_ p l s m args c cc D nL b0) (hd : decode cc pc = .ok (.aload i, 2)) (j : Nat) (hl : L[j]? = some (i, .ref v)) (kk : Gw p l e R s m args below meth c D base ao nL kc ks Q M fo (pc + 2) L (.ref v :: st)) : Gw p l e R s m args below meth c D base ao nL kc ks Q M fo pc L st := by
  intro H locs ls hW hO hS hL
  obtain ⟨hx, hb, hml, hown, hts, hK, hN, hKX⟩ := X
  exact lv_aload hx hb hd (lv_at hL j hl) (kk H locs ls hW hO hS hL)
theorem gw_astore_n {kf : Fin 4} {i v : Nat} {L' : List (Nat × Value)} (X : Cl_ p l s m args c cc D nL b0) (hd : decode cc pc = .ok (.astore_n kf, 1)) (hi : (kf : Nat) = i) (hn : i < nL) (hl : (i, Value.ref v) :: L.filter (fun q => !(q.1 == i) && !(q.1 + 1 == i && q.2.category == 2)) = L') (kk : Gw p l e R s m args below meth c D base ao nL kc ks Q M fo (pc + 1) L' st) : Gw p l e R s m args below meth c D base ao nL kc ks Q M fo pc L (.ref v :: st) := by
  intro H locs ls hW hO hS hL
  obtain ⟨hx, hb, hml, hown, hts, hK, hN, hKX⟩ := X
  exact lv_astore_n hx hb hd hi hL hn hl (fun ls hl => kk H locs ls hW hO hS hl)
theorem gw_astore {i v : Nat} {L' : List (Nat × Value)} (X : Cl_ p l s m args c cc D nL b0) (hd : decode cc pc = .ok (.astore i, 2)) (hn : i < nL) (hl : (i, Value.ref v) :: L.filter (fun q => !(q.1 == i) && !(q.1 + 1 == i && q.2.category == 2)) = L') (kk : Gw p l e R s m args below meth c D base ao nL kc ks Q M fo (pc + 2) L' st) : Gw p l e R s m args below meth c D base ao nL kc ks Q M fo pc L (.ref v :: st) := by
  intro H locs ls hW hO hS hL
  obtain ⟨hx, hb, hml, hown, hts, hK, hN, hKX⟩ := X
  exact lv_astore hx hb hd hL hn hl (fun ls hl => kk H locs ls hW hO hS hl)
theorem gw_iconst {q v : Int} (X : Cl_ p l s m args c cc D nL b0) (hd : decode cc pc = .ok (.iconst q, 1)) (hv : Int32.ofInt q = Ii v) (kk : Gw p l e R s m args below meth c D base ao nL kc ks Q M fo (pc + 1) L (.int (Ii v) :: st)) : Gw p l e R s m args below meth c D base ao nL kc ks Q M fo pc L st := by
  intro H locs ls hW hO hS hL
  obtain ⟨hx, hb, hml, hown, hts, hK, hN, hKX⟩ := X
  exact lv_iconst hx hb hd hv (kk H locs ls hW hO hS hL)
theorem gw_lconst {q : Fin 2} {v : Int} (X : Cl_ p l s m args c cc D nL b0) (hd : decode cc pc = .ok (.lconst q, 1)) (hv : Int64.ofNat (q : Nat) = Ll v) (kk : Gw p l e R s m args below meth c D base ao nL kc ks Q M fo (pc + 1) L (.long (Ll v) :: st)) : Gw p l e R s m args below meth c D base ao nL kc ks Q M fo pc L st := by
  intro H locs ls hW hO hS hL
  obtain ⟨hx, hb, hml, hown, hts, hK, hN, hKX⟩ := X
  exact lv_lconst hx hb hd hv (kk H locs ls hW hO hS hL)
theorem gw_i2l {a : Int} (X : Cl_ p l s m args c cc D nL b0) (hd : decode cc pc = .ok (.i2l, 1)) (ha : i32 a) (kk : Gw p l e R s m args below meth c D base ao nL kc ks Q M fo (pc + 1) L (.long (Ll a) :: st)) : Gw p l e R s m args below meth c D base ao nL kc ks Q M fo pc L (.int (Ii a) :: st) := by
  intro H locs ls hW hO hS hL
  obtain ⟨hx, hb, hml, hown, hts, hK, hN, hKX⟩ := X
  exact lv_i2l hx hb hd (Ii_long ha) (kk H locs ls hW hO hS hL)
theorem gw_goto {off : Int} {tgt : Nat} (X : Cl_ p l s m args c cc D nL b0) (hd : decode cc pc = .ok (.goto off, 3)) (ht : (pc : Int) + off = (tgt : Int)) (kk : Gw p l e R s m args below meth c D base ao nL kc ks Q M fo tgt L st) : Gw p l e R s m args below meth c D base ao nL kc ks Q M fo pc L st := by
  intro H locs ls hW hO hS hL
  obtain ⟨hx, hb, hml, hown, hts, hK, hN, hKX⟩ := X
  exact lv_goto hx hb hd ht (kk H locs ls hW hO hS hL)
theorem gw_if_eq {a off : Int} {tgt : Nat} (X : Cl_ p l s m args c cc D nL b0) (hd : decode cc pc = .ok (.ifCond .eq off, 3)) (ht : (pc : Int) + off = (tgt : Int)) (ha : i32 a) (k1 : a = 0 → Gw p l e R s m args below meth c D base ao nL kc ks Q M fo tgt L st) (k2 : ¬ a = 0 → Gw p l e R s m args below meth c D base ao nL kc ks Q M fo (pc + 3) L st) : Gw p l e R s m args below meth c D base ao nL kc ks Q M fo pc L (.int (Ii a) :: st) := by
  intro H locs ls hW hO hS hL
  obtain ⟨hx, hb, hml, hown, hts, hK, hN, hKX⟩ := X
  have h00 : i32 0 := by decide
  exact lv_if_eq hx hb hd ht (fun z => k1 ((Ii_inj ha h00).mp z) H locs ls hW hO hS hL) (fun z => k2 ((not_congr (Ii_inj ha h00)).mp z) H locs ls hW hO hS hL)
theorem gw_lastore {v : Int} (X : Cl_ p l s m args c cc D nL b0) (hao : base + 681 ≤ ao) (hd : decode cc pc = .ok (.lastore, 1)) (kk : Gw p l e R s m args below meth c D base ao nL kc ks Q M (vp_updL fo 0 (Ll v)) (pc + 1) L st) : Gw p l e R s m args below meth c D base ao nL kc ks Q M fo pc L (.long (Ll v) :: .int (Ii 0) :: .ref ao :: st) := by
  intro H locs ls hW hO hS hL
  obtain ⟨hx, hb, hml, hown, hts, hK, hN, hKX⟩ := X
  refine W.last hx hb hO ((hK.2 2 _ rfl).1 1 (fun j => .long (fo j))) (fun q => by cases q) (by show ¬ (_ ∨ (arrV _ _ _).slots.size ≤ _); rw [arrV_size]; exact vp_in_Ii (n := 1) (by decide) (by decide)) rfl rfl hd fun H1 e1 z1 o1 => ?_
  refine kk H1 _ ls ⟨hW.1.kept (fun k q hk => o1 q.1 ?_), hW.2⟩ ?_ (hS.put z1 o1 (Or.inr (Or.inl rfl))) hL
  · have hk9 : k < 681 := by
      have := (List.getElem?_eq_some_iff.mp hk).1
      rwa [Ws_len] at this
    rw [Ws_get D TC base M hk9] at hk
    cases hk
    show base + k ≠ ao
    omega
  · show H1[ao]? = some (vp_cell _ _)
    rw [e1]
    rw [vp_cell_l, vp_cell_l, arrV_store]
    rw [show (Ii 0).toNatClampNeg = 0 from rfl]
    congr 2
    funext q
    by_cases hq : q = 0
    · subst hq
      simp [updV, vp_updL]
    · simp [updV, vp_updL, hq]
def PcL (D : Dd) (base b0 ao : Nat) (M : Mm) (fo : Nat → Int64) (av : List Value) (sz : Nat) : Array Value → State → Prop := va_Pc av (fun U => U.heap.size = sz ∧ Wd D TC 681 base M U.heap ∧ OutAt D ao fo U.heap ∧ va_K D.1 vwCl (tys D) U ∧ Nw_ U ∧ KX b0 U U.heap)
theorem PcL_blind {av : List Value} {sz : Nat} : FrameBlind (PcL D base b0 ao M fo av sz) := by
  intro a U g mk q
  obtain ⟨q0, q1, q2, q3, q4, q5, q6⟩ := q
  exact ⟨q0, q1, q2, q3, va_K.moved (u := U) (U := U.calling g mk a) (Vm.Alike.refl U.vm) q4, fun z hz => va_Nw.same rfl (u := U) (U := U.calling g mk a) rfl (q5 z hz), q6.calling g mk a⟩
def QcL (D : Dd) (base ao : Nat) (cd : Int) (M : Mm) (fo : Nat → Int64) (sz : Nat) : Array Value → State → Outcome → State → Prop := va_Qi (fun (x : Int32) (_ : Unit) => x = Ii cd) (fun _ t => Wd D TC 681 base M t.heap ∧ OutAt D ao fo t.heap) (FW base ao sz)
theorem gw_ireturn {x cd : Int} {M1 : Mm} {fo1 : Nat → Int64} {mc ms : Nat} (X : Cl_ p l s m args c cc D nL b0) (hrt : meth.sig.returnType = some .int) (hlk : meth.locks = false) (hd : decode cc pc = .ok (.ireturn, 1)) (h1 : kc ≤ mc) (h2 : ks ≤ ms) (hx9 : x = cd) (hM : M1 = M) (hf : fo1 = fo) : Gw p l e R s m args below meth c D base ao nL kc ks (MQ below (QcL D base ao cd M1 fo1 s.heap.size) args s mc ms (FW base ao s.heap.size)) M fo pc L [.int (Ii x)] := by
  intro H locs ls hW hO hS hL
  obtain ⟨hx, hb, hml, hown, hts, hK, hN, hKX⟩ := X
  subst hx9 hM hf
  refine W.widen h1 h2 ?_
  exact W.iret (v := Ii x) hx hb hrt (fun t ht hWm => ⟨⟨Ii x, (), rfl, rfl, (by rw [ht]; exact hW), (by rw [ht]; exact hO)⟩, hS.F ht⟩) hS.2.2 hd hlk
theorem FW_le {sz sz' : Nat} (h : sz' ≤ sz) : ∀ q, FW base ao sz q → FW base ao sz' q := by
  intro q hf
  rcases hf with h1 | h1 | h1
  · exact Or.inl h1
  · exact Or.inr (Or.inl h1)
  · exact Or.inr (Or.inr (Nat.le_trans h h1))
theorem FA_FW {sz sz' : Nat} (h : sz' ≤ sz) : ∀ q, FA base 681 sz q → FW base ao sz' q := by
  intro q hf
  rcases hf with h1 | h1
  · exact Or.inl h1
  · exact Or.inr (Or.inr (Nat.le_trans h h1))
/-- the class's method called: it returns, or its throw is caught by a row of the table -/
theorem gw_call {y : MethodName} {cy : ByteArray} {mL : Nat} {ret : Option FieldType} {fr lo np index mc2 ms2 : Nat} {As rest : List Value} {o : Rx} {r : Int × Int × Mm} {okr : Int → Prop}
    (X : Cl_ p l s m args c cc D nL b0) (hb0 : b0 ≤ base) (hao : base + 681 ≤ ao) (hM : OkXi l D TC 681 base b0 y cy mL ret fr lo mc2 ms2 (.ref (base + 0) :: As) M okr o) (ho : o = some r) (hd : decode cc pc = .ok (.invokevirtual index, 3)) (w1 : Cond.methodLink RL index y ∈ LLX) (w2 : Cond.instanceMethod y ∈ LLX) (w3 : Cond.selects RX11 y y ∈ LLX) (w4 : Cond.initialized RX11 ∈ LW) (hco : Cond.code y cy mL ret ∈ LW) (hy : y.cls ≠ "java/lang/invoke/MethodHandle" ∧ y.cls ≠ "java/lang/invoke/VarHandle" ∧ (parseMethodDescriptor y.desc).map (fun d => d.parameters.length) = some np) (hR : fr + 1 ≤ R.frames ∧ 8 + (mL + 11) + lo ≤ R.locals) (hC : y.cls = RX11)
    (hn : As.length = np) (hst : st = As.reverse ++ .ref (base + 0) :: rest) (hrs : (rest.map fun v => v.category).sum ≤ 8) (hkc : kc + mc2 ≤ R.cells ∧ ks + ms2 ≤ R.slots)
    (kx : (r.1 = 1 ∨ r.1 = 2 ∨ r.1 = 3) → ∃ (pre : List ExceptionTableEntry) (x : ExceptionTableEntry) (suf : List ExceptionTableEntry) (name : String), c.exceptionTable.toList = pre ++ x :: suf ∧ (∀ z ∈ pre, covers z pc = false ∨ (z.catchType ≠ 0 ∧ ∃ nm : String, (Cond.classLink RL z.catchType nm).before args s = true ∧ va_Nc (exn r.1) nm s)) ∧ covers x pc = true ∧ x.catchType ≠ 0 ∧ (Cond.classLink RL x.catchType name).before args s = true ∧ (Cond.castable (exn r.1) name).before args s = true ∧ ∀ q9, Gw p l e R s m args below meth c D base ao nL (kc + mc2) (ks + ms2) Q r.2.2 fo x.handlerPc L [.ref q9])
    (kk : r.1 = 0 → okr r.2.1 → Gw p l e R s m args below meth c D base ao nL (kc + mc2) (ks + ms2) Q r.2.2 fo (pc + 3) L (.int (Ii r.2.1) :: rest)) : Gw p l e R s m args below meth c D base ao nL kc ks Q M fo pc L st := by
  intro H locs ls hW hO hS hL
  obtain ⟨hx, hb, hml, hown, hts, hK, hN, hKX⟩ := X
  subst hst
  have haolt : ao < H.size := (Array.getElem?_eq_some_iff.mp hO).1
  have hrun := vx_runV (g := F0 m pc ls (As.reverse ++ .ref (base + 0) :: rest)) (nL := nL) (locs := locs) (p := p) (e := e) (R := R) (below := below) (meth := meth) (c := c) (cells := kc) (slots := ks) (H := H) ⟨hx, hb, hml, hown, hts⟩ (hM H.size r ho) (cwV np hts (good_callL (pre := [.methodLink RL index y, .instanceMethod y, .selects RX11 y y, .initialized RX11]) (fun w hw => ?_) (inW _ hco) inWX) rfl rfl rfl ⟨hC, hy.1, hy.2.1, hy.2.2⟩ hR) ⟨PcX_blind, ?_, fun U hU hWm => ⟨rfl, by rw [hU], by rw [hU]; exact hW, va_K.moved hWm.alike hK, fun z hz => va_Nw.warmM hWm (hN z hz), ?_⟩⟩ rfl hn hL.1 rfl (by show 2 * 0 + (rest.map fun v => v.category).sum ≤ 8; omega) hd hkc
  · have hout : ∀ (H1 : Heap), (∀ q : Nat, q < H.size → ¬ FA base 681 H.size q → H1[q]? = H[q]?) → OutAt D ao fo H1 := by
      intro H1 hk
      show H1[ao]? = _
      rw [hk ao haolt (fun hf => by
        rcases hf with ⟨_, h⟩ | h
        · exact absurd h (Nat.not_lt.mpr hao)
        · exact absurd haolt (Nat.not_lt.mpr h))]
      exact hO
    refine vx_calli hrun hS (fun q _ h => FA_FW hS.1 q h) (FA_FW hS.1) (fun q _ h => FA_FW hS.1 q h) (fun E ce q8 u t H1 locs1 ht hvm hp hB hz hk hS1 hce hcv hcl => ?_) (fun x u t H1 locs1 ht hvm hp hB hz hk hS1 => ?_)
    · rw [ht] at hB
      obtain ⟨pre, x, suf, name, k1, k2, k3, k4, k5, k6, k7⟩ := kx hp
      rw [hB.1] at hcl
      exact vx_catch hown pre x suf k1 k2 k3 k4 k5 k6 hce hcv hcl (k7 q8 H1 locs1 ls hB.2 (hout H1 hk) hS1 hL)
    · rw [ht] at hB
      rw [hp.2.1]
      exact kk hp.1 hp.2.2 H1 locs1 ls hB (hout H1 hk) hS1 hL
  · simp only [List.mem_cons, List.not_mem_nil, or_false] at hw
    rcases hw with rfl | rfl | rfl | rfl
    · exact inL _ w1
    · exact inL _ w2
    · exact inL _ w3
    · exact inW _ w4
  · have he := Ws_get D TC base M tcn0
    rw [show ent D base (TC 0) (M 0) = .inr (11, sts base (TC 0).2.2 (M 0)) by rw [tc0]; rfl] at he
    exact va_recv hK hW.1 (ci := 11) rfl he
  · rw [hU]
    refine hKX.warm hWm (fun a ha hA => hS.2.1 a ha (fun hf => ?_))
    rcases hf with h1 | h1 | h1
    · exact hA (Nat.le_trans hb0 h1.1)
    · rw [h1] at hA; omega
    · exact absurd ha (Nat.not_lt.mpr h1)
end WR
