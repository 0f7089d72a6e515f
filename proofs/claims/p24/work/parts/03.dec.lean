theorem dX0_init_0 : decode cX0_init 0 = .ok (.aload_n 0, 1) := by decide +kernel
theorem dX0_init_1 : decode cX0_init 1 = .ok (.invokespecial 3, 3) := by decide +kernel
theorem dX0_init_4 : decode cX0_init 4 = .ok (.aload_n 0, 1) := by decide +kernel
theorem dX0_init_5 : decode cX0_init 5 = .ok (.bipush 8, 2) := by decide +kernel
theorem dX0_init_7 : decode cX0_init 7 = .ok (.newarray .int, 2) := by decide +kernel
theorem dX0_init_9 : decode cX0_init 9 = .ok (.putfield 9, 3) := by decide +kernel
theorem dX0_init_12 : decode cX0_init 12 = .ok (.aload_n 0, 1) := by decide +kernel
theorem dX0_init_13 : decode cX0_init 13 = .ok (.bipush 8, 2) := by decide +kernel
theorem dX0_init_15 : decode cX0_init 15 = .ok (.newarray .int, 2) := by decide +kernel
theorem dX0_init_17 : decode cX0_init 17 = .ok (.putfield 15, 3) := by decide +kernel
theorem dX0_init_20 : decode cX0_init 20 = .ok (.aload_n 0, 1) := by decide +kernel
theorem dX0_init_21 : decode cX0_init 21 = .ok (.bipush 8, 2) := by decide +kernel
theorem dX0_init_23 : decode cX0_init 23 = .ok (.newarray .int, 2) := by decide +kernel
theorem dX0_init_25 : decode cX0_init 25 = .ok (.putfield 18, 3) := by decide +kernel
theorem dX0_init_28 : decode cX0_init 28 = .ok (.aload_n 0, 1) := by decide +kernel
theorem dX0_init_29 : decode cX0_init 29 = .ok (.bipush 8, 2) := by decide +kernel
theorem dX0_init_31 : decode cX0_init 31 = .ok (.newarray .int, 2) := by decide +kernel
theorem dX0_init_33 : decode cX0_init 33 = .ok (.putfield 21, 3) := by decide +kernel
theorem dX0_init_36 : decode cX0_init 36 = .ok (.aload_n 0, 1) := by decide +kernel
theorem dX0_init_37 : decode cX0_init 37 = .ok (.bipush 8, 2) := by decide +kernel
theorem dX0_init_39 : decode cX0_init 39 = .ok (.newarray .int, 2) := by decide +kernel
theorem dX0_init_41 : decode cX0_init 41 = .ok (.putfield 24, 3) := by decide +kernel
theorem dX0_init_44 : decode cX0_init 44 = .ok (.aload_n 0, 1) := by decide +kernel
theorem dX0_init_45 : decode cX0_init 45 = .ok (.bipush 8, 2) := by decide +kernel
theorem dX0_init_47 : decode cX0_init 47 = .ok (.newarray .int, 2) := by decide +kernel
theorem dX0_init_49 : decode cX0_init 49 = .ok (.putfield 27, 3) := by decide +kernel
theorem dX0_init_52 : decode cX0_init 52 = .ok (.aload_n 0, 1) := by decide +kernel
theorem dX0_init_53 : decode cX0_init 53 = .ok (.bipush 8, 2) := by decide +kernel
theorem dX0_init_55 : decode cX0_init 55 = .ok (.newarray .int, 2) := by decide +kernel
theorem dX0_init_57 : decode cX0_init 57 = .ok (.putfield 30, 3) := by decide +kernel
theorem dX0_init_60 : decode cX0_init 60 = .ok (.return_, 1) := by decide +kernel
theorem dX0_append_0 : decode cX0_append 0 = .ok (.iload_n 1, 1) := by decide +kernel
theorem dX0_append_1 : decode cX0_append 1 = .ok (.invokestatic 33, 3) := by decide +kernel
theorem dX0_append_4 : decode cX0_append 4 = .ok (.istore 4, 2) := by decide +kernel
theorem dX0_append_6 : decode cX0_append 6 = .ok (.aload_n 0, 1) := by decide +kernel
theorem dX0_append_7 : decode cX0_append 7 = .ok (.getfield 37, 3) := by decide +kernel
theorem dX0_append_10 : decode cX0_append 10 = .ok (.bipush 8, 2) := by decide +kernel
theorem dX0_append_12 : decode cX0_append 12 = .ok (.if_icmp .ge 12, 3) := by decide +kernel
theorem dX0_append_15 : decode cX0_append 15 = .ok (.iload 4, 2) := by decide +kernel
theorem dX0_append_17 : decode cX0_append 17 = .ok (.aload_n 0, 1) := by decide +kernel
theorem dX0_append_18 : decode cX0_append 18 = .ok (.getfield 41, 3) := by decide +kernel
theorem dX0_append_21 : decode cX0_append 21 = .ok (.if_icmp .le 4, 3) := by decide +kernel
theorem dX0_append_24 : decode cX0_append 24 = .ok (.return_, 1) := by decide +kernel
theorem dX0_append_25 : decode cX0_append 25 = .ok (.aload_n 0, 1) := by decide +kernel
theorem dX0_append_26 : decode cX0_append 26 = .ok (.getfield 37, 3) := by decide +kernel
theorem dX0_append_29 : decode cX0_append 29 = .ok (.istore 5, 2) := by decide +kernel
theorem dX0_append_31 : decode cX0_append 31 = .ok (.aload_n 0, 1) := by decide +kernel
theorem dX0_append_32 : decode cX0_append 32 = .ok (.dup, 1) := by decide +kernel
theorem dX0_append_33 : decode cX0_append 33 = .ok (.getfield 41, 3) := by decide +kernel
theorem dX0_append_36 : decode cX0_append 36 = .ok (.iload 4, 2) := by decide +kernel
theorem dX0_append_38 : decode cX0_append 38 = .ok (.isub, 1) := by decide +kernel
theorem dX0_append_39 : decode cX0_append 39 = .ok (.putfield 41, 3) := by decide +kernel
theorem dX0_append_42 : decode cX0_append 42 = .ok (.iconst 0, 1) := by decide +kernel
theorem dX0_append_43 : decode cX0_append 43 = .ok (.istore 6, 2) := by decide +kernel
theorem dX0_append_45 : decode cX0_append 45 = .ok (.iload 6, 2) := by decide +kernel
theorem dX0_append_47 : decode cX0_append 47 = .ok (.iload 4, 2) := by decide +kernel
theorem dX0_append_49 : decode cX0_append 49 = .ok (.if_icmp .ge 70, 3) := by decide +kernel
theorem dX0_append_52 : decode cX0_append 52 = .ok (.aload_n 0, 1) := by decide +kernel
theorem dX0_append_53 : decode cX0_append 53 = .ok (.getfield 30, 3) := by decide +kernel
theorem dX0_append_56 : decode cX0_append 56 = .ok (.aload_n 0, 1) := by decide +kernel
theorem dX0_append_57 : decode cX0_append 57 = .ok (.getfield 41, 3) := by decide +kernel
theorem dX0_append_60 : decode cX0_append 60 = .ok (.iload 6, 2) := by decide +kernel
theorem dX0_append_62 : decode cX0_append 62 = .ok (.iadd, 1) := by decide +kernel
theorem dX0_append_63 : decode cX0_append 63 = .ok (.invokestatic 44, 3) := by decide +kernel
theorem dX0_append_66 : decode cX0_append 66 = .ok (.istore 7, 2) := by decide +kernel
theorem dX0_append_68 : decode cX0_append 68 = .ok (.aload_n 0, 1) := by decide +kernel
theorem dX0_append_69 : decode cX0_append 69 = .ok (.getfield 21, 3) := by decide +kernel
theorem dX0_append_72 : decode cX0_append 72 = .ok (.iload 7, 2) := by decide +kernel
theorem dX0_append_74 : decode cX0_append 74 = .ok (.aload_n 0, 1) := by decide +kernel
theorem dX0_append_75 : decode cX0_append 75 = .ok (.getfield 37, 3) := by decide +kernel
theorem dX0_append_78 : decode cX0_append 78 = .ok (.invokestatic 48, 3) := by decide +kernel
theorem dX0_append_81 : decode cX0_append 81 = .ok (.aload_n 0, 1) := by decide +kernel
theorem dX0_append_82 : decode cX0_append 82 = .ok (.getfield 24, 3) := by decide +kernel
theorem dX0_append_85 : decode cX0_append 85 = .ok (.iload 7, 2) := by decide +kernel
theorem dX0_append_87 : decode cX0_append 87 = .ok (.iload 6, 2) := by decide +kernel
theorem dX0_append_89 : decode cX0_append 89 = .ok (.invokestatic 48, 3) := by decide +kernel
theorem dX0_append_92 : decode cX0_append 92 = .ok (.iload 6, 2) := by decide +kernel
theorem dX0_append_94 : decode cX0_append 94 = .ok (.ifCond .ne 15, 3) := by decide +kernel
theorem dX0_append_97 : decode cX0_append 97 = .ok (.aload_n 0, 1) := by decide +kernel
theorem dX0_append_98 : decode cX0_append 98 = .ok (.getfield 27, 3) := by decide +kernel
theorem dX0_append_101 : decode cX0_append 101 = .ok (.iload 7, 2) := by decide +kernel
theorem dX0_append_103 : decode cX0_append 103 = .ok (.invokestatic 44, 3) := by decide +kernel
theorem dX0_append_106 : decode cX0_append 106 = .ok (.goto 5, 3) := by decide +kernel
theorem dX0_append_109 : decode cX0_append 109 = .ok (.iload 5, 2) := by decide +kernel
theorem dX0_append_111 : decode cX0_append 111 = .ok (.istore 5, 2) := by decide +kernel
theorem dX0_append_113 : decode cX0_append 113 = .ok (.iinc 6 1, 3) := by decide +kernel
theorem dX0_append_116 : decode cX0_append 116 = .ok (.goto (-71), 3) := by decide +kernel
theorem dX0_append_119 : decode cX0_append 119 = .ok (.aload_n 0, 1) := by decide +kernel
theorem dX0_append_120 : decode cX0_append 120 = .ok (.getfield 9, 3) := by decide +kernel
theorem dX0_append_123 : decode cX0_append 123 = .ok (.aload_n 0, 1) := by decide +kernel
theorem dX0_append_124 : decode cX0_append 124 = .ok (.getfield 37, 3) := by decide +kernel
theorem dX0_append_127 : decode cX0_append 127 = .ok (.iload_n 1, 1) := by decide +kernel
theorem dX0_append_128 : decode cX0_append 128 = .ok (.invokestatic 48, 3) := by decide +kernel
theorem dX0_append_131 : decode cX0_append 131 = .ok (.aload_n 0, 1) := by decide +kernel
theorem dX0_append_132 : decode cX0_append 132 = .ok (.getfield 15, 3) := by decide +kernel
theorem dX0_append_135 : decode cX0_append 135 = .ok (.aload_n 0, 1) := by decide +kernel
theorem dX0_append_136 : decode cX0_append 136 = .ok (.getfield 37, 3) := by decide +kernel
theorem dX0_append_139 : decode cX0_append 139 = .ok (.iload_n 2, 1) := by decide +kernel
theorem dX0_append_140 : decode cX0_append 140 = .ok (.invokestatic 48, 3) := by decide +kernel
theorem dX0_append_143 : decode cX0_append 143 = .ok (.aload_n 0, 1) := by decide +kernel
theorem dX0_append_144 : decode cX0_append 144 = .ok (.getfield 18, 3) := by decide +kernel
theorem dX0_append_147 : decode cX0_append 147 = .ok (.aload_n 0, 1) := by decide +kernel
theorem dX0_append_148 : decode cX0_append 148 = .ok (.getfield 37, 3) := by decide +kernel
theorem dX0_append_151 : decode cX0_append 151 = .ok (.iload_n 3, 1) := by decide +kernel
theorem dX0_append_152 : decode cX0_append 152 = .ok (.invokestatic 48, 3) := by decide +kernel
theorem dX0_append_155 : decode cX0_append 155 = .ok (.aload_n 0, 1) := by decide +kernel
theorem dX0_append_156 : decode cX0_append 156 = .ok (.getfield 21, 3) := by decide +kernel
theorem dX0_append_159 : decode cX0_append 159 = .ok (.aload_n 0, 1) := by decide +kernel
theorem dX0_append_160 : decode cX0_append 160 = .ok (.getfield 37, 3) := by decide +kernel
theorem dX0_append_163 : decode cX0_append 163 = .ok (.iconst (-1), 1) := by decide +kernel
theorem dX0_append_164 : decode cX0_append 164 = .ok (.invokestatic 48, 3) := by decide +kernel
theorem dX0_append_167 : decode cX0_append 167 = .ok (.aload_n 0, 1) := by decide +kernel
theorem dX0_append_168 : decode cX0_append 168 = .ok (.getfield 24, 3) := by decide +kernel
theorem dX0_append_171 : decode cX0_append 171 = .ok (.aload_n 0, 1) := by decide +kernel
theorem dX0_append_172 : decode cX0_append 172 = .ok (.getfield 37, 3) := by decide +kernel
theorem dX0_append_175 : decode cX0_append 175 = .ok (.iconst 0, 1) := by decide +kernel
theorem dX0_append_176 : decode cX0_append 176 = .ok (.invokestatic 48, 3) := by decide +kernel
theorem dX0_append_179 : decode cX0_append 179 = .ok (.aload_n 0, 1) := by decide +kernel
theorem dX0_append_180 : decode cX0_append 180 = .ok (.getfield 27, 3) := by decide +kernel
theorem dX0_append_183 : decode cX0_append 183 = .ok (.aload_n 0, 1) := by decide +kernel
theorem dX0_append_184 : decode cX0_append 184 = .ok (.getfield 37, 3) := by decide +kernel
theorem dX0_append_187 : decode cX0_append 187 = .ok (.iload 5, 2) := by decide +kernel
theorem dX0_append_189 : decode cX0_append 189 = .ok (.invokestatic 48, 3) := by decide +kernel
theorem dX0_append_192 : decode cX0_append 192 = .ok (.aload_n 0, 1) := by decide +kernel
theorem dX0_append_193 : decode cX0_append 193 = .ok (.getfield 30, 3) := by decide +kernel
theorem dX0_append_196 : decode cX0_append 196 = .ok (.aload_n 0, 1) := by decide +kernel
theorem dX0_append_197 : decode cX0_append 197 = .ok (.getfield 41, 3) := by decide +kernel
theorem dX0_append_200 : decode cX0_append 200 = .ok (.aload_n 0, 1) := by decide +kernel
theorem dX0_append_201 : decode cX0_append 201 = .ok (.getfield 37, 3) := by decide +kernel
theorem dX0_append_204 : decode cX0_append 204 = .ok (.invokestatic 48, 3) := by decide +kernel
theorem dX0_append_207 : decode cX0_append 207 = .ok (.aload_n 0, 1) := by decide +kernel
theorem dX0_append_208 : decode cX0_append 208 = .ok (.dup, 1) := by decide +kernel
theorem dX0_append_209 : decode cX0_append 209 = .ok (.getfield 41, 3) := by decide +kernel
theorem dX0_append_212 : decode cX0_append 212 = .ok (.iconst 1, 1) := by decide +kernel
theorem dX0_append_213 : decode cX0_append 213 = .ok (.iadd, 1) := by decide +kernel
theorem dX0_append_214 : decode cX0_append 214 = .ok (.putfield 41, 3) := by decide +kernel
theorem dX0_append_217 : decode cX0_append 217 = .ok (.aload_n 0, 1) := by decide +kernel
theorem dX0_append_218 : decode cX0_append 218 = .ok (.dup, 1) := by decide +kernel
theorem dX0_append_219 : decode cX0_append 219 = .ok (.getfield 37, 3) := by decide +kernel
theorem dX0_append_222 : decode cX0_append 222 = .ok (.iconst 1, 1) := by decide +kernel
theorem dX0_append_223 : decode cX0_append 223 = .ok (.iadd, 1) := by decide +kernel
theorem dX0_append_224 : decode cX0_append 224 = .ok (.putfield 37, 3) := by decide +kernel
theorem dX0_append_227 : decode cX0_append 227 = .ok (.return_, 1) := by decide +kernel
theorem dX0_clear_0 : decode cX0_clear 0 = .ok (.aload_n 0, 1) := by decide +kernel
theorem dX0_clear_1 : decode cX0_clear 1 = .ok (.iconst 0, 1) := by decide +kernel
theorem dX0_clear_2 : decode cX0_clear 2 = .ok (.putfield 37, 3) := by decide +kernel
theorem dX0_clear_5 : decode cX0_clear 5 = .ok (.aload_n 0, 1) := by decide +kernel
theorem dX0_clear_6 : decode cX0_clear 6 = .ok (.iconst 0, 1) := by decide +kernel
theorem dX0_clear_7 : decode cX0_clear 7 = .ok (.putfield 41, 3) := by decide +kernel
theorem dX0_clear_10 : decode cX0_clear 10 = .ok (.return_, 1) := by decide +kernel
theorem dX0_place_0 : decode cX0_place 0 = .ok (.aload_n 0, 1) := by decide +kernel
theorem dX0_place_1 : decode cX0_place 1 = .ok (.iload_n 1, 1) := by decide +kernel
theorem dX0_place_2 : decode cX0_place 2 = .ok (.putfield 52, 3) := by decide +kernel
theorem dX0_place_5 : decode cX0_place 5 = .ok (.aload_n 0, 1) := by decide +kernel
theorem dX0_place_6 : decode cX0_place 6 = .ok (.iload_n 2, 1) := by decide +kernel
theorem dX0_place_7 : decode cX0_place 7 = .ok (.putfield 55, 3) := by decide +kernel
theorem dX0_place_10 : decode cX0_place 10 = .ok (.aload_n 0, 1) := by decide +kernel
theorem dX0_place_11 : decode cX0_place 11 = .ok (.iload_n 3, 1) := by decide +kernel
theorem dX0_place_12 : decode cX0_place 12 = .ok (.putfield 58, 3) := by decide +kernel
theorem dX0_place_15 : decode cX0_place 15 = .ok (.aload_n 0, 1) := by decide +kernel
theorem dX0_place_16 : decode cX0_place 16 = .ok (.iload 4, 2) := by decide +kernel
theorem dX0_place_18 : decode cX0_place 18 = .ok (.putfield 61, 3) := by decide +kernel
theorem dX0_place_21 : decode cX0_place 21 = .ok (.return_, 1) := by decide +kernel
theorem dX0_take_0 : decode cX0_take 0 = .ok (.aload_n 0, 1) := by decide +kernel
theorem dX0_take_1 : decode cX0_take 1 = .ok (.aload_n 1, 1) := by decide +kernel
theorem dX0_take_2 : decode cX0_take 2 = .ok (.getfield 52, 3) := by decide +kernel
theorem dX0_take_5 : decode cX0_take 5 = .ok (.aload_n 1, 1) := by decide +kernel
theorem dX0_take_6 : decode cX0_take 6 = .ok (.getfield 55, 3) := by decide +kernel
theorem dX0_take_9 : decode cX0_take 9 = .ok (.aload_n 1, 1) := by decide +kernel
theorem dX0_take_10 : decode cX0_take 10 = .ok (.getfield 58, 3) := by decide +kernel
theorem dX0_take_13 : decode cX0_take 13 = .ok (.aload_n 1, 1) := by decide +kernel
theorem dX0_take_14 : decode cX0_take 14 = .ok (.getfield 61, 3) := by decide +kernel
theorem dX0_take_17 : decode cX0_take 17 = .ok (.invokevirtual 64, 3) := by decide +kernel
theorem dX0_take_20 : decode cX0_take 20 = .ok (.aload_n 0, 1) := by decide +kernel
theorem dX0_take_21 : decode cX0_take 21 = .ok (.aload_n 1, 1) := by decide +kernel
theorem dX0_take_22 : decode cX0_take 22 = .ok (.getfield 37, 3) := by decide +kernel
theorem dX0_take_25 : decode cX0_take 25 = .ok (.putfield 37, 3) := by decide +kernel
theorem dX0_take_28 : decode cX0_take 28 = .ok (.aload_n 0, 1) := by decide +kernel
theorem dX0_take_29 : decode cX0_take 29 = .ok (.aload_n 1, 1) := by decide +kernel
theorem dX0_take_30 : decode cX0_take 30 = .ok (.getfield 41, 3) := by decide +kernel
theorem dX0_take_33 : decode cX0_take 33 = .ok (.putfield 41, 3) := by decide +kernel
theorem dX0_take_36 : decode cX0_take 36 = .ok (.aload_n 1, 1) := by decide +kernel
theorem dX0_take_37 : decode cX0_take 37 = .ok (.getfield 9, 3) := by decide +kernel
theorem dX0_take_40 : decode cX0_take 40 = .ok (.aload_n 0, 1) := by decide +kernel
theorem dX0_take_41 : decode cX0_take 41 = .ok (.getfield 9, 3) := by decide +kernel
theorem dX0_take_44 : decode cX0_take 44 = .ok (.invokestatic 68, 3) := by decide +kernel
theorem dX0_take_47 : decode cX0_take 47 = .ok (.aload_n 1, 1) := by decide +kernel
theorem dX0_take_48 : decode cX0_take 48 = .ok (.getfield 15, 3) := by decide +kernel
theorem dX0_take_51 : decode cX0_take 51 = .ok (.aload_n 0, 1) := by decide +kernel
theorem dX0_take_52 : decode cX0_take 52 = .ok (.getfield 15, 3) := by decide +kernel
theorem dX0_take_55 : decode cX0_take 55 = .ok (.invokestatic 68, 3) := by decide +kernel
theorem dX0_take_58 : decode cX0_take 58 = .ok (.aload_n 1, 1) := by decide +kernel
theorem dX0_take_59 : decode cX0_take 59 = .ok (.getfield 18, 3) := by decide +kernel
theorem dX0_take_62 : decode cX0_take 62 = .ok (.aload_n 0, 1) := by decide +kernel
theorem dX0_take_63 : decode cX0_take 63 = .ok (.getfield 18, 3) := by decide +kernel
theorem dX0_take_66 : decode cX0_take 66 = .ok (.invokestatic 68, 3) := by decide +kernel
theorem dX0_take_69 : decode cX0_take 69 = .ok (.aload_n 1, 1) := by decide +kernel
theorem dX0_take_70 : decode cX0_take 70 = .ok (.getfield 21, 3) := by decide +kernel
theorem dX0_take_73 : decode cX0_take 73 = .ok (.aload_n 0, 1) := by decide +kernel
theorem dX0_take_74 : decode cX0_take 74 = .ok (.getfield 21, 3) := by decide +kernel
theorem dX0_take_77 : decode cX0_take 77 = .ok (.invokestatic 68, 3) := by decide +kernel
theorem dX0_take_80 : decode cX0_take 80 = .ok (.aload_n 1, 1) := by decide +kernel
theorem dX0_take_81 : decode cX0_take 81 = .ok (.getfield 24, 3) := by decide +kernel
theorem dX0_take_84 : decode cX0_take 84 = .ok (.aload_n 0, 1) := by decide +kernel
theorem dX0_take_85 : decode cX0_take 85 = .ok (.getfield 24, 3) := by decide +kernel
theorem dX0_take_88 : decode cX0_take 88 = .ok (.invokestatic 68, 3) := by decide +kernel
theorem dX0_take_91 : decode cX0_take 91 = .ok (.aload_n 1, 1) := by decide +kernel
theorem dX0_take_92 : decode cX0_take 92 = .ok (.getfield 27, 3) := by decide +kernel
theorem dX0_take_95 : decode cX0_take 95 = .ok (.aload_n 0, 1) := by decide +kernel
theorem dX0_take_96 : decode cX0_take 96 = .ok (.getfield 27, 3) := by decide +kernel
theorem dX0_take_99 : decode cX0_take 99 = .ok (.invokestatic 68, 3) := by decide +kernel
theorem dX0_take_102 : decode cX0_take 102 = .ok (.return_, 1) := by decide +kernel
theorem dX0_isFor_0 : decode cX0_isFor 0 = .ok (.aload_n 0, 1) := by decide +kernel
theorem dX0_isFor_1 : decode cX0_isFor 1 = .ok (.getfield 52, 3) := by decide +kernel
theorem dX0_isFor_4 : decode cX0_isFor 4 = .ok (.iload_n 1, 1) := by decide +kernel
theorem dX0_isFor_5 : decode cX0_isFor 5 = .ok (.if_icmp .ne 23, 3) := by decide +kernel
theorem dX0_isFor_8 : decode cX0_isFor 8 = .ok (.aload_n 0, 1) := by decide +kernel
theorem dX0_isFor_9 : decode cX0_isFor 9 = .ok (.getfield 55, 3) := by decide +kernel
theorem dX0_isFor_12 : decode cX0_isFor 12 = .ok (.iload_n 2, 1) := by decide +kernel
theorem dX0_isFor_13 : decode cX0_isFor 13 = .ok (.if_icmp .ne 15, 3) := by decide +kernel
theorem dX0_isFor_16 : decode cX0_isFor 16 = .ok (.aload_n 0, 1) := by decide +kernel
theorem dX0_isFor_17 : decode cX0_isFor 17 = .ok (.getfield 58, 3) := by decide +kernel
theorem dX0_isFor_20 : decode cX0_isFor 20 = .ok (.iload_n 3, 1) := by decide +kernel
theorem dX0_isFor_21 : decode cX0_isFor 21 = .ok (.if_icmp .ne 7, 3) := by decide +kernel
theorem dX0_isFor_24 : decode cX0_isFor 24 = .ok (.iconst 1, 1) := by decide +kernel
theorem dX0_isFor_25 : decode cX0_isFor 25 = .ok (.goto 4, 3) := by decide +kernel
theorem dX0_isFor_28 : decode cX0_isFor 28 = .ok (.iconst 0, 1) := by decide +kernel
theorem dX0_isFor_29 : decode cX0_isFor 29 = .ok (.ireturn, 1) := by decide +kernel
theorem dX0_kindOf_0 : decode cX0_kindOf 0 = .ok (.iload_n 1, 1) := by decide +kernel
theorem dX0_kindOf_1 : decode cX0_kindOf 1 = .ok (.ifCond .lt 18, 3) := by decide +kernel
theorem dX0_kindOf_4 : decode cX0_kindOf 4 = .ok (.iload_n 1, 1) := by decide +kernel
theorem dX0_kindOf_5 : decode cX0_kindOf 5 = .ok (.bipush 8, 2) := by decide +kernel
theorem dX0_kindOf_7 : decode cX0_kindOf 7 = .ok (.if_icmp .ge 12, 3) := by decide +kernel
theorem dX0_kindOf_10 : decode cX0_kindOf 10 = .ok (.aload_n 0, 1) := by decide +kernel
theorem dX0_kindOf_11 : decode cX0_kindOf 11 = .ok (.getfield 9, 3) := by decide +kernel
theorem dX0_kindOf_14 : decode cX0_kindOf 14 = .ok (.iload_n 1, 1) := by decide +kernel
theorem dX0_kindOf_15 : decode cX0_kindOf 15 = .ok (.iaload, 1) := by decide +kernel
theorem dX0_kindOf_16 : decode cX0_kindOf 16 = .ok (.goto 4, 3) := by decide +kernel
theorem dX0_kindOf_19 : decode cX0_kindOf 19 = .ok (.iconst (-1), 1) := by decide +kernel
theorem dX0_kindOf_20 : decode cX0_kindOf 20 = .ok (.ireturn, 1) := by decide +kernel
theorem dX0_numberOf_0 : decode cX0_numberOf 0 = .ok (.iload_n 1, 1) := by decide +kernel
theorem dX0_numberOf_1 : decode cX0_numberOf 1 = .ok (.ifCond .lt 18, 3) := by decide +kernel
theorem dX0_numberOf_4 : decode cX0_numberOf 4 = .ok (.iload_n 1, 1) := by decide +kernel
theorem dX0_numberOf_5 : decode cX0_numberOf 5 = .ok (.bipush 8, 2) := by decide +kernel
theorem dX0_numberOf_7 : decode cX0_numberOf 7 = .ok (.if_icmp .ge 12, 3) := by decide +kernel
theorem dX0_numberOf_10 : decode cX0_numberOf 10 = .ok (.aload_n 0, 1) := by decide +kernel
theorem dX0_numberOf_11 : decode cX0_numberOf 11 = .ok (.getfield 15, 3) := by decide +kernel
theorem dX0_numberOf_14 : decode cX0_numberOf 14 = .ok (.iload_n 1, 1) := by decide +kernel
theorem dX0_numberOf_15 : decode cX0_numberOf 15 = .ok (.iaload, 1) := by decide +kernel
theorem dX0_numberOf_16 : decode cX0_numberOf 16 = .ok (.goto 4, 3) := by decide +kernel
theorem dX0_numberOf_19 : decode cX0_numberOf 19 = .ok (.iconst (-1), 1) := by decide +kernel
theorem dX0_numberOf_20 : decode cX0_numberOf 20 = .ok (.ireturn, 1) := by decide +kernel
theorem dX0_childOf_0 : decode cX0_childOf 0 = .ok (.iload_n 1, 1) := by decide +kernel
theorem dX0_childOf_1 : decode cX0_childOf 1 = .ok (.ifCond .lt 18, 3) := by decide +kernel
theorem dX0_childOf_4 : decode cX0_childOf 4 = .ok (.iload_n 1, 1) := by decide +kernel
theorem dX0_childOf_5 : decode cX0_childOf 5 = .ok (.bipush 8, 2) := by decide +kernel
theorem dX0_childOf_7 : decode cX0_childOf 7 = .ok (.if_icmp .ge 12, 3) := by decide +kernel
theorem dX0_childOf_10 : decode cX0_childOf 10 = .ok (.aload_n 0, 1) := by decide +kernel
theorem dX0_childOf_11 : decode cX0_childOf 11 = .ok (.getfield 18, 3) := by decide +kernel
theorem dX0_childOf_14 : decode cX0_childOf 14 = .ok (.iload_n 1, 1) := by decide +kernel
theorem dX0_childOf_15 : decode cX0_childOf 15 = .ok (.iaload, 1) := by decide +kernel
theorem dX0_childOf_16 : decode cX0_childOf 16 = .ok (.goto 4, 3) := by decide +kernel
theorem dX0_childOf_19 : decode cX0_childOf 19 = .ok (.iconst (-1), 1) := by decide +kernel
theorem dX0_childOf_20 : decode cX0_childOf 20 = .ok (.ireturn, 1) := by decide +kernel
theorem dX0_userOf_0 : decode cX0_userOf 0 = .ok (.iload_n 1, 1) := by decide +kernel
theorem dX0_userOf_1 : decode cX0_userOf 1 = .ok (.ifCond .lt 18, 3) := by decide +kernel
theorem dX0_userOf_4 : decode cX0_userOf 4 = .ok (.iload_n 1, 1) := by decide +kernel
theorem dX0_userOf_5 : decode cX0_userOf 5 = .ok (.bipush 8, 2) := by decide +kernel
theorem dX0_userOf_7 : decode cX0_userOf 7 = .ok (.if_icmp .ge 12, 3) := by decide +kernel
theorem dX0_userOf_10 : decode cX0_userOf 10 = .ok (.aload_n 0, 1) := by decide +kernel
theorem dX0_userOf_11 : decode cX0_userOf 11 = .ok (.getfield 21, 3) := by decide +kernel
theorem dX0_userOf_14 : decode cX0_userOf 14 = .ok (.iload_n 1, 1) := by decide +kernel
theorem dX0_userOf_15 : decode cX0_userOf 15 = .ok (.iaload, 1) := by decide +kernel
theorem dX0_userOf_16 : decode cX0_userOf 16 = .ok (.goto 4, 3) := by decide +kernel
theorem dX0_userOf_19 : decode cX0_userOf 19 = .ok (.iconst (-1), 1) := by decide +kernel
theorem dX0_userOf_20 : decode cX0_userOf 20 = .ok (.ireturn, 1) := by decide +kernel
theorem dX0_roleOf_0 : decode cX0_roleOf 0 = .ok (.iload_n 1, 1) := by decide +kernel
theorem dX0_roleOf_1 : decode cX0_roleOf 1 = .ok (.ifCond .lt 18, 3) := by decide +kernel
theorem dX0_roleOf_4 : decode cX0_roleOf 4 = .ok (.iload_n 1, 1) := by decide +kernel
theorem dX0_roleOf_5 : decode cX0_roleOf 5 = .ok (.bipush 8, 2) := by decide +kernel
theorem dX0_roleOf_7 : decode cX0_roleOf 7 = .ok (.if_icmp .ge 12, 3) := by decide +kernel
theorem dX0_roleOf_10 : decode cX0_roleOf 10 = .ok (.aload_n 0, 1) := by decide +kernel
theorem dX0_roleOf_11 : decode cX0_roleOf 11 = .ok (.getfield 24, 3) := by decide +kernel
theorem dX0_roleOf_14 : decode cX0_roleOf 14 = .ok (.iload_n 1, 1) := by decide +kernel
theorem dX0_roleOf_15 : decode cX0_roleOf 15 = .ok (.iaload, 1) := by decide +kernel
theorem dX0_roleOf_16 : decode cX0_roleOf 16 = .ok (.goto 4, 3) := by decide +kernel
theorem dX0_roleOf_19 : decode cX0_roleOf 19 = .ok (.iconst (-1), 1) := by decide +kernel
theorem dX0_roleOf_20 : decode cX0_roleOf 20 = .ok (.ireturn, 1) := by decide +kernel
theorem dX0_startOf_0 : decode cX0_startOf 0 = .ok (.iload_n 1, 1) := by decide +kernel
theorem dX0_startOf_1 : decode cX0_startOf 1 = .ok (.ifCond .lt 18, 3) := by decide +kernel
theorem dX0_startOf_4 : decode cX0_startOf 4 = .ok (.iload_n 1, 1) := by decide +kernel
theorem dX0_startOf_5 : decode cX0_startOf 5 = .ok (.bipush 8, 2) := by decide +kernel
theorem dX0_startOf_7 : decode cX0_startOf 7 = .ok (.if_icmp .ge 12, 3) := by decide +kernel
theorem dX0_startOf_10 : decode cX0_startOf 10 = .ok (.aload_n 0, 1) := by decide +kernel
theorem dX0_startOf_11 : decode cX0_startOf 11 = .ok (.getfield 27, 3) := by decide +kernel
theorem dX0_startOf_14 : decode cX0_startOf 14 = .ok (.iload_n 1, 1) := by decide +kernel
theorem dX0_startOf_15 : decode cX0_startOf 15 = .ok (.iaload, 1) := by decide +kernel
theorem dX0_startOf_16 : decode cX0_startOf 16 = .ok (.goto 4, 3) := by decide +kernel
theorem dX0_startOf_19 : decode cX0_startOf 19 = .ok (.iconst (-1), 1) := by decide +kernel
theorem dX0_startOf_20 : decode cX0_startOf 20 = .ok (.ireturn, 1) := by decide +kernel
theorem dX1_init_0 : decode cX1_init 0 = .ok (.aload_n 0, 1) := by decide +kernel
theorem dX1_init_1 : decode cX1_init 1 = .ok (.invokespecial 5, 3) := by decide +kernel
theorem dX1_init_4 : decode cX1_init 4 = .ok (.aload_n 0, 1) := by decide +kernel
theorem dX1_init_5 : decode cX1_init 5 = .ok (.bipush 30, 2) := by decide +kernel
theorem dX1_init_7 : decode cX1_init 7 = .ok (.anewarray 11, 3) := by decide +kernel
theorem dX1_init_10 : decode cX1_init 10 = .ok (.putfield 13, 3) := by decide +kernel
theorem dX1_init_13 : decode cX1_init 13 = .ok (.aload_n 0, 1) := by decide +kernel
theorem dX1_init_14 : decode cX1_init 14 = .ok (.iconst 4, 1) := by decide +kernel
theorem dX1_init_15 : decode cX1_init 15 = .ok (.newarray .boolean, 2) := by decide +kernel
theorem dX1_init_17 : decode cX1_init 17 = .ok (.putfield 17, 3) := by decide +kernel
theorem dX1_init_20 : decode cX1_init 20 = .ok (.aload_n 0, 1) := by decide +kernel
theorem dX1_init_21 : decode cX1_init 21 = .ok (.sipush 240, 3) := by decide +kernel
theorem dX1_init_24 : decode cX1_init 24 = .ok (.newarray .int, 2) := by decide +kernel
theorem dX1_init_26 : decode cX1_init 26 = .ok (.putfield 21, 3) := by decide +kernel
theorem dX1_init_29 : decode cX1_init 29 = .ok (.aload_n 0, 1) := by decide +kernel
theorem dX1_init_30 : decode cX1_init 30 = .ok (.sipush 240, 3) := by decide +kernel
theorem dX1_init_33 : decode cX1_init 33 = .ok (.newarray .int, 2) := by decide +kernel
theorem dX1_init_35 : decode cX1_init 35 = .ok (.putfield 25, 3) := by decide +kernel
theorem dX1_init_38 : decode cX1_init 38 = .ok (.aload_n 0, 1) := by decide +kernel
theorem dX1_init_39 : decode cX1_init 39 = .ok (.sipush 240, 3) := by decide +kernel
theorem dX1_init_42 : decode cX1_init 42 = .ok (.newarray .int, 2) := by decide +kernel
theorem dX1_init_44 : decode cX1_init 44 = .ok (.putfield 28, 3) := by decide +kernel
theorem dX1_init_47 : decode cX1_init 47 = .ok (.aload_n 0, 1) := by decide +kernel
theorem dX1_init_48 : decode cX1_init 48 = .ok (.bipush 60, 2) := by decide +kernel
theorem dX1_init_50 : decode cX1_init 50 = .ok (.newarray .int, 2) := by decide +kernel
theorem dX1_init_52 : decode cX1_init 52 = .ok (.putfield 31, 3) := by decide +kernel
theorem dX1_init_55 : decode cX1_init 55 = .ok (.aload_n 0, 1) := by decide +kernel
theorem dX1_init_56 : decode cX1_init 56 = .ok (.bipush 30, 2) := by decide +kernel
theorem dX1_init_58 : decode cX1_init 58 = .ok (.newarray .int, 2) := by decide +kernel
theorem dX1_init_60 : decode cX1_init 60 = .ok (.putfield 34, 3) := by decide +kernel
theorem dX1_init_63 : decode cX1_init 63 = .ok (.aload_n 0, 1) := by decide +kernel
theorem dX1_init_64 : decode cX1_init 64 = .ok (.aload_n 1, 1) := by decide +kernel
theorem dX1_init_65 : decode cX1_init 65 = .ok (.putfield 37, 3) := by decide +kernel
theorem dX1_init_68 : decode cX1_init 68 = .ok (.aload_n 0, 1) := by decide +kernel
theorem dX1_init_69 : decode cX1_init 69 = .ok (.aload_n 2, 1) := by decide +kernel
theorem dX1_init_70 : decode cX1_init 70 = .ok (.putfield 41, 3) := by decide +kernel
theorem dX1_init_73 : decode cX1_init 73 = .ok (.iconst 0, 1) := by decide +kernel
theorem dX1_init_74 : decode cX1_init 74 = .ok (.istore_n 3, 1) := by decide +kernel
theorem dX1_init_75 : decode cX1_init 75 = .ok (.iload_n 3, 1) := by decide +kernel
theorem dX1_init_76 : decode cX1_init 76 = .ok (.aload_n 0, 1) := by decide +kernel
theorem dX1_init_77 : decode cX1_init 77 = .ok (.getfield 13, 3) := by decide +kernel
theorem dX1_init_80 : decode cX1_init 80 = .ok (.arraylength, 1) := by decide +kernel
theorem dX1_init_81 : decode cX1_init 81 = .ok (.if_icmp .ge 22, 3) := by decide +kernel
theorem dX1_init_84 : decode cX1_init 84 = .ok (.aload_n 0, 1) := by decide +kernel
theorem dX1_init_85 : decode cX1_init 85 = .ok (.getfield 13, 3) := by decide +kernel
theorem dX1_init_88 : decode cX1_init 88 = .ok (.iload_n 3, 1) := by decide +kernel
theorem dX1_init_89 : decode cX1_init 89 = .ok (.new 11, 3) := by decide +kernel
theorem dX1_init_92 : decode cX1_init 92 = .ok (.dup, 1) := by decide +kernel
theorem dX1_init_93 : decode cX1_init 93 = .ok (.invokespecial 45, 3) := by decide +kernel
theorem dX1_init_96 : decode cX1_init 96 = .ok (.aastore, 1) := by decide +kernel
theorem dX1_init_97 : decode cX1_init 97 = .ok (.iinc 3 1, 3) := by decide +kernel
theorem dX1_init_100 : decode cX1_init 100 = .ok (.goto (-25), 3) := by decide +kernel
theorem dX1_init_103 : decode cX1_init 103 = .ok (.return_, 1) := by decide +kernel
theorem dX1_append_0 : decode cX1_append 0 = .ok (.aload_n 0, 1) := by decide +kernel
theorem dX1_append_1 : decode cX1_append 1 = .ok (.getfield 46, 3) := by decide +kernel
theorem dX1_append_4 : decode cX1_append 4 = .ok (.istore_n 2, 1) := by decide +kernel
theorem dX1_append_5 : decode cX1_append 5 = .ok (.iload_n 2, 1) := by decide +kernel
theorem dX1_append_6 : decode cX1_append 6 = .ok (.ifCond .lt 21, 3) := by decide +kernel
theorem dX1_append_9 : decode cX1_append 9 = .ok (.iload_n 2, 1) := by decide +kernel
theorem dX1_append_10 : decode cX1_append 10 = .ok (.aload_n 0, 1) := by decide +kernel
theorem dX1_append_11 : decode cX1_append 11 = .ok (.getfield 13, 3) := by decide +kernel
theorem dX1_append_14 : decode cX1_append 14 = .ok (.arraylength, 1) := by decide +kernel
theorem dX1_append_15 : decode cX1_append 15 = .ok (.if_icmp .ge 12, 3) := by decide +kernel
theorem dX1_append_18 : decode cX1_append 18 = .ok (.aload_n 0, 1) := by decide +kernel
theorem dX1_append_19 : decode cX1_append 19 = .ok (.getfield 13, 3) := by decide +kernel
theorem dX1_append_22 : decode cX1_append 22 = .ok (.iload_n 2, 1) := by decide +kernel
theorem dX1_append_23 : decode cX1_append 23 = .ok (.aaload, 1) := by decide +kernel
theorem dX1_append_24 : decode cX1_append 24 = .ok (.goto 4, 3) := by decide +kernel
theorem dX1_append_27 : decode cX1_append 27 = .ok (.aconst_null, 1) := by decide +kernel
theorem dX1_append_28 : decode cX1_append 28 = .ok (.astore_n 3, 1) := by decide +kernel
theorem dX1_append_29 : decode cX1_append 29 = .ok (.aload_n 3, 1) := by decide +kernel
theorem dX1_append_30 : decode cX1_append 30 = .ok (.ifnonnull 5, 3) := by decide +kernel
theorem dX1_append_33 : decode cX1_append 33 = .ok (.iconst (-1), 1) := by decide +kernel
theorem dX1_append_34 : decode cX1_append 34 = .ok (.ireturn, 1) := by decide +kernel
theorem dX1_append_35 : decode cX1_append 35 = .ok (.aload_n 3, 1) := by decide +kernel
theorem dX1_append_36 : decode cX1_append 36 = .ok (.aload_n 1, 1) := by decide +kernel
theorem dX1_append_37 : decode cX1_append 37 = .ok (.invokevirtual 50, 3) := by decide +kernel
theorem dX1_append_40 : decode cX1_append 40 = .ok (.aload_n 0, 1) := by decide +kernel
theorem dX1_append_41 : decode cX1_append 41 = .ok (.dup, 1) := by decide +kernel
theorem dX1_append_42 : decode cX1_append 42 = .ok (.getfield 46, 3) := by decide +kernel
theorem dX1_append_45 : decode cX1_append 45 = .ok (.iconst 1, 1) := by decide +kernel
theorem dX1_append_46 : decode cX1_append 46 = .ok (.iadd, 1) := by decide +kernel
theorem dX1_append_47 : decode cX1_append 47 = .ok (.putfield 46, 3) := by decide +kernel
theorem dX1_append_50 : decode cX1_append 50 = .ok (.iload_n 2, 1) := by decide +kernel
theorem dX1_append_51 : decode cX1_append 51 = .ok (.ireturn, 1) := by decide +kernel
theorem dX1_turnAspect_0 : decode cX1_turnAspect 0 = .ok (.iload_n 1, 1) := by decide +kernel
theorem dX1_turnAspect_1 : decode cX1_turnAspect 1 = .ok (.ifCond .lt 12, 3) := by decide +kernel
theorem dX1_turnAspect_4 : decode cX1_turnAspect 4 = .ok (.iload_n 1, 1) := by decide +kernel
theorem dX1_turnAspect_5 : decode cX1_turnAspect 5 = .ok (.aload_n 0, 1) := by decide +kernel
theorem dX1_turnAspect_6 : decode cX1_turnAspect 6 = .ok (.getfield 17, 3) := by decide +kernel
theorem dX1_turnAspect_9 : decode cX1_turnAspect 9 = .ok (.arraylength, 1) := by decide +kernel
theorem dX1_turnAspect_10 : decode cX1_turnAspect 10 = .ok (.if_icmp .lt 5, 3) := by decide +kernel
theorem dX1_turnAspect_13 : decode cX1_turnAspect 13 = .ok (.iconst 0, 1) := by decide +kernel
theorem dX1_turnAspect_14 : decode cX1_turnAspect 14 = .ok (.ireturn, 1) := by decide +kernel
theorem dX1_turnAspect_15 : decode cX1_turnAspect 15 = .ok (.aload_n 0, 1) := by decide +kernel
theorem dX1_turnAspect_16 : decode cX1_turnAspect 16 = .ok (.getfield 17, 3) := by decide +kernel
theorem dX1_turnAspect_19 : decode cX1_turnAspect 19 = .ok (.iload_n 1, 1) := by decide +kernel
theorem dX1_turnAspect_20 : decode cX1_turnAspect 20 = .ok (.aload_n 0, 1) := by decide +kernel
theorem dX1_turnAspect_21 : decode cX1_turnAspect 21 = .ok (.getfield 17, 3) := by decide +kernel
theorem dX1_turnAspect_24 : decode cX1_turnAspect 24 = .ok (.iload_n 1, 1) := by decide +kernel
theorem dX1_turnAspect_25 : decode cX1_turnAspect 25 = .ok (.baload, 1) := by decide +kernel
theorem dX1_turnAspect_26 : decode cX1_turnAspect 26 = .ok (.ifCond .ne 7, 3) := by decide +kernel
theorem dX1_turnAspect_29 : decode cX1_turnAspect 29 = .ok (.iconst 1, 1) := by decide +kernel
theorem dX1_turnAspect_30 : decode cX1_turnAspect 30 = .ok (.goto 4, 3) := by decide +kernel
theorem dX1_turnAspect_33 : decode cX1_turnAspect 33 = .ok (.iconst 0, 1) := by decide +kernel
theorem dX1_turnAspect_34 : decode cX1_turnAspect 34 = .ok (.bastore, 1) := by decide +kernel
theorem dX1_turnAspect_35 : decode cX1_turnAspect 35 = .ok (.aload_n 0, 1) := by decide +kernel
theorem dX1_turnAspect_36 : decode cX1_turnAspect 36 = .ok (.getfield 17, 3) := by decide +kernel
theorem dX1_turnAspect_39 : decode cX1_turnAspect 39 = .ok (.iload_n 1, 1) := by decide +kernel
theorem dX1_turnAspect_40 : decode cX1_turnAspect 40 = .ok (.baload, 1) := by decide +kernel
theorem dX1_turnAspect_41 : decode cX1_turnAspect 41 = .ok (.ifCond .ne 7, 3) := by decide +kernel
theorem dX1_turnAspect_44 : decode cX1_turnAspect 44 = .ok (.iconst 1, 1) := by decide +kernel
theorem dX1_turnAspect_45 : decode cX1_turnAspect 45 = .ok (.goto 4, 3) := by decide +kernel
theorem dX1_turnAspect_48 : decode cX1_turnAspect 48 = .ok (.iconst 0, 1) := by decide +kernel
theorem dX1_turnAspect_49 : decode cX1_turnAspect 49 = .ok (.ireturn, 1) := by decide +kernel
theorem dX1_rowOf_0 : decode cX1_rowOf 0 = .ok (.iload_n 1, 1) := by decide +kernel
theorem dX1_rowOf_1 : decode cX1_rowOf 1 = .ok (.ifCond .lt 29, 3) := by decide +kernel
theorem dX1_rowOf_4 : decode cX1_rowOf 4 = .ok (.iload_n 1, 1) := by decide +kernel
theorem dX1_rowOf_5 : decode cX1_rowOf 5 = .ok (.aload_n 0, 1) := by decide +kernel
theorem dX1_rowOf_6 : decode cX1_rowOf 6 = .ok (.getfield 46, 3) := by decide +kernel
theorem dX1_rowOf_9 : decode cX1_rowOf 9 = .ok (.if_icmp .ge 21, 3) := by decide +kernel
theorem dX1_rowOf_12 : decode cX1_rowOf 12 = .ok (.iload_n 1, 1) := by decide +kernel
theorem dX1_rowOf_13 : decode cX1_rowOf 13 = .ok (.aload_n 0, 1) := by decide +kernel
theorem dX1_rowOf_14 : decode cX1_rowOf 14 = .ok (.getfield 13, 3) := by decide +kernel
theorem dX1_rowOf_17 : decode cX1_rowOf 17 = .ok (.arraylength, 1) := by decide +kernel
theorem dX1_rowOf_18 : decode cX1_rowOf 18 = .ok (.if_icmp .ge 12, 3) := by decide +kernel
theorem dX1_rowOf_21 : decode cX1_rowOf 21 = .ok (.aload_n 0, 1) := by decide +kernel
theorem dX1_rowOf_22 : decode cX1_rowOf 22 = .ok (.getfield 13, 3) := by decide +kernel
theorem dX1_rowOf_25 : decode cX1_rowOf 25 = .ok (.iload_n 1, 1) := by decide +kernel
theorem dX1_rowOf_26 : decode cX1_rowOf 26 = .ok (.aaload, 1) := by decide +kernel
theorem dX1_rowOf_27 : decode cX1_rowOf 27 = .ok (.goto 4, 3) := by decide +kernel
theorem dX1_rowOf_30 : decode cX1_rowOf 30 = .ok (.aconst_null, 1) := by decide +kernel
theorem dX1_rowOf_31 : decode cX1_rowOf 31 = .ok (.areturn, 1) := by decide +kernel
theorem dX1_counts_0 : decode cX1_counts 0 = .ok (.aload_n 1, 1) := by decide +kernel
theorem dX1_counts_1 : decode cX1_counts 1 = .ok (.getfield 54, 3) := by decide +kernel
theorem dX1_counts_4 : decode cX1_counts 4 = .ok (.istore_n 2, 1) := by decide +kernel
theorem dX1_counts_5 : decode cX1_counts 5 = .ok (.iload_n 2, 1) := by decide +kernel
theorem dX1_counts_6 : decode cX1_counts 6 = .ok (.ifCond .lt 25, 3) := by decide +kernel
theorem dX1_counts_9 : decode cX1_counts 9 = .ok (.iload_n 2, 1) := by decide +kernel
theorem dX1_counts_10 : decode cX1_counts 10 = .ok (.aload_n 0, 1) := by decide +kernel
theorem dX1_counts_11 : decode cX1_counts 11 = .ok (.getfield 17, 3) := by decide +kernel
theorem dX1_counts_14 : decode cX1_counts 14 = .ok (.arraylength, 1) := by decide +kernel
theorem dX1_counts_15 : decode cX1_counts 15 = .ok (.if_icmp .ge 16, 3) := by decide +kernel
theorem dX1_counts_18 : decode cX1_counts 18 = .ok (.aload_n 0, 1) := by decide +kernel
theorem dX1_counts_19 : decode cX1_counts 19 = .ok (.getfield 17, 3) := by decide +kernel
theorem dX1_counts_22 : decode cX1_counts 22 = .ok (.iload_n 2, 1) := by decide +kernel
theorem dX1_counts_23 : decode cX1_counts 23 = .ok (.baload, 1) := by decide +kernel
theorem dX1_counts_24 : decode cX1_counts 24 = .ok (.ifCond .ne 7, 3) := by decide +kernel
theorem dX1_counts_27 : decode cX1_counts 27 = .ok (.iconst 1, 1) := by decide +kernel
theorem dX1_counts_28 : decode cX1_counts 28 = .ok (.goto 4, 3) := by decide +kernel
theorem dX1_counts_31 : decode cX1_counts 31 = .ok (.iconst 0, 1) := by decide +kernel
theorem dX1_counts_32 : decode cX1_counts 32 = .ok (.ireturn, 1) := by decide +kernel
theorem dX1_arrange_0 : decode cX1_arrange 0 = .ok (.aload_n 0, 1) := by decide +kernel
theorem dX1_arrange_1 : decode cX1_arrange 1 = .ok (.getfield 41, 3) := by decide +kernel
theorem dX1_arrange_4 : decode cX1_arrange 4 = .ok (.invokevirtual 57, 3) := by decide +kernel
theorem dX1_arrange_7 : decode cX1_arrange 7 = .ok (.aload_n 0, 1) := by decide +kernel
theorem dX1_arrange_8 : decode cX1_arrange 8 = .ok (.getfield 21, 3) := by decide +kernel
theorem dX1_arrange_11 : decode cX1_arrange 11 = .ok (.iconst (-1), 1) := by decide +kernel
theorem dX1_arrange_12 : decode cX1_arrange 12 = .ok (.invokestatic 62, 3) := by decide +kernel
theorem dX1_arrange_15 : decode cX1_arrange 15 = .ok (.aload_n 0, 1) := by decide +kernel
theorem dX1_arrange_16 : decode cX1_arrange 16 = .ok (.getfield 31, 3) := by decide +kernel
theorem dX1_arrange_19 : decode cX1_arrange 19 = .ok (.iconst (-1), 1) := by decide +kernel
theorem dX1_arrange_20 : decode cX1_arrange 20 = .ok (.invokestatic 62, 3) := by decide +kernel
theorem dX1_arrange_23 : decode cX1_arrange 23 = .ok (.aload_n 0, 1) := by decide +kernel
theorem dX1_arrange_24 : decode cX1_arrange 24 = .ok (.getfield 46, 3) := by decide +kernel
theorem dX1_arrange_27 : decode cX1_arrange 27 = .ok (.iconst 1, 1) := by decide +kernel
theorem dX1_arrange_28 : decode cX1_arrange 28 = .ok (.isub, 1) := by decide +kernel
theorem dX1_arrange_29 : decode cX1_arrange 29 = .ok (.istore_n 1, 1) := by decide +kernel
theorem dX1_arrange_30 : decode cX1_arrange 30 = .ok (.iload_n 1, 1) := by decide +kernel
theorem dX1_arrange_31 : decode cX1_arrange 31 = .ok (.ifCond .lt 33, 3) := by decide +kernel
theorem dX1_arrange_34 : decode cX1_arrange 34 = .ok (.aload_n 0, 1) := by decide +kernel
theorem dX1_arrange_35 : decode cX1_arrange 35 = .ok (.iload_n 1, 1) := by decide +kernel
theorem dX1_arrange_36 : decode cX1_arrange 36 = .ok (.invokevirtual 66, 3) := by decide +kernel
theorem dX1_arrange_39 : decode cX1_arrange 39 = .ok (.astore_n 2, 1) := by decide +kernel
theorem dX1_arrange_40 : decode cX1_arrange 40 = .ok (.aload_n 2, 1) := by decide +kernel
theorem dX1_arrange_41 : decode cX1_arrange 41 = .ok (.ifnull 17, 3) := by decide +kernel
theorem dX1_arrange_44 : decode cX1_arrange 44 = .ok (.aload_n 0, 1) := by decide +kernel
theorem dX1_arrange_45 : decode cX1_arrange 45 = .ok (.aload_n 2, 1) := by decide +kernel
theorem dX1_arrange_46 : decode cX1_arrange 46 = .ok (.invokevirtual 70, 3) := by decide +kernel
theorem dX1_arrange_49 : decode cX1_arrange 49 = .ok (.ifCond .eq 9, 3) := by decide +kernel
theorem dX1_arrange_52 : decode cX1_arrange 52 = .ok (.aload_n 0, 1) := by decide +kernel
theorem dX1_arrange_53 : decode cX1_arrange 53 = .ok (.aload_n 2, 1) := by decide +kernel
theorem dX1_arrange_54 : decode cX1_arrange 54 = .ok (.iload_n 1, 1) := by decide +kernel
theorem dX1_arrange_55 : decode cX1_arrange 55 = .ok (.invokevirtual 74, 3) := by decide +kernel
theorem dX1_arrange_58 : decode cX1_arrange 58 = .ok (.iinc 1 (-1), 3) := by decide +kernel
theorem dX1_arrange_61 : decode cX1_arrange 61 = .ok (.goto (-31), 3) := by decide +kernel
theorem dX1_arrange_64 : decode cX1_arrange 64 = .ok (.iconst 0, 1) := by decide +kernel
theorem dX1_arrange_65 : decode cX1_arrange 65 = .ok (.istore_n 1, 1) := by decide +kernel
theorem dX1_arrange_66 : decode cX1_arrange 66 = .ok (.iload_n 1, 1) := by decide +kernel
theorem dX1_arrange_67 : decode cX1_arrange 67 = .ok (.aload_n 0, 1) := by decide +kernel
theorem dX1_arrange_68 : decode cX1_arrange 68 = .ok (.getfield 37, 3) := by decide +kernel
theorem dX1_arrange_71 : decode cX1_arrange 71 = .ok (.getfield 78, 3) := by decide +kernel
theorem dX1_arrange_74 : decode cX1_arrange 74 = .ok (.if_icmp .ge 48, 3) := by decide +kernel
theorem dX1_arrange_77 : decode cX1_arrange 77 = .ok (.iconst 0, 1) := by decide +kernel
theorem dX1_arrange_78 : decode cX1_arrange 78 = .ok (.istore_n 2, 1) := by decide +kernel
theorem dX1_arrange_79 : decode cX1_arrange 79 = .ok (.iload_n 2, 1) := by decide +kernel
theorem dX1_arrange_80 : decode cX1_arrange 80 = .ok (.aload_n 0, 1) := by decide +kernel
theorem dX1_arrange_81 : decode cX1_arrange 81 = .ok (.getfield 37, 3) := by decide +kernel
theorem dX1_arrange_84 : decode cX1_arrange 84 = .ok (.getfield 83, 3) := by decide +kernel
theorem dX1_arrange_87 : decode cX1_arrange 87 = .ok (.if_icmp .ge 29, 3) := by decide +kernel
theorem dX1_arrange_90 : decode cX1_arrange 90 = .ok (.iconst (-1), 1) := by decide +kernel
theorem dX1_arrange_91 : decode cX1_arrange 91 = .ok (.istore_n 3, 1) := by decide +kernel
theorem dX1_arrange_92 : decode cX1_arrange 92 = .ok (.iload_n 3, 1) := by decide +kernel
theorem dX1_arrange_93 : decode cX1_arrange 93 = .ok (.iconst 3, 1) := by decide +kernel
theorem dX1_arrange_94 : decode cX1_arrange 94 = .ok (.if_icmp .ge 16, 3) := by decide +kernel
theorem dX1_arrange_97 : decode cX1_arrange 97 = .ok (.aload_n 0, 1) := by decide +kernel
theorem dX1_arrange_98 : decode cX1_arrange 98 = .ok (.iload_n 1, 1) := by decide +kernel
theorem dX1_arrange_99 : decode cX1_arrange 99 = .ok (.iload_n 2, 1) := by decide +kernel
theorem dX1_arrange_100 : decode cX1_arrange 100 = .ok (.iload_n 3, 1) := by decide +kernel
theorem dX1_arrange_101 : decode cX1_arrange 101 = .ok (.invokevirtual 86, 3) := by decide +kernel
theorem dX1_arrange_104 : decode cX1_arrange 104 = .ok (.iinc 3 1, 3) := by decide +kernel
theorem dX1_arrange_107 : decode cX1_arrange 107 = .ok (.goto (-15), 3) := by decide +kernel
theorem dX1_arrange_110 : decode cX1_arrange 110 = .ok (.iinc 2 1, 3) := by decide +kernel
theorem dX1_arrange_113 : decode cX1_arrange 113 = .ok (.goto (-34), 3) := by decide +kernel
theorem dX1_arrange_116 : decode cX1_arrange 116 = .ok (.iinc 1 1, 3) := by decide +kernel
theorem dX1_arrange_119 : decode cX1_arrange 119 = .ok (.goto (-53), 3) := by decide +kernel
theorem dX1_arrange_122 : decode cX1_arrange 122 = .ok (.return_, 1) := by decide +kernel
theorem dX1_arrangeOne_0 : decode cX1_arrangeOne 0 = .ok (.aload_n 1, 1) := by decide +kernel
theorem dX1_arrangeOne_1 : decode cX1_arrangeOne 1 = .ok (.getfield 90, 3) := by decide +kernel
theorem dX1_arrangeOne_4 : decode cX1_arrangeOne 4 = .ok (.bipush 6, 2) := by decide +kernel
theorem dX1_arrangeOne_6 : decode cX1_arrangeOne 6 = .ok (.imul, 1) := by decide +kernel
theorem dX1_arrangeOne_7 : decode cX1_arrangeOne 7 = .ok (.aload_n 1, 1) := by decide +kernel
theorem dX1_arrangeOne_8 : decode cX1_arrangeOne 8 = .ok (.getfield 93, 3) := by decide +kernel
theorem dX1_arrangeOne_11 : decode cX1_arrangeOne 11 = .ok (.iadd, 1) := by decide +kernel
theorem dX1_arrangeOne_12 : decode cX1_arrangeOne 12 = .ok (.istore_n 3, 1) := by decide +kernel
theorem dX1_arrangeOne_13 : decode cX1_arrangeOne 13 = .ok (.aload_n 1, 1) := by decide +kernel
theorem dX1_arrangeOne_14 : decode cX1_arrangeOne 14 = .ok (.getfield 96, 3) := by decide +kernel
theorem dX1_arrangeOne_17 : decode cX1_arrangeOne 17 = .ok (.bipush (-2), 2) := by decide +kernel
theorem dX1_arrangeOne_19 : decode cX1_arrangeOne 19 = .ok (.if_icmp .ne 29, 3) := by decide +kernel
theorem dX1_arrangeOne_22 : decode cX1_arrangeOne 22 = .ok (.aload_n 0, 1) := by decide +kernel
theorem dX1_arrangeOne_23 : decode cX1_arrangeOne 23 = .ok (.getfield 34, 3) := by decide +kernel
theorem dX1_arrangeOne_26 : decode cX1_arrangeOne 26 = .ok (.iload_n 2, 1) := by decide +kernel
theorem dX1_arrangeOne_27 : decode cX1_arrangeOne 27 = .ok (.aload_n 0, 1) := by decide +kernel
theorem dX1_arrangeOne_28 : decode cX1_arrangeOne 28 = .ok (.getfield 31, 3) := by decide +kernel
theorem dX1_arrangeOne_31 : decode cX1_arrangeOne 31 = .ok (.iload_n 3, 1) := by decide +kernel
theorem dX1_arrangeOne_32 : decode cX1_arrangeOne 32 = .ok (.invokestatic 99, 3) := by decide +kernel
theorem dX1_arrangeOne_35 : decode cX1_arrangeOne 35 = .ok (.invokestatic 103, 3) := by decide +kernel
theorem dX1_arrangeOne_38 : decode cX1_arrangeOne 38 = .ok (.aload_n 0, 1) := by decide +kernel
theorem dX1_arrangeOne_39 : decode cX1_arrangeOne 39 = .ok (.getfield 31, 3) := by decide +kernel
theorem dX1_arrangeOne_42 : decode cX1_arrangeOne 42 = .ok (.iload_n 3, 1) := by decide +kernel
theorem dX1_arrangeOne_43 : decode cX1_arrangeOne 43 = .ok (.iload_n 2, 1) := by decide +kernel
theorem dX1_arrangeOne_44 : decode cX1_arrangeOne 44 = .ok (.invokestatic 103, 3) := by decide +kernel
theorem dX1_arrangeOne_47 : decode cX1_arrangeOne 47 = .ok (.return_, 1) := by decide +kernel
theorem dX1_arrangeOne_48 : decode cX1_arrangeOne 48 = .ok (.aload_n 1, 1) := by decide +kernel
theorem dX1_arrangeOne_49 : decode cX1_arrangeOne 49 = .ok (.getfield 90, 3) := by decide +kernel
theorem dX1_arrangeOne_52 : decode cX1_arrangeOne 52 = .ok (.aload_n 1, 1) := by decide +kernel
theorem dX1_arrangeOne_53 : decode cX1_arrangeOne 53 = .ok (.getfield 93, 3) := by decide +kernel
theorem dX1_arrangeOne_56 : decode cX1_arrangeOne 56 = .ok (.aload_n 1, 1) := by decide +kernel
theorem dX1_arrangeOne_57 : decode cX1_arrangeOne 57 = .ok (.getfield 96, 3) := by decide +kernel
theorem dX1_arrangeOne_60 : decode cX1_arrangeOne 60 = .ok (.invokestatic 107, 3) := by decide +kernel
theorem dX1_arrangeOne_63 : decode cX1_arrangeOne 63 = .ok (.istore 4, 2) := by decide +kernel
theorem dX1_arrangeOne_65 : decode cX1_arrangeOne 65 = .ok (.aload_n 0, 1) := by decide +kernel
theorem dX1_arrangeOne_66 : decode cX1_arrangeOne 66 = .ok (.getfield 21, 3) := by decide +kernel
theorem dX1_arrangeOne_69 : decode cX1_arrangeOne 69 = .ok (.iload 4, 2) := by decide +kernel
theorem dX1_arrangeOne_71 : decode cX1_arrangeOne 71 = .ok (.aload_n 0, 1) := by decide +kernel
theorem dX1_arrangeOne_72 : decode cX1_arrangeOne 72 = .ok (.getfield 21, 3) := by decide +kernel
theorem dX1_arrangeOne_75 : decode cX1_arrangeOne 75 = .ok (.iload 4, 2) := by decide +kernel
theorem dX1_arrangeOne_77 : decode cX1_arrangeOne 77 = .ok (.invokestatic 99, 3) := by decide +kernel
theorem dX1_arrangeOne_80 : decode cX1_arrangeOne 80 = .ok (.iconst (-1), 1) := by decide +kernel
theorem dX1_arrangeOne_81 : decode cX1_arrangeOne 81 = .ok (.if_icmp .ne 7, 3) := by decide +kernel
theorem dX1_arrangeOne_84 : decode cX1_arrangeOne 84 = .ok (.iload_n 2, 1) := by decide +kernel
theorem dX1_arrangeOne_85 : decode cX1_arrangeOne 85 = .ok (.goto 5, 3) := by decide +kernel
theorem dX1_arrangeOne_88 : decode cX1_arrangeOne 88 = .ok (.bipush (-3), 2) := by decide +kernel
theorem dX1_arrangeOne_90 : decode cX1_arrangeOne 90 = .ok (.invokestatic 103, 3) := by decide +kernel
theorem dX1_arrangeOne_93 : decode cX1_arrangeOne 93 = .ok (.return_, 1) := by decide +kernel
theorem dX1_resolve_0 : decode cX1_resolve 0 = .ok (.iload_n 1, 1) := by decide +kernel
theorem dX1_resolve_1 : decode cX1_resolve 1 = .ok (.iload_n 2, 1) := by decide +kernel
theorem dX1_resolve_2 : decode cX1_resolve 2 = .ok (.iload_n 3, 1) := by decide +kernel
theorem dX1_resolve_3 : decode cX1_resolve 3 = .ok (.invokestatic 107, 3) := by decide +kernel
theorem dX1_resolve_6 : decode cX1_resolve 6 = .ok (.istore 4, 2) := by decide +kernel
theorem dX1_resolve_8 : decode cX1_resolve 8 = .ok (.aload_n 0, 1) := by decide +kernel
theorem dX1_resolve_9 : decode cX1_resolve 9 = .ok (.getfield 25, 3) := by decide +kernel
theorem dX1_resolve_12 : decode cX1_resolve 12 = .ok (.iload 4, 2) := by decide +kernel
theorem dX1_resolve_14 : decode cX1_resolve 14 = .ok (.iconst (-1), 1) := by decide +kernel
theorem dX1_resolve_15 : decode cX1_resolve 15 = .ok (.invokestatic 103, 3) := by decide +kernel
theorem dX1_resolve_18 : decode cX1_resolve 18 = .ok (.iconst 0, 1) := by decide +kernel
theorem dX1_resolve_19 : decode cX1_resolve 19 = .ok (.istore 5, 2) := by decide +kernel
theorem dX1_resolve_21 : decode cX1_resolve 21 = .ok (.iload 5, 2) := by decide +kernel
theorem dX1_resolve_23 : decode cX1_resolve 23 = .ok (.iconst 3, 1) := by decide +kernel
theorem dX1_resolve_24 : decode cX1_resolve 24 = .ok (.if_icmp .gt 80, 3) := by decide +kernel
theorem dX1_resolve_27 : decode cX1_resolve 27 = .ok (.aload_n 0, 1) := by decide +kernel
theorem dX1_resolve_28 : decode cX1_resolve 28 = .ok (.getfield 41, 3) := by decide +kernel
theorem dX1_resolve_31 : decode cX1_resolve 31 = .ok (.iload_n 1, 1) := by decide +kernel
theorem dX1_resolve_32 : decode cX1_resolve 32 = .ok (.iload 5, 2) := by decide +kernel
theorem dX1_resolve_34 : decode cX1_resolve 34 = .ok (.invokevirtual 111, 3) := by decide +kernel
theorem dX1_resolve_37 : decode cX1_resolve 37 = .ok (.istore 6, 2) := by decide +kernel
theorem dX1_resolve_39 : decode cX1_resolve 39 = .ok (.aload_n 0, 1) := by decide +kernel
theorem dX1_resolve_40 : decode cX1_resolve 40 = .ok (.getfield 41, 3) := by decide +kernel
theorem dX1_resolve_43 : decode cX1_resolve 43 = .ok (.iload_n 1, 1) := by decide +kernel
theorem dX1_resolve_44 : decode cX1_resolve 44 = .ok (.iload 5, 2) := by decide +kernel
theorem dX1_resolve_46 : decode cX1_resolve 46 = .ok (.iload_n 3, 1) := by decide +kernel
theorem dX1_resolve_47 : decode cX1_resolve 47 = .ok (.invokevirtual 115, 3) := by decide +kernel
theorem dX1_resolve_50 : decode cX1_resolve 50 = .ok (.istore 7, 2) := by decide +kernel
theorem dX1_resolve_52 : decode cX1_resolve 52 = .ok (.aload_n 0, 1) := by decide +kernel
theorem dX1_resolve_53 : decode cX1_resolve 53 = .ok (.getfield 21, 3) := by decide +kernel
theorem dX1_resolve_56 : decode cX1_resolve 56 = .ok (.iload 6, 2) := by decide +kernel
theorem dX1_resolve_58 : decode cX1_resolve 58 = .ok (.iload_n 2, 1) := by decide +kernel
theorem dX1_resolve_59 : decode cX1_resolve 59 = .ok (.iload 7, 2) := by decide +kernel
theorem dX1_resolve_61 : decode cX1_resolve 61 = .ok (.invokestatic 107, 3) := by decide +kernel
theorem dX1_resolve_64 : decode cX1_resolve 64 = .ok (.invokestatic 99, 3) := by decide +kernel
theorem dX1_resolve_67 : decode cX1_resolve 67 = .ok (.istore 8, 2) := by decide +kernel
theorem dX1_resolve_69 : decode cX1_resolve 69 = .ok (.iload 8, 2) := by decide +kernel
theorem dX1_resolve_71 : decode cX1_resolve 71 = .ok (.iconst (-1), 1) := by decide +kernel
theorem dX1_resolve_72 : decode cX1_resolve 72 = .ok (.if_icmp .eq 26, 3) := by decide +kernel
theorem dX1_resolve_75 : decode cX1_resolve 75 = .ok (.aload_n 0, 1) := by decide +kernel
theorem dX1_resolve_76 : decode cX1_resolve 76 = .ok (.getfield 25, 3) := by decide +kernel
theorem dX1_resolve_79 : decode cX1_resolve 79 = .ok (.iload 4, 2) := by decide +kernel
theorem dX1_resolve_81 : decode cX1_resolve 81 = .ok (.iload 8, 2) := by decide +kernel
theorem dX1_resolve_83 : decode cX1_resolve 83 = .ok (.invokestatic 103, 3) := by decide +kernel
theorem dX1_resolve_86 : decode cX1_resolve 86 = .ok (.aload_n 0, 1) := by decide +kernel
theorem dX1_resolve_87 : decode cX1_resolve 87 = .ok (.getfield 28, 3) := by decide +kernel
theorem dX1_resolve_90 : decode cX1_resolve 90 = .ok (.iload 4, 2) := by decide +kernel
theorem dX1_resolve_92 : decode cX1_resolve 92 = .ok (.iload 5, 2) := by decide +kernel
theorem dX1_resolve_94 : decode cX1_resolve 94 = .ok (.invokestatic 103, 3) := by decide +kernel
theorem dX1_resolve_97 : decode cX1_resolve 97 = .ok (.return_, 1) := by decide +kernel
theorem dX1_resolve_98 : decode cX1_resolve 98 = .ok (.iinc 5 1, 3) := by decide +kernel
theorem dX1_resolve_101 : decode cX1_resolve 101 = .ok (.goto (-80), 3) := by decide +kernel
theorem dX1_resolve_104 : decode cX1_resolve 104 = .ok (.return_, 1) := by decide +kernel
theorem dX1_placeOf_0 : decode cX1_placeOf 0 = .ok (.iload_n 0, 1) := by decide +kernel
theorem dX1_placeOf_1 : decode cX1_placeOf 1 = .ok (.ifCond .lt 17, 3) := by decide +kernel
theorem dX1_placeOf_4 : decode cX1_placeOf 4 = .ok (.iload_n 1, 1) := by decide +kernel
theorem dX1_placeOf_5 : decode cX1_placeOf 5 = .ok (.ifCond .lt 13, 3) := by decide +kernel
theorem dX1_placeOf_8 : decode cX1_placeOf 8 = .ok (.iload_n 2, 1) := by decide +kernel
theorem dX1_placeOf_9 : decode cX1_placeOf 9 = .ok (.iconst (-1), 1) := by decide +kernel
theorem dX1_placeOf_10 : decode cX1_placeOf 10 = .ok (.if_icmp .lt 8, 3) := by decide +kernel
theorem dX1_placeOf_13 : decode cX1_placeOf 13 = .ok (.iload_n 2, 1) := by decide +kernel
theorem dX1_placeOf_14 : decode cX1_placeOf 14 = .ok (.iconst 3, 1) := by decide +kernel
theorem dX1_placeOf_15 : decode cX1_placeOf 15 = .ok (.if_icmp .lt 5, 3) := by decide +kernel
theorem dX1_placeOf_18 : decode cX1_placeOf 18 = .ok (.iconst (-1), 1) := by decide +kernel
theorem dX1_placeOf_19 : decode cX1_placeOf 19 = .ok (.ireturn, 1) := by decide +kernel
theorem dX1_placeOf_20 : decode cX1_placeOf 20 = .ok (.iload_n 0, 1) := by decide +kernel
theorem dX1_placeOf_21 : decode cX1_placeOf 21 = .ok (.bipush 6, 2) := by decide +kernel
theorem dX1_placeOf_23 : decode cX1_placeOf 23 = .ok (.imul, 1) := by decide +kernel
theorem dX1_placeOf_24 : decode cX1_placeOf 24 = .ok (.iload_n 1, 1) := by decide +kernel
theorem dX1_placeOf_25 : decode cX1_placeOf 25 = .ok (.iadd, 1) := by decide +kernel
theorem dX1_placeOf_26 : decode cX1_placeOf 26 = .ok (.iconst 4, 1) := by decide +kernel
theorem dX1_placeOf_27 : decode cX1_placeOf 27 = .ok (.imul, 1) := by decide +kernel
theorem dX1_placeOf_28 : decode cX1_placeOf 28 = .ok (.iload_n 2, 1) := by decide +kernel
theorem dX1_placeOf_29 : decode cX1_placeOf 29 = .ok (.iadd, 1) := by decide +kernel
theorem dX1_placeOf_30 : decode cX1_placeOf 30 = .ok (.iconst 1, 1) := by decide +kernel
theorem dX1_placeOf_31 : decode cX1_placeOf 31 = .ok (.iadd, 1) := by decide +kernel
theorem dX1_placeOf_32 : decode cX1_placeOf 32 = .ok (.ireturn, 1) := by decide +kernel
theorem dX1_resolvedFor_0 : decode cX1_resolvedFor 0 = .ok (.aload_n 0, 1) := by decide +kernel
theorem dX1_resolvedFor_1 : decode cX1_resolvedFor 1 = .ok (.getfield 25, 3) := by decide +kernel
theorem dX1_resolvedFor_4 : decode cX1_resolvedFor 4 = .ok (.iload_n 1, 1) := by decide +kernel
theorem dX1_resolvedFor_5 : decode cX1_resolvedFor 5 = .ok (.iload_n 2, 1) := by decide +kernel
theorem dX1_resolvedFor_6 : decode cX1_resolvedFor 6 = .ok (.iload_n 3, 1) := by decide +kernel
theorem dX1_resolvedFor_7 : decode cX1_resolvedFor 7 = .ok (.invokestatic 107, 3) := by decide +kernel
theorem dX1_resolvedFor_10 : decode cX1_resolvedFor 10 = .ok (.invokestatic 99, 3) := by decide +kernel
theorem dX1_resolvedFor_13 : decode cX1_resolvedFor 13 = .ok (.ireturn, 1) := by decide +kernel
theorem dX1_hopsFor_0 : decode cX1_hopsFor 0 = .ok (.aload_n 0, 1) := by decide +kernel
theorem dX1_hopsFor_1 : decode cX1_hopsFor 1 = .ok (.getfield 28, 3) := by decide +kernel
theorem dX1_hopsFor_4 : decode cX1_hopsFor 4 = .ok (.iload_n 1, 1) := by decide +kernel
theorem dX1_hopsFor_5 : decode cX1_hopsFor 5 = .ok (.iload_n 2, 1) := by decide +kernel
theorem dX1_hopsFor_6 : decode cX1_hopsFor 6 = .ok (.iload_n 3, 1) := by decide +kernel
theorem dX1_hopsFor_7 : decode cX1_hopsFor 7 = .ok (.invokestatic 107, 3) := by decide +kernel
theorem dX1_hopsFor_10 : decode cX1_hopsFor 10 = .ok (.invokestatic 99, 3) := by decide +kernel
theorem dX1_hopsFor_13 : decode cX1_hopsFor 13 = .ok (.ireturn, 1) := by decide +kernel
theorem dX1_firstGiftOf_0 : decode cX1_firstGiftOf 0 = .ok (.iload_n 1, 1) := by decide +kernel
theorem dX1_firstGiftOf_1 : decode cX1_firstGiftOf 1 = .ok (.bipush 6, 2) := by decide +kernel
theorem dX1_firstGiftOf_3 : decode cX1_firstGiftOf 3 = .ok (.imul, 1) := by decide +kernel
theorem dX1_firstGiftOf_4 : decode cX1_firstGiftOf 4 = .ok (.iload_n 2, 1) := by decide +kernel
theorem dX1_firstGiftOf_5 : decode cX1_firstGiftOf 5 = .ok (.iadd, 1) := by decide +kernel
theorem dX1_firstGiftOf_6 : decode cX1_firstGiftOf 6 = .ok (.istore_n 3, 1) := by decide +kernel
theorem dX1_firstGiftOf_7 : decode cX1_firstGiftOf 7 = .ok (.iload_n 3, 1) := by decide +kernel
theorem dX1_firstGiftOf_8 : decode cX1_firstGiftOf 8 = .ok (.ifCond .lt 21, 3) := by decide +kernel
theorem dX1_firstGiftOf_11 : decode cX1_firstGiftOf 11 = .ok (.iload_n 3, 1) := by decide +kernel
theorem dX1_firstGiftOf_12 : decode cX1_firstGiftOf 12 = .ok (.aload_n 0, 1) := by decide +kernel
theorem dX1_firstGiftOf_13 : decode cX1_firstGiftOf 13 = .ok (.getfield 31, 3) := by decide +kernel
theorem dX1_firstGiftOf_16 : decode cX1_firstGiftOf 16 = .ok (.arraylength, 1) := by decide +kernel
theorem dX1_firstGiftOf_17 : decode cX1_firstGiftOf 17 = .ok (.if_icmp .ge 12, 3) := by decide +kernel
theorem dX1_firstGiftOf_20 : decode cX1_firstGiftOf 20 = .ok (.aload_n 0, 1) := by decide +kernel
theorem dX1_firstGiftOf_21 : decode cX1_firstGiftOf 21 = .ok (.getfield 31, 3) := by decide +kernel
theorem dX1_firstGiftOf_24 : decode cX1_firstGiftOf 24 = .ok (.iload_n 3, 1) := by decide +kernel
theorem dX1_firstGiftOf_25 : decode cX1_firstGiftOf 25 = .ok (.iaload, 1) := by decide +kernel
theorem dX1_firstGiftOf_26 : decode cX1_firstGiftOf 26 = .ok (.goto 4, 3) := by decide +kernel
theorem dX1_firstGiftOf_29 : decode cX1_firstGiftOf 29 = .ok (.iconst (-1), 1) := by decide +kernel
theorem dX1_firstGiftOf_30 : decode cX1_firstGiftOf 30 = .ok (.ireturn, 1) := by decide +kernel
theorem dX1_nextGiftOf_0 : decode cX1_nextGiftOf 0 = .ok (.iload_n 1, 1) := by decide +kernel
theorem dX1_nextGiftOf_1 : decode cX1_nextGiftOf 1 = .ok (.ifCond .lt 21, 3) := by decide +kernel
theorem dX1_nextGiftOf_4 : decode cX1_nextGiftOf 4 = .ok (.iload_n 1, 1) := by decide +kernel
theorem dX1_nextGiftOf_5 : decode cX1_nextGiftOf 5 = .ok (.aload_n 0, 1) := by decide +kernel
theorem dX1_nextGiftOf_6 : decode cX1_nextGiftOf 6 = .ok (.getfield 34, 3) := by decide +kernel
theorem dX1_nextGiftOf_9 : decode cX1_nextGiftOf 9 = .ok (.arraylength, 1) := by decide +kernel
theorem dX1_nextGiftOf_10 : decode cX1_nextGiftOf 10 = .ok (.if_icmp .ge 12, 3) := by decide +kernel
theorem dX1_nextGiftOf_13 : decode cX1_nextGiftOf 13 = .ok (.aload_n 0, 1) := by decide +kernel
theorem dX1_nextGiftOf_14 : decode cX1_nextGiftOf 14 = .ok (.getfield 34, 3) := by decide +kernel
theorem dX1_nextGiftOf_17 : decode cX1_nextGiftOf 17 = .ok (.iload_n 1, 1) := by decide +kernel
theorem dX1_nextGiftOf_18 : decode cX1_nextGiftOf 18 = .ok (.iaload, 1) := by decide +kernel
theorem dX1_nextGiftOf_19 : decode cX1_nextGiftOf 19 = .ok (.goto 4, 3) := by decide +kernel
theorem dX1_nextGiftOf_22 : decode cX1_nextGiftOf 22 = .ok (.iconst (-1), 1) := by decide +kernel
theorem dX1_nextGiftOf_23 : decode cX1_nextGiftOf 23 = .ok (.ireturn, 1) := by decide +kernel
theorem dX1_countConflicts_0 : decode cX1_countConflicts 0 = .ok (.iconst 0, 1) := by decide +kernel
theorem dX1_countConflicts_1 : decode cX1_countConflicts 1 = .ok (.istore_n 1, 1) := by decide +kernel
theorem dX1_countConflicts_2 : decode cX1_countConflicts 2 = .ok (.iconst 0, 1) := by decide +kernel
theorem dX1_countConflicts_3 : decode cX1_countConflicts 3 = .ok (.istore_n 2, 1) := by decide +kernel
theorem dX1_countConflicts_4 : decode cX1_countConflicts 4 = .ok (.iload_n 2, 1) := by decide +kernel
theorem dX1_countConflicts_5 : decode cX1_countConflicts 5 = .ok (.aload_n 0, 1) := by decide +kernel
theorem dX1_countConflicts_6 : decode cX1_countConflicts 6 = .ok (.getfield 46, 3) := by decide +kernel
theorem dX1_countConflicts_9 : decode cX1_countConflicts 9 = .ok (.if_icmp .ge 38, 3) := by decide +kernel
theorem dX1_countConflicts_12 : decode cX1_countConflicts 12 = .ok (.aload_n 0, 1) := by decide +kernel
theorem dX1_countConflicts_13 : decode cX1_countConflicts 13 = .ok (.iload_n 2, 1) := by decide +kernel
theorem dX1_countConflicts_14 : decode cX1_countConflicts 14 = .ok (.invokevirtual 66, 3) := by decide +kernel
theorem dX1_countConflicts_17 : decode cX1_countConflicts 17 = .ok (.astore_n 3, 1) := by decide +kernel
theorem dX1_countConflicts_18 : decode cX1_countConflicts 18 = .ok (.aload_n 3, 1) := by decide +kernel
theorem dX1_countConflicts_19 : decode cX1_countConflicts 19 = .ok (.ifnull 22, 3) := by decide +kernel
theorem dX1_countConflicts_22 : decode cX1_countConflicts 22 = .ok (.aload_n 0, 1) := by decide +kernel
theorem dX1_countConflicts_23 : decode cX1_countConflicts 23 = .ok (.aload_n 3, 1) := by decide +kernel
theorem dX1_countConflicts_24 : decode cX1_countConflicts 24 = .ok (.invokevirtual 70, 3) := by decide +kernel
theorem dX1_countConflicts_27 : decode cX1_countConflicts 27 = .ok (.ifCond .eq 14, 3) := by decide +kernel
theorem dX1_countConflicts_30 : decode cX1_countConflicts 30 = .ok (.aload_n 0, 1) := by decide +kernel
theorem dX1_countConflicts_31 : decode cX1_countConflicts 31 = .ok (.aload_n 3, 1) := by decide +kernel
theorem dX1_countConflicts_32 : decode cX1_countConflicts 32 = .ok (.invokevirtual 118, 3) := by decide +kernel
theorem dX1_countConflicts_35 : decode cX1_countConflicts 35 = .ok (.ifCond .eq 6, 3) := by decide +kernel
theorem dX1_countConflicts_38 : decode cX1_countConflicts 38 = .ok (.iinc 1 1, 3) := by decide +kernel
theorem dX1_countConflicts_41 : decode cX1_countConflicts 41 = .ok (.iinc 2 1, 3) := by decide +kernel
theorem dX1_countConflicts_44 : decode cX1_countConflicts 44 = .ok (.goto (-40), 3) := by decide +kernel
theorem dX1_countConflicts_47 : decode cX1_countConflicts 47 = .ok (.iload_n 1, 1) := by decide +kernel
theorem dX1_countConflicts_48 : decode cX1_countConflicts 48 = .ok (.ireturn, 1) := by decide +kernel
theorem dX1_isInConflict_0 : decode cX1_isInConflict 0 = .ok (.aload_n 1, 1) := by decide +kernel
theorem dX1_isInConflict_1 : decode cX1_isInConflict 1 = .ok (.getfield 90, 3) := by decide +kernel
theorem dX1_isInConflict_4 : decode cX1_isInConflict 4 = .ok (.aload_n 1, 1) := by decide +kernel
theorem dX1_isInConflict_5 : decode cX1_isInConflict 5 = .ok (.getfield 93, 3) := by decide +kernel
theorem dX1_isInConflict_8 : decode cX1_isInConflict 8 = .ok (.aload_n 1, 1) := by decide +kernel
theorem dX1_isInConflict_9 : decode cX1_isInConflict 9 = .ok (.getfield 96, 3) := by decide +kernel
theorem dX1_isInConflict_12 : decode cX1_isInConflict 12 = .ok (.invokestatic 107, 3) := by decide +kernel
theorem dX1_isInConflict_15 : decode cX1_isInConflict 15 = .ok (.istore_n 2, 1) := by decide +kernel
theorem dX1_isInConflict_16 : decode cX1_isInConflict 16 = .ok (.aload_n 0, 1) := by decide +kernel
theorem dX1_isInConflict_17 : decode cX1_isInConflict 17 = .ok (.getfield 21, 3) := by decide +kernel
theorem dX1_isInConflict_20 : decode cX1_isInConflict 20 = .ok (.iload_n 2, 1) := by decide +kernel
theorem dX1_isInConflict_21 : decode cX1_isInConflict 21 = .ok (.invokestatic 99, 3) := by decide +kernel
theorem dX1_isInConflict_24 : decode cX1_isInConflict 24 = .ok (.bipush (-3), 2) := by decide +kernel
theorem dX1_isInConflict_26 : decode cX1_isInConflict 26 = .ok (.if_icmp .ne 7, 3) := by decide +kernel
theorem dX1_isInConflict_29 : decode cX1_isInConflict 29 = .ok (.iconst 1, 1) := by decide +kernel
theorem dX1_isInConflict_30 : decode cX1_isInConflict 30 = .ok (.goto 4, 3) := by decide +kernel
theorem dX1_isInConflict_33 : decode cX1_isInConflict 33 = .ok (.iconst 0, 1) := by decide +kernel
theorem dX1_isInConflict_34 : decode cX1_isInConflict 34 = .ok (.ireturn, 1) := by decide +kernel
theorem dX2_init_0 : decode cX2_init 0 = .ok (.aload_n 0, 1) := by decide +kernel
theorem dX2_init_1 : decode cX2_init 1 = .ok (.invokespecial 3, 3) := by decide +kernel
theorem dX2_init_4 : decode cX2_init 4 = .ok (.aload_n 0, 1) := by decide +kernel
theorem dX2_init_5 : decode cX2_init 5 = .ok (.sipush 180, 3) := by decide +kernel
theorem dX2_init_8 : decode cX2_init 8 = .ok (.newarray .int, 2) := by decide +kernel
theorem dX2_init_10 : decode cX2_init 10 = .ok (.putfield 9, 3) := by decide +kernel
theorem dX2_init_13 : decode cX2_init 13 = .ok (.aload_n 0, 1) := by decide +kernel
theorem dX2_init_14 : decode cX2_init 14 = .ok (.sipush 181, 3) := by decide +kernel
theorem dX2_init_17 : decode cX2_init 17 = .ok (.anewarray 15, 3) := by decide +kernel
theorem dX2_init_20 : decode cX2_init 20 = .ok (.putfield 17, 3) := by decide +kernel
theorem dX2_init_23 : decode cX2_init 23 = .ok (.aload_n 0, 1) := by decide +kernel
theorem dX2_init_24 : decode cX2_init 24 = .ok (.sipush 180, 3) := by decide +kernel
theorem dX2_init_27 : decode cX2_init 27 = .ok (.newarray .boolean, 2) := by decide +kernel
theorem dX2_init_29 : decode cX2_init 29 = .ok (.putfield 21, 3) := by decide +kernel
theorem dX2_init_32 : decode cX2_init 32 = .ok (.aload_n 0, 1) := by decide +kernel
theorem dX2_init_33 : decode cX2_init 33 = .ok (.aload_n 1, 1) := by decide +kernel
theorem dX2_init_34 : decode cX2_init 34 = .ok (.putfield 25, 3) := by decide +kernel
theorem dX2_init_37 : decode cX2_init 37 = .ok (.aload_n 0, 1) := by decide +kernel
theorem dX2_init_38 : decode cX2_init 38 = .ok (.aload_n 2, 1) := by decide +kernel
theorem dX2_init_39 : decode cX2_init 39 = .ok (.putfield 29, 3) := by decide +kernel
theorem dX2_init_42 : decode cX2_init 42 = .ok (.aload_n 0, 1) := by decide +kernel
theorem dX2_init_43 : decode cX2_init 43 = .ok (.aload_n 3, 1) := by decide +kernel
theorem dX2_init_44 : decode cX2_init 44 = .ok (.putfield 33, 3) := by decide +kernel
theorem dX2_init_47 : decode cX2_init 47 = .ok (.aload_n 0, 1) := by decide +kernel
theorem dX2_init_48 : decode cX2_init 48 = .ok (.aload 4, 2) := by decide +kernel
theorem dX2_init_50 : decode cX2_init 50 = .ok (.putfield 37, 3) := by decide +kernel
theorem dX2_init_53 : decode cX2_init 53 = .ok (.aload_n 0, 1) := by decide +kernel
theorem dX2_init_54 : decode cX2_init 54 = .ok (.aload 5, 2) := by decide +kernel
theorem dX2_init_56 : decode cX2_init 56 = .ok (.putfield 41, 3) := by decide +kernel
theorem dX2_init_59 : decode cX2_init 59 = .ok (.iconst 0, 1) := by decide +kernel
theorem dX2_init_60 : decode cX2_init 60 = .ok (.istore 6, 2) := by decide +kernel
theorem dX2_init_62 : decode cX2_init 62 = .ok (.iload 6, 2) := by decide +kernel
theorem dX2_init_64 : decode cX2_init 64 = .ok (.aload_n 0, 1) := by decide +kernel
theorem dX2_init_65 : decode cX2_init 65 = .ok (.getfield 17, 3) := by decide +kernel
theorem dX2_init_68 : decode cX2_init 68 = .ok (.arraylength, 1) := by decide +kernel
theorem dX2_init_69 : decode cX2_init 69 = .ok (.if_icmp .ge 23, 3) := by decide +kernel
theorem dX2_init_72 : decode cX2_init 72 = .ok (.aload_n 0, 1) := by decide +kernel
theorem dX2_init_73 : decode cX2_init 73 = .ok (.getfield 17, 3) := by decide +kernel
theorem dX2_init_76 : decode cX2_init 76 = .ok (.iload 6, 2) := by decide +kernel
theorem dX2_init_78 : decode cX2_init 78 = .ok (.new 15, 3) := by decide +kernel
theorem dX2_init_81 : decode cX2_init 81 = .ok (.dup, 1) := by decide +kernel
theorem dX2_init_82 : decode cX2_init 82 = .ok (.invokespecial 44, 3) := by decide +kernel
theorem dX2_init_85 : decode cX2_init 85 = .ok (.aastore, 1) := by decide +kernel
theorem dX2_init_86 : decode cX2_init 86 = .ok (.iinc 6 1, 3) := by decide +kernel
theorem dX2_init_89 : decode cX2_init 89 = .ok (.goto (-27), 3) := by decide +kernel
theorem dX2_init_92 : decode cX2_init 92 = .ok (.return_, 1) := by decide +kernel
theorem dX2_findListing_0 : decode cX2_findListing 0 = .ok (.aload_n 0, 1) := by decide +kernel
theorem dX2_findListing_1 : decode cX2_findListing 1 = .ok (.iconst 0, 1) := by decide +kernel
theorem dX2_findListing_2 : decode cX2_findListing 2 = .ok (.putfield 45, 3) := by decide +kernel
theorem dX2_findListing_5 : decode cX2_findListing 5 = .ok (.aload_n 0, 1) := by decide +kernel
theorem dX2_findListing_6 : decode cX2_findListing 6 = .ok (.iconst 1, 1) := by decide +kernel
theorem dX2_findListing_7 : decode cX2_findListing 7 = .ok (.putfield 49, 3) := by decide +kernel
theorem dX2_findListing_10 : decode cX2_findListing 10 = .ok (.aload_n 0, 1) := by decide +kernel
theorem dX2_findListing_11 : decode cX2_findListing 11 = .ok (.iload_n 1, 1) := by decide +kernel
theorem dX2_findListing_12 : decode cX2_findListing 12 = .ok (.iload_n 2, 1) := by decide +kernel
theorem dX2_findListing_13 : decode cX2_findListing 13 = .ok (.aload_n 3, 1) := by decide +kernel
theorem dX2_findListing_14 : decode cX2_findListing 14 = .ok (.invokevirtual 53, 3) := by decide +kernel
theorem dX2_findListing_17 : decode cX2_findListing 17 = .ok (.pop, 1) := by decide +kernel
theorem dX2_findListing_18 : decode cX2_findListing 18 = .ok (.aload_n 0, 1) := by decide +kernel
theorem dX2_findListing_19 : decode cX2_findListing 19 = .ok (.iconst 0, 1) := by decide +kernel
theorem dX2_findListing_20 : decode cX2_findListing 20 = .ok (.putfield 49, 3) := by decide +kernel
theorem dX2_findListing_23 : decode cX2_findListing 23 = .ok (.return_, 1) := by decide +kernel
theorem dX2_find_0 : decode cX2_find 0 = .ok (.iload_n 1, 1) := by decide +kernel
theorem dX2_find_1 : decode cX2_find 1 = .ok (.iload_n 2, 1) := by decide +kernel
theorem dX2_find_2 : decode cX2_find 2 = .ok (.invokestatic 57, 3) := by decide +kernel
theorem dX2_find_5 : decode cX2_find 5 = .ok (.istore 4, 2) := by decide +kernel
theorem dX2_find_7 : decode cX2_find 7 = .ok (.aload_n 0, 1) := by decide +kernel
theorem dX2_find_8 : decode cX2_find 8 = .ok (.aload_n 3, 1) := by decide +kernel
theorem dX2_find_9 : decode cX2_find 9 = .ok (.putfield 61, 3) := by decide +kernel
theorem dX2_find_12 : decode cX2_find 12 = .ok (.aload_n 0, 1) := by decide +kernel
theorem dX2_find_13 : decode cX2_find 13 = .ok (.getfield 61, 3) := by decide +kernel
theorem dX2_find_16 : decode cX2_find 16 = .ok (.iload 4, 2) := by decide +kernel
theorem dX2_find_18 : decode cX2_find 18 = .ok (.invokevirtual 65, 3) := by decide +kernel
theorem dX2_find_21 : decode cX2_find 21 = .ok (.ifCond .eq 13, 3) := by decide +kernel
theorem dX2_find_24 : decode cX2_find 24 = .ok (.aload_n 0, 1) := by decide +kernel
theorem dX2_find_25 : decode cX2_find 25 = .ok (.getfield 61, 3) := by decide +kernel
theorem dX2_find_28 : decode cX2_find 28 = .ok (.iload 4, 2) := by decide +kernel
theorem dX2_find_30 : decode cX2_find 30 = .ok (.invokevirtual 71, 3) := by decide +kernel
theorem dX2_find_33 : decode cX2_find 33 = .ok (.ireturn, 1) := by decide +kernel
theorem dX2_find_34 : decode cX2_find 34 = .ok (.aload_n 0, 1) := by decide +kernel
theorem dX2_find_35 : decode cX2_find 35 = .ok (.iconst 0, 1) := by decide +kernel
theorem dX2_find_36 : decode cX2_find 36 = .ok (.putfield 75, 3) := by decide +kernel
theorem dX2_find_39 : decode cX2_find 39 = .ok (.aload_n 0, 1) := by decide +kernel
theorem dX2_find_40 : decode cX2_find 40 = .ok (.iload 4, 2) := by decide +kernel
theorem dX2_find_42 : decode cX2_find 42 = .ok (.invokevirtual 78, 3) := by decide +kernel
theorem dX2_find_45 : decode cX2_find 45 = .ok (.iconst 0, 1) := by decide +kernel
theorem dX2_find_46 : decode cX2_find 46 = .ok (.istore 5, 2) := by decide +kernel
theorem dX2_find_48 : decode cX2_find 48 = .ok (.iload 5, 2) := by decide +kernel
theorem dX2_find_50 : decode cX2_find 50 = .ok (.ldc 82, 2) := by decide +kernel
theorem dX2_find_52 : decode cX2_find 52 = .ok (.if_icmp .ge 63, 3) := by decide +kernel
theorem dX2_find_55 : decode cX2_find 55 = .ok (.aload_n 0, 1) := by decide +kernel
theorem dX2_find_56 : decode cX2_find 56 = .ok (.getfield 75, 3) := by decide +kernel
theorem dX2_find_59 : decode cX2_find 59 = .ok (.ifCond .le 56, 3) := by decide +kernel
theorem dX2_find_62 : decode cX2_find 62 = .ok (.aload_n 0, 1) := by decide +kernel
theorem dX2_find_63 : decode cX2_find 63 = .ok (.invokevirtual 83, 3) := by decide +kernel
theorem dX2_find_66 : decode cX2_find 66 = .ok (.astore 6, 2) := by decide +kernel
theorem dX2_find_68 : decode cX2_find 68 = .ok (.aload 6, 2) := by decide +kernel
theorem dX2_find_70 : decode cX2_find 70 = .ok (.ifnonnull 5, 3) := by decide +kernel
theorem dX2_find_73 : decode cX2_find 73 = .ok (.iconst (-1), 1) := by decide +kernel
theorem dX2_find_74 : decode cX2_find 74 = .ok (.ireturn, 1) := by decide +kernel
theorem dX2_find_75 : decode cX2_find 75 = .ok (.aload 6, 2) := by decide +kernel
theorem dX2_find_77 : decode cX2_find 77 = .ok (.getfield 87, 3) := by decide +kernel
theorem dX2_find_80 : decode cX2_find 80 = .ok (.ifCond .eq 12, 3) := by decide +kernel
theorem dX2_find_83 : decode cX2_find 83 = .ok (.aload_n 0, 1) := by decide +kernel
theorem dX2_find_84 : decode cX2_find 84 = .ok (.aload 6, 2) := by decide +kernel
theorem dX2_find_86 : decode cX2_find 86 = .ok (.invokevirtual 90, 3) := by decide +kernel
theorem dX2_find_89 : decode cX2_find 89 = .ok (.goto 20, 3) := by decide +kernel
theorem dX2_find_92 : decode cX2_find 92 = .ok (.aload_n 0, 1) := by decide +kernel
theorem dX2_find_93 : decode cX2_find 93 = .ok (.aload 6, 2) := by decide +kernel
theorem dX2_find_95 : decode cX2_find 95 = .ok (.invokevirtual 94, 3) := by decide +kernel
theorem dX2_find_98 : decode cX2_find 98 = .ok (.ifCond .ne 11, 3) := by decide +kernel
theorem dX2_find_101 : decode cX2_find 101 = .ok (.aload_n 0, 1) := by decide +kernel
theorem dX2_find_102 : decode cX2_find 102 = .ok (.aload_n 0, 1) := by decide +kernel
theorem dX2_find_103 : decode cX2_find 103 = .ok (.getfield 98, 3) := by decide +kernel
theorem dX2_find_106 : decode cX2_find 106 = .ok (.invokevirtual 78, 3) := by decide +kernel
theorem dX2_find_109 : decode cX2_find 109 = .ok (.iinc 5 1, 3) := by decide +kernel
theorem dX2_find_112 : decode cX2_find 112 = .ok (.goto (-64), 3) := by decide +kernel
theorem dX2_find_115 : decode cX2_find 115 = .ok (.aload_n 0, 1) := by decide +kernel
theorem dX2_find_116 : decode cX2_find 116 = .ok (.getfield 61, 3) := by decide +kernel
theorem dX2_find_119 : decode cX2_find 119 = .ok (.iload 4, 2) := by decide +kernel
theorem dX2_find_121 : decode cX2_find 121 = .ok (.invokevirtual 71, 3) := by decide +kernel
theorem dX2_find_124 : decode cX2_find 124 = .ok (.ireturn, 1) := by decide +kernel
theorem dX2_topFrame_0 : decode cX2_topFrame 0 = .ok (.aload_n 0, 1) := by decide +kernel
theorem dX2_topFrame_1 : decode cX2_topFrame 1 = .ok (.getfield 75, 3) := by decide +kernel
theorem dX2_topFrame_4 : decode cX2_topFrame 4 = .ok (.iconst 1, 1) := by decide +kernel
theorem dX2_topFrame_5 : decode cX2_topFrame 5 = .ok (.isub, 1) := by decide +kernel
theorem dX2_topFrame_6 : decode cX2_topFrame 6 = .ok (.istore_n 1, 1) := by decide +kernel
theorem dX2_topFrame_7 : decode cX2_topFrame 7 = .ok (.iload_n 1, 1) := by decide +kernel
theorem dX2_topFrame_8 : decode cX2_topFrame 8 = .ok (.ifCond .lt 21, 3) := by decide +kernel
theorem dX2_topFrame_11 : decode cX2_topFrame 11 = .ok (.iload_n 1, 1) := by decide +kernel
theorem dX2_topFrame_12 : decode cX2_topFrame 12 = .ok (.aload_n 0, 1) := by decide +kernel
theorem dX2_topFrame_13 : decode cX2_topFrame 13 = .ok (.getfield 17, 3) := by decide +kernel
theorem dX2_topFrame_16 : decode cX2_topFrame 16 = .ok (.arraylength, 1) := by decide +kernel
theorem dX2_topFrame_17 : decode cX2_topFrame 17 = .ok (.if_icmp .ge 12, 3) := by decide +kernel
theorem dX2_topFrame_20 : decode cX2_topFrame 20 = .ok (.aload_n 0, 1) := by decide +kernel
theorem dX2_topFrame_21 : decode cX2_topFrame 21 = .ok (.getfield 17, 3) := by decide +kernel
theorem dX2_topFrame_24 : decode cX2_topFrame 24 = .ok (.iload_n 1, 1) := by decide +kernel
theorem dX2_topFrame_25 : decode cX2_topFrame 25 = .ok (.aaload, 1) := by decide +kernel
theorem dX2_topFrame_26 : decode cX2_topFrame 26 = .ok (.goto 4, 3) := by decide +kernel
theorem dX2_topFrame_29 : decode cX2_topFrame 29 = .ok (.aconst_null, 1) := by decide +kernel
theorem dX2_topFrame_30 : decode cX2_topFrame 30 = .ok (.areturn, 1) := by decide +kernel
theorem dX2_setOpen_0 : decode cX2_setOpen 0 = .ok (.iload_n 1, 1) := by decide +kernel
theorem dX2_setOpen_1 : decode cX2_setOpen 1 = .ok (.ifCond .lt 19, 3) := by decide +kernel
theorem dX2_setOpen_4 : decode cX2_setOpen 4 = .ok (.iload_n 1, 1) := by decide +kernel
theorem dX2_setOpen_5 : decode cX2_setOpen 5 = .ok (.aload_n 0, 1) := by decide +kernel
theorem dX2_setOpen_6 : decode cX2_setOpen 6 = .ok (.getfield 21, 3) := by decide +kernel
theorem dX2_setOpen_9 : decode cX2_setOpen 9 = .ok (.arraylength, 1) := by decide +kernel
theorem dX2_setOpen_10 : decode cX2_setOpen 10 = .ok (.if_icmp .ge 10, 3) := by decide +kernel
theorem dX2_setOpen_13 : decode cX2_setOpen 13 = .ok (.aload_n 0, 1) := by decide +kernel
theorem dX2_setOpen_14 : decode cX2_setOpen 14 = .ok (.getfield 21, 3) := by decide +kernel
theorem dX2_setOpen_17 : decode cX2_setOpen 17 = .ok (.iload_n 1, 1) := by decide +kernel
theorem dX2_setOpen_18 : decode cX2_setOpen 18 = .ok (.iload_n 2, 1) := by decide +kernel
theorem dX2_setOpen_19 : decode cX2_setOpen 19 = .ok (.bastore, 1) := by decide +kernel
theorem dX2_setOpen_20 : decode cX2_setOpen 20 = .ok (.return_, 1) := by decide +kernel
theorem dX2_isOpen_0 : decode cX2_isOpen 0 = .ok (.iload_n 1, 1) := by decide +kernel
theorem dX2_isOpen_1 : decode cX2_isOpen 1 = .ok (.ifCond .lt 25, 3) := by decide +kernel
theorem dX2_isOpen_4 : decode cX2_isOpen 4 = .ok (.iload_n 1, 1) := by decide +kernel
theorem dX2_isOpen_5 : decode cX2_isOpen 5 = .ok (.aload_n 0, 1) := by decide +kernel
theorem dX2_isOpen_6 : decode cX2_isOpen 6 = .ok (.getfield 21, 3) := by decide +kernel
theorem dX2_isOpen_9 : decode cX2_isOpen 9 = .ok (.arraylength, 1) := by decide +kernel
theorem dX2_isOpen_10 : decode cX2_isOpen 10 = .ok (.if_icmp .ge 16, 3) := by decide +kernel
theorem dX2_isOpen_13 : decode cX2_isOpen 13 = .ok (.aload_n 0, 1) := by decide +kernel
theorem dX2_isOpen_14 : decode cX2_isOpen 14 = .ok (.getfield 21, 3) := by decide +kernel
theorem dX2_isOpen_17 : decode cX2_isOpen 17 = .ok (.iload_n 1, 1) := by decide +kernel
theorem dX2_isOpen_18 : decode cX2_isOpen 18 = .ok (.baload, 1) := by decide +kernel
theorem dX2_isOpen_19 : decode cX2_isOpen 19 = .ok (.ifCond .eq 7, 3) := by decide +kernel
theorem dX2_isOpen_22 : decode cX2_isOpen 22 = .ok (.iconst 1, 1) := by decide +kernel
theorem dX2_isOpen_23 : decode cX2_isOpen 23 = .ok (.goto 4, 3) := by decide +kernel
theorem dX2_isOpen_26 : decode cX2_isOpen 26 = .ok (.iconst 0, 1) := by decide +kernel
theorem dX2_isOpen_27 : decode cX2_isOpen 27 = .ok (.ireturn, 1) := by decide +kernel
theorem dX2_begin_0 : decode cX2_begin 0 = .ok (.aload_n 0, 1) := by decide +kernel
theorem dX2_begin_1 : decode cX2_begin 1 = .ok (.dup, 1) := by decide +kernel
theorem dX2_begin_2 : decode cX2_begin 2 = .ok (.getfield 75, 3) := by decide +kernel
theorem dX2_begin_5 : decode cX2_begin 5 = .ok (.iconst 1, 1) := by decide +kernel
theorem dX2_begin_6 : decode cX2_begin 6 = .ok (.iadd, 1) := by decide +kernel
theorem dX2_begin_7 : decode cX2_begin 7 = .ok (.putfield 75, 3) := by decide +kernel
theorem dX2_begin_10 : decode cX2_begin 10 = .ok (.aload_n 0, 1) := by decide +kernel
theorem dX2_begin_11 : decode cX2_begin 11 = .ok (.invokevirtual 83, 3) := by decide +kernel
theorem dX2_begin_14 : decode cX2_begin 14 = .ok (.astore_n 2, 1) := by decide +kernel
theorem dX2_begin_15 : decode cX2_begin 15 = .ok (.aload_n 2, 1) := by decide +kernel
theorem dX2_begin_16 : decode cX2_begin 16 = .ok (.ifnonnull 14, 3) := by decide +kernel
theorem dX2_begin_19 : decode cX2_begin 19 = .ok (.aload_n 0, 1) := by decide +kernel
theorem dX2_begin_20 : decode cX2_begin 20 = .ok (.dup, 1) := by decide +kernel
theorem dX2_begin_21 : decode cX2_begin 21 = .ok (.getfield 75, 3) := by decide +kernel
theorem dX2_begin_24 : decode cX2_begin 24 = .ok (.iconst 1, 1) := by decide +kernel
theorem dX2_begin_25 : decode cX2_begin 25 = .ok (.isub, 1) := by decide +kernel
theorem dX2_begin_26 : decode cX2_begin 26 = .ok (.putfield 75, 3) := by decide +kernel
theorem dX2_begin_29 : decode cX2_begin 29 = .ok (.return_, 1) := by decide +kernel
theorem dX2_begin_30 : decode cX2_begin 30 = .ok (.aload_n 0, 1) := by decide +kernel
theorem dX2_begin_31 : decode cX2_begin 31 = .ok (.iload_n 1, 1) := by decide +kernel
theorem dX2_begin_32 : decode cX2_begin 32 = .ok (.iconst 1, 1) := by decide +kernel
theorem dX2_begin_33 : decode cX2_begin 33 = .ok (.invokevirtual 101, 3) := by decide +kernel
theorem dX2_begin_36 : decode cX2_begin 36 = .ok (.aload_n 2, 1) := by decide +kernel
theorem dX2_begin_37 : decode cX2_begin 37 = .ok (.iload_n 1, 1) := by decide +kernel
theorem dX2_begin_38 : decode cX2_begin 38 = .ok (.bipush 6, 2) := by decide +kernel
theorem dX2_begin_40 : decode cX2_begin 40 = .ok (.idiv, 1) := by decide +kernel
theorem dX2_begin_41 : decode cX2_begin 41 = .ok (.putfield 105, 3) := by decide +kernel
theorem dX2_begin_44 : decode cX2_begin 44 = .ok (.aload_n 2, 1) := by decide +kernel
theorem dX2_begin_45 : decode cX2_begin 45 = .ok (.iload_n 1, 1) := by decide +kernel
theorem dX2_begin_46 : decode cX2_begin 46 = .ok (.bipush 6, 2) := by decide +kernel
theorem dX2_begin_48 : decode cX2_begin 48 = .ok (.irem, 1) := by decide +kernel
theorem dX2_begin_49 : decode cX2_begin 49 = .ok (.putfield 108, 3) := by decide +kernel
theorem dX2_begin_52 : decode cX2_begin 52 = .ok (.aload_n 2, 1) := by decide +kernel
theorem dX2_begin_53 : decode cX2_begin 53 = .ok (.aload_n 2, 1) := by decide +kernel
theorem dX2_begin_54 : decode cX2_begin 54 = .ok (.getfield 105, 3) := by decide +kernel
theorem dX2_begin_57 : decode cX2_begin 57 = .ok (.invokestatic 111, 3) := by decide +kernel
theorem dX2_begin_60 : decode cX2_begin 60 = .ok (.putfield 114, 3) := by decide +kernel
theorem dX2_begin_63 : decode cX2_begin 63 = .ok (.aload_n 2, 1) := by decide +kernel
theorem dX2_begin_64 : decode cX2_begin 64 = .ok (.iconst 0, 1) := by decide +kernel
theorem dX2_begin_65 : decode cX2_begin 65 = .ok (.putfield 87, 3) := by decide +kernel
theorem dX2_begin_68 : decode cX2_begin 68 = .ok (.aload_n 2, 1) := by decide +kernel
theorem dX2_begin_69 : decode cX2_begin 69 = .ok (.aconst_null, 1) := by decide +kernel
theorem dX2_begin_70 : decode cX2_begin 70 = .ok (.putfield 117, 3) := by decide +kernel
theorem dX2_begin_73 : decode cX2_begin 73 = .ok (.aload_n 0, 1) := by decide +kernel
theorem dX2_begin_74 : decode cX2_begin 74 = .ok (.getfield 25, 3) := by decide +kernel
theorem dX2_begin_77 : decode cX2_begin 77 = .ok (.aload_n 2, 1) := by decide +kernel
theorem dX2_begin_78 : decode cX2_begin 78 = .ok (.getfield 108, 3) := by decide +kernel
theorem dX2_begin_81 : decode cX2_begin 81 = .ok (.invokevirtual 121, 3) := by decide +kernel
theorem dX2_begin_84 : decode cX2_begin 84 = .ok (.istore_n 3, 1) := by decide +kernel
theorem dX2_begin_85 : decode cX2_begin 85 = .ok (.iload_n 3, 1) := by decide +kernel
theorem dX2_begin_86 : decode cX2_begin 86 = .ok (.iconst 2, 1) := by decide +kernel
theorem dX2_begin_87 : decode cX2_begin 87 = .ok (.if_icmp .ne 33, 3) := by decide +kernel
theorem dX2_begin_90 : decode cX2_begin 90 = .ok (.aload_n 2, 1) := by decide +kernel
theorem dX2_begin_91 : decode cX2_begin 91 = .ok (.dup, 1) := by decide +kernel
theorem dX2_begin_92 : decode cX2_begin 92 = .ok (.getfield 114, 3) := by decide +kernel
theorem dX2_begin_95 : decode cX2_begin 95 = .ok (.ldc 126, 2) := by decide +kernel
theorem dX2_begin_97 : decode cX2_begin 97 = .ok (.ior, 1) := by decide +kernel
theorem dX2_begin_98 : decode cX2_begin 98 = .ok (.putfield 114, 3) := by decide +kernel
theorem dX2_begin_101 : decode cX2_begin 101 = .ok (.aload_n 2, 1) := by decide +kernel
theorem dX2_begin_102 : decode cX2_begin 102 = .ok (.iconst 0, 1) := by decide +kernel
theorem dX2_begin_103 : decode cX2_begin 103 = .ok (.putfield 127, 3) := by decide +kernel
theorem dX2_begin_106 : decode cX2_begin 106 = .ok (.aload_n 2, 1) := by decide +kernel
theorem dX2_begin_107 : decode cX2_begin 107 = .ok (.iconst (-1), 1) := by decide +kernel
theorem dX2_begin_108 : decode cX2_begin 108 = .ok (.putfield 130, 3) := by decide +kernel
theorem dX2_begin_111 : decode cX2_begin 111 = .ok (.aload_n 0, 1) := by decide +kernel
theorem dX2_begin_112 : decode cX2_begin 112 = .ok (.aload_n 2, 1) := by decide +kernel
theorem dX2_begin_113 : decode cX2_begin 113 = .ok (.iconst (-1), 1) := by decide +kernel
theorem dX2_begin_114 : decode cX2_begin 114 = .ok (.invokevirtual 133, 3) := by decide +kernel
theorem dX2_begin_117 : decode cX2_begin 117 = .ok (.goto 71, 3) := by decide +kernel
theorem dX2_begin_120 : decode cX2_begin 120 = .ok (.iload_n 3, 1) := by decide +kernel
theorem dX2_begin_121 : decode cX2_begin 121 = .ok (.iconst 1, 1) := by decide +kernel
theorem dX2_begin_122 : decode cX2_begin 122 = .ok (.if_icmp .ne 56, 3) := by decide +kernel
theorem dX2_begin_125 : decode cX2_begin 125 = .ok (.aload_n 2, 1) := by decide +kernel
theorem dX2_begin_126 : decode cX2_begin 126 = .ok (.dup, 1) := by decide +kernel
theorem dX2_begin_127 : decode cX2_begin 127 = .ok (.getfield 114, 3) := by decide +kernel
theorem dX2_begin_130 : decode cX2_begin 130 = .ok (.aload_n 0, 1) := by decide +kernel
theorem dX2_begin_131 : decode cX2_begin 131 = .ok (.getfield 37, 3) := by decide +kernel
theorem dX2_begin_134 : decode cX2_begin 134 = .ok (.aload_n 2, 1) := by decide +kernel
theorem dX2_begin_135 : decode cX2_begin 135 = .ok (.getfield 105, 3) := by decide +kernel
theorem dX2_begin_138 : decode cX2_begin 138 = .ok (.invokevirtual 137, 3) := by decide +kernel
theorem dX2_begin_141 : decode cX2_begin 141 = .ok (.invokestatic 111, 3) := by decide +kernel
theorem dX2_begin_144 : decode cX2_begin 144 = .ok (.ior, 1) := by decide +kernel
theorem dX2_begin_145 : decode cX2_begin 145 = .ok (.putfield 114, 3) := by decide +kernel
theorem dX2_begin_148 : decode cX2_begin 148 = .ok (.aload_n 0, 1) := by decide +kernel
theorem dX2_begin_149 : decode cX2_begin 149 = .ok (.aload_n 2, 1) := by decide +kernel
theorem dX2_begin_150 : decode cX2_begin 150 = .ok (.aload_n 0, 1) := by decide +kernel
theorem dX2_begin_151 : decode cX2_begin 151 = .ok (.getfield 37, 3) := by decide +kernel
theorem dX2_begin_154 : decode cX2_begin 154 = .ok (.aload_n 2, 1) := by decide +kernel
theorem dX2_begin_155 : decode cX2_begin 155 = .ok (.getfield 105, 3) := by decide +kernel
theorem dX2_begin_158 : decode cX2_begin 158 = .ok (.invokevirtual 137, 3) := by decide +kernel
theorem dX2_begin_161 : decode cX2_begin 161 = .ok (.aload_n 0, 1) := by decide +kernel
theorem dX2_begin_162 : decode cX2_begin 162 = .ok (.getfield 37, 3) := by decide +kernel
theorem dX2_begin_165 : decode cX2_begin 165 = .ok (.aload_n 2, 1) := by decide +kernel
theorem dX2_begin_166 : decode cX2_begin 166 = .ok (.getfield 105, 3) := by decide +kernel
theorem dX2_begin_169 : decode cX2_begin 169 = .ok (.invokevirtual 142, 3) := by decide +kernel
theorem dX2_begin_172 : decode cX2_begin 172 = .ok (.invokevirtual 145, 3) := by decide +kernel
theorem dX2_begin_175 : decode cX2_begin 175 = .ok (.goto 13, 3) := by decide +kernel
theorem dX2_begin_178 : decode cX2_begin 178 = .ok (.aload_n 0, 1) := by decide +kernel
theorem dX2_begin_179 : decode cX2_begin 179 = .ok (.aload_n 2, 1) := by decide +kernel
theorem dX2_begin_180 : decode cX2_begin 180 = .ok (.aload_n 2, 1) := by decide +kernel
theorem dX2_begin_181 : decode cX2_begin 181 = .ok (.getfield 105, 3) := by decide +kernel
theorem dX2_begin_184 : decode cX2_begin 184 = .ok (.iconst (-1), 1) := by decide +kernel
theorem dX2_begin_185 : decode cX2_begin 185 = .ok (.invokevirtual 145, 3) := by decide +kernel
theorem dX2_begin_188 : decode cX2_begin 188 = .ok (.return_, 1) := by decide +kernel
theorem dX2_beginEquation_0 : decode cX2_beginEquation 0 = .ok (.aload_n 1, 1) := by decide +kernel
theorem dX2_beginEquation_1 : decode cX2_beginEquation 1 = .ok (.iload_n 2, 1) := by decide +kernel
theorem dX2_beginEquation_2 : decode cX2_beginEquation 2 = .ok (.putfield 130, 3) := by decide +kernel
theorem dX2_beginEquation_5 : decode cX2_beginEquation 5 = .ok (.aload_n 1, 1) := by decide +kernel
theorem dX2_beginEquation_6 : decode cX2_beginEquation 6 = .ok (.aload_n 0, 1) := by decide +kernel
theorem dX2_beginEquation_7 : decode cX2_beginEquation 7 = .ok (.getfield 37, 3) := by decide +kernel
theorem dX2_beginEquation_10 : decode cX2_beginEquation 10 = .ok (.iload_n 2, 1) := by decide +kernel
theorem dX2_beginEquation_11 : decode cX2_beginEquation 11 = .ok (.invokevirtual 149, 3) := by decide +kernel
theorem dX2_beginEquation_14 : decode cX2_beginEquation 14 = .ok (.putfield 152, 3) := by decide +kernel
theorem dX2_beginEquation_17 : decode cX2_beginEquation 17 = .ok (.aload_n 0, 1) := by decide +kernel
theorem dX2_beginEquation_18 : decode cX2_beginEquation 18 = .ok (.getfield 29, 3) := by decide +kernel
theorem dX2_beginEquation_21 : decode cX2_beginEquation 21 = .ok (.aload_n 1, 1) := by decide +kernel
theorem dX2_beginEquation_22 : decode cX2_beginEquation 22 = .ok (.getfield 152, 3) := by decide +kernel
theorem dX2_beginEquation_25 : decode cX2_beginEquation 25 = .ok (.aload_n 1, 1) := by decide +kernel
theorem dX2_beginEquation_26 : decode cX2_beginEquation 26 = .ok (.getfield 108, 3) := by decide +kernel
theorem dX2_beginEquation_29 : decode cX2_beginEquation 29 = .ok (.iload_n 3, 1) := by decide +kernel
theorem dX2_beginEquation_30 : decode cX2_beginEquation 30 = .ok (.invokevirtual 155, 3) := by decide +kernel
theorem dX2_beginEquation_33 : decode cX2_beginEquation 33 = .ok (.istore 4, 2) := by decide +kernel
theorem dX2_beginEquation_35 : decode cX2_beginEquation 35 = .ok (.aload_n 1, 1) := by decide +kernel
theorem dX2_beginEquation_36 : decode cX2_beginEquation 36 = .ok (.aload_n 0, 1) := by decide +kernel
theorem dX2_beginEquation_37 : decode cX2_beginEquation 37 = .ok (.getfield 29, 3) := by decide +kernel
theorem dX2_beginEquation_40 : decode cX2_beginEquation 40 = .ok (.aload_n 1, 1) := by decide +kernel
theorem dX2_beginEquation_41 : decode cX2_beginEquation 41 = .ok (.getfield 152, 3) := by decide +kernel
theorem dX2_beginEquation_44 : decode cX2_beginEquation 44 = .ok (.aload_n 1, 1) := by decide +kernel
theorem dX2_beginEquation_45 : decode cX2_beginEquation 45 = .ok (.getfield 108, 3) := by decide +kernel
theorem dX2_beginEquation_48 : decode cX2_beginEquation 48 = .ok (.iload_n 3, 1) := by decide +kernel
theorem dX2_beginEquation_49 : decode cX2_beginEquation 49 = .ok (.invokevirtual 161, 3) := by decide +kernel
theorem dX2_beginEquation_52 : decode cX2_beginEquation 52 = .ok (.putfield 164, 3) := by decide +kernel
theorem dX2_beginEquation_55 : decode cX2_beginEquation 55 = .ok (.aload_n 1, 1) := by decide +kernel
theorem dX2_beginEquation_56 : decode cX2_beginEquation 56 = .ok (.aload_n 0, 1) := by decide +kernel
theorem dX2_beginEquation_57 : decode cX2_beginEquation 57 = .ok (.getfield 29, 3) := by decide +kernel
theorem dX2_beginEquation_60 : decode cX2_beginEquation 60 = .ok (.iload 4, 2) := by decide +kernel
theorem dX2_beginEquation_62 : decode cX2_beginEquation 62 = .ok (.invokevirtual 167, 3) := by decide +kernel
theorem dX2_beginEquation_65 : decode cX2_beginEquation 65 = .ok (.putfield 117, 3) := by decide +kernel
theorem dX2_beginEquation_68 : decode cX2_beginEquation 68 = .ok (.aload_n 1, 1) := by decide +kernel
theorem dX2_beginEquation_69 : decode cX2_beginEquation 69 = .ok (.iconst 0, 1) := by decide +kernel
theorem dX2_beginEquation_70 : decode cX2_beginEquation 70 = .ok (.putfield 171, 3) := by decide +kernel
theorem dX2_beginEquation_73 : decode cX2_beginEquation 73 = .ok (.iload_n 2, 1) := by decide +kernel
theorem dX2_beginEquation_74 : decode cX2_beginEquation 74 = .ok (.iconst (-1), 1) := by decide +kernel
theorem dX2_beginEquation_75 : decode cX2_beginEquation 75 = .ok (.if_icmp .eq 12, 3) := by decide +kernel
theorem dX2_beginEquation_78 : decode cX2_beginEquation 78 = .ok (.iload_n 3, 1) := by decide +kernel
theorem dX2_beginEquation_79 : decode cX2_beginEquation 79 = .ok (.iconst (-1), 1) := by decide +kernel
theorem dX2_beginEquation_80 : decode cX2_beginEquation 80 = .ok (.if_icmp .eq 7, 3) := by decide +kernel
theorem dX2_beginEquation_83 : decode cX2_beginEquation 83 = .ok (.iconst 1, 1) := by decide +kernel
theorem dX2_beginEquation_84 : decode cX2_beginEquation 84 = .ok (.goto 4, 3) := by decide +kernel
theorem dX2_beginEquation_87 : decode cX2_beginEquation 87 = .ok (.iconst 0, 1) := by decide +kernel
theorem dX2_beginEquation_88 : decode cX2_beginEquation 88 = .ok (.istore 5, 2) := by decide +kernel
theorem dX2_beginEquation_90 : decode cX2_beginEquation 90 = .ok (.iload 4, 2) := by decide +kernel
theorem dX2_beginEquation_92 : decode cX2_beginEquation 92 = .ok (.bipush (-3), 2) := by decide +kernel
theorem dX2_beginEquation_94 : decode cX2_beginEquation 94 = .ok (.if_icmp .eq 14, 3) := by decide +kernel
theorem dX2_beginEquation_97 : decode cX2_beginEquation 97 = .ok (.iload 4, 2) := by decide +kernel
theorem dX2_beginEquation_99 : decode cX2_beginEquation 99 = .ok (.iconst (-1), 1) := by decide +kernel
theorem dX2_beginEquation_100 : decode cX2_beginEquation 100 = .ok (.if_icmp .ne 14, 3) := by decide +kernel
theorem dX2_beginEquation_103 : decode cX2_beginEquation 103 = .ok (.iload 5, 2) := by decide +kernel
theorem dX2_beginEquation_105 : decode cX2_beginEquation 105 = .ok (.ifCond .ne 9, 3) := by decide +kernel
theorem dX2_beginEquation_108 : decode cX2_beginEquation 108 = .ok (.aload_n 1, 1) := by decide +kernel
theorem dX2_beginEquation_109 : decode cX2_beginEquation 109 = .ok (.iload 4, 2) := by decide +kernel
theorem dX2_beginEquation_111 : decode cX2_beginEquation 111 = .ok (.invokevirtual 174, 3) := by decide +kernel
theorem dX2_beginEquation_114 : decode cX2_beginEquation 114 = .ok (.return_, 1) := by decide +kernel
theorem dX2_beginGift_0 : decode cX2_beginGift 0 = .ok (.iload_n 2, 1) := by decide +kernel
theorem dX2_beginGift_1 : decode cX2_beginGift 1 = .ok (.istore_n 3, 1) := by decide +kernel
theorem dX2_beginGift_2 : decode cX2_beginGift 2 = .ok (.iconst 0, 1) := by decide +kernel
theorem dX2_beginGift_3 : decode cX2_beginGift 3 = .ok (.istore 4, 2) := by decide +kernel
theorem dX2_beginGift_5 : decode cX2_beginGift 5 = .ok (.iload 4, 2) := by decide +kernel
theorem dX2_beginGift_7 : decode cX2_beginGift 7 = .ok (.bipush 30, 2) := by decide +kernel
theorem dX2_beginGift_9 : decode cX2_beginGift 9 = .ok (.if_icmp .ge 76, 3) := by decide +kernel
theorem dX2_beginGift_12 : decode cX2_beginGift 12 = .ok (.iload_n 3, 1) := by decide +kernel
theorem dX2_beginGift_13 : decode cX2_beginGift 13 = .ok (.iconst (-1), 1) := by decide +kernel
theorem dX2_beginGift_14 : decode cX2_beginGift 14 = .ok (.if_icmp .ne 71, 3) := by decide +kernel
theorem dX2_beginGift_17 : decode cX2_beginGift 17 = .ok (.aload_n 1, 1) := by decide +kernel
theorem dX2_beginGift_18 : decode cX2_beginGift 18 = .ok (.getfield 130, 3) := by decide +kernel
theorem dX2_beginGift_21 : decode cX2_beginGift 21 = .ok (.iconst 1, 1) := by decide +kernel
theorem dX2_beginGift_22 : decode cX2_beginGift 22 = .ok (.iadd, 1) := by decide +kernel
theorem dX2_beginGift_23 : decode cX2_beginGift 23 = .ok (.aload_n 0, 1) := by decide +kernel
theorem dX2_beginGift_24 : decode cX2_beginGift 24 = .ok (.getfield 37, 3) := by decide +kernel
theorem dX2_beginGift_27 : decode cX2_beginGift 27 = .ok (.getfield 177, 3) := by decide +kernel
theorem dX2_beginGift_30 : decode cX2_beginGift 30 = .ok (.if_icmp .ge 55, 3) := by decide +kernel
theorem dX2_beginGift_33 : decode cX2_beginGift 33 = .ok (.aload_n 1, 1) := by decide +kernel
theorem dX2_beginGift_34 : decode cX2_beginGift 34 = .ok (.dup, 1) := by decide +kernel
theorem dX2_beginGift_35 : decode cX2_beginGift 35 = .ok (.getfield 130, 3) := by decide +kernel
theorem dX2_beginGift_38 : decode cX2_beginGift 38 = .ok (.iconst 1, 1) := by decide +kernel
theorem dX2_beginGift_39 : decode cX2_beginGift 39 = .ok (.iadd, 1) := by decide +kernel
theorem dX2_beginGift_40 : decode cX2_beginGift 40 = .ok (.putfield 130, 3) := by decide +kernel
theorem dX2_beginGift_43 : decode cX2_beginGift 43 = .ok (.aload_n 1, 1) := by decide +kernel
theorem dX2_beginGift_44 : decode cX2_beginGift 44 = .ok (.aload_n 0, 1) := by decide +kernel
theorem dX2_beginGift_45 : decode cX2_beginGift 45 = .ok (.getfield 37, 3) := by decide +kernel
theorem dX2_beginGift_48 : decode cX2_beginGift 48 = .ok (.aload_n 1, 1) := by decide +kernel
theorem dX2_beginGift_49 : decode cX2_beginGift 49 = .ok (.getfield 130, 3) := by decide +kernel
theorem dX2_beginGift_52 : decode cX2_beginGift 52 = .ok (.invokevirtual 149, 3) := by decide +kernel
theorem dX2_beginGift_55 : decode cX2_beginGift 55 = .ok (.putfield 152, 3) := by decide +kernel
theorem dX2_beginGift_58 : decode cX2_beginGift 58 = .ok (.aload_n 1, 1) := by decide +kernel
theorem dX2_beginGift_59 : decode cX2_beginGift 59 = .ok (.iconst 0, 1) := by decide +kernel
theorem dX2_beginGift_60 : decode cX2_beginGift 60 = .ok (.putfield 164, 3) := by decide +kernel
theorem dX2_beginGift_63 : decode cX2_beginGift 63 = .ok (.aload_n 0, 1) := by decide +kernel
theorem dX2_beginGift_64 : decode cX2_beginGift 64 = .ok (.getfield 29, 3) := by decide +kernel
theorem dX2_beginGift_67 : decode cX2_beginGift 67 = .ok (.aload_n 1, 1) := by decide +kernel
theorem dX2_beginGift_68 : decode cX2_beginGift 68 = .ok (.getfield 152, 3) := by decide +kernel
theorem dX2_beginGift_71 : decode cX2_beginGift 71 = .ok (.aload_n 1, 1) := by decide +kernel
theorem dX2_beginGift_72 : decode cX2_beginGift 72 = .ok (.getfield 108, 3) := by decide +kernel
theorem dX2_beginGift_75 : decode cX2_beginGift 75 = .ok (.invokevirtual 180, 3) := by decide +kernel
theorem dX2_beginGift_78 : decode cX2_beginGift 78 = .ok (.istore_n 3, 1) := by decide +kernel
theorem dX2_beginGift_79 : decode cX2_beginGift 79 = .ok (.iinc 4 1, 3) := by decide +kernel
theorem dX2_beginGift_82 : decode cX2_beginGift 82 = .ok (.goto (-77), 3) := by decide +kernel
theorem dX2_beginGift_85 : decode cX2_beginGift 85 = .ok (.aload_n 1, 1) := by decide +kernel
theorem dX2_beginGift_86 : decode cX2_beginGift 86 = .ok (.iload_n 3, 1) := by decide +kernel
theorem dX2_beginGift_87 : decode cX2_beginGift 87 = .ok (.putfield 183, 3) := by decide +kernel
theorem dX2_beginGift_90 : decode cX2_beginGift 90 = .ok (.aload_n 1, 1) := by decide +kernel
theorem dX2_beginGift_91 : decode cX2_beginGift 91 = .ok (.iconst 0, 1) := by decide +kernel
theorem dX2_beginGift_92 : decode cX2_beginGift 92 = .ok (.putfield 186, 3) := by decide +kernel
theorem dX2_beginGift_95 : decode cX2_beginGift 95 = .ok (.aload_n 1, 1) := by decide +kernel
theorem dX2_beginGift_96 : decode cX2_beginGift 96 = .ok (.iconst 0, 1) := by decide +kernel
theorem dX2_beginGift_97 : decode cX2_beginGift 97 = .ok (.putfield 171, 3) := by decide +kernel
theorem dX2_beginGift_100 : decode cX2_beginGift 100 = .ok (.aload_n 1, 1) := by decide +kernel
theorem dX2_beginGift_101 : decode cX2_beginGift 101 = .ok (.aload_n 0, 1) := by decide +kernel
theorem dX2_beginGift_102 : decode cX2_beginGift 102 = .ok (.getfield 29, 3) := by decide +kernel
theorem dX2_beginGift_105 : decode cX2_beginGift 105 = .ok (.iload_n 3, 1) := by decide +kernel
theorem dX2_beginGift_106 : decode cX2_beginGift 106 = .ok (.invokevirtual 167, 3) := by decide +kernel
theorem dX2_beginGift_109 : decode cX2_beginGift 109 = .ok (.putfield 117, 3) := by decide +kernel
theorem dX2_beginGift_112 : decode cX2_beginGift 112 = .ok (.iload_n 3, 1) := by decide +kernel
theorem dX2_beginGift_113 : decode cX2_beginGift 113 = .ok (.iconst (-1), 1) := by decide +kernel
theorem dX2_beginGift_114 : decode cX2_beginGift 114 = .ok (.if_icmp .ne 11, 3) := by decide +kernel
theorem dX2_beginGift_117 : decode cX2_beginGift 117 = .ok (.aload_n 1, 1) := by decide +kernel
theorem dX2_beginGift_118 : decode cX2_beginGift 118 = .ok (.aload_n 1, 1) := by decide +kernel
theorem dX2_beginGift_119 : decode cX2_beginGift 119 = .ok (.getfield 127, 3) := by decide +kernel
theorem dX2_beginGift_122 : decode cX2_beginGift 122 = .ok (.invokevirtual 174, 3) := by decide +kernel
theorem dX2_beginGift_125 : decode cX2_beginGift 125 = .ok (.return_, 1) := by decide +kernel
theorem dX2_close_0 : decode cX2_close 0 = .ok (.aload_n 1, 1) := by decide +kernel
theorem dX2_close_1 : decode cX2_close 1 = .ok (.getfield 105, 3) := by decide +kernel
theorem dX2_close_4 : decode cX2_close 4 = .ok (.aload_n 1, 1) := by decide +kernel
theorem dX2_close_5 : decode cX2_close 5 = .ok (.getfield 108, 3) := by decide +kernel
theorem dX2_close_8 : decode cX2_close 8 = .ok (.invokestatic 57, 3) := by decide +kernel
theorem dX2_close_11 : decode cX2_close 11 = .ok (.istore_n 2, 1) := by decide +kernel
theorem dX2_close_12 : decode cX2_close 12 = .ok (.aload_n 1, 1) := by decide +kernel
theorem dX2_close_13 : decode cX2_close 13 = .ok (.getfield 189, 3) := by decide +kernel
theorem dX2_close_16 : decode cX2_close 16 = .ok (.bipush (-2), 2) := by decide +kernel
theorem dX2_close_18 : decode cX2_close 18 = .ok (.if_icmp .ne 13, 3) := by decide +kernel
theorem dX2_close_21 : decode cX2_close 21 = .ok (.aload_n 1, 1) := by decide +kernel
theorem dX2_close_22 : decode cX2_close 22 = .ok (.getfield 114, 3) := by decide +kernel
theorem dX2_close_25 : decode cX2_close 25 = .ok (.ldc 126, 2) := by decide +kernel
theorem dX2_close_27 : decode cX2_close 27 = .ok (.ior, 1) := by decide +kernel
theorem dX2_close_28 : decode cX2_close 28 = .ok (.goto 7, 3) := by decide +kernel
theorem dX2_close_31 : decode cX2_close 31 = .ok (.aload_n 1, 1) := by decide +kernel
theorem dX2_close_32 : decode cX2_close 32 = .ok (.getfield 114, 3) := by decide +kernel
theorem dX2_close_35 : decode cX2_close 35 = .ok (.istore_n 3, 1) := by decide +kernel
theorem dX2_close_36 : decode cX2_close 36 = .ok (.aload_n 0, 1) := by decide +kernel
theorem dX2_close_37 : decode cX2_close 37 = .ok (.getfield 61, 3) := by decide +kernel
theorem dX2_close_40 : decode cX2_close 40 = .ok (.iload_n 2, 1) := by decide +kernel
theorem dX2_close_41 : decode cX2_close 41 = .ok (.aload_n 1, 1) := by decide +kernel
theorem dX2_close_42 : decode cX2_close 42 = .ok (.getfield 189, 3) := by decide +kernel
theorem dX2_close_45 : decode cX2_close 45 = .ok (.iload_n 3, 1) := by decide +kernel
theorem dX2_close_46 : decode cX2_close 46 = .ok (.invokevirtual 192, 3) := by decide +kernel
theorem dX2_close_49 : decode cX2_close 49 = .ok (.aload_n 0, 1) := by decide +kernel
theorem dX2_close_50 : decode cX2_close 50 = .ok (.iload_n 2, 1) := by decide +kernel
theorem dX2_close_51 : decode cX2_close 51 = .ok (.iconst 0, 1) := by decide +kernel
theorem dX2_close_52 : decode cX2_close 52 = .ok (.invokevirtual 101, 3) := by decide +kernel
theorem dX2_close_55 : decode cX2_close 55 = .ok (.aload_n 0, 1) := by decide +kernel
theorem dX2_close_56 : decode cX2_close 56 = .ok (.dup, 1) := by decide +kernel
theorem dX2_close_57 : decode cX2_close 57 = .ok (.getfield 75, 3) := by decide +kernel
theorem dX2_close_60 : decode cX2_close 60 = .ok (.iconst 1, 1) := by decide +kernel
theorem dX2_close_61 : decode cX2_close 61 = .ok (.isub, 1) := by decide +kernel
theorem dX2_close_62 : decode cX2_close 62 = .ok (.putfield 75, 3) := by decide +kernel
theorem dX2_close_65 : decode cX2_close 65 = .ok (.return_, 1) := by decide +kernel
theorem dX2_goOn_0 : decode cX2_goOn 0 = .ok (.aload_n 1, 1) := by decide +kernel
theorem dX2_goOn_1 : decode cX2_goOn 1 = .ok (.getfield 117, 3) := by decide +kernel
theorem dX2_goOn_4 : decode cX2_goOn 4 = .ok (.astore_n 2, 1) := by decide +kernel
theorem dX2_goOn_5 : decode cX2_goOn 5 = .ok (.aload_n 2, 1) := by decide +kernel
theorem dX2_goOn_6 : decode cX2_goOn 6 = .ok (.ifnonnull 40, 3) := by decide +kernel
theorem dX2_goOn_9 : decode cX2_goOn 9 = .ok (.aload_n 0, 1) := by decide +kernel
theorem dX2_goOn_10 : decode cX2_goOn 10 = .ok (.aload_n 1, 1) := by decide +kernel
theorem dX2_goOn_11 : decode cX2_goOn 11 = .ok (.aload_n 1, 1) := by decide +kernel
theorem dX2_goOn_12 : decode cX2_goOn 12 = .ok (.getfield 130, 3) := by decide +kernel
theorem dX2_goOn_15 : decode cX2_goOn 15 = .ok (.aload_n 1, 1) := by decide +kernel
theorem dX2_goOn_16 : decode cX2_goOn 16 = .ok (.getfield 108, 3) := by decide +kernel
theorem dX2_goOn_19 : decode cX2_goOn 19 = .ok (.invokevirtual 196, 3) := by decide +kernel
theorem dX2_goOn_22 : decode cX2_goOn 22 = .ok (.istore_n 3, 1) := by decide +kernel
theorem dX2_goOn_23 : decode cX2_goOn 23 = .ok (.iload_n 3, 1) := by decide +kernel
theorem dX2_goOn_24 : decode cX2_goOn 24 = .ok (.bipush (-8), 2) := by decide +kernel
theorem dX2_goOn_26 : decode cX2_goOn 26 = .ok (.if_icmp .eq 8, 3) := by decide +kernel
theorem dX2_goOn_29 : decode cX2_goOn 29 = .ok (.aload_n 1, 1) := by decide +kernel
theorem dX2_goOn_30 : decode cX2_goOn 30 = .ok (.iload_n 3, 1) := by decide +kernel
theorem dX2_goOn_31 : decode cX2_goOn 31 = .ok (.invokevirtual 174, 3) := by decide +kernel
theorem dX2_goOn_34 : decode cX2_goOn 34 = .ok (.iload_n 3, 1) := by decide +kernel
theorem dX2_goOn_35 : decode cX2_goOn 35 = .ok (.bipush (-8), 2) := by decide +kernel
theorem dX2_goOn_37 : decode cX2_goOn 37 = .ok (.if_icmp .eq 7, 3) := by decide +kernel
theorem dX2_goOn_40 : decode cX2_goOn 40 = .ok (.iconst 1, 1) := by decide +kernel
theorem dX2_goOn_41 : decode cX2_goOn 41 = .ok (.goto 4, 3) := by decide +kernel
theorem dX2_goOn_44 : decode cX2_goOn 44 = .ok (.iconst 0, 1) := by decide +kernel
theorem dX2_goOn_45 : decode cX2_goOn 45 = .ok (.ireturn, 1) := by decide +kernel
theorem dX2_goOn_46 : decode cX2_goOn 46 = .ok (.aload_n 1, 1) := by decide +kernel
theorem dX2_goOn_47 : decode cX2_goOn 47 = .ok (.getfield 171, 3) := by decide +kernel
theorem dX2_goOn_50 : decode cX2_goOn 50 = .ok (.istore_n 3, 1) := by decide +kernel
theorem dX2_goOn_51 : decode cX2_goOn 51 = .ok (.aload_n 0, 1) := by decide +kernel
theorem dX2_goOn_52 : decode cX2_goOn 52 = .ok (.aload_n 1, 1) := by decide +kernel
theorem dX2_goOn_53 : decode cX2_goOn 53 = .ok (.aload_n 2, 1) := by decide +kernel
theorem dX2_goOn_54 : decode cX2_goOn 54 = .ok (.iload_n 3, 1) := by decide +kernel
theorem dX2_goOn_55 : decode cX2_goOn 55 = .ok (.invokevirtual 200, 3) := by decide +kernel
theorem dX2_goOn_58 : decode cX2_goOn 58 = .ok (.istore 4, 2) := by decide +kernel
theorem dX2_goOn_60 : decode cX2_goOn 60 = .ok (.iload 4, 2) := by decide +kernel
theorem dX2_goOn_62 : decode cX2_goOn 62 = .ok (.bipush (-8), 2) := by decide +kernel
theorem dX2_goOn_64 : decode cX2_goOn 64 = .ok (.if_icmp .ne 5, 3) := by decide +kernel
theorem dX2_goOn_67 : decode cX2_goOn 67 = .ok (.iconst 0, 1) := by decide +kernel
theorem dX2_goOn_68 : decode cX2_goOn 68 = .ok (.ireturn, 1) := by decide +kernel
theorem dX2_goOn_69 : decode cX2_goOn 69 = .ok (.aload_n 1, 1) := by decide +kernel
theorem dX2_goOn_70 : decode cX2_goOn 70 = .ok (.aload_n 2, 1) := by decide +kernel
theorem dX2_goOn_71 : decode cX2_goOn 71 = .ok (.iload_n 3, 1) := by decide +kernel
theorem dX2_goOn_72 : decode cX2_goOn 72 = .ok (.iload 4, 2) := by decide +kernel
theorem dX2_goOn_74 : decode cX2_goOn 74 = .ok (.invokevirtual 204, 3) := by decide +kernel
theorem dX2_goOn_77 : decode cX2_goOn 77 = .ok (.istore 5, 2) := by decide +kernel
theorem dX2_goOn_79 : decode cX2_goOn 79 = .ok (.iload 5, 2) := by decide +kernel
theorem dX2_goOn_81 : decode cX2_goOn 81 = .ok (.bipush (-7), 2) := by decide +kernel
theorem dX2_goOn_83 : decode cX2_goOn 83 = .ok (.if_icmp .eq 10, 3) := by decide +kernel
theorem dX2_goOn_86 : decode cX2_goOn 86 = .ok (.aload_n 0, 1) := by decide +kernel
theorem dX2_goOn_87 : decode cX2_goOn 87 = .ok (.aload_n 1, 1) := by decide +kernel
theorem dX2_goOn_88 : decode cX2_goOn 88 = .ok (.iload 5, 2) := by decide +kernel
theorem dX2_goOn_90 : decode cX2_goOn 90 = .ok (.invokevirtual 208, 3) := by decide +kernel
theorem dX2_goOn_93 : decode cX2_goOn 93 = .ok (.iconst 1, 1) := by decide +kernel
theorem dX2_goOn_94 : decode cX2_goOn 94 = .ok (.ireturn, 1) := by decide +kernel
theorem dX2_takeWhole_0 : decode cX2_takeWhole 0 = .ok (.aload_n 0, 1) := by decide +kernel
theorem dX2_takeWhole_1 : decode cX2_takeWhole 1 = .ok (.getfield 25, 3) := by decide +kernel
theorem dX2_takeWhole_4 : decode cX2_takeWhole 4 = .ok (.aload_n 1, 1) := by decide +kernel
theorem dX2_takeWhole_5 : decode cX2_takeWhole 5 = .ok (.getfield 108, 3) := by decide +kernel
theorem dX2_takeWhole_8 : decode cX2_takeWhole 8 = .ok (.invokevirtual 121, 3) := by decide +kernel
theorem dX2_takeWhole_11 : decode cX2_takeWhole 11 = .ok (.iconst 2, 1) := by decide +kernel
theorem dX2_takeWhole_12 : decode cX2_takeWhole 12 = .ok (.if_icmp .ne 15, 3) := by decide +kernel
theorem dX2_takeWhole_15 : decode cX2_takeWhole 15 = .ok (.iload_n 2, 1) := by decide +kernel
theorem dX2_takeWhole_16 : decode cX2_takeWhole 16 = .ok (.bipush (-2), 2) := by decide +kernel
theorem dX2_takeWhole_18 : decode cX2_takeWhole 18 = .ok (.if_icmp .eq 9, 3) := by decide +kernel
theorem dX2_takeWhole_21 : decode cX2_takeWhole 21 = .ok (.iload_n 2, 1) := by decide +kernel
theorem dX2_takeWhole_22 : decode cX2_takeWhole 22 = .ok (.bipush (-3), 2) := by decide +kernel
theorem dX2_takeWhole_24 : decode cX2_takeWhole 24 = .ok (.if_icmp .ne 9, 3) := by decide +kernel
theorem dX2_takeWhole_27 : decode cX2_takeWhole 27 = .ok (.aload_n 1, 1) := by decide +kernel
theorem dX2_takeWhole_28 : decode cX2_takeWhole 28 = .ok (.iload_n 2, 1) := by decide +kernel
theorem dX2_takeWhole_29 : decode cX2_takeWhole 29 = .ok (.invokevirtual 174, 3) := by decide +kernel
theorem dX2_takeWhole_32 : decode cX2_takeWhole 32 = .ok (.return_, 1) := by decide +kernel
theorem dX2_takeWhole_33 : decode cX2_takeWhole 33 = .ok (.aload_n 1, 1) := by decide +kernel
theorem dX2_takeWhole_34 : decode cX2_takeWhole 34 = .ok (.getfield 186, 3) := by decide +kernel
theorem dX2_takeWhole_37 : decode cX2_takeWhole 37 = .ok (.ifCond .ne 21, 3) := by decide +kernel
theorem dX2_takeWhole_40 : decode cX2_takeWhole 40 = .ok (.iload_n 2, 1) := by decide +kernel
theorem dX2_takeWhole_41 : decode cX2_takeWhole 41 = .ok (.sipush 1000, 3) := by decide +kernel
theorem dX2_takeWhole_44 : decode cX2_takeWhole 44 = .ok (.aload_n 1, 1) := by decide +kernel
theorem dX2_takeWhole_45 : decode cX2_takeWhole 45 = .ok (.getfield 105, 3) := by decide +kernel
theorem dX2_takeWhole_48 : decode cX2_takeWhole 48 = .ok (.iadd, 1) := by decide +kernel
theorem dX2_takeWhole_49 : decode cX2_takeWhole 49 = .ok (.if_icmp .ne 9, 3) := by decide +kernel
theorem dX2_takeWhole_52 : decode cX2_takeWhole 52 = .ok (.aload_n 1, 1) := by decide +kernel
theorem dX2_takeWhole_53 : decode cX2_takeWhole 53 = .ok (.iconst 1, 1) := by decide +kernel
theorem dX2_takeWhole_54 : decode cX2_takeWhole 54 = .ok (.putfield 186, 3) := by decide +kernel
theorem dX2_takeWhole_57 : decode cX2_takeWhole 57 = .ok (.return_, 1) := by decide +kernel
theorem dX2_takeWhole_58 : decode cX2_takeWhole 58 = .ok (.aload_n 1, 1) := by decide +kernel
theorem dX2_takeWhole_59 : decode cX2_takeWhole 59 = .ok (.getfield 186, 3) := by decide +kernel
theorem dX2_takeWhole_62 : decode cX2_takeWhole 62 = .ok (.ifCond .eq 28, 3) := by decide +kernel
theorem dX2_takeWhole_65 : decode cX2_takeWhole 65 = .ok (.iload_n 2, 1) := by decide +kernel
theorem dX2_takeWhole_66 : decode cX2_takeWhole 66 = .ok (.ifCond .lt 24, 3) := by decide +kernel
theorem dX2_takeWhole_69 : decode cX2_takeWhole 69 = .ok (.iload_n 2, 1) := by decide +kernel
theorem dX2_takeWhole_70 : decode cX2_takeWhole 70 = .ok (.sipush 1000, 3) := by decide +kernel
theorem dX2_takeWhole_73 : decode cX2_takeWhole 73 = .ok (.if_icmp .ge 17, 3) := by decide +kernel
theorem dX2_takeWhole_76 : decode cX2_takeWhole 76 = .ok (.aload_n 1, 1) := by decide +kernel
theorem dX2_takeWhole_77 : decode cX2_takeWhole 77 = .ok (.aload_n 1, 1) := by decide +kernel
theorem dX2_takeWhole_78 : decode cX2_takeWhole 78 = .ok (.getfield 127, 3) := by decide +kernel
theorem dX2_takeWhole_81 : decode cX2_takeWhole 81 = .ok (.iload_n 2, 1) := by decide +kernel
theorem dX2_takeWhole_82 : decode cX2_takeWhole 82 = .ok (.iadd, 1) := by decide +kernel
theorem dX2_takeWhole_83 : decode cX2_takeWhole 83 = .ok (.sipush 1000, 3) := by decide +kernel
theorem dX2_takeWhole_86 : decode cX2_takeWhole 86 = .ok (.irem, 1) := by decide +kernel
theorem dX2_takeWhole_87 : decode cX2_takeWhole 87 = .ok (.putfield 127, 3) := by decide +kernel
theorem dX2_takeWhole_90 : decode cX2_takeWhole 90 = .ok (.aload_n 0, 1) := by decide +kernel
theorem dX2_takeWhole_91 : decode cX2_takeWhole 91 = .ok (.aload_n 1, 1) := by decide +kernel
theorem dX2_takeWhole_92 : decode cX2_takeWhole 92 = .ok (.aload_n 0, 1) := by decide +kernel
theorem dX2_takeWhole_93 : decode cX2_takeWhole 93 = .ok (.getfield 29, 3) := by decide +kernel
theorem dX2_takeWhole_96 : decode cX2_takeWhole 96 = .ok (.aload_n 1, 1) := by decide +kernel
theorem dX2_takeWhole_97 : decode cX2_takeWhole 97 = .ok (.getfield 183, 3) := by decide +kernel
theorem dX2_takeWhole_100 : decode cX2_takeWhole 100 = .ok (.invokevirtual 211, 3) := by decide +kernel
theorem dX2_takeWhole_103 : decode cX2_takeWhole 103 = .ok (.invokevirtual 133, 3) := by decide +kernel
theorem dX2_takeWhole_106 : decode cX2_takeWhole 106 = .ok (.return_, 1) := by decide +kernel
theorem dX2_lookAtStep_0 : decode cX2_lookAtStep 0 = .ok (.aload_n 2, 1) := by decide +kernel
theorem dX2_lookAtStep_1 : decode cX2_lookAtStep 1 = .ok (.iload_n 3, 1) := by decide +kernel
theorem dX2_lookAtStep_2 : decode cX2_lookAtStep 2 = .ok (.invokevirtual 214, 3) := by decide +kernel
theorem dX2_lookAtStep_5 : decode cX2_lookAtStep 5 = .ok (.istore 4, 2) := by decide +kernel
theorem dX2_lookAtStep_7 : decode cX2_lookAtStep 7 = .ok (.aload_n 2, 1) := by decide +kernel
theorem dX2_lookAtStep_8 : decode cX2_lookAtStep 8 = .ok (.iload_n 3, 1) := by decide +kernel
theorem dX2_lookAtStep_9 : decode cX2_lookAtStep 9 = .ok (.invokevirtual 219, 3) := by decide +kernel
theorem dX2_lookAtStep_12 : decode cX2_lookAtStep 12 = .ok (.tableswitch 244 0 14 #[76, 79, 91, 123, 148, 177, 186, 215, 244, 244, 244, 244, 244, 244, 232], 76) := by decide +kernel
theorem dX2_lookAtStep_88 : decode cX2_lookAtStep 88 = .ok (.iload 4, 2) := by decide +kernel
theorem dX2_lookAtStep_90 : decode cX2_lookAtStep 90 = .ok (.ireturn, 1) := by decide +kernel
theorem dX2_lookAtStep_91 : decode cX2_lookAtStep 91 = .ok (.aload_n 0, 1) := by decide +kernel
theorem dX2_lookAtStep_92 : decode cX2_lookAtStep 92 = .ok (.aload_n 1, 1) := by decide +kernel
theorem dX2_lookAtStep_93 : decode cX2_lookAtStep 93 = .ok (.aload_n 1, 1) := by decide +kernel
theorem dX2_lookAtStep_94 : decode cX2_lookAtStep 94 = .ok (.getfield 130, 3) := by decide +kernel
theorem dX2_lookAtStep_97 : decode cX2_lookAtStep 97 = .ok (.iload 4, 2) := by decide +kernel
theorem dX2_lookAtStep_99 : decode cX2_lookAtStep 99 = .ok (.invokevirtual 196, 3) := by decide +kernel
theorem dX2_lookAtStep_102 : decode cX2_lookAtStep 102 = .ok (.ireturn, 1) := by decide +kernel
theorem dX2_lookAtStep_103 : decode cX2_lookAtStep 103 = .ok (.aload_n 0, 1) := by decide +kernel
theorem dX2_lookAtStep_104 : decode cX2_lookAtStep 104 = .ok (.aload_n 1, 1) := by decide +kernel
theorem dX2_lookAtStep_105 : decode cX2_lookAtStep 105 = .ok (.aload_n 2, 1) := by decide +kernel
theorem dX2_lookAtStep_106 : decode cX2_lookAtStep 106 = .ok (.iload_n 3, 1) := by decide +kernel
theorem dX2_lookAtStep_107 : decode cX2_lookAtStep 107 = .ok (.invokevirtual 220, 3) := by decide +kernel
theorem dX2_lookAtStep_110 : decode cX2_lookAtStep 110 = .ok (.invokevirtual 223, 3) := by decide +kernel
theorem dX2_lookAtStep_113 : decode cX2_lookAtStep 113 = .ok (.istore 5, 2) := by decide +kernel
theorem dX2_lookAtStep_115 : decode cX2_lookAtStep 115 = .ok (.iload 5, 2) := by decide +kernel
theorem dX2_lookAtStep_117 : decode cX2_lookAtStep 117 = .ok (.iconst (-1), 1) := by decide +kernel
theorem dX2_lookAtStep_118 : decode cX2_lookAtStep 118 = .ok (.if_icmp .ne 7, 3) := by decide +kernel
theorem dX2_lookAtStep_121 : decode cX2_lookAtStep 121 = .ok (.iconst (-1), 1) := by decide +kernel
theorem dX2_lookAtStep_122 : decode cX2_lookAtStep 122 = .ok (.goto 12, 3) := by decide +kernel
theorem dX2_lookAtStep_125 : decode cX2_lookAtStep 125 = .ok (.aload_n 0, 1) := by decide +kernel
theorem dX2_lookAtStep_126 : decode cX2_lookAtStep 126 = .ok (.aload_n 1, 1) := by decide +kernel
theorem dX2_lookAtStep_127 : decode cX2_lookAtStep 127 = .ok (.iload 5, 2) := by decide +kernel
theorem dX2_lookAtStep_129 : decode cX2_lookAtStep 129 = .ok (.iload 4, 2) := by decide +kernel
theorem dX2_lookAtStep_131 : decode cX2_lookAtStep 131 = .ok (.invokevirtual 196, 3) := by decide +kernel
theorem dX2_lookAtStep_134 : decode cX2_lookAtStep 134 = .ok (.ireturn, 1) := by decide +kernel
theorem dX2_lookAtStep_135 : decode cX2_lookAtStep 135 = .ok (.aload_n 0, 1) := by decide +kernel
theorem dX2_lookAtStep_136 : decode cX2_lookAtStep 136 = .ok (.aload_n 1, 1) := by decide +kernel
theorem dX2_lookAtStep_137 : decode cX2_lookAtStep 137 = .ok (.iload 4, 2) := by decide +kernel
theorem dX2_lookAtStep_139 : decode cX2_lookAtStep 139 = .ok (.invokevirtual 227, 3) := by decide +kernel
theorem dX2_lookAtStep_142 : decode cX2_lookAtStep 142 = .ok (.iconst (-1), 1) := by decide +kernel
theorem dX2_lookAtStep_143 : decode cX2_lookAtStep 143 = .ok (.if_icmp .ne 7, 3) := by decide +kernel
theorem dX2_lookAtStep_146 : decode cX2_lookAtStep 146 = .ok (.iconst (-1), 1) := by decide +kernel
theorem dX2_lookAtStep_147 : decode cX2_lookAtStep 147 = .ok (.goto 12, 3) := by decide +kernel
theorem dX2_lookAtStep_150 : decode cX2_lookAtStep 150 = .ok (.aload_n 0, 1) := by decide +kernel
theorem dX2_lookAtStep_151 : decode cX2_lookAtStep 151 = .ok (.aload_n 1, 1) := by decide +kernel
theorem dX2_lookAtStep_152 : decode cX2_lookAtStep 152 = .ok (.iload 4, 2) := by decide +kernel
theorem dX2_lookAtStep_154 : decode cX2_lookAtStep 154 = .ok (.invokevirtual 227, 3) := by decide +kernel
theorem dX2_lookAtStep_157 : decode cX2_lookAtStep 157 = .ok (.iconst 1, 1) := by decide +kernel
theorem dX2_lookAtStep_158 : decode cX2_lookAtStep 158 = .ok (.iadd, 1) := by decide +kernel
theorem dX2_lookAtStep_159 : decode cX2_lookAtStep 159 = .ok (.ireturn, 1) := by decide +kernel
theorem dX2_lookAtStep_160 : decode cX2_lookAtStep 160 = .ok (.aload_n 0, 1) := by decide +kernel
theorem dX2_lookAtStep_161 : decode cX2_lookAtStep 161 = .ok (.aload_n 1, 1) := by decide +kernel
theorem dX2_lookAtStep_162 : decode cX2_lookAtStep 162 = .ok (.iload 4, 2) := by decide +kernel
theorem dX2_lookAtStep_164 : decode cX2_lookAtStep 164 = .ok (.invokevirtual 227, 3) := by decide +kernel
theorem dX2_lookAtStep_167 : decode cX2_lookAtStep 167 = .ok (.iconst (-1), 1) := by decide +kernel
theorem dX2_lookAtStep_168 : decode cX2_lookAtStep 168 = .ok (.if_icmp .ne 7, 3) := by decide +kernel
theorem dX2_lookAtStep_171 : decode cX2_lookAtStep 171 = .ok (.iconst (-1), 1) := by decide +kernel
theorem dX2_lookAtStep_172 : decode cX2_lookAtStep 172 = .ok (.goto 16, 3) := by decide +kernel
theorem dX2_lookAtStep_175 : decode cX2_lookAtStep 175 = .ok (.aload_n 0, 1) := by decide +kernel
theorem dX2_lookAtStep_176 : decode cX2_lookAtStep 176 = .ok (.getfield 37, 3) := by decide +kernel
theorem dX2_lookAtStep_179 : decode cX2_lookAtStep 179 = .ok (.aload_n 1, 1) := by decide +kernel
theorem dX2_lookAtStep_180 : decode cX2_lookAtStep 180 = .ok (.getfield 130, 3) := by decide +kernel
theorem dX2_lookAtStep_183 : decode cX2_lookAtStep 183 = .ok (.iload 4, 2) := by decide +kernel
theorem dX2_lookAtStep_185 : decode cX2_lookAtStep 185 = .ok (.invokevirtual 230, 3) := by decide +kernel
theorem dX2_lookAtStep_188 : decode cX2_lookAtStep 188 = .ok (.ireturn, 1) := by decide +kernel
theorem dX2_lookAtStep_189 : decode cX2_lookAtStep 189 = .ok (.sipush 1000, 3) := by decide +kernel
theorem dX2_lookAtStep_192 : decode cX2_lookAtStep 192 = .ok (.aload_n 1, 1) := by decide +kernel
theorem dX2_lookAtStep_193 : decode cX2_lookAtStep 193 = .ok (.getfield 130, 3) := by decide +kernel
theorem dX2_lookAtStep_196 : decode cX2_lookAtStep 196 = .ok (.iadd, 1) := by decide +kernel
theorem dX2_lookAtStep_197 : decode cX2_lookAtStep 197 = .ok (.ireturn, 1) := by decide +kernel
theorem dX2_lookAtStep_198 : decode cX2_lookAtStep 198 = .ok (.aload_n 0, 1) := by decide +kernel
theorem dX2_lookAtStep_199 : decode cX2_lookAtStep 199 = .ok (.aload_n 1, 1) := by decide +kernel
theorem dX2_lookAtStep_200 : decode cX2_lookAtStep 200 = .ok (.aload_n 2, 1) := by decide +kernel
theorem dX2_lookAtStep_201 : decode cX2_lookAtStep 201 = .ok (.iload_n 3, 1) := by decide +kernel
theorem dX2_lookAtStep_202 : decode cX2_lookAtStep 202 = .ok (.invokevirtual 220, 3) := by decide +kernel
theorem dX2_lookAtStep_205 : decode cX2_lookAtStep 205 = .ok (.invokevirtual 223, 3) := by decide +kernel
theorem dX2_lookAtStep_208 : decode cX2_lookAtStep 208 = .ok (.istore 5, 2) := by decide +kernel
theorem dX2_lookAtStep_210 : decode cX2_lookAtStep 210 = .ok (.iload 5, 2) := by decide +kernel
theorem dX2_lookAtStep_212 : decode cX2_lookAtStep 212 = .ok (.iconst (-1), 1) := by decide +kernel
theorem dX2_lookAtStep_213 : decode cX2_lookAtStep 213 = .ok (.if_icmp .ne 7, 3) := by decide +kernel
theorem dX2_lookAtStep_216 : decode cX2_lookAtStep 216 = .ok (.iconst (-1), 1) := by decide +kernel
theorem dX2_lookAtStep_217 : decode cX2_lookAtStep 217 = .ok (.goto 9, 3) := by decide +kernel
theorem dX2_lookAtStep_220 : decode cX2_lookAtStep 220 = .ok (.sipush 1000, 3) := by decide +kernel
theorem dX2_lookAtStep_223 : decode cX2_lookAtStep 223 = .ok (.iload 5, 2) := by decide +kernel
theorem dX2_lookAtStep_225 : decode cX2_lookAtStep 225 = .ok (.iadd, 1) := by decide +kernel
theorem dX2_lookAtStep_226 : decode cX2_lookAtStep 226 = .ok (.ireturn, 1) := by decide +kernel
theorem dX2_lookAtStep_227 : decode cX2_lookAtStep 227 = .ok (.aload_n 0, 1) := by decide +kernel
theorem dX2_lookAtStep_228 : decode cX2_lookAtStep 228 = .ok (.aload_n 1, 1) := by decide +kernel
theorem dX2_lookAtStep_229 : decode cX2_lookAtStep 229 = .ok (.aload_n 1, 1) := by decide +kernel
theorem dX2_lookAtStep_230 : decode cX2_lookAtStep 230 = .ok (.iload_n 3, 1) := by decide +kernel
theorem dX2_lookAtStep_231 : decode cX2_lookAtStep 231 = .ok (.invokevirtual 233, 3) := by decide +kernel
theorem dX2_lookAtStep_234 : decode cX2_lookAtStep 234 = .ok (.sipush 1000, 3) := by decide +kernel
theorem dX2_lookAtStep_237 : decode cX2_lookAtStep 237 = .ok (.isub, 1) := by decide +kernel
theorem dX2_lookAtStep_238 : decode cX2_lookAtStep 238 = .ok (.iload 4, 2) := by decide +kernel
theorem dX2_lookAtStep_240 : decode cX2_lookAtStep 240 = .ok (.invokevirtual 196, 3) := by decide +kernel
theorem dX2_lookAtStep_243 : decode cX2_lookAtStep 243 = .ok (.ireturn, 1) := by decide +kernel
theorem dX2_lookAtStep_244 : decode cX2_lookAtStep 244 = .ok (.aload_n 0, 1) := by decide +kernel
theorem dX2_lookAtStep_245 : decode cX2_lookAtStep 245 = .ok (.getfield 37, 3) := by decide +kernel
theorem dX2_lookAtStep_248 : decode cX2_lookAtStep 248 = .ok (.aload_n 1, 1) := by decide +kernel
theorem dX2_lookAtStep_249 : decode cX2_lookAtStep 249 = .ok (.getfield 130, 3) := by decide +kernel
theorem dX2_lookAtStep_252 : decode cX2_lookAtStep 252 = .ok (.invokevirtual 149, 3) := by decide +kernel
theorem dX2_lookAtStep_255 : decode cX2_lookAtStep 255 = .ok (.ireturn, 1) := by decide +kernel
theorem dX2_lookAtStep_256 : decode cX2_lookAtStep 256 = .ok (.iconst (-1), 1) := by decide +kernel
theorem dX2_lookAtStep_257 : decode cX2_lookAtStep 257 = .ok (.ireturn, 1) := by decide +kernel
theorem dX2_childFor_0 : decode cX2_childFor 0 = .ok (.aload_n 0, 1) := by decide +kernel
theorem dX2_childFor_1 : decode cX2_childFor 1 = .ok (.getfield 37, 3) := by decide +kernel
theorem dX2_childFor_4 : decode cX2_childFor 4 = .ok (.aload_n 1, 1) := by decide +kernel
theorem dX2_childFor_5 : decode cX2_childFor 5 = .ok (.getfield 130, 3) := by decide +kernel
theorem dX2_childFor_8 : decode cX2_childFor 8 = .ok (.aload_n 0, 1) := by decide +kernel
theorem dX2_childFor_9 : decode cX2_childFor 9 = .ok (.getfield 33, 3) := by decide +kernel
theorem dX2_childFor_12 : decode cX2_childFor 12 = .ok (.aload_n 1, 1) := by decide +kernel
theorem dX2_childFor_13 : decode cX2_childFor 13 = .ok (.getfield 152, 3) := by decide +kernel
theorem dX2_childFor_16 : decode cX2_childFor 16 = .ok (.aload_n 1, 1) := by decide +kernel
theorem dX2_childFor_17 : decode cX2_childFor 17 = .ok (.getfield 164, 3) := by decide +kernel
theorem dX2_childFor_20 : decode cX2_childFor 20 = .ok (.iload_n 2, 1) := by decide +kernel
theorem dX2_childFor_21 : decode cX2_childFor 21 = .ok (.invokevirtual 236, 3) := by decide +kernel
theorem dX2_childFor_24 : decode cX2_childFor 24 = .ok (.invokevirtual 241, 3) := by decide +kernel
theorem dX2_childFor_27 : decode cX2_childFor 27 = .ok (.ireturn, 1) := by decide +kernel
theorem dX2_letterFor_0 : decode cX2_letterFor 0 = .ok (.aload_n 1, 1) := by decide +kernel
theorem dX2_letterFor_1 : decode cX2_letterFor 1 = .ok (.getfield 164, 3) := by decide +kernel
theorem dX2_letterFor_4 : decode cX2_letterFor 4 = .ok (.ifCond .le 7, 3) := by decide +kernel
theorem dX2_letterFor_7 : decode cX2_letterFor 7 = .ok (.iconst (-1), 1) := by decide +kernel
theorem dX2_letterFor_8 : decode cX2_letterFor 8 = .ok (.goto 22, 3) := by decide +kernel
theorem dX2_letterFor_11 : decode cX2_letterFor 11 = .ok (.aload_n 0, 1) := by decide +kernel
theorem dX2_letterFor_12 : decode cX2_letterFor 12 = .ok (.getfield 25, 3) := by decide +kernel
theorem dX2_letterFor_15 : decode cX2_letterFor 15 = .ok (.aload_n 0, 1) := by decide +kernel
theorem dX2_letterFor_16 : decode cX2_letterFor 16 = .ok (.getfield 37, 3) := by decide +kernel
theorem dX2_letterFor_19 : decode cX2_letterFor 19 = .ok (.aload_n 1, 1) := by decide +kernel
theorem dX2_letterFor_20 : decode cX2_letterFor 20 = .ok (.getfield 130, 3) := by decide +kernel
theorem dX2_letterFor_23 : decode cX2_letterFor 23 = .ok (.invokevirtual 243, 3) := by decide +kernel
theorem dX2_letterFor_26 : decode cX2_letterFor 26 = .ok (.iload_n 2, 1) := by decide +kernel
theorem dX2_letterFor_27 : decode cX2_letterFor 27 = .ok (.invokevirtual 246, 3) := by decide +kernel
theorem dX2_letterFor_30 : decode cX2_letterFor 30 = .ok (.ireturn, 1) := by decide +kernel
theorem dX2_lookAt_0 : decode cX2_lookAt 0 = .ok (.iload_n 2, 1) := by decide +kernel
theorem dX2_lookAt_1 : decode cX2_lookAt 1 = .ok (.iload_n 3, 1) := by decide +kernel
theorem dX2_lookAt_2 : decode cX2_lookAt 2 = .ok (.invokestatic 57, 3) := by decide +kernel
theorem dX2_lookAt_5 : decode cX2_lookAt 5 = .ok (.istore 4, 2) := by decide +kernel
theorem dX2_lookAt_7 : decode cX2_lookAt 7 = .ok (.aload_n 0, 1) := by decide +kernel
theorem dX2_lookAt_8 : decode cX2_lookAt 8 = .ok (.getfield 49, 3) := by decide +kernel
theorem dX2_lookAt_11 : decode cX2_lookAt 11 = .ok (.ifCond .eq 17, 3) := by decide +kernel
theorem dX2_lookAt_14 : decode cX2_lookAt 14 = .ok (.aload_n 0, 1) := by decide +kernel
theorem dX2_lookAt_15 : decode cX2_lookAt 15 = .ok (.getfield 75, 3) := by decide +kernel
theorem dX2_lookAt_18 : decode cX2_lookAt 18 = .ok (.iconst 1, 1) := by decide +kernel
theorem dX2_lookAt_19 : decode cX2_lookAt 19 = .ok (.if_icmp .ne 9, 3) := by decide +kernel
theorem dX2_lookAt_22 : decode cX2_lookAt 22 = .ok (.aload_n 0, 1) := by decide +kernel
theorem dX2_lookAt_23 : decode cX2_lookAt 23 = .ok (.iload 4, 2) := by decide +kernel
theorem dX2_lookAt_25 : decode cX2_lookAt 25 = .ok (.invokevirtual 249, 3) := by decide +kernel
theorem dX2_lookAt_28 : decode cX2_lookAt 28 = .ok (.aload_n 0, 1) := by decide +kernel
theorem dX2_lookAt_29 : decode cX2_lookAt 29 = .ok (.getfield 25, 3) := by decide +kernel
theorem dX2_lookAt_32 : decode cX2_lookAt 32 = .ok (.iload_n 3, 1) := by decide +kernel
theorem dX2_lookAt_33 : decode cX2_lookAt 33 = .ok (.invokevirtual 121, 3) := by decide +kernel
theorem dX2_lookAt_36 : decode cX2_lookAt 36 = .ok (.iconst 3, 1) := by decide +kernel
theorem dX2_lookAt_37 : decode cX2_lookAt 37 = .ok (.if_icmp .ne 24, 3) := by decide +kernel
theorem dX2_lookAt_40 : decode cX2_lookAt 40 = .ok (.aload_n 1, 1) := by decide +kernel
theorem dX2_lookAt_41 : decode cX2_lookAt 41 = .ok (.dup, 1) := by decide +kernel
theorem dX2_lookAt_42 : decode cX2_lookAt 42 = .ok (.getfield 114, 3) := by decide +kernel
theorem dX2_lookAt_45 : decode cX2_lookAt 45 = .ok (.ldc 126, 2) := by decide +kernel
theorem dX2_lookAt_47 : decode cX2_lookAt 47 = .ok (.ior, 1) := by decide +kernel
theorem dX2_lookAt_48 : decode cX2_lookAt 48 = .ok (.putfield 114, 3) := by decide +kernel
theorem dX2_lookAt_51 : decode cX2_lookAt 51 = .ok (.aload_n 0, 1) := by decide +kernel
theorem dX2_lookAt_52 : decode cX2_lookAt 52 = .ok (.getfield 41, 3) := by decide +kernel
theorem dX2_lookAt_55 : decode cX2_lookAt 55 = .ok (.iload 4, 2) := by decide +kernel
theorem dX2_lookAt_57 : decode cX2_lookAt 57 = .ok (.invokestatic 252, 3) := by decide +kernel
theorem dX2_lookAt_60 : decode cX2_lookAt 60 = .ok (.ireturn, 1) := by decide +kernel
theorem dX2_lookAt_61 : decode cX2_lookAt 61 = .ok (.aload_n 0, 1) := by decide +kernel
theorem dX2_lookAt_62 : decode cX2_lookAt 62 = .ok (.getfield 61, 3) := by decide +kernel
theorem dX2_lookAt_65 : decode cX2_lookAt 65 = .ok (.iload 4, 2) := by decide +kernel
theorem dX2_lookAt_67 : decode cX2_lookAt 67 = .ok (.invokevirtual 65, 3) := by decide +kernel
theorem dX2_lookAt_70 : decode cX2_lookAt 70 = .ok (.ifCond .eq 31, 3) := by decide +kernel
theorem dX2_lookAt_73 : decode cX2_lookAt 73 = .ok (.aload_n 1, 1) := by decide +kernel
theorem dX2_lookAt_74 : decode cX2_lookAt 74 = .ok (.dup, 1) := by decide +kernel
theorem dX2_lookAt_75 : decode cX2_lookAt 75 = .ok (.getfield 114, 3) := by decide +kernel
theorem dX2_lookAt_78 : decode cX2_lookAt 78 = .ok (.aload_n 0, 1) := by decide +kernel
theorem dX2_lookAt_79 : decode cX2_lookAt 79 = .ok (.getfield 61, 3) := by decide +kernel
theorem dX2_lookAt_82 : decode cX2_lookAt 82 = .ok (.iload 4, 2) := by decide +kernel
theorem dX2_lookAt_84 : decode cX2_lookAt 84 = .ok (.invokevirtual 256, 3) := by decide +kernel
theorem dX2_lookAt_87 : decode cX2_lookAt 87 = .ok (.ior, 1) := by decide +kernel
theorem dX2_lookAt_88 : decode cX2_lookAt 88 = .ok (.putfield 114, 3) := by decide +kernel
theorem dX2_lookAt_91 : decode cX2_lookAt 91 = .ok (.aload_n 0, 1) := by decide +kernel
theorem dX2_lookAt_92 : decode cX2_lookAt 92 = .ok (.getfield 61, 3) := by decide +kernel
theorem dX2_lookAt_95 : decode cX2_lookAt 95 = .ok (.iload 4, 2) := by decide +kernel
theorem dX2_lookAt_97 : decode cX2_lookAt 97 = .ok (.invokevirtual 71, 3) := by decide +kernel
theorem dX2_lookAt_100 : decode cX2_lookAt 100 = .ok (.ireturn, 1) := by decide +kernel
theorem dX2_lookAt_101 : decode cX2_lookAt 101 = .ok (.aload_n 0, 1) := by decide +kernel
theorem dX2_lookAt_102 : decode cX2_lookAt 102 = .ok (.iload 4, 2) := by decide +kernel
theorem dX2_lookAt_104 : decode cX2_lookAt 104 = .ok (.invokevirtual 259, 3) := by decide +kernel
theorem dX2_lookAt_107 : decode cX2_lookAt 107 = .ok (.ifCond .eq 6, 3) := by decide +kernel
theorem dX2_lookAt_110 : decode cX2_lookAt 110 = .ok (.bipush (-2), 2) := by decide +kernel
theorem dX2_lookAt_112 : decode cX2_lookAt 112 = .ok (.ireturn, 1) := by decide +kernel
theorem dX2_lookAt_113 : decode cX2_lookAt 113 = .ok (.aload_n 0, 1) := by decide +kernel
theorem dX2_lookAt_114 : decode cX2_lookAt 114 = .ok (.iload 4, 2) := by decide +kernel
theorem dX2_lookAt_116 : decode cX2_lookAt 116 = .ok (.putfield 98, 3) := by decide +kernel
theorem dX2_lookAt_119 : decode cX2_lookAt 119 = .ok (.bipush (-8), 2) := by decide +kernel
theorem dX2_lookAt_121 : decode cX2_lookAt 121 = .ok (.ireturn, 1) := by decide +kernel
theorem dX2_enlist_0 : decode cX2_enlist 0 = .ok (.iconst 0, 1) := by decide +kernel
theorem dX2_enlist_1 : decode cX2_enlist 1 = .ok (.istore_n 2, 1) := by decide +kernel
theorem dX2_enlist_2 : decode cX2_enlist 2 = .ok (.iload_n 2, 1) := by decide +kernel
theorem dX2_enlist_3 : decode cX2_enlist 3 = .ok (.aload_n 0, 1) := by decide +kernel
theorem dX2_enlist_4 : decode cX2_enlist 4 = .ok (.getfield 45, 3) := by decide +kernel
theorem dX2_enlist_7 : decode cX2_enlist 7 = .ok (.if_icmp .ge 29, 3) := by decide +kernel
theorem dX2_enlist_10 : decode cX2_enlist 10 = .ok (.iload_n 2, 1) := by decide +kernel
theorem dX2_enlist_11 : decode cX2_enlist 11 = .ok (.aload_n 0, 1) := by decide +kernel
theorem dX2_enlist_12 : decode cX2_enlist 12 = .ok (.getfield 9, 3) := by decide +kernel
theorem dX2_enlist_15 : decode cX2_enlist 15 = .ok (.arraylength, 1) := by decide +kernel
theorem dX2_enlist_16 : decode cX2_enlist 16 = .ok (.if_icmp .ge 20, 3) := by decide +kernel
theorem dX2_enlist_19 : decode cX2_enlist 19 = .ok (.aload_n 0, 1) := by decide +kernel
theorem dX2_enlist_20 : decode cX2_enlist 20 = .ok (.getfield 9, 3) := by decide +kernel
theorem dX2_enlist_23 : decode cX2_enlist 23 = .ok (.iload_n 2, 1) := by decide +kernel
theorem dX2_enlist_24 : decode cX2_enlist 24 = .ok (.iaload, 1) := by decide +kernel
theorem dX2_enlist_25 : decode cX2_enlist 25 = .ok (.iload_n 1, 1) := by decide +kernel
theorem dX2_enlist_26 : decode cX2_enlist 26 = .ok (.if_icmp .ne 4, 3) := by decide +kernel
theorem dX2_enlist_29 : decode cX2_enlist 29 = .ok (.return_, 1) := by decide +kernel
theorem dX2_enlist_30 : decode cX2_enlist 30 = .ok (.iinc 2 1, 3) := by decide +kernel
theorem dX2_enlist_33 : decode cX2_enlist 33 = .ok (.goto (-31), 3) := by decide +kernel
theorem dX2_enlist_36 : decode cX2_enlist 36 = .ok (.aload_n 0, 1) := by decide +kernel
theorem dX2_enlist_37 : decode cX2_enlist 37 = .ok (.getfield 45, 3) := by decide +kernel
theorem dX2_enlist_40 : decode cX2_enlist 40 = .ok (.aload_n 0, 1) := by decide +kernel
theorem dX2_enlist_41 : decode cX2_enlist 41 = .ok (.getfield 9, 3) := by decide +kernel
theorem dX2_enlist_44 : decode cX2_enlist 44 = .ok (.arraylength, 1) := by decide +kernel
theorem dX2_enlist_45 : decode cX2_enlist 45 = .ok (.if_icmp .ge 23, 3) := by decide +kernel
theorem dX2_enlist_48 : decode cX2_enlist 48 = .ok (.aload_n 0, 1) := by decide +kernel
theorem dX2_enlist_49 : decode cX2_enlist 49 = .ok (.getfield 9, 3) := by decide +kernel
theorem dX2_enlist_52 : decode cX2_enlist 52 = .ok (.aload_n 0, 1) := by decide +kernel
theorem dX2_enlist_53 : decode cX2_enlist 53 = .ok (.getfield 45, 3) := by decide +kernel
theorem dX2_enlist_56 : decode cX2_enlist 56 = .ok (.iload_n 1, 1) := by decide +kernel
theorem dX2_enlist_57 : decode cX2_enlist 57 = .ok (.iastore, 1) := by decide +kernel
theorem dX2_enlist_58 : decode cX2_enlist 58 = .ok (.aload_n 0, 1) := by decide +kernel
theorem dX2_enlist_59 : decode cX2_enlist 59 = .ok (.dup, 1) := by decide +kernel
theorem dX2_enlist_60 : decode cX2_enlist 60 = .ok (.getfield 45, 3) := by decide +kernel
theorem dX2_enlist_63 : decode cX2_enlist 63 = .ok (.iconst 1, 1) := by decide +kernel
theorem dX2_enlist_64 : decode cX2_enlist 64 = .ok (.iadd, 1) := by decide +kernel
theorem dX2_enlist_65 : decode cX2_enlist 65 = .ok (.putfield 45, 3) := by decide +kernel
theorem dX2_enlist_68 : decode cX2_enlist 68 = .ok (.return_, 1) := by decide +kernel
theorem dX3_init_0 : decode cX3_init 0 = .ok (.aload_n 0, 1) := by decide +kernel
theorem dX3_init_1 : decode cX3_init 1 = .ok (.invokespecial 3, 3) := by decide +kernel
theorem dX3_init_4 : decode cX3_init 4 = .ok (.aload_n 0, 1) := by decide +kernel
theorem dX3_init_5 : decode cX3_init 5 = .ok (.sipush 180, 3) := by decide +kernel
theorem dX3_init_8 : decode cX3_init 8 = .ok (.newarray .int, 2) := by decide +kernel
theorem dX3_init_10 : decode cX3_init 10 = .ok (.putfield 9, 3) := by decide +kernel
theorem dX3_init_13 : decode cX3_init 13 = .ok (.aload_n 0, 1) := by decide +kernel
theorem dX3_init_14 : decode cX3_init 14 = .ok (.sipush 180, 3) := by decide +kernel
theorem dX3_init_17 : decode cX3_init 17 = .ok (.newarray .int, 2) := by decide +kernel
theorem dX3_init_19 : decode cX3_init 19 = .ok (.putfield 15, 3) := by decide +kernel
theorem dX3_init_22 : decode cX3_init 22 = .ok (.aload_n 0, 1) := by decide +kernel
theorem dX3_init_23 : decode cX3_init 23 = .ok (.sipush 180, 3) := by decide +kernel
theorem dX3_init_26 : decode cX3_init 26 = .ok (.newarray .int, 2) := by decide +kernel
theorem dX3_init_28 : decode cX3_init 28 = .ok (.putfield 18, 3) := by decide +kernel
theorem dX3_init_31 : decode cX3_init 31 = .ok (.aload_n 0, 1) := by decide +kernel
theorem dX3_init_32 : decode cX3_init 32 = .ok (.sipush 180, 3) := by decide +kernel
theorem dX3_init_35 : decode cX3_init 35 = .ok (.newarray .int, 2) := by decide +kernel
theorem dX3_init_37 : decode cX3_init 37 = .ok (.putfield 21, 3) := by decide +kernel
theorem dX3_init_40 : decode cX3_init 40 = .ok (.return_, 1) := by decide +kernel
theorem dX3_has_0 : decode cX3_has 0 = .ok (.iload_n 1, 1) := by decide +kernel
theorem dX3_has_1 : decode cX3_has 1 = .ok (.ifCond .lt 23, 3) := by decide +kernel
theorem dX3_has_4 : decode cX3_has 4 = .ok (.iload_n 1, 1) := by decide +kernel
theorem dX3_has_5 : decode cX3_has 5 = .ok (.sipush 180, 3) := by decide +kernel
theorem dX3_has_8 : decode cX3_has 8 = .ok (.if_icmp .ge 16, 3) := by decide +kernel
theorem dX3_has_11 : decode cX3_has 11 = .ok (.aload_n 0, 1) := by decide +kernel
theorem dX3_has_12 : decode cX3_has 12 = .ok (.getfield 15, 3) := by decide +kernel
theorem dX3_has_15 : decode cX3_has 15 = .ok (.iload_n 1, 1) := by decide +kernel
theorem dX3_has_16 : decode cX3_has 16 = .ok (.iaload, 1) := by decide +kernel
theorem dX3_has_17 : decode cX3_has 17 = .ok (.ifCond .eq 7, 3) := by decide +kernel
theorem dX3_has_20 : decode cX3_has 20 = .ok (.iconst 1, 1) := by decide +kernel
theorem dX3_has_21 : decode cX3_has 21 = .ok (.goto 4, 3) := by decide +kernel
theorem dX3_has_24 : decode cX3_has 24 = .ok (.iconst 0, 1) := by decide +kernel
theorem dX3_has_25 : decode cX3_has 25 = .ok (.ireturn, 1) := by decide +kernel
theorem dX3_valueOf_0 : decode cX3_valueOf 0 = .ok (.iload_n 1, 1) := by decide +kernel
theorem dX3_valueOf_1 : decode cX3_valueOf 1 = .ok (.ifCond .lt 19, 3) := by decide +kernel
theorem dX3_valueOf_4 : decode cX3_valueOf 4 = .ok (.iload_n 1, 1) := by decide +kernel
theorem dX3_valueOf_5 : decode cX3_valueOf 5 = .ok (.sipush 180, 3) := by decide +kernel
theorem dX3_valueOf_8 : decode cX3_valueOf 8 = .ok (.if_icmp .ge 12, 3) := by decide +kernel
theorem dX3_valueOf_11 : decode cX3_valueOf 11 = .ok (.aload_n 0, 1) := by decide +kernel
theorem dX3_valueOf_12 : decode cX3_valueOf 12 = .ok (.getfield 9, 3) := by decide +kernel
theorem dX3_valueOf_15 : decode cX3_valueOf 15 = .ok (.iload_n 1, 1) := by decide +kernel
theorem dX3_valueOf_16 : decode cX3_valueOf 16 = .ok (.iaload, 1) := by decide +kernel
theorem dX3_valueOf_17 : decode cX3_valueOf 17 = .ok (.goto 4, 3) := by decide +kernel
theorem dX3_valueOf_20 : decode cX3_valueOf 20 = .ok (.iconst (-1), 1) := by decide +kernel
theorem dX3_valueOf_21 : decode cX3_valueOf 21 = .ok (.ireturn, 1) := by decide +kernel
theorem dX3_hangsOf_0 : decode cX3_hangsOf 0 = .ok (.iload_n 1, 1) := by decide +kernel
theorem dX3_hangsOf_1 : decode cX3_hangsOf 1 = .ok (.ifCond .lt 19, 3) := by decide +kernel
theorem dX3_hangsOf_4 : decode cX3_hangsOf 4 = .ok (.iload_n 1, 1) := by decide +kernel
theorem dX3_hangsOf_5 : decode cX3_hangsOf 5 = .ok (.sipush 180, 3) := by decide +kernel
theorem dX3_hangsOf_8 : decode cX3_hangsOf 8 = .ok (.if_icmp .ge 12, 3) := by decide +kernel
theorem dX3_hangsOf_11 : decode cX3_hangsOf 11 = .ok (.aload_n 0, 1) := by decide +kernel
theorem dX3_hangsOf_12 : decode cX3_hangsOf 12 = .ok (.getfield 15, 3) := by decide +kernel
theorem dX3_hangsOf_15 : decode cX3_hangsOf 15 = .ok (.iload_n 1, 1) := by decide +kernel
theorem dX3_hangsOf_16 : decode cX3_hangsOf 16 = .ok (.iaload, 1) := by decide +kernel
theorem dX3_hangsOf_17 : decode cX3_hangsOf 17 = .ok (.goto 4, 3) := by decide +kernel
theorem dX3_hangsOf_20 : decode cX3_hangsOf 20 = .ok (.iconst 0, 1) := by decide +kernel
theorem dX3_hangsOf_21 : decode cX3_hangsOf 21 = .ok (.ireturn, 1) := by decide +kernel
theorem dX3_keep_0 : decode cX3_keep 0 = .ok (.aload_n 0, 1) := by decide +kernel
theorem dX3_keep_1 : decode cX3_keep 1 = .ok (.getfield 9, 3) := by decide +kernel
theorem dX3_keep_4 : decode cX3_keep 4 = .ok (.iload_n 1, 1) := by decide +kernel
theorem dX3_keep_5 : decode cX3_keep 5 = .ok (.iload_n 2, 1) := by decide +kernel
theorem dX3_keep_6 : decode cX3_keep 6 = .ok (.invokestatic 24, 3) := by decide +kernel
theorem dX3_keep_9 : decode cX3_keep 9 = .ok (.aload_n 0, 1) := by decide +kernel
theorem dX3_keep_10 : decode cX3_keep 10 = .ok (.getfield 15, 3) := by decide +kernel
theorem dX3_keep_13 : decode cX3_keep 13 = .ok (.iload_n 1, 1) := by decide +kernel
theorem dX3_keep_14 : decode cX3_keep 14 = .ok (.iload_n 3, 1) := by decide +kernel
theorem dX3_keep_15 : decode cX3_keep 15 = .ok (.invokestatic 24, 3) := by decide +kernel
theorem dX3_keep_18 : decode cX3_keep 18 = .ok (.aload_n 0, 1) := by decide +kernel
theorem dX3_keep_19 : decode cX3_keep 19 = .ok (.dup, 1) := by decide +kernel
theorem dX3_keep_20 : decode cX3_keep 20 = .ok (.getfield 28, 3) := by decide +kernel
theorem dX3_keep_23 : decode cX3_keep 23 = .ok (.iconst 1, 1) := by decide +kernel
theorem dX3_keep_24 : decode cX3_keep 24 = .ok (.iadd, 1) := by decide +kernel
theorem dX3_keep_25 : decode cX3_keep 25 = .ok (.putfield 28, 3) := by decide +kernel
theorem dX3_keep_28 : decode cX3_keep 28 = .ok (.return_, 1) := by decide +kernel
theorem dX3_clear_0 : decode cX3_clear 0 = .ok (.aload_n 0, 1) := by decide +kernel
theorem dX3_clear_1 : decode cX3_clear 1 = .ok (.getfield 15, 3) := by decide +kernel
theorem dX3_clear_4 : decode cX3_clear 4 = .ok (.iconst 0, 1) := by decide +kernel
theorem dX3_clear_5 : decode cX3_clear 5 = .ok (.invokestatic 32, 3) := by decide +kernel
theorem dX3_clear_8 : decode cX3_clear 8 = .ok (.return_, 1) := by decide +kernel
theorem dX3_drop_0 : decode cX3_drop 0 = .ok (.iconst 0, 1) := by decide +kernel
theorem dX3_drop_1 : decode cX3_drop 1 = .ok (.istore_n 2, 1) := by decide +kernel
theorem dX3_drop_2 : decode cX3_drop 2 = .ok (.iload_n 2, 1) := by decide +kernel
theorem dX3_drop_3 : decode cX3_drop 3 = .ok (.sipush 180, 3) := by decide +kernel
theorem dX3_drop_6 : decode cX3_drop 6 = .ok (.if_icmp .ge 31, 3) := by decide +kernel
theorem dX3_drop_9 : decode cX3_drop 9 = .ok (.aload_n 0, 1) := by decide +kernel
theorem dX3_drop_10 : decode cX3_drop 10 = .ok (.getfield 15, 3) := by decide +kernel
theorem dX3_drop_13 : decode cX3_drop 13 = .ok (.iload_n 2, 1) := by decide +kernel
theorem dX3_drop_14 : decode cX3_drop 14 = .ok (.invokestatic 36, 3) := by decide +kernel
theorem dX3_drop_17 : decode cX3_drop 17 = .ok (.iload_n 1, 1) := by decide +kernel
theorem dX3_drop_18 : decode cX3_drop 18 = .ok (.iand, 1) := by decide +kernel
theorem dX3_drop_19 : decode cX3_drop 19 = .ok (.ifCond .eq 12, 3) := by decide +kernel
theorem dX3_drop_22 : decode cX3_drop 22 = .ok (.aload_n 0, 1) := by decide +kernel
theorem dX3_drop_23 : decode cX3_drop 23 = .ok (.getfield 15, 3) := by decide +kernel
theorem dX3_drop_26 : decode cX3_drop 26 = .ok (.iload_n 2, 1) := by decide +kernel
theorem dX3_drop_27 : decode cX3_drop 27 = .ok (.iconst 0, 1) := by decide +kernel
theorem dX3_drop_28 : decode cX3_drop 28 = .ok (.invokestatic 24, 3) := by decide +kernel
theorem dX3_drop_31 : decode cX3_drop 31 = .ok (.iinc 2 1, 3) := by decide +kernel
theorem dX3_drop_34 : decode cX3_drop 34 = .ok (.goto (-32), 3) := by decide +kernel
theorem dX3_drop_37 : decode cX3_drop 37 = .ok (.return_, 1) := by decide +kernel
theorem dX3_follow_0 : decode cX3_follow 0 = .ok (.aload_n 0, 1) := by decide +kernel
theorem dX3_follow_1 : decode cX3_follow 1 = .ok (.getfield 21, 3) := by decide +kernel
theorem dX3_follow_4 : decode cX3_follow 4 = .ok (.iconst 0, 1) := by decide +kernel
theorem dX3_follow_5 : decode cX3_follow 5 = .ok (.invokestatic 32, 3) := by decide +kernel
theorem dX3_follow_8 : decode cX3_follow 8 = .ok (.iconst 0, 1) := by decide +kernel
theorem dX3_follow_9 : decode cX3_follow 9 = .ok (.istore_n 2, 1) := by decide +kernel
theorem dX3_follow_10 : decode cX3_follow 10 = .ok (.iload_n 2, 1) := by decide +kernel
theorem dX3_follow_11 : decode cX3_follow 11 = .ok (.sipush 180, 3) := by decide +kernel
theorem dX3_follow_14 : decode cX3_follow 14 = .ok (.if_icmp .ge 77, 3) := by decide +kernel
theorem dX3_follow_17 : decode cX3_follow 17 = .ok (.aload_n 1, 1) := by decide +kernel
theorem dX3_follow_18 : decode cX3_follow 18 = .ok (.iload_n 2, 1) := by decide +kernel
theorem dX3_follow_19 : decode cX3_follow 19 = .ok (.bipush 6, 2) := by decide +kernel
theorem dX3_follow_21 : decode cX3_follow 21 = .ok (.idiv, 1) := by decide +kernel
theorem dX3_follow_22 : decode cX3_follow 22 = .ok (.invokevirtual 40, 3) := by decide +kernel
theorem dX3_follow_25 : decode cX3_follow 25 = .ok (.istore_n 3, 1) := by decide +kernel
theorem dX3_follow_26 : decode cX3_follow 26 = .ok (.aload_n 0, 1) := by decide +kernel
theorem dX3_follow_27 : decode cX3_follow 27 = .ok (.iload_n 2, 1) := by decide +kernel
theorem dX3_follow_28 : decode cX3_follow 28 = .ok (.invokevirtual 46, 3) := by decide +kernel
theorem dX3_follow_31 : decode cX3_follow 31 = .ok (.ifCond .eq 54, 3) := by decide +kernel
theorem dX3_follow_34 : decode cX3_follow 34 = .ok (.iload_n 3, 1) := by decide +kernel
theorem dX3_follow_35 : decode cX3_follow 35 = .ok (.iconst (-1), 1) := by decide +kernel
theorem dX3_follow_36 : decode cX3_follow 36 = .ok (.if_icmp .eq 49, 3) := by decide +kernel
theorem dX3_follow_39 : decode cX3_follow 39 = .ok (.iload_n 3, 1) := by decide +kernel
theorem dX3_follow_40 : decode cX3_follow 40 = .ok (.iload_n 2, 1) := by decide +kernel
theorem dX3_follow_41 : decode cX3_follow 41 = .ok (.bipush 6, 2) := by decide +kernel
theorem dX3_follow_43 : decode cX3_follow 43 = .ok (.irem, 1) := by decide +kernel
theorem dX3_follow_44 : decode cX3_follow 44 = .ok (.invokestatic 50, 3) := by decide +kernel
theorem dX3_follow_47 : decode cX3_follow 47 = .ok (.istore 4, 2) := by decide +kernel
theorem dX3_follow_49 : decode cX3_follow 49 = .ok (.aload_n 0, 1) := by decide +kernel
theorem dX3_follow_50 : decode cX3_follow 50 = .ok (.getfield 18, 3) := by decide +kernel
theorem dX3_follow_53 : decode cX3_follow 53 = .ok (.iload 4, 2) := by decide +kernel
theorem dX3_follow_55 : decode cX3_follow 55 = .ok (.aload_n 1, 1) := by decide +kernel
theorem dX3_follow_56 : decode cX3_follow 56 = .ok (.aload_n 0, 1) := by decide +kernel
theorem dX3_follow_57 : decode cX3_follow 57 = .ok (.iload_n 2, 1) := by decide +kernel
theorem dX3_follow_58 : decode cX3_follow 58 = .ok (.invokevirtual 54, 3) := by decide +kernel
theorem dX3_follow_61 : decode cX3_follow 61 = .ok (.invokestatic 57, 3) := by decide +kernel
theorem dX3_follow_64 : decode cX3_follow 64 = .ok (.invokestatic 24, 3) := by decide +kernel
theorem dX3_follow_67 : decode cX3_follow 67 = .ok (.aload_n 0, 1) := by decide +kernel
theorem dX3_follow_68 : decode cX3_follow 68 = .ok (.getfield 21, 3) := by decide +kernel
theorem dX3_follow_71 : decode cX3_follow 71 = .ok (.iload 4, 2) := by decide +kernel
theorem dX3_follow_73 : decode cX3_follow 73 = .ok (.aload_n 1, 1) := by decide +kernel
theorem dX3_follow_74 : decode cX3_follow 74 = .ok (.aload_n 0, 1) := by decide +kernel
theorem dX3_follow_75 : decode cX3_follow 75 = .ok (.iload_n 2, 1) := by decide +kernel
theorem dX3_follow_76 : decode cX3_follow 76 = .ok (.invokevirtual 61, 3) := by decide +kernel
theorem dX3_follow_79 : decode cX3_follow 79 = .ok (.invokestatic 64, 3) := by decide +kernel
theorem dX3_follow_82 : decode cX3_follow 82 = .ok (.invokestatic 24, 3) := by decide +kernel
theorem dX3_follow_85 : decode cX3_follow 85 = .ok (.iinc 2 1, 3) := by decide +kernel
theorem dX3_follow_88 : decode cX3_follow 88 = .ok (.goto (-78), 3) := by decide +kernel
theorem dX3_follow_91 : decode cX3_follow 91 = .ok (.aload_n 0, 1) := by decide +kernel
theorem dX3_follow_92 : decode cX3_follow 92 = .ok (.getfield 18, 3) := by decide +kernel
theorem dX3_follow_95 : decode cX3_follow 95 = .ok (.aload_n 0, 1) := by decide +kernel
theorem dX3_follow_96 : decode cX3_follow 96 = .ok (.getfield 9, 3) := by decide +kernel
theorem dX3_follow_99 : decode cX3_follow 99 = .ok (.invokestatic 67, 3) := by decide +kernel
theorem dX3_follow_102 : decode cX3_follow 102 = .ok (.aload_n 0, 1) := by decide +kernel
theorem dX3_follow_103 : decode cX3_follow 103 = .ok (.getfield 21, 3) := by decide +kernel
theorem dX3_follow_106 : decode cX3_follow 106 = .ok (.aload_n 0, 1) := by decide +kernel
theorem dX3_follow_107 : decode cX3_follow 107 = .ok (.getfield 15, 3) := by decide +kernel
theorem dX3_follow_110 : decode cX3_follow 110 = .ok (.invokestatic 67, 3) := by decide +kernel
theorem dX3_follow_113 : decode cX3_follow 113 = .ok (.return_, 1) := by decide +kernel
theorem dX3_valueInHeirs_0 : decode cX3_valueInHeirs 0 = .ok (.iload_n 1, 1) := by decide +kernel
theorem dX3_valueInHeirs_1 : decode cX3_valueInHeirs 1 = .ok (.sipush 1000, 3) := by decide +kernel
theorem dX3_valueInHeirs_4 : decode cX3_valueInHeirs 4 = .ok (.if_icmp .ge 7, 3) := by decide +kernel
theorem dX3_valueInHeirs_7 : decode cX3_valueInHeirs 7 = .ok (.iload_n 1, 1) := by decide +kernel
theorem dX3_valueInHeirs_8 : decode cX3_valueInHeirs 8 = .ok (.goto 16, 3) := by decide +kernel
theorem dX3_valueInHeirs_11 : decode cX3_valueInHeirs 11 = .ok (.sipush 1000, 3) := by decide +kernel
theorem dX3_valueInHeirs_14 : decode cX3_valueInHeirs 14 = .ok (.aload_n 0, 1) := by decide +kernel
theorem dX3_valueInHeirs_15 : decode cX3_valueInHeirs 15 = .ok (.iload_n 1, 1) := by decide +kernel
theorem dX3_valueInHeirs_16 : decode cX3_valueInHeirs 16 = .ok (.sipush 1000, 3) := by decide +kernel
theorem dX3_valueInHeirs_19 : decode cX3_valueInHeirs 19 = .ok (.isub, 1) := by decide +kernel
theorem dX3_valueInHeirs_20 : decode cX3_valueInHeirs 20 = .ok (.invokevirtual 40, 3) := by decide +kernel
theorem dX3_valueInHeirs_23 : decode cX3_valueInHeirs 23 = .ok (.iadd, 1) := by decide +kernel
theorem dX3_valueInHeirs_24 : decode cX3_valueInHeirs 24 = .ok (.ireturn, 1) := by decide +kernel
theorem dX3_bitsInHeirs_0 : decode cX3_bitsInHeirs 0 = .ok (.iconst 0, 1) := by decide +kernel
theorem dX3_bitsInHeirs_1 : decode cX3_bitsInHeirs 1 = .ok (.istore_n 2, 1) := by decide +kernel
theorem dX3_bitsInHeirs_2 : decode cX3_bitsInHeirs 2 = .ok (.iconst 0, 1) := by decide +kernel
theorem dX3_bitsInHeirs_3 : decode cX3_bitsInHeirs 3 = .ok (.istore_n 3, 1) := by decide +kernel
theorem dX3_bitsInHeirs_4 : decode cX3_bitsInHeirs 4 = .ok (.iload_n 3, 1) := by decide +kernel
theorem dX3_bitsInHeirs_5 : decode cX3_bitsInHeirs 5 = .ok (.bipush 30, 2) := by decide +kernel
theorem dX3_bitsInHeirs_7 : decode cX3_bitsInHeirs 7 = .ok (.if_icmp .ge 33, 3) := by decide +kernel
theorem dX3_bitsInHeirs_10 : decode cX3_bitsInHeirs 10 = .ok (.iload_n 2, 1) := by decide +kernel
theorem dX3_bitsInHeirs_11 : decode cX3_bitsInHeirs 11 = .ok (.iload_n 1, 1) := by decide +kernel
theorem dX3_bitsInHeirs_12 : decode cX3_bitsInHeirs 12 = .ok (.iload_n 3, 1) := by decide +kernel
theorem dX3_bitsInHeirs_13 : decode cX3_bitsInHeirs 13 = .ok (.invokestatic 71, 3) := by decide +kernel
theorem dX3_bitsInHeirs_16 : decode cX3_bitsInHeirs 16 = .ok (.iand, 1) := by decide +kernel
theorem dX3_bitsInHeirs_17 : decode cX3_bitsInHeirs 17 = .ok (.ifCond .eq 14, 3) := by decide +kernel
theorem dX3_bitsInHeirs_20 : decode cX3_bitsInHeirs 20 = .ok (.aload_n 0, 1) := by decide +kernel
theorem dX3_bitsInHeirs_21 : decode cX3_bitsInHeirs 21 = .ok (.iload_n 3, 1) := by decide +kernel
theorem dX3_bitsInHeirs_22 : decode cX3_bitsInHeirs 22 = .ok (.invokevirtual 40, 3) := by decide +kernel
theorem dX3_bitsInHeirs_25 : decode cX3_bitsInHeirs 25 = .ok (.invokestatic 71, 3) := by decide +kernel
theorem dX3_bitsInHeirs_28 : decode cX3_bitsInHeirs 28 = .ok (.goto 4, 3) := by decide +kernel
theorem dX3_bitsInHeirs_31 : decode cX3_bitsInHeirs 31 = .ok (.iconst 0, 1) := by decide +kernel
theorem dX3_bitsInHeirs_32 : decode cX3_bitsInHeirs 32 = .ok (.ior, 1) := by decide +kernel
theorem dX3_bitsInHeirs_33 : decode cX3_bitsInHeirs 33 = .ok (.istore_n 2, 1) := by decide +kernel
theorem dX3_bitsInHeirs_34 : decode cX3_bitsInHeirs 34 = .ok (.iinc 3 1, 3) := by decide +kernel
theorem dX3_bitsInHeirs_37 : decode cX3_bitsInHeirs 37 = .ok (.goto (-33), 3) := by decide +kernel
theorem dX3_bitsInHeirs_40 : decode cX3_bitsInHeirs 40 = .ok (.iload_n 2, 1) := by decide +kernel
theorem dX3_bitsInHeirs_41 : decode cX3_bitsInHeirs 41 = .ok (.ireturn, 1) := by decide +kernel
theorem dX4_init_0 : decode cX4_init 0 = .ok (.aload_n 0, 1) := by decide +kernel
theorem dX4_init_1 : decode cX4_init 1 = .ok (.invokespecial 3, 3) := by decide +kernel
theorem dX4_init_4 : decode cX4_init 4 = .ok (.aload_n 0, 1) := by decide +kernel
theorem dX4_init_5 : decode cX4_init 5 = .ok (.bipush 8, 2) := by decide +kernel
theorem dX4_init_7 : decode cX4_init 7 = .ok (.newarray .int, 2) := by decide +kernel
theorem dX4_init_9 : decode cX4_init 9 = .ok (.putfield 9, 3) := by decide +kernel
theorem dX4_init_12 : decode cX4_init 12 = .ok (.return_, 1) := by decide +kernel
theorem dX4_settle_0 : decode cX4_settle 0 = .ok (.aload_n 0, 1) := by decide +kernel
theorem dX4_settle_1 : decode cX4_settle 1 = .ok (.iload_n 1, 1) := by decide +kernel
theorem dX4_settle_2 : decode cX4_settle 2 = .ok (.putfield 15, 3) := by decide +kernel
theorem dX4_settle_5 : decode cX4_settle 5 = .ok (.aload_n 0, 1) := by decide +kernel
theorem dX4_settle_6 : decode cX4_settle 6 = .ok (.iconst 1, 1) := by decide +kernel
theorem dX4_settle_7 : decode cX4_settle 7 = .ok (.putfield 19, 3) := by decide +kernel
theorem dX4_settle_10 : decode cX4_settle 10 = .ok (.return_, 1) := by decide +kernel
theorem dX4_heldFor_0 : decode cX4_heldFor 0 = .ok (.iload_n 1, 1) := by decide +kernel
theorem dX4_heldFor_1 : decode cX4_heldFor 1 = .ok (.ifCond .lt 18, 3) := by decide +kernel
theorem dX4_heldFor_4 : decode cX4_heldFor 4 = .ok (.iload_n 1, 1) := by decide +kernel
theorem dX4_heldFor_5 : decode cX4_heldFor 5 = .ok (.bipush 8, 2) := by decide +kernel
theorem dX4_heldFor_7 : decode cX4_heldFor 7 = .ok (.if_icmp .ge 12, 3) := by decide +kernel
theorem dX4_heldFor_10 : decode cX4_heldFor 10 = .ok (.aload_n 0, 1) := by decide +kernel
theorem dX4_heldFor_11 : decode cX4_heldFor 11 = .ok (.getfield 9, 3) := by decide +kernel
theorem dX4_heldFor_14 : decode cX4_heldFor 14 = .ok (.iload_n 1, 1) := by decide +kernel
theorem dX4_heldFor_15 : decode cX4_heldFor 15 = .ok (.iaload, 1) := by decide +kernel
theorem dX4_heldFor_16 : decode cX4_heldFor 16 = .ok (.goto 4, 3) := by decide +kernel
theorem dX4_heldFor_19 : decode cX4_heldFor 19 = .ok (.iconst (-1), 1) := by decide +kernel
theorem dX4_heldFor_20 : decode cX4_heldFor 20 = .ok (.ireturn, 1) := by decide +kernel
theorem dX4_climb_0 : decode cX4_climb 0 = .ok (.iload_n 2, 1) := by decide +kernel
theorem dX4_climb_1 : decode cX4_climb 1 = .ok (.istore 4, 2) := by decide +kernel
theorem dX4_climb_3 : decode cX4_climb 3 = .ok (.iload_n 3, 1) := by decide +kernel
theorem dX4_climb_4 : decode cX4_climb 4 = .ok (.istore 5, 2) := by decide +kernel
theorem dX4_climb_6 : decode cX4_climb 6 = .ok (.iconst 0, 1) := by decide +kernel
theorem dX4_climb_7 : decode cX4_climb 7 = .ok (.istore 6, 2) := by decide +kernel
theorem dX4_climb_9 : decode cX4_climb 9 = .ok (.iload 6, 2) := by decide +kernel
theorem dX4_climb_11 : decode cX4_climb 11 = .ok (.bipush 8, 2) := by decide +kernel
theorem dX4_climb_13 : decode cX4_climb 13 = .ok (.if_icmp .ge 66, 3) := by decide +kernel
theorem dX4_climb_16 : decode cX4_climb 16 = .ok (.aload_n 1, 1) := by decide +kernel
theorem dX4_climb_17 : decode cX4_climb 17 = .ok (.iload 4, 2) := by decide +kernel
theorem dX4_climb_19 : decode cX4_climb 19 = .ok (.invokevirtual 23, 3) := by decide +kernel
theorem dX4_climb_22 : decode cX4_climb 22 = .ok (.istore 7, 2) := by decide +kernel
theorem dX4_climb_24 : decode cX4_climb 24 = .ok (.iload 7, 2) := by decide +kernel
theorem dX4_climb_26 : decode cX4_climb 26 = .ok (.iconst (-1), 1) := by decide +kernel
theorem dX4_climb_27 : decode cX4_climb 27 = .ok (.if_icmp .ne 14, 3) := by decide +kernel
theorem dX4_climb_30 : decode cX4_climb 30 = .ok (.aload_n 0, 1) := by decide +kernel
theorem dX4_climb_31 : decode cX4_climb 31 = .ok (.iload 4, 2) := by decide +kernel
theorem dX4_climb_33 : decode cX4_climb 33 = .ok (.iconst 1, 1) := by decide +kernel
theorem dX4_climb_34 : decode cX4_climb 34 = .ok (.iadd, 1) := by decide +kernel
theorem dX4_climb_35 : decode cX4_climb 35 = .ok (.putfield 29, 3) := by decide +kernel
theorem dX4_climb_38 : decode cX4_climb 38 = .ok (.iload 5, 2) := by decide +kernel
theorem dX4_climb_40 : decode cX4_climb 40 = .ok (.ireturn, 1) := by decide +kernel
theorem dX4_climb_41 : decode cX4_climb 41 = .ok (.iload 5, 2) := by decide +kernel
theorem dX4_climb_43 : decode cX4_climb 43 = .ok (.ifCond .lt 16, 3) := by decide +kernel
theorem dX4_climb_46 : decode cX4_climb 46 = .ok (.aload_n 0, 1) := by decide +kernel
theorem dX4_climb_47 : decode cX4_climb 47 = .ok (.aload_n 1, 1) := by decide +kernel
theorem dX4_climb_48 : decode cX4_climb 48 = .ok (.iload 7, 2) := by decide +kernel
theorem dX4_climb_50 : decode cX4_climb 50 = .ok (.iload 4, 2) := by decide +kernel
theorem dX4_climb_52 : decode cX4_climb 52 = .ok (.iload 5, 2) := by decide +kernel
theorem dX4_climb_54 : decode cX4_climb 54 = .ok (.invokevirtual 32, 3) := by decide +kernel
theorem dX4_climb_57 : decode cX4_climb 57 = .ok (.istore 5, 2) := by decide +kernel
theorem dX4_climb_59 : decode cX4_climb 59 = .ok (.iload 5, 2) := by decide +kernel
theorem dX4_climb_61 : decode cX4_climb 61 = .ok (.bipush (-7), 2) := by decide +kernel
theorem dX4_climb_63 : decode cX4_climb 63 = .ok (.if_icmp .ne 6, 3) := by decide +kernel
theorem dX4_climb_66 : decode cX4_climb 66 = .ok (.bipush (-7), 2) := by decide +kernel
theorem dX4_climb_68 : decode cX4_climb 68 = .ok (.ireturn, 1) := by decide +kernel
theorem dX4_climb_69 : decode cX4_climb 69 = .ok (.iload 7, 2) := by decide +kernel
theorem dX4_climb_71 : decode cX4_climb 71 = .ok (.istore 4, 2) := by decide +kernel
theorem dX4_climb_73 : decode cX4_climb 73 = .ok (.iinc 6 1, 3) := by decide +kernel
theorem dX4_climb_76 : decode cX4_climb 76 = .ok (.goto (-67), 3) := by decide +kernel
theorem dX4_climb_79 : decode cX4_climb 79 = .ok (.iconst (-1), 1) := by decide +kernel
theorem dX4_climb_80 : decode cX4_climb 80 = .ok (.ireturn, 1) := by decide +kernel
theorem dX4_takeUp_0 : decode cX4_takeUp 0 = .ok (.aload_n 1, 1) := by decide +kernel
theorem dX4_takeUp_1 : decode cX4_takeUp 1 = .ok (.iload_n 2, 1) := by decide +kernel
theorem dX4_takeUp_2 : decode cX4_takeUp 2 = .ok (.invokevirtual 36, 3) := by decide +kernel
theorem dX4_takeUp_5 : decode cX4_takeUp 5 = .ok (.istore 5, 2) := by decide +kernel
theorem dX4_takeUp_7 : decode cX4_takeUp 7 = .ok (.iload 5, 2) := by decide +kernel
theorem dX4_takeUp_9 : decode cX4_takeUp 9 = .ok (.bipush 13, 2) := by decide +kernel
theorem dX4_takeUp_11 : decode cX4_takeUp 11 = .ok (.if_icmp .ne 39, 3) := by decide +kernel
theorem dX4_takeUp_14 : decode cX4_takeUp 14 = .ok (.aload_n 1, 1) := by decide +kernel
theorem dX4_takeUp_15 : decode cX4_takeUp 15 = .ok (.iload_n 3, 1) := by decide +kernel
theorem dX4_takeUp_16 : decode cX4_takeUp 16 = .ok (.invokevirtual 39, 3) := by decide +kernel
theorem dX4_takeUp_19 : decode cX4_takeUp 19 = .ok (.ifCond .le 6, 3) := by decide +kernel
theorem dX4_takeUp_22 : decode cX4_takeUp 22 = .ok (.iload 4, 2) := by decide +kernel
theorem dX4_takeUp_24 : decode cX4_takeUp 24 = .ok (.ireturn, 1) := by decide +kernel
theorem dX4_takeUp_25 : decode cX4_takeUp 25 = .ok (.aload_n 0, 1) := by decide +kernel
theorem dX4_takeUp_26 : decode cX4_takeUp 26 = .ok (.iload 4, 2) := by decide +kernel
theorem dX4_takeUp_28 : decode cX4_takeUp 28 = .ok (.ifCond .eq 9, 3) := by decide +kernel
theorem dX4_takeUp_31 : decode cX4_takeUp 31 = .ok (.iload_n 3, 1) := by decide +kernel
theorem dX4_takeUp_32 : decode cX4_takeUp 32 = .ok (.iconst 1, 1) := by decide +kernel
theorem dX4_takeUp_33 : decode cX4_takeUp 33 = .ok (.iadd, 1) := by decide +kernel
theorem dX4_takeUp_34 : decode cX4_takeUp 34 = .ok (.goto 10, 3) := by decide +kernel
theorem dX4_takeUp_37 : decode cX4_takeUp 37 = .ok (.aload_n 1, 1) := by decide +kernel
theorem dX4_takeUp_38 : decode cX4_takeUp 38 = .ok (.iload_n 2, 1) := by decide +kernel
theorem dX4_takeUp_39 : decode cX4_takeUp 39 = .ok (.iconst 1, 1) := by decide +kernel
theorem dX4_takeUp_40 : decode cX4_takeUp 40 = .ok (.isub, 1) := by decide +kernel
theorem dX4_takeUp_41 : decode cX4_takeUp 41 = .ok (.invokevirtual 42, 3) := by decide +kernel
theorem dX4_takeUp_44 : decode cX4_takeUp 44 = .ok (.putfield 29, 3) := by decide +kernel
theorem dX4_takeUp_47 : decode cX4_takeUp 47 = .ok (.bipush (-7), 2) := by decide +kernel
theorem dX4_takeUp_49 : decode cX4_takeUp 49 = .ok (.ireturn, 1) := by decide +kernel
theorem dX4_takeUp_50 : decode cX4_takeUp 50 = .ok (.iload 5, 2) := by decide +kernel
theorem dX4_takeUp_52 : decode cX4_takeUp 52 = .ok (.bipush 7, 2) := by decide +kernel
theorem dX4_takeUp_54 : decode cX4_takeUp 54 = .ok (.if_icmp .ne 31, 3) := by decide +kernel
theorem dX4_takeUp_57 : decode cX4_takeUp 57 = .ok (.iload 4, 2) := by decide +kernel
theorem dX4_takeUp_59 : decode cX4_takeUp 59 = .ok (.sipush 1000, 3) := by decide +kernel
theorem dX4_takeUp_62 : decode cX4_takeUp 62 = .ok (.if_icmp .ge 5, 3) := by decide +kernel
theorem dX4_takeUp_65 : decode cX4_takeUp 65 = .ok (.iconst (-1), 1) := by decide +kernel
theorem dX4_takeUp_66 : decode cX4_takeUp 66 = .ok (.ireturn, 1) := by decide +kernel
theorem dX4_takeUp_67 : decode cX4_takeUp 67 = .ok (.aload_n 0, 1) := by decide +kernel
theorem dX4_takeUp_68 : decode cX4_takeUp 68 = .ok (.getfield 9, 3) := by decide +kernel
theorem dX4_takeUp_71 : decode cX4_takeUp 71 = .ok (.iload_n 2, 1) := by decide +kernel
theorem dX4_takeUp_72 : decode cX4_takeUp 72 = .ok (.iload 4, 2) := by decide +kernel
theorem dX4_takeUp_74 : decode cX4_takeUp 74 = .ok (.invokestatic 45, 3) := by decide +kernel
theorem dX4_takeUp_77 : decode cX4_takeUp 77 = .ok (.aload_n 0, 1) := by decide +kernel
theorem dX4_takeUp_78 : decode cX4_takeUp 78 = .ok (.iload_n 2, 1) := by decide +kernel
theorem dX4_takeUp_79 : decode cX4_takeUp 79 = .ok (.putfield 29, 3) := by decide +kernel
theorem dX4_takeUp_82 : decode cX4_takeUp 82 = .ok (.bipush (-7), 2) := by decide +kernel
theorem dX4_takeUp_84 : decode cX4_takeUp 84 = .ok (.ireturn, 1) := by decide +kernel
theorem dX4_takeUp_85 : decode cX4_takeUp 85 = .ok (.aload_n 1, 1) := by decide +kernel
theorem dX4_takeUp_86 : decode cX4_takeUp 86 = .ok (.iload_n 3, 1) := by decide +kernel
theorem dX4_takeUp_87 : decode cX4_takeUp 87 = .ok (.invokevirtual 39, 3) := by decide +kernel
theorem dX4_takeUp_90 : decode cX4_takeUp 90 = .ok (.ifCond .le 16, 3) := by decide +kernel
theorem dX4_takeUp_93 : decode cX4_takeUp 93 = .ok (.iload 5, 2) := by decide +kernel
theorem dX4_takeUp_95 : decode cX4_takeUp 95 = .ok (.aload_n 0, 1) := by decide +kernel
theorem dX4_takeUp_96 : decode cX4_takeUp 96 = .ok (.iload_n 2, 1) := by decide +kernel
theorem dX4_takeUp_97 : decode cX4_takeUp 97 = .ok (.invokevirtual 49, 3) := by decide +kernel
theorem dX4_takeUp_100 : decode cX4_takeUp 100 = .ok (.iload 4, 2) := by decide +kernel
theorem dX4_takeUp_102 : decode cX4_takeUp 102 = .ok (.invokestatic 52, 3) := by decide +kernel
theorem dX4_takeUp_105 : decode cX4_takeUp 105 = .ok (.ireturn, 1) := by decide +kernel
theorem dX4_takeUp_106 : decode cX4_takeUp 106 = .ok (.aload_n 0, 1) := by decide +kernel
theorem dX4_takeUp_107 : decode cX4_takeUp 107 = .ok (.getfield 9, 3) := by decide +kernel
theorem dX4_takeUp_110 : decode cX4_takeUp 110 = .ok (.iload_n 2, 1) := by decide +kernel
theorem dX4_takeUp_111 : decode cX4_takeUp 111 = .ok (.iload 4, 2) := by decide +kernel
theorem dX4_takeUp_113 : decode cX4_takeUp 113 = .ok (.invokestatic 45, 3) := by decide +kernel
theorem dX4_takeUp_116 : decode cX4_takeUp 116 = .ok (.aload_n 0, 1) := by decide +kernel
theorem dX4_takeUp_117 : decode cX4_takeUp 117 = .ok (.iload_n 3, 1) := by decide +kernel
theorem dX4_takeUp_118 : decode cX4_takeUp 118 = .ok (.iconst 1, 1) := by decide +kernel
theorem dX4_takeUp_119 : decode cX4_takeUp 119 = .ok (.iadd, 1) := by decide +kernel
theorem dX4_takeUp_120 : decode cX4_takeUp 120 = .ok (.putfield 29, 3) := by decide +kernel
theorem dX4_takeUp_123 : decode cX4_takeUp 123 = .ok (.bipush (-7), 2) := by decide +kernel
theorem dX4_takeUp_125 : decode cX4_takeUp 125 = .ok (.ireturn, 1) := by decide +kernel
theorem dX4_joined_0 : decode cX4_joined 0 = .ok (.iload_n 0, 1) := by decide +kernel
theorem dX4_joined_1 : decode cX4_joined 1 = .ok (.bipush 12, 2) := by decide +kernel
theorem dX4_joined_3 : decode cX4_joined 3 = .ok (.if_icmp .ne 14, 3) := by decide +kernel
theorem dX4_joined_6 : decode cX4_joined 6 = .ok (.iload_n 1, 1) := by decide +kernel
theorem dX4_joined_7 : decode cX4_joined 7 = .ok (.iload_n 2, 1) := by decide +kernel
theorem dX4_joined_8 : decode cX4_joined 8 = .ok (.if_icmp .ne 7, 3) := by decide +kernel
theorem dX4_joined_11 : decode cX4_joined 11 = .ok (.iconst 1, 1) := by decide +kernel
theorem dX4_joined_12 : decode cX4_joined 12 = .ok (.goto 4, 3) := by decide +kernel
theorem dX4_joined_15 : decode cX4_joined 15 = .ok (.iconst 0, 1) := by decide +kernel
theorem dX4_joined_16 : decode cX4_joined 16 = .ok (.ireturn, 1) := by decide +kernel
theorem dX4_joined_17 : decode cX4_joined 17 = .ok (.iload_n 1, 1) := by decide +kernel
theorem dX4_joined_18 : decode cX4_joined 18 = .ok (.sipush 1000, 3) := by decide +kernel
theorem dX4_joined_21 : decode cX4_joined 21 = .ok (.if_icmp .ge 10, 3) := by decide +kernel
theorem dX4_joined_24 : decode cX4_joined 24 = .ok (.iload_n 2, 1) := by decide +kernel
theorem dX4_joined_25 : decode cX4_joined 25 = .ok (.sipush 1000, 3) := by decide +kernel
theorem dX4_joined_28 : decode cX4_joined 28 = .ok (.if_icmp .lt 5, 3) := by decide +kernel
theorem dX4_joined_31 : decode cX4_joined 31 = .ok (.iconst (-1), 1) := by decide +kernel
theorem dX4_joined_32 : decode cX4_joined 32 = .ok (.ireturn, 1) := by decide +kernel
theorem dX4_joined_33 : decode cX4_joined 33 = .ok (.iload_n 0, 1) := by decide +kernel
theorem dX4_joined_34 : decode cX4_joined 34 = .ok (.tableswitch 53 8 10 #[26, 34, 42], 26) := by decide +kernel
theorem dX4_joined_60 : decode cX4_joined 60 = .ok (.iload_n 1, 1) := by decide +kernel
theorem dX4_joined_61 : decode cX4_joined 61 = .ok (.iload_n 2, 1) := by decide +kernel
theorem dX4_joined_62 : decode cX4_joined 62 = .ok (.iadd, 1) := by decide +kernel
theorem dX4_joined_63 : decode cX4_joined 63 = .ok (.sipush 1000, 3) := by decide +kernel
theorem dX4_joined_66 : decode cX4_joined 66 = .ok (.irem, 1) := by decide +kernel
theorem dX4_joined_67 : decode cX4_joined 67 = .ok (.ireturn, 1) := by decide +kernel
theorem dX4_joined_68 : decode cX4_joined 68 = .ok (.iload_n 1, 1) := by decide +kernel
theorem dX4_joined_69 : decode cX4_joined 69 = .ok (.iload_n 2, 1) := by decide +kernel
theorem dX4_joined_70 : decode cX4_joined 70 = .ok (.imul, 1) := by decide +kernel
theorem dX4_joined_71 : decode cX4_joined 71 = .ok (.sipush 1000, 3) := by decide +kernel
theorem dX4_joined_74 : decode cX4_joined 74 = .ok (.irem, 1) := by decide +kernel
theorem dX4_joined_75 : decode cX4_joined 75 = .ok (.ireturn, 1) := by decide +kernel
theorem dX4_joined_76 : decode cX4_joined 76 = .ok (.iload_n 1, 1) := by decide +kernel
theorem dX4_joined_77 : decode cX4_joined 77 = .ok (.iload_n 2, 1) := by decide +kernel
theorem dX4_joined_78 : decode cX4_joined 78 = .ok (.if_icmp .le 7, 3) := by decide +kernel
theorem dX4_joined_81 : decode cX4_joined 81 = .ok (.iload_n 1, 1) := by decide +kernel
theorem dX4_joined_82 : decode cX4_joined 82 = .ok (.goto 4, 3) := by decide +kernel
theorem dX4_joined_85 : decode cX4_joined 85 = .ok (.iload_n 2, 1) := by decide +kernel
theorem dX4_joined_86 : decode cX4_joined 86 = .ok (.ireturn, 1) := by decide +kernel
theorem dX4_joined_87 : decode cX4_joined 87 = .ok (.iload_n 1, 1) := by decide +kernel
theorem dX4_joined_88 : decode cX4_joined 88 = .ok (.iload_n 2, 1) := by decide +kernel
theorem dX4_joined_89 : decode cX4_joined 89 = .ok (.ior, 1) := by decide +kernel
theorem dX4_joined_90 : decode cX4_joined 90 = .ok (.sipush 1000, 3) := by decide +kernel
theorem dX4_joined_93 : decode cX4_joined 93 = .ok (.irem, 1) := by decide +kernel
theorem dX4_joined_94 : decode cX4_joined 94 = .ok (.ireturn, 1) := by decide +kernel
theorem dX5_init_0 : decode cX5_init 0 = .ok (.aload_n 0, 1) := by decide +kernel
theorem dX5_init_1 : decode cX5_init 1 = .ok (.invokespecial 3, 3) := by decide +kernel
theorem dX5_init_4 : decode cX5_init 4 = .ok (.aload_n 0, 1) := by decide +kernel
theorem dX5_init_5 : decode cX5_init 5 = .ok (.bipush 10, 2) := by decide +kernel
theorem dX5_init_7 : decode cX5_init 7 = .ok (.newarray .int, 2) := by decide +kernel
theorem dX5_init_9 : decode cX5_init 9 = .ok (.putfield 9, 3) := by decide +kernel
theorem dX5_init_12 : decode cX5_init 12 = .ok (.aload_n 0, 1) := by decide +kernel
theorem dX5_init_13 : decode cX5_init 13 = .ok (.bipush 10, 2) := by decide +kernel
theorem dX5_init_15 : decode cX5_init 15 = .ok (.newarray .int, 2) := by decide +kernel
theorem dX5_init_17 : decode cX5_init 17 = .ok (.putfield 15, 3) := by decide +kernel
theorem dX5_init_20 : decode cX5_init 20 = .ok (.aload_n 0, 1) := by decide +kernel
theorem dX5_init_21 : decode cX5_init 21 = .ok (.bipush 30, 2) := by decide +kernel
theorem dX5_init_23 : decode cX5_init 23 = .ok (.newarray .int, 2) := by decide +kernel
theorem dX5_init_25 : decode cX5_init 25 = .ok (.putfield 18, 3) := by decide +kernel
theorem dX5_init_28 : decode cX5_init 28 = .ok (.aload_n 0, 1) := by decide +kernel
theorem dX5_init_29 : decode cX5_init 29 = .ok (.bipush 10, 2) := by decide +kernel
theorem dX5_init_31 : decode cX5_init 31 = .ok (.newarray .int, 2) := by decide +kernel
theorem dX5_init_33 : decode cX5_init 33 = .ok (.putfield 21, 3) := by decide +kernel
theorem dX5_init_36 : decode cX5_init 36 = .ok (.aload_n 0, 1) := by decide +kernel
theorem dX5_init_37 : decode cX5_init 37 = .ok (.bipush 30, 2) := by decide +kernel
theorem dX5_init_39 : decode cX5_init 39 = .ok (.newarray .int, 2) := by decide +kernel
theorem dX5_init_41 : decode cX5_init 41 = .ok (.putfield 24, 3) := by decide +kernel
theorem dX5_init_44 : decode cX5_init 44 = .ok (.aload_n 0, 1) := by decide +kernel
theorem dX5_init_45 : decode cX5_init 45 = .ok (.bipush 10, 2) := by decide +kernel
theorem dX5_init_47 : decode cX5_init 47 = .ok (.newarray .int, 2) := by decide +kernel
theorem dX5_init_49 : decode cX5_init 49 = .ok (.putfield 27, 3) := by decide +kernel
theorem dX5_init_52 : decode cX5_init 52 = .ok (.aload_n 0, 1) := by decide +kernel
theorem dX5_init_53 : decode cX5_init 53 = .ok (.bipush 30, 2) := by decide +kernel
theorem dX5_init_55 : decode cX5_init 55 = .ok (.newarray .int, 2) := by decide +kernel
theorem dX5_init_57 : decode cX5_init 57 = .ok (.putfield 30, 3) := by decide +kernel
theorem dX5_init_60 : decode cX5_init 60 = .ok (.aload_n 0, 1) := by decide +kernel
theorem dX5_init_61 : decode cX5_init 61 = .ok (.bipush 10, 2) := by decide +kernel
theorem dX5_init_63 : decode cX5_init 63 = .ok (.newarray .int, 2) := by decide +kernel
theorem dX5_init_65 : decode cX5_init 65 = .ok (.putfield 33, 3) := by decide +kernel
theorem dX5_init_68 : decode cX5_init 68 = .ok (.aload_n 0, 1) := by decide +kernel
theorem dX5_init_69 : decode cX5_init 69 = .ok (.bipush 30, 2) := by decide +kernel
theorem dX5_init_71 : decode cX5_init 71 = .ok (.newarray .int, 2) := by decide +kernel
theorem dX5_init_73 : decode cX5_init 73 = .ok (.putfield 36, 3) := by decide +kernel
theorem dX5_init_76 : decode cX5_init 76 = .ok (.aload_n 0, 1) := by decide +kernel
theorem dX5_init_77 : decode cX5_init 77 = .ok (.bipush 10, 2) := by decide +kernel
theorem dX5_init_79 : decode cX5_init 79 = .ok (.newarray .int, 2) := by decide +kernel
theorem dX5_init_81 : decode cX5_init 81 = .ok (.putfield 39, 3) := by decide +kernel
theorem dX5_init_84 : decode cX5_init 84 = .ok (.aload_n 0, 1) := by decide +kernel
theorem dX5_init_85 : decode cX5_init 85 = .ok (.bipush 10, 2) := by decide +kernel
theorem dX5_init_87 : decode cX5_init 87 = .ok (.newarray .int, 2) := by decide +kernel
theorem dX5_init_89 : decode cX5_init 89 = .ok (.putfield 42, 3) := by decide +kernel
theorem dX5_init_92 : decode cX5_init 92 = .ok (.aload_n 0, 1) := by decide +kernel
theorem dX5_init_93 : decode cX5_init 93 = .ok (.bipush 6, 2) := by decide +kernel
theorem dX5_init_95 : decode cX5_init 95 = .ok (.newarray .int, 2) := by decide +kernel
theorem dX5_init_97 : decode cX5_init 97 = .ok (.putfield 45, 3) := by decide +kernel
theorem dX5_init_100 : decode cX5_init 100 = .ok (.return_, 1) := by decide +kernel
theorem dX5_addProduction_0 : decode cX5_addProduction 0 = .ok (.aload_n 0, 1) := by decide +kernel
theorem dX5_addProduction_1 : decode cX5_addProduction 1 = .ok (.getfield 48, 3) := by decide +kernel
theorem dX5_addProduction_4 : decode cX5_addProduction 4 = .ok (.istore 5, 2) := by decide +kernel
theorem dX5_addProduction_6 : decode cX5_addProduction 6 = .ok (.aload_n 0, 1) := by decide +kernel
theorem dX5_addProduction_7 : decode cX5_addProduction 7 = .ok (.dup, 1) := by decide +kernel
theorem dX5_addProduction_8 : decode cX5_addProduction 8 = .ok (.getfield 48, 3) := by decide +kernel
theorem dX5_addProduction_11 : decode cX5_addProduction 11 = .ok (.iconst 1, 1) := by decide +kernel
theorem dX5_addProduction_12 : decode cX5_addProduction 12 = .ok (.iadd, 1) := by decide +kernel
theorem dX5_addProduction_13 : decode cX5_addProduction 13 = .ok (.putfield 48, 3) := by decide +kernel
theorem dX5_addProduction_16 : decode cX5_addProduction 16 = .ok (.aload_n 0, 1) := by decide +kernel
theorem dX5_addProduction_17 : decode cX5_addProduction 17 = .ok (.getfield 9, 3) := by decide +kernel
theorem dX5_addProduction_20 : decode cX5_addProduction 20 = .ok (.iload 5, 2) := by decide +kernel
theorem dX5_addProduction_22 : decode cX5_addProduction 22 = .ok (.iload_n 1, 1) := by decide +kernel
theorem dX5_addProduction_23 : decode cX5_addProduction 23 = .ok (.invokestatic 52, 3) := by decide +kernel
theorem dX5_addProduction_26 : decode cX5_addProduction 26 = .ok (.aload_n 0, 1) := by decide +kernel
theorem dX5_addProduction_27 : decode cX5_addProduction 27 = .ok (.getfield 15, 3) := by decide +kernel
theorem dX5_addProduction_30 : decode cX5_addProduction 30 = .ok (.iload 5, 2) := by decide +kernel
theorem dX5_addProduction_32 : decode cX5_addProduction 32 = .ok (.iconst 0, 1) := by decide +kernel
theorem dX5_addProduction_33 : decode cX5_addProduction 33 = .ok (.invokestatic 52, 3) := by decide +kernel
theorem dX5_addProduction_36 : decode cX5_addProduction 36 = .ok (.aload_n 0, 1) := by decide +kernel
theorem dX5_addProduction_37 : decode cX5_addProduction 37 = .ok (.getfield 21, 3) := by decide +kernel
theorem dX5_addProduction_40 : decode cX5_addProduction 40 = .ok (.iload 5, 2) := by decide +kernel
theorem dX5_addProduction_42 : decode cX5_addProduction 42 = .ok (.iconst 0, 1) := by decide +kernel
theorem dX5_addProduction_43 : decode cX5_addProduction 43 = .ok (.invokestatic 52, 3) := by decide +kernel
theorem dX5_addProduction_46 : decode cX5_addProduction 46 = .ok (.aload_n 0, 1) := by decide +kernel
theorem dX5_addProduction_47 : decode cX5_addProduction 47 = .ok (.getfield 27, 3) := by decide +kernel
theorem dX5_addProduction_50 : decode cX5_addProduction 50 = .ok (.iload 5, 2) := by decide +kernel
theorem dX5_addProduction_52 : decode cX5_addProduction 52 = .ok (.iconst 0, 1) := by decide +kernel
theorem dX5_addProduction_53 : decode cX5_addProduction 53 = .ok (.invokestatic 52, 3) := by decide +kernel
theorem dX5_addProduction_56 : decode cX5_addProduction 56 = .ok (.aload_n 0, 1) := by decide +kernel
theorem dX5_addProduction_57 : decode cX5_addProduction 57 = .ok (.getfield 33, 3) := by decide +kernel
theorem dX5_addProduction_60 : decode cX5_addProduction 60 = .ok (.iload 5, 2) := by decide +kernel
theorem dX5_addProduction_62 : decode cX5_addProduction 62 = .ok (.iconst (-1), 1) := by decide +kernel
theorem dX5_addProduction_63 : decode cX5_addProduction 63 = .ok (.invokestatic 52, 3) := by decide +kernel
theorem dX5_addProduction_66 : decode cX5_addProduction 66 = .ok (.aload_n 0, 1) := by decide +kernel
theorem dX5_addProduction_67 : decode cX5_addProduction 67 = .ok (.getfield 39, 3) := by decide +kernel
theorem dX5_addProduction_70 : decode cX5_addProduction 70 = .ok (.iload 5, 2) := by decide +kernel
theorem dX5_addProduction_72 : decode cX5_addProduction 72 = .ok (.iconst (-1), 1) := by decide +kernel
theorem dX5_addProduction_73 : decode cX5_addProduction 73 = .ok (.invokestatic 52, 3) := by decide +kernel
theorem dX5_addProduction_76 : decode cX5_addProduction 76 = .ok (.aload_n 0, 1) := by decide +kernel
theorem dX5_addProduction_77 : decode cX5_addProduction 77 = .ok (.getfield 42, 3) := by decide +kernel
theorem dX5_addProduction_80 : decode cX5_addProduction 80 = .ok (.iload 5, 2) := by decide +kernel
theorem dX5_addProduction_82 : decode cX5_addProduction 82 = .ok (.iconst (-1), 1) := by decide +kernel
theorem dX5_addProduction_83 : decode cX5_addProduction 83 = .ok (.invokestatic 52, 3) := by decide +kernel
theorem dX5_addProduction_86 : decode cX5_addProduction 86 = .ok (.aload_n 0, 1) := by decide +kernel
theorem dX5_addProduction_87 : decode cX5_addProduction 87 = .ok (.iload 5, 2) := by decide +kernel
theorem dX5_addProduction_89 : decode cX5_addProduction 89 = .ok (.iload_n 2, 1) := by decide +kernel
theorem dX5_addProduction_90 : decode cX5_addProduction 90 = .ok (.invokevirtual 56, 3) := by decide +kernel
theorem dX5_addProduction_93 : decode cX5_addProduction 93 = .ok (.aload_n 0, 1) := by decide +kernel
theorem dX5_addProduction_94 : decode cX5_addProduction 94 = .ok (.iload 5, 2) := by decide +kernel
theorem dX5_addProduction_96 : decode cX5_addProduction 96 = .ok (.iload_n 3, 1) := by decide +kernel
theorem dX5_addProduction_97 : decode cX5_addProduction 97 = .ok (.invokevirtual 56, 3) := by decide +kernel
theorem dX5_addProduction_100 : decode cX5_addProduction 100 = .ok (.aload_n 0, 1) := by decide +kernel
theorem dX5_addProduction_101 : decode cX5_addProduction 101 = .ok (.iload 5, 2) := by decide +kernel
theorem dX5_addProduction_103 : decode cX5_addProduction 103 = .ok (.iload 4, 2) := by decide +kernel
theorem dX5_addProduction_105 : decode cX5_addProduction 105 = .ok (.invokevirtual 56, 3) := by decide +kernel
theorem dX5_addProduction_108 : decode cX5_addProduction 108 = .ok (.iload 5, 2) := by decide +kernel
theorem dX5_addProduction_110 : decode cX5_addProduction 110 = .ok (.ireturn, 1) := by decide +kernel
theorem dX5_appendSymbol_0 : decode cX5_appendSymbol 0 = .ok (.iload_n 2, 1) := by decide +kernel
theorem dX5_appendSymbol_1 : decode cX5_appendSymbol 1 = .ok (.ifCond .ge 4, 3) := by decide +kernel
theorem dX5_appendSymbol_4 : decode cX5_appendSymbol 4 = .ok (.return_, 1) := by decide +kernel
theorem dX5_appendSymbol_5 : decode cX5_appendSymbol 5 = .ok (.aload_n 0, 1) := by decide +kernel
theorem dX5_appendSymbol_6 : decode cX5_appendSymbol 6 = .ok (.getfield 18, 3) := by decide +kernel
theorem dX5_appendSymbol_9 : decode cX5_appendSymbol 9 = .ok (.aload_n 0, 1) := by decide +kernel
theorem dX5_appendSymbol_10 : decode cX5_appendSymbol 10 = .ok (.getfield 15, 3) := by decide +kernel
theorem dX5_appendSymbol_13 : decode cX5_appendSymbol 13 = .ok (.iload_n 1, 1) := by decide +kernel
theorem dX5_appendSymbol_14 : decode cX5_appendSymbol 14 = .ok (.iload_n 2, 1) := by decide +kernel
theorem dX5_appendSymbol_15 : decode cX5_appendSymbol 15 = .ok (.invokestatic 60, 3) := by decide +kernel
theorem dX5_appendSymbol_18 : decode cX5_appendSymbol 18 = .ok (.iload_n 2, 1) := by decide +kernel
theorem dX5_appendSymbol_19 : decode cX5_appendSymbol 19 = .ok (.iconst 4, 1) := by decide +kernel
theorem dX5_appendSymbol_20 : decode cX5_appendSymbol 20 = .ok (.if_icmp .ge 19, 3) := by decide +kernel
theorem dX5_appendSymbol_23 : decode cX5_appendSymbol 23 = .ok (.aload_n 0, 1) := by decide +kernel
theorem dX5_appendSymbol_24 : decode cX5_appendSymbol 24 = .ok (.getfield 24, 3) := by decide +kernel
theorem dX5_appendSymbol_27 : decode cX5_appendSymbol 27 = .ok (.aload_n 0, 1) := by decide +kernel
theorem dX5_appendSymbol_28 : decode cX5_appendSymbol 28 = .ok (.getfield 21, 3) := by decide +kernel
theorem dX5_appendSymbol_31 : decode cX5_appendSymbol 31 = .ok (.iload_n 1, 1) := by decide +kernel
theorem dX5_appendSymbol_32 : decode cX5_appendSymbol 32 = .ok (.iload_n 2, 1) := by decide +kernel
theorem dX5_appendSymbol_33 : decode cX5_appendSymbol 33 = .ok (.invokestatic 60, 3) := by decide +kernel
theorem dX5_appendSymbol_36 : decode cX5_appendSymbol 36 = .ok (.goto 18, 3) := by decide +kernel
theorem dX5_appendSymbol_39 : decode cX5_appendSymbol 39 = .ok (.aload_n 0, 1) := by decide +kernel
theorem dX5_appendSymbol_40 : decode cX5_appendSymbol 40 = .ok (.getfield 30, 3) := by decide +kernel
theorem dX5_appendSymbol_43 : decode cX5_appendSymbol 43 = .ok (.aload_n 0, 1) := by decide +kernel
theorem dX5_appendSymbol_44 : decode cX5_appendSymbol 44 = .ok (.getfield 27, 3) := by decide +kernel
theorem dX5_appendSymbol_47 : decode cX5_appendSymbol 47 = .ok (.iload_n 1, 1) := by decide +kernel
theorem dX5_appendSymbol_48 : decode cX5_appendSymbol 48 = .ok (.iload_n 2, 1) := by decide +kernel
theorem dX5_appendSymbol_49 : decode cX5_appendSymbol 49 = .ok (.iconst 4, 1) := by decide +kernel
theorem dX5_appendSymbol_50 : decode cX5_appendSymbol 50 = .ok (.isub, 1) := by decide +kernel
theorem dX5_appendSymbol_51 : decode cX5_appendSymbol 51 = .ok (.invokestatic 60, 3) := by decide +kernel
theorem dX5_appendSymbol_54 : decode cX5_appendSymbol 54 = .ok (.return_, 1) := by decide +kernel
theorem dX5_appendTo_0 : decode cX5_appendTo 0 = .ok (.aload_n 1, 1) := by decide +kernel
theorem dX5_appendTo_1 : decode cX5_appendTo 1 = .ok (.iload_n 2, 1) := by decide +kernel
theorem dX5_appendTo_2 : decode cX5_appendTo 2 = .ok (.invokestatic 64, 3) := by decide +kernel
theorem dX5_appendTo_5 : decode cX5_appendTo 5 = .ok (.istore 4, 2) := by decide +kernel
theorem dX5_appendTo_7 : decode cX5_appendTo 7 = .ok (.aload_n 0, 1) := by decide +kernel
theorem dX5_appendTo_8 : decode cX5_appendTo 8 = .ok (.iload_n 2, 1) := by decide +kernel
theorem dX5_appendTo_9 : decode cX5_appendTo 9 = .ok (.iconst 3, 1) := by decide +kernel
theorem dX5_appendTo_10 : decode cX5_appendTo 10 = .ok (.imul, 1) := by decide +kernel
theorem dX5_appendTo_11 : decode cX5_appendTo 11 = .ok (.iload 4, 2) := by decide +kernel
theorem dX5_appendTo_13 : decode cX5_appendTo 13 = .ok (.iadd, 1) := by decide +kernel
theorem dX5_appendTo_14 : decode cX5_appendTo 14 = .ok (.iload_n 3, 1) := by decide +kernel
theorem dX5_appendTo_15 : decode cX5_appendTo 15 = .ok (.invokestatic 52, 3) := by decide +kernel
theorem dX5_appendTo_18 : decode cX5_appendTo 18 = .ok (.aload_n 1, 1) := by decide +kernel
theorem dX5_appendTo_19 : decode cX5_appendTo 19 = .ok (.iload_n 2, 1) := by decide +kernel
theorem dX5_appendTo_20 : decode cX5_appendTo 20 = .ok (.iload 4, 2) := by decide +kernel
theorem dX5_appendTo_22 : decode cX5_appendTo 22 = .ok (.iconst 1, 1) := by decide +kernel
theorem dX5_appendTo_23 : decode cX5_appendTo 23 = .ok (.iadd, 1) := by decide +kernel
theorem dX5_appendTo_24 : decode cX5_appendTo 24 = .ok (.invokestatic 52, 3) := by decide +kernel
theorem dX5_appendTo_27 : decode cX5_appendTo 27 = .ok (.return_, 1) := by decide +kernel
theorem dX5_addAttribute_0 : decode cX5_addAttribute 0 = .ok (.aload_n 0, 1) := by decide +kernel
theorem dX5_addAttribute_1 : decode cX5_addAttribute 1 = .ok (.getfield 68, 3) := by decide +kernel
theorem dX5_addAttribute_4 : decode cX5_addAttribute 4 = .ok (.istore_n 2, 1) := by decide +kernel
theorem dX5_addAttribute_5 : decode cX5_addAttribute 5 = .ok (.aload_n 0, 1) := by decide +kernel
theorem dX5_addAttribute_6 : decode cX5_addAttribute 6 = .ok (.dup, 1) := by decide +kernel
theorem dX5_addAttribute_7 : decode cX5_addAttribute 7 = .ok (.getfield 68, 3) := by decide +kernel
theorem dX5_addAttribute_10 : decode cX5_addAttribute 10 = .ok (.iconst 1, 1) := by decide +kernel
theorem dX5_addAttribute_11 : decode cX5_addAttribute 11 = .ok (.iadd, 1) := by decide +kernel
theorem dX5_addAttribute_12 : decode cX5_addAttribute 12 = .ok (.putfield 68, 3) := by decide +kernel
theorem dX5_addAttribute_15 : decode cX5_addAttribute 15 = .ok (.aload_n 0, 1) := by decide +kernel
theorem dX5_addAttribute_16 : decode cX5_addAttribute 16 = .ok (.getfield 45, 3) := by decide +kernel
theorem dX5_addAttribute_19 : decode cX5_addAttribute 19 = .ok (.iload_n 2, 1) := by decide +kernel
theorem dX5_addAttribute_20 : decode cX5_addAttribute 20 = .ok (.iload_n 1, 1) := by decide +kernel
theorem dX5_addAttribute_21 : decode cX5_addAttribute 21 = .ok (.invokestatic 52, 3) := by decide +kernel
theorem dX5_addAttribute_24 : decode cX5_addAttribute 24 = .ok (.iload_n 2, 1) := by decide +kernel
theorem dX5_addAttribute_25 : decode cX5_addAttribute 25 = .ok (.ireturn, 1) := by decide +kernel
theorem dX5_tellForward_0 : decode cX5_tellForward 0 = .ok (.aload_n 0, 1) := by decide +kernel
theorem dX5_tellForward_1 : decode cX5_tellForward 1 = .ok (.iload_n 1, 1) := by decide +kernel
theorem dX5_tellForward_2 : decode cX5_tellForward 2 = .ok (.invokevirtual 71, 3) := by decide +kernel
theorem dX5_tellForward_5 : decode cX5_tellForward 5 = .ok (.istore 6, 2) := by decide +kernel
theorem dX5_tellForward_7 : decode cX5_tellForward 7 = .ok (.aload_n 0, 1) := by decide +kernel
theorem dX5_tellForward_8 : decode cX5_tellForward 8 = .ok (.getfield 33, 3) := by decide +kernel
theorem dX5_tellForward_11 : decode cX5_tellForward 11 = .ok (.iload_n 1, 1) := by decide +kernel
theorem dX5_tellForward_12 : decode cX5_tellForward 12 = .ok (.iload_n 2, 1) := by decide +kernel
theorem dX5_tellForward_13 : decode cX5_tellForward 13 = .ok (.invokestatic 52, 3) := by decide +kernel
theorem dX5_tellForward_16 : decode cX5_tellForward 16 = .ok (.aload_n 0, 1) := by decide +kernel
theorem dX5_tellForward_17 : decode cX5_tellForward 17 = .ok (.getfield 36, 3) := by decide +kernel
theorem dX5_tellForward_20 : decode cX5_tellForward 20 = .ok (.iload_n 1, 1) := by decide +kernel
theorem dX5_tellForward_21 : decode cX5_tellForward 21 = .ok (.iconst 3, 1) := by decide +kernel
theorem dX5_tellForward_22 : decode cX5_tellForward 22 = .ok (.imul, 1) := by decide +kernel
theorem dX5_tellForward_23 : decode cX5_tellForward 23 = .ok (.iload_n 3, 1) := by decide +kernel
theorem dX5_tellForward_24 : decode cX5_tellForward 24 = .ok (.invokestatic 52, 3) := by decide +kernel
theorem dX5_tellForward_27 : decode cX5_tellForward 27 = .ok (.aload_n 0, 1) := by decide +kernel
theorem dX5_tellForward_28 : decode cX5_tellForward 28 = .ok (.getfield 36, 3) := by decide +kernel
theorem dX5_tellForward_31 : decode cX5_tellForward 31 = .ok (.iload_n 1, 1) := by decide +kernel
theorem dX5_tellForward_32 : decode cX5_tellForward 32 = .ok (.iconst 3, 1) := by decide +kernel
theorem dX5_tellForward_33 : decode cX5_tellForward 33 = .ok (.imul, 1) := by decide +kernel
theorem dX5_tellForward_34 : decode cX5_tellForward 34 = .ok (.iconst 1, 1) := by decide +kernel
theorem dX5_tellForward_35 : decode cX5_tellForward 35 = .ok (.iadd, 1) := by decide +kernel
theorem dX5_tellForward_36 : decode cX5_tellForward 36 = .ok (.iload 4, 2) := by decide +kernel
theorem dX5_tellForward_38 : decode cX5_tellForward 38 = .ok (.invokestatic 52, 3) := by decide +kernel
theorem dX5_tellForward_41 : decode cX5_tellForward 41 = .ok (.aload_n 0, 1) := by decide +kernel
theorem dX5_tellForward_42 : decode cX5_tellForward 42 = .ok (.getfield 36, 3) := by decide +kernel
theorem dX5_tellForward_45 : decode cX5_tellForward 45 = .ok (.iload_n 1, 1) := by decide +kernel
theorem dX5_tellForward_46 : decode cX5_tellForward 46 = .ok (.iconst 3, 1) := by decide +kernel
theorem dX5_tellForward_47 : decode cX5_tellForward 47 = .ok (.imul, 1) := by decide +kernel
theorem dX5_tellForward_48 : decode cX5_tellForward 48 = .ok (.iconst 2, 1) := by decide +kernel
theorem dX5_tellForward_49 : decode cX5_tellForward 49 = .ok (.iadd, 1) := by decide +kernel
theorem dX5_tellForward_50 : decode cX5_tellForward 50 = .ok (.iload 5, 2) := by decide +kernel
theorem dX5_tellForward_52 : decode cX5_tellForward 52 = .ok (.invokestatic 52, 3) := by decide +kernel
theorem dX5_tellForward_55 : decode cX5_tellForward 55 = .ok (.iload 6, 2) := by decide +kernel
theorem dX5_tellForward_57 : decode cX5_tellForward 57 = .ok (.ireturn, 1) := by decide +kernel
theorem dX5_tellRule_0 : decode cX5_tellRule 0 = .ok (.aload_n 0, 1) := by decide +kernel
theorem dX5_tellRule_1 : decode cX5_tellRule 1 = .ok (.iload_n 1, 1) := by decide +kernel
theorem dX5_tellRule_2 : decode cX5_tellRule 2 = .ok (.invokevirtual 75, 3) := by decide +kernel
theorem dX5_tellRule_5 : decode cX5_tellRule 5 = .ok (.istore 4, 2) := by decide +kernel
theorem dX5_tellRule_7 : decode cX5_tellRule 7 = .ok (.aload_n 0, 1) := by decide +kernel
theorem dX5_tellRule_8 : decode cX5_tellRule 8 = .ok (.getfield 39, 3) := by decide +kernel
theorem dX5_tellRule_11 : decode cX5_tellRule 11 = .ok (.iload_n 1, 1) := by decide +kernel
theorem dX5_tellRule_12 : decode cX5_tellRule 12 = .ok (.iload_n 2, 1) := by decide +kernel
theorem dX5_tellRule_13 : decode cX5_tellRule 13 = .ok (.invokestatic 52, 3) := by decide +kernel
theorem dX5_tellRule_16 : decode cX5_tellRule 16 = .ok (.aload_n 0, 1) := by decide +kernel
theorem dX5_tellRule_17 : decode cX5_tellRule 17 = .ok (.getfield 42, 3) := by decide +kernel
theorem dX5_tellRule_20 : decode cX5_tellRule 20 = .ok (.iload_n 1, 1) := by decide +kernel
theorem dX5_tellRule_21 : decode cX5_tellRule 21 = .ok (.iload_n 3, 1) := by decide +kernel
theorem dX5_tellRule_22 : decode cX5_tellRule 22 = .ok (.invokestatic 52, 3) := by decide +kernel
theorem dX5_tellRule_25 : decode cX5_tellRule 25 = .ok (.iload 4, 2) := by decide +kernel
theorem dX5_tellRule_27 : decode cX5_tellRule 27 = .ok (.ireturn, 1) := by decide +kernel
theorem dX5_hasProduction_0 : decode cX5_hasProduction 0 = .ok (.iload_n 1, 1) := by decide +kernel
theorem dX5_hasProduction_1 : decode cX5_hasProduction 1 = .ok (.ifCond .lt 15, 3) := by decide +kernel
theorem dX5_hasProduction_4 : decode cX5_hasProduction 4 = .ok (.iload_n 1, 1) := by decide +kernel
theorem dX5_hasProduction_5 : decode cX5_hasProduction 5 = .ok (.aload_n 0, 1) := by decide +kernel
theorem dX5_hasProduction_6 : decode cX5_hasProduction 6 = .ok (.getfield 48, 3) := by decide +kernel
theorem dX5_hasProduction_9 : decode cX5_hasProduction 9 = .ok (.if_icmp .ge 7, 3) := by decide +kernel
theorem dX5_hasProduction_12 : decode cX5_hasProduction 12 = .ok (.iconst 1, 1) := by decide +kernel
theorem dX5_hasProduction_13 : decode cX5_hasProduction 13 = .ok (.goto 4, 3) := by decide +kernel
theorem dX5_hasProduction_16 : decode cX5_hasProduction 16 = .ok (.iconst 0, 1) := by decide +kernel
theorem dX5_hasProduction_17 : decode cX5_hasProduction 17 = .ok (.ireturn, 1) := by decide +kernel
theorem dX5_hasAttribute_0 : decode cX5_hasAttribute 0 = .ok (.iload_n 1, 1) := by decide +kernel
theorem dX5_hasAttribute_1 : decode cX5_hasAttribute 1 = .ok (.ifCond .lt 15, 3) := by decide +kernel
theorem dX5_hasAttribute_4 : decode cX5_hasAttribute 4 = .ok (.iload_n 1, 1) := by decide +kernel
theorem dX5_hasAttribute_5 : decode cX5_hasAttribute 5 = .ok (.aload_n 0, 1) := by decide +kernel
theorem dX5_hasAttribute_6 : decode cX5_hasAttribute 6 = .ok (.getfield 68, 3) := by decide +kernel
theorem dX5_hasAttribute_9 : decode cX5_hasAttribute 9 = .ok (.if_icmp .ge 7, 3) := by decide +kernel
theorem dX5_hasAttribute_12 : decode cX5_hasAttribute 12 = .ok (.iconst 1, 1) := by decide +kernel
theorem dX5_hasAttribute_13 : decode cX5_hasAttribute 13 = .ok (.goto 4, 3) := by decide +kernel
theorem dX5_hasAttribute_16 : decode cX5_hasAttribute 16 = .ok (.iconst 0, 1) := by decide +kernel
theorem dX5_hasAttribute_17 : decode cX5_hasAttribute 17 = .ok (.ireturn, 1) := by decide +kernel
theorem dX5_kindOf_0 : decode cX5_kindOf 0 = .ok (.iload_n 1, 1) := by decide +kernel
theorem dX5_kindOf_1 : decode cX5_kindOf 1 = .ok (.ifCond .lt 26, 3) := by decide +kernel
theorem dX5_kindOf_4 : decode cX5_kindOf 4 = .ok (.iload_n 1, 1) := by decide +kernel
theorem dX5_kindOf_5 : decode cX5_kindOf 5 = .ok (.aload_n 0, 1) := by decide +kernel
theorem dX5_kindOf_6 : decode cX5_kindOf 6 = .ok (.getfield 68, 3) := by decide +kernel
theorem dX5_kindOf_9 : decode cX5_kindOf 9 = .ok (.if_icmp .ge 18, 3) := by decide +kernel
theorem dX5_kindOf_12 : decode cX5_kindOf 12 = .ok (.iload_n 1, 1) := by decide +kernel
theorem dX5_kindOf_13 : decode cX5_kindOf 13 = .ok (.bipush 6, 2) := by decide +kernel
theorem dX5_kindOf_15 : decode cX5_kindOf 15 = .ok (.if_icmp .ge 12, 3) := by decide +kernel
theorem dX5_kindOf_18 : decode cX5_kindOf 18 = .ok (.aload_n 0, 1) := by decide +kernel
theorem dX5_kindOf_19 : decode cX5_kindOf 19 = .ok (.getfield 45, 3) := by decide +kernel
theorem dX5_kindOf_22 : decode cX5_kindOf 22 = .ok (.iload_n 1, 1) := by decide +kernel
theorem dX5_kindOf_23 : decode cX5_kindOf 23 = .ok (.iaload, 1) := by decide +kernel
theorem dX5_kindOf_24 : decode cX5_kindOf 24 = .ok (.goto 4, 3) := by decide +kernel
theorem dX5_kindOf_27 : decode cX5_kindOf 27 = .ok (.iconst (-1), 1) := by decide +kernel
theorem dX5_kindOf_28 : decode cX5_kindOf 28 = .ok (.ireturn, 1) := by decide +kernel
theorem dX5_headOf_0 : decode cX5_headOf 0 = .ok (.iload_n 1, 1) := by decide +kernel
theorem dX5_headOf_1 : decode cX5_headOf 1 = .ok (.ifCond .lt 18, 3) := by decide +kernel
theorem dX5_headOf_4 : decode cX5_headOf 4 = .ok (.iload_n 1, 1) := by decide +kernel
theorem dX5_headOf_5 : decode cX5_headOf 5 = .ok (.bipush 10, 2) := by decide +kernel
theorem dX5_headOf_7 : decode cX5_headOf 7 = .ok (.if_icmp .ge 12, 3) := by decide +kernel
theorem dX5_headOf_10 : decode cX5_headOf 10 = .ok (.aload_n 0, 1) := by decide +kernel
theorem dX5_headOf_11 : decode cX5_headOf 11 = .ok (.getfield 9, 3) := by decide +kernel
theorem dX5_headOf_14 : decode cX5_headOf 14 = .ok (.iload_n 1, 1) := by decide +kernel
theorem dX5_headOf_15 : decode cX5_headOf 15 = .ok (.iaload, 1) := by decide +kernel
theorem dX5_headOf_16 : decode cX5_headOf 16 = .ok (.goto 4, 3) := by decide +kernel
theorem dX5_headOf_19 : decode cX5_headOf 19 = .ok (.iconst (-1), 1) := by decide +kernel
theorem dX5_headOf_20 : decode cX5_headOf 20 = .ok (.ireturn, 1) := by decide +kernel
theorem dX5_lengthOf_0 : decode cX5_lengthOf 0 = .ok (.iload_n 1, 1) := by decide +kernel
theorem dX5_lengthOf_1 : decode cX5_lengthOf 1 = .ok (.ifCond .lt 18, 3) := by decide +kernel
theorem dX5_lengthOf_4 : decode cX5_lengthOf 4 = .ok (.iload_n 1, 1) := by decide +kernel
theorem dX5_lengthOf_5 : decode cX5_lengthOf 5 = .ok (.bipush 10, 2) := by decide +kernel
theorem dX5_lengthOf_7 : decode cX5_lengthOf 7 = .ok (.if_icmp .ge 12, 3) := by decide +kernel
theorem dX5_lengthOf_10 : decode cX5_lengthOf 10 = .ok (.aload_n 0, 1) := by decide +kernel
theorem dX5_lengthOf_11 : decode cX5_lengthOf 11 = .ok (.getfield 15, 3) := by decide +kernel
theorem dX5_lengthOf_14 : decode cX5_lengthOf 14 = .ok (.iload_n 1, 1) := by decide +kernel
theorem dX5_lengthOf_15 : decode cX5_lengthOf 15 = .ok (.iaload, 1) := by decide +kernel
theorem dX5_lengthOf_16 : decode cX5_lengthOf 16 = .ok (.goto 4, 3) := by decide +kernel
theorem dX5_lengthOf_19 : decode cX5_lengthOf 19 = .ok (.iconst (-1), 1) := by decide +kernel
theorem dX5_lengthOf_20 : decode cX5_lengthOf 20 = .ok (.ireturn, 1) := by decide +kernel
theorem dX5_symbolOf_0 : decode cX5_symbolOf 0 = .ok (.iload_n 1, 1) := by decide +kernel
theorem dX5_symbolOf_1 : decode cX5_symbolOf 1 = .ok (.iconst 3, 1) := by decide +kernel
theorem dX5_symbolOf_2 : decode cX5_symbolOf 2 = .ok (.imul, 1) := by decide +kernel
theorem dX5_symbolOf_3 : decode cX5_symbolOf 3 = .ok (.iload_n 2, 1) := by decide +kernel
theorem dX5_symbolOf_4 : decode cX5_symbolOf 4 = .ok (.iadd, 1) := by decide +kernel
theorem dX5_symbolOf_5 : decode cX5_symbolOf 5 = .ok (.istore_n 3, 1) := by decide +kernel
theorem dX5_symbolOf_6 : decode cX5_symbolOf 6 = .ok (.iload_n 2, 1) := by decide +kernel
theorem dX5_symbolOf_7 : decode cX5_symbolOf 7 = .ok (.ifCond .lt 30, 3) := by decide +kernel
theorem dX5_symbolOf_10 : decode cX5_symbolOf 10 = .ok (.iload_n 2, 1) := by decide +kernel
theorem dX5_symbolOf_11 : decode cX5_symbolOf 11 = .ok (.iconst 3, 1) := by decide +kernel
theorem dX5_symbolOf_12 : decode cX5_symbolOf 12 = .ok (.if_icmp .ge 25, 3) := by decide +kernel
theorem dX5_symbolOf_15 : decode cX5_symbolOf 15 = .ok (.iload_n 3, 1) := by decide +kernel
theorem dX5_symbolOf_16 : decode cX5_symbolOf 16 = .ok (.ifCond .lt 21, 3) := by decide +kernel
theorem dX5_symbolOf_19 : decode cX5_symbolOf 19 = .ok (.iload_n 3, 1) := by decide +kernel
theorem dX5_symbolOf_20 : decode cX5_symbolOf 20 = .ok (.aload_n 0, 1) := by decide +kernel
theorem dX5_symbolOf_21 : decode cX5_symbolOf 21 = .ok (.getfield 18, 3) := by decide +kernel
theorem dX5_symbolOf_24 : decode cX5_symbolOf 24 = .ok (.arraylength, 1) := by decide +kernel
theorem dX5_symbolOf_25 : decode cX5_symbolOf 25 = .ok (.if_icmp .ge 12, 3) := by decide +kernel
theorem dX5_symbolOf_28 : decode cX5_symbolOf 28 = .ok (.aload_n 0, 1) := by decide +kernel
theorem dX5_symbolOf_29 : decode cX5_symbolOf 29 = .ok (.getfield 18, 3) := by decide +kernel
theorem dX5_symbolOf_32 : decode cX5_symbolOf 32 = .ok (.iload_n 3, 1) := by decide +kernel
theorem dX5_symbolOf_33 : decode cX5_symbolOf 33 = .ok (.iaload, 1) := by decide +kernel
theorem dX5_symbolOf_34 : decode cX5_symbolOf 34 = .ok (.goto 4, 3) := by decide +kernel
theorem dX5_symbolOf_37 : decode cX5_symbolOf 37 = .ok (.iconst (-1), 1) := by decide +kernel
theorem dX5_symbolOf_38 : decode cX5_symbolOf 38 = .ok (.ireturn, 1) := by decide +kernel
theorem dX5_childCountOf_0 : decode cX5_childCountOf 0 = .ok (.iload_n 1, 1) := by decide +kernel
theorem dX5_childCountOf_1 : decode cX5_childCountOf 1 = .ok (.ifCond .lt 18, 3) := by decide +kernel
theorem dX5_childCountOf_4 : decode cX5_childCountOf 4 = .ok (.iload_n 1, 1) := by decide +kernel
theorem dX5_childCountOf_5 : decode cX5_childCountOf 5 = .ok (.bipush 10, 2) := by decide +kernel
theorem dX5_childCountOf_7 : decode cX5_childCountOf 7 = .ok (.if_icmp .ge 12, 3) := by decide +kernel
theorem dX5_childCountOf_10 : decode cX5_childCountOf 10 = .ok (.aload_n 0, 1) := by decide +kernel
theorem dX5_childCountOf_11 : decode cX5_childCountOf 11 = .ok (.getfield 21, 3) := by decide +kernel
theorem dX5_childCountOf_14 : decode cX5_childCountOf 14 = .ok (.iload_n 1, 1) := by decide +kernel
theorem dX5_childCountOf_15 : decode cX5_childCountOf 15 = .ok (.iaload, 1) := by decide +kernel
theorem dX5_childCountOf_16 : decode cX5_childCountOf 16 = .ok (.goto 4, 3) := by decide +kernel
theorem dX5_childCountOf_19 : decode cX5_childCountOf 19 = .ok (.iconst 0, 1) := by decide +kernel
theorem dX5_childCountOf_20 : decode cX5_childCountOf 20 = .ok (.ireturn, 1) := by decide +kernel
theorem dX5_childHeadOf_0 : decode cX5_childHeadOf 0 = .ok (.iload_n 2, 1) := by decide +kernel
theorem dX5_childHeadOf_1 : decode cX5_childHeadOf 1 = .ok (.ifCond .lt 16, 3) := by decide +kernel
theorem dX5_childHeadOf_4 : decode cX5_childHeadOf 4 = .ok (.iload_n 2, 1) := by decide +kernel
theorem dX5_childHeadOf_5 : decode cX5_childHeadOf 5 = .ok (.aload_n 0, 1) := by decide +kernel
theorem dX5_childHeadOf_6 : decode cX5_childHeadOf 6 = .ok (.iload_n 1, 1) := by decide +kernel
theorem dX5_childHeadOf_7 : decode cX5_childHeadOf 7 = .ok (.invokevirtual 78, 3) := by decide +kernel
theorem dX5_childHeadOf_10 : decode cX5_childHeadOf 10 = .ok (.if_icmp .ge 7, 3) := by decide +kernel
theorem dX5_childHeadOf_13 : decode cX5_childHeadOf 13 = .ok (.iconst 1, 1) := by decide +kernel
theorem dX5_childHeadOf_14 : decode cX5_childHeadOf 14 = .ok (.goto 4, 3) := by decide +kernel
theorem dX5_childHeadOf_17 : decode cX5_childHeadOf 17 = .ok (.iconst 0, 1) := by decide +kernel
theorem dX5_childHeadOf_18 : decode cX5_childHeadOf 18 = .ok (.istore_n 3, 1) := by decide +kernel
theorem dX5_childHeadOf_19 : decode cX5_childHeadOf 19 = .ok (.iload_n 3, 1) := by decide +kernel
theorem dX5_childHeadOf_20 : decode cX5_childHeadOf 20 = .ok (.ifCond .eq 18, 3) := by decide +kernel
theorem dX5_childHeadOf_23 : decode cX5_childHeadOf 23 = .ok (.aload_n 0, 1) := by decide +kernel
theorem dX5_childHeadOf_24 : decode cX5_childHeadOf 24 = .ok (.getfield 24, 3) := by decide +kernel
theorem dX5_childHeadOf_27 : decode cX5_childHeadOf 27 = .ok (.iload_n 1, 1) := by decide +kernel
theorem dX5_childHeadOf_28 : decode cX5_childHeadOf 28 = .ok (.iconst 3, 1) := by decide +kernel
theorem dX5_childHeadOf_29 : decode cX5_childHeadOf 29 = .ok (.imul, 1) := by decide +kernel
theorem dX5_childHeadOf_30 : decode cX5_childHeadOf 30 = .ok (.iload_n 2, 1) := by decide +kernel
theorem dX5_childHeadOf_31 : decode cX5_childHeadOf 31 = .ok (.iadd, 1) := by decide +kernel
theorem dX5_childHeadOf_32 : decode cX5_childHeadOf 32 = .ok (.invokestatic 64, 3) := by decide +kernel
theorem dX5_childHeadOf_35 : decode cX5_childHeadOf 35 = .ok (.goto 4, 3) := by decide +kernel
theorem dX5_childHeadOf_38 : decode cX5_childHeadOf 38 = .ok (.iconst (-1), 1) := by decide +kernel
theorem dX5_childHeadOf_39 : decode cX5_childHeadOf 39 = .ok (.ireturn, 1) := by decide +kernel
theorem dX5_letterOf_0 : decode cX5_letterOf 0 = .ok (.iload_n 1, 1) := by decide +kernel
theorem dX5_letterOf_1 : decode cX5_letterOf 1 = .ok (.ifCond .lt 23, 3) := by decide +kernel
theorem dX5_letterOf_4 : decode cX5_letterOf 4 = .ok (.iload_n 1, 1) := by decide +kernel
theorem dX5_letterOf_5 : decode cX5_letterOf 5 = .ok (.bipush 10, 2) := by decide +kernel
theorem dX5_letterOf_7 : decode cX5_letterOf 7 = .ok (.if_icmp .ge 17, 3) := by decide +kernel
theorem dX5_letterOf_10 : decode cX5_letterOf 10 = .ok (.iload_n 2, 1) := by decide +kernel
theorem dX5_letterOf_11 : decode cX5_letterOf 11 = .ok (.ifCond .lt 13, 3) := by decide +kernel
theorem dX5_letterOf_14 : decode cX5_letterOf 14 = .ok (.iload_n 2, 1) := by decide +kernel
theorem dX5_letterOf_15 : decode cX5_letterOf 15 = .ok (.aload_n 0, 1) := by decide +kernel
theorem dX5_letterOf_16 : decode cX5_letterOf 16 = .ok (.getfield 27, 3) := by decide +kernel
theorem dX5_letterOf_19 : decode cX5_letterOf 19 = .ok (.iload_n 1, 1) := by decide +kernel
theorem dX5_letterOf_20 : decode cX5_letterOf 20 = .ok (.iaload, 1) := by decide +kernel
theorem dX5_letterOf_21 : decode cX5_letterOf 21 = .ok (.if_icmp .lt 5, 3) := by decide +kernel
theorem dX5_letterOf_24 : decode cX5_letterOf 24 = .ok (.iconst (-1), 1) := by decide +kernel
theorem dX5_letterOf_25 : decode cX5_letterOf 25 = .ok (.ireturn, 1) := by decide +kernel
theorem dX5_letterOf_26 : decode cX5_letterOf 26 = .ok (.iload_n 1, 1) := by decide +kernel
theorem dX5_letterOf_27 : decode cX5_letterOf 27 = .ok (.iconst 3, 1) := by decide +kernel
theorem dX5_letterOf_28 : decode cX5_letterOf 28 = .ok (.imul, 1) := by decide +kernel
theorem dX5_letterOf_29 : decode cX5_letterOf 29 = .ok (.iload_n 2, 1) := by decide +kernel
theorem dX5_letterOf_30 : decode cX5_letterOf 30 = .ok (.iadd, 1) := by decide +kernel
theorem dX5_letterOf_31 : decode cX5_letterOf 31 = .ok (.istore_n 3, 1) := by decide +kernel
theorem dX5_letterOf_32 : decode cX5_letterOf 32 = .ok (.iload_n 3, 1) := by decide +kernel
theorem dX5_letterOf_33 : decode cX5_letterOf 33 = .ok (.aload_n 0, 1) := by decide +kernel
theorem dX5_letterOf_34 : decode cX5_letterOf 34 = .ok (.getfield 30, 3) := by decide +kernel
theorem dX5_letterOf_37 : decode cX5_letterOf 37 = .ok (.arraylength, 1) := by decide +kernel
theorem dX5_letterOf_38 : decode cX5_letterOf 38 = .ok (.if_icmp .ge 12, 3) := by decide +kernel
theorem dX5_letterOf_41 : decode cX5_letterOf 41 = .ok (.aload_n 0, 1) := by decide +kernel
theorem dX5_letterOf_42 : decode cX5_letterOf 42 = .ok (.getfield 30, 3) := by decide +kernel
theorem dX5_letterOf_45 : decode cX5_letterOf 45 = .ok (.iload_n 3, 1) := by decide +kernel
theorem dX5_letterOf_46 : decode cX5_letterOf 46 = .ok (.iaload, 1) := by decide +kernel
theorem dX5_letterOf_47 : decode cX5_letterOf 47 = .ok (.goto 4, 3) := by decide +kernel
theorem dX5_letterOf_50 : decode cX5_letterOf 50 = .ok (.iconst (-1), 1) := by decide +kernel
theorem dX5_letterOf_51 : decode cX5_letterOf 51 = .ok (.ireturn, 1) := by decide +kernel
theorem dX5_forwardOf_0 : decode cX5_forwardOf 0 = .ok (.iload_n 1, 1) := by decide +kernel
theorem dX5_forwardOf_1 : decode cX5_forwardOf 1 = .ok (.ifCond .lt 18, 3) := by decide +kernel
theorem dX5_forwardOf_4 : decode cX5_forwardOf 4 = .ok (.iload_n 1, 1) := by decide +kernel
theorem dX5_forwardOf_5 : decode cX5_forwardOf 5 = .ok (.bipush 10, 2) := by decide +kernel
theorem dX5_forwardOf_7 : decode cX5_forwardOf 7 = .ok (.if_icmp .ge 12, 3) := by decide +kernel
theorem dX5_forwardOf_10 : decode cX5_forwardOf 10 = .ok (.aload_n 0, 1) := by decide +kernel
theorem dX5_forwardOf_11 : decode cX5_forwardOf 11 = .ok (.getfield 33, 3) := by decide +kernel
theorem dX5_forwardOf_14 : decode cX5_forwardOf 14 = .ok (.iload_n 1, 1) := by decide +kernel
theorem dX5_forwardOf_15 : decode cX5_forwardOf 15 = .ok (.iaload, 1) := by decide +kernel
theorem dX5_forwardOf_16 : decode cX5_forwardOf 16 = .ok (.goto 4, 3) := by decide +kernel
theorem dX5_forwardOf_19 : decode cX5_forwardOf 19 = .ok (.iconst (-1), 1) := by decide +kernel
theorem dX5_forwardOf_20 : decode cX5_forwardOf 20 = .ok (.ireturn, 1) := by decide +kernel
theorem dX5_standInOf_0 : decode cX5_standInOf 0 = .ok (.iload_n 2, 1) := by decide +kernel
theorem dX5_standInOf_1 : decode cX5_standInOf 1 = .ok (.ifCond .lt 12, 3) := by decide +kernel
theorem dX5_standInOf_4 : decode cX5_standInOf 4 = .ok (.iload_n 2, 1) := by decide +kernel
theorem dX5_standInOf_5 : decode cX5_standInOf 5 = .ok (.iconst 3, 1) := by decide +kernel
theorem dX5_standInOf_6 : decode cX5_standInOf 6 = .ok (.if_icmp .ge 7, 3) := by decide +kernel
theorem dX5_standInOf_9 : decode cX5_standInOf 9 = .ok (.iconst 1, 1) := by decide +kernel
theorem dX5_standInOf_10 : decode cX5_standInOf 10 = .ok (.goto 4, 3) := by decide +kernel
theorem dX5_standInOf_13 : decode cX5_standInOf 13 = .ok (.iconst 0, 1) := by decide +kernel
theorem dX5_standInOf_14 : decode cX5_standInOf 14 = .ok (.istore_n 3, 1) := by decide +kernel
theorem dX5_standInOf_15 : decode cX5_standInOf 15 = .ok (.iload_n 3, 1) := by decide +kernel
theorem dX5_standInOf_16 : decode cX5_standInOf 16 = .ok (.ifCond .eq 18, 3) := by decide +kernel
theorem dX5_standInOf_19 : decode cX5_standInOf 19 = .ok (.aload_n 0, 1) := by decide +kernel
theorem dX5_standInOf_20 : decode cX5_standInOf 20 = .ok (.getfield 36, 3) := by decide +kernel
theorem dX5_standInOf_23 : decode cX5_standInOf 23 = .ok (.iload_n 1, 1) := by decide +kernel
theorem dX5_standInOf_24 : decode cX5_standInOf 24 = .ok (.iconst 3, 1) := by decide +kernel
theorem dX5_standInOf_25 : decode cX5_standInOf 25 = .ok (.imul, 1) := by decide +kernel
theorem dX5_standInOf_26 : decode cX5_standInOf 26 = .ok (.iload_n 2, 1) := by decide +kernel
theorem dX5_standInOf_27 : decode cX5_standInOf 27 = .ok (.iadd, 1) := by decide +kernel
theorem dX5_standInOf_28 : decode cX5_standInOf 28 = .ok (.invokestatic 64, 3) := by decide +kernel
theorem dX5_standInOf_31 : decode cX5_standInOf 31 = .ok (.goto 4, 3) := by decide +kernel
theorem dX5_standInOf_34 : decode cX5_standInOf 34 = .ok (.iconst (-1), 1) := by decide +kernel
theorem dX5_standInOf_35 : decode cX5_standInOf 35 = .ok (.ireturn, 1) := by decide +kernel
theorem dX5_ruleAttributeOf_0 : decode cX5_ruleAttributeOf 0 = .ok (.iload_n 1, 1) := by decide +kernel
theorem dX5_ruleAttributeOf_1 : decode cX5_ruleAttributeOf 1 = .ok (.ifCond .lt 18, 3) := by decide +kernel
theorem dX5_ruleAttributeOf_4 : decode cX5_ruleAttributeOf 4 = .ok (.iload_n 1, 1) := by decide +kernel
theorem dX5_ruleAttributeOf_5 : decode cX5_ruleAttributeOf 5 = .ok (.bipush 10, 2) := by decide +kernel
theorem dX5_ruleAttributeOf_7 : decode cX5_ruleAttributeOf 7 = .ok (.if_icmp .ge 12, 3) := by decide +kernel
theorem dX5_ruleAttributeOf_10 : decode cX5_ruleAttributeOf 10 = .ok (.aload_n 0, 1) := by decide +kernel
theorem dX5_ruleAttributeOf_11 : decode cX5_ruleAttributeOf 11 = .ok (.getfield 39, 3) := by decide +kernel
theorem dX5_ruleAttributeOf_14 : decode cX5_ruleAttributeOf 14 = .ok (.iload_n 1, 1) := by decide +kernel
theorem dX5_ruleAttributeOf_15 : decode cX5_ruleAttributeOf 15 = .ok (.iaload, 1) := by decide +kernel
theorem dX5_ruleAttributeOf_16 : decode cX5_ruleAttributeOf 16 = .ok (.goto 4, 3) := by decide +kernel
theorem dX5_ruleAttributeOf_19 : decode cX5_ruleAttributeOf 19 = .ok (.iconst (-1), 1) := by decide +kernel
theorem dX5_ruleAttributeOf_20 : decode cX5_ruleAttributeOf 20 = .ok (.ireturn, 1) := by decide +kernel
theorem dX5_ruleOtherOf_0 : decode cX5_ruleOtherOf 0 = .ok (.iload_n 1, 1) := by decide +kernel
theorem dX5_ruleOtherOf_1 : decode cX5_ruleOtherOf 1 = .ok (.ifCond .lt 18, 3) := by decide +kernel
theorem dX5_ruleOtherOf_4 : decode cX5_ruleOtherOf 4 = .ok (.iload_n 1, 1) := by decide +kernel
theorem dX5_ruleOtherOf_5 : decode cX5_ruleOtherOf 5 = .ok (.bipush 10, 2) := by decide +kernel
theorem dX5_ruleOtherOf_7 : decode cX5_ruleOtherOf 7 = .ok (.if_icmp .ge 12, 3) := by decide +kernel
theorem dX5_ruleOtherOf_10 : decode cX5_ruleOtherOf 10 = .ok (.aload_n 0, 1) := by decide +kernel
theorem dX5_ruleOtherOf_11 : decode cX5_ruleOtherOf 11 = .ok (.getfield 42, 3) := by decide +kernel
theorem dX5_ruleOtherOf_14 : decode cX5_ruleOtherOf 14 = .ok (.iload_n 1, 1) := by decide +kernel
theorem dX5_ruleOtherOf_15 : decode cX5_ruleOtherOf 15 = .ok (.iaload, 1) := by decide +kernel
theorem dX5_ruleOtherOf_16 : decode cX5_ruleOtherOf 16 = .ok (.goto 4, 3) := by decide +kernel
theorem dX5_ruleOtherOf_19 : decode cX5_ruleOtherOf 19 = .ok (.iconst (-1), 1) := by decide +kernel
theorem dX5_ruleOtherOf_20 : decode cX5_ruleOtherOf 20 = .ok (.ireturn, 1) := by decide +kernel
theorem dX5_isAlikeInShape_0 : decode cX5_isAlikeInShape 0 = .ok (.aload_n 0, 1) := by decide +kernel
theorem dX5_isAlikeInShape_1 : decode cX5_isAlikeInShape 1 = .ok (.iload_n 1, 1) := by decide +kernel
theorem dX5_isAlikeInShape_2 : decode cX5_isAlikeInShape 2 = .ok (.invokevirtual 81, 3) := by decide +kernel
theorem dX5_isAlikeInShape_5 : decode cX5_isAlikeInShape 5 = .ok (.aload_n 0, 1) := by decide +kernel
theorem dX5_isAlikeInShape_6 : decode cX5_isAlikeInShape 6 = .ok (.iload_n 2, 1) := by decide +kernel
theorem dX5_isAlikeInShape_7 : decode cX5_isAlikeInShape 7 = .ok (.invokevirtual 81, 3) := by decide +kernel
theorem dX5_isAlikeInShape_10 : decode cX5_isAlikeInShape 10 = .ok (.if_icmp .ne 39, 3) := by decide +kernel
theorem dX5_isAlikeInShape_13 : decode cX5_isAlikeInShape 13 = .ok (.aload_n 0, 1) := by decide +kernel
theorem dX5_isAlikeInShape_14 : decode cX5_isAlikeInShape 14 = .ok (.iload_n 1, 1) := by decide +kernel
theorem dX5_isAlikeInShape_15 : decode cX5_isAlikeInShape 15 = .ok (.invokevirtual 78, 3) := by decide +kernel
theorem dX5_isAlikeInShape_18 : decode cX5_isAlikeInShape 18 = .ok (.aload_n 0, 1) := by decide +kernel
theorem dX5_isAlikeInShape_19 : decode cX5_isAlikeInShape 19 = .ok (.iload_n 2, 1) := by decide +kernel
theorem dX5_isAlikeInShape_20 : decode cX5_isAlikeInShape 20 = .ok (.invokevirtual 78, 3) := by decide +kernel
theorem dX5_isAlikeInShape_23 : decode cX5_isAlikeInShape 23 = .ok (.if_icmp .ne 26, 3) := by decide +kernel
theorem dX5_isAlikeInShape_26 : decode cX5_isAlikeInShape 26 = .ok (.aload_n 0, 1) := by decide +kernel
theorem dX5_isAlikeInShape_27 : decode cX5_isAlikeInShape 27 = .ok (.getfield 27, 3) := by decide +kernel
theorem dX5_isAlikeInShape_30 : decode cX5_isAlikeInShape 30 = .ok (.iload_n 1, 1) := by decide +kernel
theorem dX5_isAlikeInShape_31 : decode cX5_isAlikeInShape 31 = .ok (.invokestatic 64, 3) := by decide +kernel
theorem dX5_isAlikeInShape_34 : decode cX5_isAlikeInShape 34 = .ok (.aload_n 0, 1) := by decide +kernel
theorem dX5_isAlikeInShape_35 : decode cX5_isAlikeInShape 35 = .ok (.getfield 27, 3) := by decide +kernel
theorem dX5_isAlikeInShape_38 : decode cX5_isAlikeInShape 38 = .ok (.iload_n 2, 1) := by decide +kernel
theorem dX5_isAlikeInShape_39 : decode cX5_isAlikeInShape 39 = .ok (.invokestatic 64, 3) := by decide +kernel
theorem dX5_isAlikeInShape_42 : decode cX5_isAlikeInShape 42 = .ok (.if_icmp .ne 7, 3) := by decide +kernel
theorem dX5_isAlikeInShape_45 : decode cX5_isAlikeInShape 45 = .ok (.iconst 1, 1) := by decide +kernel
theorem dX5_isAlikeInShape_46 : decode cX5_isAlikeInShape 46 = .ok (.goto 4, 3) := by decide +kernel
theorem dX5_isAlikeInShape_49 : decode cX5_isAlikeInShape 49 = .ok (.iconst 0, 1) := by decide +kernel
theorem dX5_isAlikeInShape_50 : decode cX5_isAlikeInShape 50 = .ok (.istore_n 3, 1) := by decide +kernel
theorem dX5_isAlikeInShape_51 : decode cX5_isAlikeInShape 51 = .ok (.iconst 0, 1) := by decide +kernel
theorem dX5_isAlikeInShape_52 : decode cX5_isAlikeInShape 52 = .ok (.istore 4, 2) := by decide +kernel
theorem dX5_isAlikeInShape_54 : decode cX5_isAlikeInShape 54 = .ok (.iload 4, 2) := by decide +kernel
theorem dX5_isAlikeInShape_56 : decode cX5_isAlikeInShape 56 = .ok (.iconst 3, 1) := by decide +kernel
theorem dX5_isAlikeInShape_57 : decode cX5_isAlikeInShape 57 = .ok (.if_icmp .ge 36, 3) := by decide +kernel
theorem dX5_isAlikeInShape_60 : decode cX5_isAlikeInShape 60 = .ok (.iload_n 3, 1) := by decide +kernel
theorem dX5_isAlikeInShape_61 : decode cX5_isAlikeInShape 61 = .ok (.ifCond .eq 24, 3) := by decide +kernel
theorem dX5_isAlikeInShape_64 : decode cX5_isAlikeInShape 64 = .ok (.aload_n 0, 1) := by decide +kernel
theorem dX5_isAlikeInShape_65 : decode cX5_isAlikeInShape 65 = .ok (.iload_n 1, 1) := by decide +kernel
theorem dX5_isAlikeInShape_66 : decode cX5_isAlikeInShape 66 = .ok (.iload 4, 2) := by decide +kernel
theorem dX5_isAlikeInShape_68 : decode cX5_isAlikeInShape 68 = .ok (.invokevirtual 84, 3) := by decide +kernel
theorem dX5_isAlikeInShape_71 : decode cX5_isAlikeInShape 71 = .ok (.aload_n 0, 1) := by decide +kernel
theorem dX5_isAlikeInShape_72 : decode cX5_isAlikeInShape 72 = .ok (.iload_n 2, 1) := by decide +kernel
theorem dX5_isAlikeInShape_73 : decode cX5_isAlikeInShape 73 = .ok (.iload 4, 2) := by decide +kernel
theorem dX5_isAlikeInShape_75 : decode cX5_isAlikeInShape 75 = .ok (.invokevirtual 84, 3) := by decide +kernel
theorem dX5_isAlikeInShape_78 : decode cX5_isAlikeInShape 78 = .ok (.if_icmp .ne 7, 3) := by decide +kernel
theorem dX5_isAlikeInShape_81 : decode cX5_isAlikeInShape 81 = .ok (.iconst 1, 1) := by decide +kernel
theorem dX5_isAlikeInShape_82 : decode cX5_isAlikeInShape 82 = .ok (.goto 4, 3) := by decide +kernel
theorem dX5_isAlikeInShape_85 : decode cX5_isAlikeInShape 85 = .ok (.iconst 0, 1) := by decide +kernel
theorem dX5_isAlikeInShape_86 : decode cX5_isAlikeInShape 86 = .ok (.istore_n 3, 1) := by decide +kernel
theorem dX5_isAlikeInShape_87 : decode cX5_isAlikeInShape 87 = .ok (.iinc 4 1, 3) := by decide +kernel
theorem dX5_isAlikeInShape_90 : decode cX5_isAlikeInShape 90 = .ok (.goto (-36), 3) := by decide +kernel
theorem dX5_isAlikeInShape_93 : decode cX5_isAlikeInShape 93 = .ok (.iload_n 3, 1) := by decide +kernel
theorem dX5_isAlikeInShape_94 : decode cX5_isAlikeInShape 94 = .ok (.ireturn, 1) := by decide +kernel
theorem dX6_init_0 : decode cX6_init 0 = .ok (.aload_n 0, 1) := by decide +kernel
theorem dX6_init_1 : decode cX6_init 1 = .ok (.invokespecial 3, 3) := by decide +kernel
theorem dX6_init_4 : decode cX6_init 4 = .ok (.aload_n 0, 1) := by decide +kernel
theorem dX6_init_5 : decode cX6_init 5 = .ok (.bipush 24, 2) := by decide +kernel
theorem dX6_init_7 : decode cX6_init 7 = .ok (.newarray .int, 2) := by decide +kernel
theorem dX6_init_9 : decode cX6_init 9 = .ok (.putfield 11, 3) := by decide +kernel
theorem dX6_init_12 : decode cX6_init 12 = .ok (.aload_n 0, 1) := by decide +kernel
theorem dX6_init_13 : decode cX6_init 13 = .ok (.bipush 24, 2) := by decide +kernel
theorem dX6_init_15 : decode cX6_init 15 = .ok (.newarray .int, 2) := by decide +kernel
theorem dX6_init_17 : decode cX6_init 17 = .ok (.putfield 15, 3) := by decide +kernel
theorem dX6_init_20 : decode cX6_init 20 = .ok (.aload_n 0, 1) := by decide +kernel
theorem dX6_init_21 : decode cX6_init 21 = .ok (.aload_n 1, 1) := by decide +kernel
theorem dX6_init_22 : decode cX6_init 22 = .ok (.putfield 18, 3) := by decide +kernel
theorem dX6_init_25 : decode cX6_init 25 = .ok (.aload_n 0, 1) := by decide +kernel
theorem dX6_init_26 : decode cX6_init 26 = .ok (.aload_n 2, 1) := by decide +kernel
theorem dX6_init_27 : decode cX6_init 27 = .ok (.putfield 22, 3) := by decide +kernel
theorem dX6_init_30 : decode cX6_init 30 = .ok (.aload_n 0, 1) := by decide +kernel
theorem dX6_init_31 : decode cX6_init 31 = .ok (.aload_n 3, 1) := by decide +kernel
theorem dX6_init_32 : decode cX6_init 32 = .ok (.putfield 26, 3) := by decide +kernel
theorem dX6_init_35 : decode cX6_init 35 = .ok (.return_, 1) := by decide +kernel
theorem dX6_firstRing_0 : decode cX6_firstRing 0 = .ok (.aload_n 0, 1) := by decide +kernel
theorem dX6_firstRing_1 : decode cX6_firstRing 1 = .ok (.getfield 15, 3) := by decide +kernel
theorem dX6_firstRing_4 : decode cX6_firstRing 4 = .ok (.iconst 0, 1) := by decide +kernel
theorem dX6_firstRing_5 : decode cX6_firstRing 5 = .ok (.invokestatic 30, 3) := by decide +kernel
theorem dX6_firstRing_8 : decode cX6_firstRing 8 = .ok (.iconst 1, 1) := by decide +kernel
theorem dX6_firstRing_9 : decode cX6_firstRing 9 = .ok (.istore_n 1, 1) := by decide +kernel
theorem dX6_firstRing_10 : decode cX6_firstRing 10 = .ok (.iconst 0, 1) := by decide +kernel
theorem dX6_firstRing_11 : decode cX6_firstRing 11 = .ok (.istore_n 2, 1) := by decide +kernel
theorem dX6_firstRing_12 : decode cX6_firstRing 12 = .ok (.iload_n 2, 1) := by decide +kernel
theorem dX6_firstRing_13 : decode cX6_firstRing 13 = .ok (.sipush 200, 3) := by decide +kernel
theorem dX6_firstRing_16 : decode cX6_firstRing 16 = .ok (.if_icmp .ge 57, 3) := by decide +kernel
theorem dX6_firstRing_19 : decode cX6_firstRing 19 = .ok (.iload_n 1, 1) := by decide +kernel
theorem dX6_firstRing_20 : decode cX6_firstRing 20 = .ok (.ifCond .eq 53, 3) := by decide +kernel
theorem dX6_firstRing_23 : decode cX6_firstRing 23 = .ok (.iconst 0, 1) := by decide +kernel
theorem dX6_firstRing_24 : decode cX6_firstRing 24 = .ok (.istore_n 1, 1) := by decide +kernel
theorem dX6_firstRing_25 : decode cX6_firstRing 25 = .ok (.iconst 0, 1) := by decide +kernel
theorem dX6_firstRing_26 : decode cX6_firstRing 26 = .ok (.istore_n 3, 1) := by decide +kernel
theorem dX6_firstRing_27 : decode cX6_firstRing 27 = .ok (.iload_n 3, 1) := by decide +kernel
theorem dX6_firstRing_28 : decode cX6_firstRing 28 = .ok (.aload_n 0, 1) := by decide +kernel
theorem dX6_firstRing_29 : decode cX6_firstRing 29 = .ok (.getfield 18, 3) := by decide +kernel
theorem dX6_firstRing_32 : decode cX6_firstRing 32 = .ok (.getfield 34, 3) := by decide +kernel
theorem dX6_firstRing_35 : decode cX6_firstRing 35 = .ok (.if_icmp .ge 32, 3) := by decide +kernel
theorem dX6_firstRing_38 : decode cX6_firstRing 38 = .ok (.aload_n 0, 1) := by decide +kernel
theorem dX6_firstRing_39 : decode cX6_firstRing 39 = .ok (.iload_n 3, 1) := by decide +kernel
theorem dX6_firstRing_40 : decode cX6_firstRing 40 = .ok (.invokevirtual 40, 3) := by decide +kernel
theorem dX6_firstRing_43 : decode cX6_firstRing 43 = .ok (.aload_n 0, 1) := by decide +kernel
theorem dX6_firstRing_44 : decode cX6_firstRing 44 = .ok (.iload_n 3, 1) := by decide +kernel
theorem dX6_firstRing_45 : decode cX6_firstRing 45 = .ok (.invokevirtual 44, 3) := by decide +kernel
theorem dX6_firstRing_48 : decode cX6_firstRing 48 = .ok (.ifCond .ne 7, 3) := by decide +kernel
theorem dX6_firstRing_51 : decode cX6_firstRing 51 = .ok (.iload_n 1, 1) := by decide +kernel
theorem dX6_firstRing_52 : decode cX6_firstRing 52 = .ok (.ifCond .eq 7, 3) := by decide +kernel
theorem dX6_firstRing_55 : decode cX6_firstRing 55 = .ok (.iconst 1, 1) := by decide +kernel
theorem dX6_firstRing_56 : decode cX6_firstRing 56 = .ok (.goto 4, 3) := by decide +kernel
theorem dX6_firstRing_59 : decode cX6_firstRing 59 = .ok (.iconst 0, 1) := by decide +kernel
theorem dX6_firstRing_60 : decode cX6_firstRing 60 = .ok (.istore_n 1, 1) := by decide +kernel
theorem dX6_firstRing_61 : decode cX6_firstRing 61 = .ok (.iinc 3 1, 3) := by decide +kernel
theorem dX6_firstRing_64 : decode cX6_firstRing 64 = .ok (.goto (-37), 3) := by decide +kernel
theorem dX6_firstRing_67 : decode cX6_firstRing 67 = .ok (.iinc 2 1, 3) := by decide +kernel
theorem dX6_firstRing_70 : decode cX6_firstRing 70 = .ok (.goto (-58), 3) := by decide +kernel
theorem dX6_firstRing_73 : decode cX6_firstRing 73 = .ok (.iconst 0, 1) := by decide +kernel
theorem dX6_firstRing_74 : decode cX6_firstRing 74 = .ok (.istore_n 2, 1) := by decide +kernel
theorem dX6_firstRing_75 : decode cX6_firstRing 75 = .ok (.iload_n 2, 1) := by decide +kernel
theorem dX6_firstRing_76 : decode cX6_firstRing 76 = .ok (.aload_n 0, 1) := by decide +kernel
theorem dX6_firstRing_77 : decode cX6_firstRing 77 = .ok (.getfield 18, 3) := by decide +kernel
theorem dX6_firstRing_80 : decode cX6_firstRing 80 = .ok (.getfield 34, 3) := by decide +kernel
theorem dX6_firstRing_83 : decode cX6_firstRing 83 = .ok (.if_icmp .ge 23, 3) := by decide +kernel
theorem dX6_firstRing_86 : decode cX6_firstRing 86 = .ok (.aload_n 0, 1) := by decide +kernel
theorem dX6_firstRing_87 : decode cX6_firstRing 87 = .ok (.iload_n 2, 1) := by decide +kernel
theorem dX6_firstRing_88 : decode cX6_firstRing 88 = .ok (.invokevirtual 40, 3) := by decide +kernel
theorem dX6_firstRing_91 : decode cX6_firstRing 91 = .ok (.aload_n 0, 1) := by decide +kernel
theorem dX6_firstRing_92 : decode cX6_firstRing 92 = .ok (.invokevirtual 48, 3) := by decide +kernel
theorem dX6_firstRing_95 : decode cX6_firstRing 95 = .ok (.ifCond .eq 5, 3) := by decide +kernel
theorem dX6_firstRing_98 : decode cX6_firstRing 98 = .ok (.iload_n 2, 1) := by decide +kernel
theorem dX6_firstRing_99 : decode cX6_firstRing 99 = .ok (.ireturn, 1) := by decide +kernel
theorem dX6_firstRing_100 : decode cX6_firstRing 100 = .ok (.iinc 2 1, 3) := by decide +kernel
theorem dX6_firstRing_103 : decode cX6_firstRing 103 = .ok (.goto (-28), 3) := by decide +kernel
theorem dX6_firstRing_106 : decode cX6_firstRing 106 = .ok (.iconst (-1), 1) := by decide +kernel
theorem dX6_firstRing_107 : decode cX6_firstRing 107 = .ok (.ireturn, 1) := by decide +kernel
theorem dX6_cornerOf_0 : decode cX6_cornerOf 0 = .ok (.iload_n 0, 1) := by decide +kernel
theorem dX6_cornerOf_1 : decode cX6_cornerOf 1 = .ok (.iconst 1, 1) := by decide +kernel
theorem dX6_cornerOf_2 : decode cX6_cornerOf 2 = .ok (.iadd, 1) := by decide +kernel
theorem dX6_cornerOf_3 : decode cX6_cornerOf 3 = .ok (.bipush 6, 2) := by decide +kernel
theorem dX6_cornerOf_5 : decode cX6_cornerOf 5 = .ok (.imul, 1) := by decide +kernel
theorem dX6_cornerOf_6 : decode cX6_cornerOf 6 = .ok (.iload_n 1, 1) := by decide +kernel
theorem dX6_cornerOf_7 : decode cX6_cornerOf 7 = .ok (.iadd, 1) := by decide +kernel
theorem dX6_cornerOf_8 : decode cX6_cornerOf 8 = .ok (.ireturn, 1) := by decide +kernel
theorem dX6_hasBit_0 : decode cX6_hasBit 0 = .ok (.iload_n 1, 1) := by decide +kernel
theorem dX6_hasBit_1 : decode cX6_hasBit 1 = .ok (.ifCond .lt 21, 3) := by decide +kernel
theorem dX6_hasBit_4 : decode cX6_hasBit 4 = .ok (.iload_n 1, 1) := by decide +kernel
theorem dX6_hasBit_5 : decode cX6_hasBit 5 = .ok (.bipush 24, 2) := by decide +kernel
theorem dX6_hasBit_7 : decode cX6_hasBit 7 = .ok (.if_icmp .ge 15, 3) := by decide +kernel
theorem dX6_hasBit_10 : decode cX6_hasBit 10 = .ok (.iload_n 0, 1) := by decide +kernel
theorem dX6_hasBit_11 : decode cX6_hasBit 11 = .ok (.iload_n 1, 1) := by decide +kernel
theorem dX6_hasBit_12 : decode cX6_hasBit 12 = .ok (.ishr, 1) := by decide +kernel
theorem dX6_hasBit_13 : decode cX6_hasBit 13 = .ok (.iconst 1, 1) := by decide +kernel
theorem dX6_hasBit_14 : decode cX6_hasBit 14 = .ok (.iand, 1) := by decide +kernel
theorem dX6_hasBit_15 : decode cX6_hasBit 15 = .ok (.ifCond .eq 7, 3) := by decide +kernel
theorem dX6_hasBit_18 : decode cX6_hasBit 18 = .ok (.iconst 1, 1) := by decide +kernel
theorem dX6_hasBit_19 : decode cX6_hasBit 19 = .ok (.goto 4, 3) := by decide +kernel
theorem dX6_hasBit_22 : decode cX6_hasBit 22 = .ok (.iconst 0, 1) := by decide +kernel
theorem dX6_hasBit_23 : decode cX6_hasBit 23 = .ok (.ireturn, 1) := by decide +kernel
theorem dX6_hang_0 : decode cX6_hang 0 = .ok (.iload_n 2, 1) := by decide +kernel
theorem dX6_hang_1 : decode cX6_hang 1 = .ok (.ifCond .lt 29, 3) := by decide +kernel
theorem dX6_hang_4 : decode cX6_hang 4 = .ok (.iload_n 2, 1) := by decide +kernel
theorem dX6_hang_5 : decode cX6_hang 5 = .ok (.bipush 24, 2) := by decide +kernel
theorem dX6_hang_7 : decode cX6_hang 7 = .ok (.if_icmp .ge 23, 3) := by decide +kernel
theorem dX6_hang_10 : decode cX6_hang 10 = .ok (.aload_n 0, 1) := by decide +kernel
theorem dX6_hang_11 : decode cX6_hang 11 = .ok (.getfield 11, 3) := by decide +kernel
theorem dX6_hang_14 : decode cX6_hang 14 = .ok (.iload_n 1, 1) := by decide +kernel
theorem dX6_hang_15 : decode cX6_hang 15 = .ok (.aload_n 0, 1) := by decide +kernel
theorem dX6_hang_16 : decode cX6_hang 16 = .ok (.getfield 11, 3) := by decide +kernel
theorem dX6_hang_19 : decode cX6_hang 19 = .ok (.iload_n 1, 1) := by decide +kernel
theorem dX6_hang_20 : decode cX6_hang 20 = .ok (.invokestatic 52, 3) := by decide +kernel
theorem dX6_hang_23 : decode cX6_hang 23 = .ok (.iconst 1, 1) := by decide +kernel
theorem dX6_hang_24 : decode cX6_hang 24 = .ok (.iload_n 2, 1) := by decide +kernel
theorem dX6_hang_25 : decode cX6_hang 25 = .ok (.ishl, 1) := by decide +kernel
theorem dX6_hang_26 : decode cX6_hang 26 = .ok (.ior, 1) := by decide +kernel
theorem dX6_hang_27 : decode cX6_hang 27 = .ok (.invokestatic 56, 3) := by decide +kernel
theorem dX6_hang_30 : decode cX6_hang 30 = .ok (.return_, 1) := by decide +kernel
theorem dX6_isOfKind_0 : decode cX6_isOfKind 0 = .ok (.aload_n 0, 1) := by decide +kernel
theorem dX6_isOfKind_1 : decode cX6_isOfKind 1 = .ok (.getfield 18, 3) := by decide +kernel
theorem dX6_isOfKind_4 : decode cX6_isOfKind 4 = .ok (.iload_n 1, 1) := by decide +kernel
theorem dX6_isOfKind_5 : decode cX6_isOfKind 5 = .ok (.invokevirtual 60, 3) := by decide +kernel
theorem dX6_isOfKind_8 : decode cX6_isOfKind 8 = .ok (.iload_n 2, 1) := by decide +kernel
theorem dX6_isOfKind_9 : decode cX6_isOfKind 9 = .ok (.if_icmp .ne 7, 3) := by decide +kernel
theorem dX6_isOfKind_12 : decode cX6_isOfKind 12 = .ok (.iconst 1, 1) := by decide +kernel
theorem dX6_isOfKind_13 : decode cX6_isOfKind 13 = .ok (.goto 4, 3) := by decide +kernel
theorem dX6_isOfKind_16 : decode cX6_isOfKind 16 = .ok (.iconst 0, 1) := by decide +kernel
theorem dX6_isOfKind_17 : decode cX6_isOfKind 17 = .ok (.ireturn, 1) := by decide +kernel
theorem dX6_draw_0 : decode cX6_draw 0 = .ok (.aload_n 0, 1) := by decide +kernel
theorem dX6_draw_1 : decode cX6_draw 1 = .ok (.getfield 11, 3) := by decide +kernel
theorem dX6_draw_4 : decode cX6_draw 4 = .ok (.iconst 0, 1) := by decide +kernel
theorem dX6_draw_5 : decode cX6_draw 5 = .ok (.invokestatic 30, 3) := by decide +kernel
theorem dX6_draw_8 : decode cX6_draw 8 = .ok (.iconst 0, 1) := by decide +kernel
theorem dX6_draw_9 : decode cX6_draw 9 = .ok (.istore_n 2, 1) := by decide +kernel
theorem dX6_draw_10 : decode cX6_draw 10 = .ok (.iload_n 2, 1) := by decide +kernel
theorem dX6_draw_11 : decode cX6_draw 11 = .ok (.bipush 6, 2) := by decide +kernel
theorem dX6_draw_13 : decode cX6_draw 13 = .ok (.if_icmp .ge 53, 3) := by decide +kernel
theorem dX6_draw_16 : decode cX6_draw 16 = .ok (.aload_n 0, 1) := by decide +kernel
theorem dX6_draw_17 : decode cX6_draw 17 = .ok (.iload_n 2, 1) := by decide +kernel
theorem dX6_draw_18 : decode cX6_draw 18 = .ok (.iconst 0, 1) := by decide +kernel
theorem dX6_draw_19 : decode cX6_draw 19 = .ok (.invokevirtual 64, 3) := by decide +kernel
theorem dX6_draw_22 : decode cX6_draw 22 = .ok (.ifCond .eq 11, 3) := by decide +kernel
theorem dX6_draw_25 : decode cX6_draw 25 = .ok (.aload_n 0, 1) := by decide +kernel
theorem dX6_draw_26 : decode cX6_draw 26 = .ok (.iload_n 1, 1) := by decide +kernel
theorem dX6_draw_27 : decode cX6_draw 27 = .ok (.iload_n 2, 1) := by decide +kernel
theorem dX6_draw_28 : decode cX6_draw 28 = .ok (.iconst (-1), 1) := by decide +kernel
theorem dX6_draw_29 : decode cX6_draw 29 = .ok (.invokevirtual 68, 3) := by decide +kernel
theorem dX6_draw_32 : decode cX6_draw 32 = .ok (.pop, 1) := by decide +kernel
theorem dX6_draw_33 : decode cX6_draw 33 = .ok (.iconst 0, 1) := by decide +kernel
theorem dX6_draw_34 : decode cX6_draw 34 = .ok (.istore_n 3, 1) := by decide +kernel
theorem dX6_draw_35 : decode cX6_draw 35 = .ok (.iload_n 3, 1) := by decide +kernel
theorem dX6_draw_36 : decode cX6_draw 36 = .ok (.aload_n 0, 1) := by decide +kernel
theorem dX6_draw_37 : decode cX6_draw 37 = .ok (.getfield 18, 3) := by decide +kernel
theorem dX6_draw_40 : decode cX6_draw 40 = .ok (.iload_n 1, 1) := by decide +kernel
theorem dX6_draw_41 : decode cX6_draw 41 = .ok (.invokevirtual 72, 3) := by decide +kernel
theorem dX6_draw_44 : decode cX6_draw 44 = .ok (.if_icmp .ge 16, 3) := by decide +kernel
theorem dX6_draw_47 : decode cX6_draw 47 = .ok (.aload_n 0, 1) := by decide +kernel
theorem dX6_draw_48 : decode cX6_draw 48 = .ok (.iload_n 1, 1) := by decide +kernel
theorem dX6_draw_49 : decode cX6_draw 49 = .ok (.iload_n 2, 1) := by decide +kernel
theorem dX6_draw_50 : decode cX6_draw 50 = .ok (.iload_n 3, 1) := by decide +kernel
theorem dX6_draw_51 : decode cX6_draw 51 = .ok (.invokevirtual 75, 3) := by decide +kernel
theorem dX6_draw_54 : decode cX6_draw 54 = .ok (.iinc 3 1, 3) := by decide +kernel
theorem dX6_draw_57 : decode cX6_draw 57 = .ok (.goto (-22), 3) := by decide +kernel
theorem dX6_draw_60 : decode cX6_draw 60 = .ok (.iinc 2 1, 3) := by decide +kernel
theorem dX6_draw_63 : decode cX6_draw 63 = .ok (.goto (-53), 3) := by decide +kernel
theorem dX6_draw_66 : decode cX6_draw 66 = .ok (.iconst 0, 1) := by decide +kernel
theorem dX6_draw_67 : decode cX6_draw 67 = .ok (.istore_n 2, 1) := by decide +kernel
theorem dX6_draw_68 : decode cX6_draw 68 = .ok (.iload_n 2, 1) := by decide +kernel
theorem dX6_draw_69 : decode cX6_draw 69 = .ok (.bipush 24, 2) := by decide +kernel
theorem dX6_draw_71 : decode cX6_draw 71 = .ok (.if_icmp .ge 63, 3) := by decide +kernel
theorem dX6_draw_74 : decode cX6_draw 74 = .ok (.iconst 0, 1) := by decide +kernel
theorem dX6_draw_75 : decode cX6_draw 75 = .ok (.istore_n 3, 1) := by decide +kernel
theorem dX6_draw_76 : decode cX6_draw 76 = .ok (.iload_n 3, 1) := by decide +kernel
theorem dX6_draw_77 : decode cX6_draw 77 = .ok (.bipush 24, 2) := by decide +kernel
theorem dX6_draw_79 : decode cX6_draw 79 = .ok (.if_icmp .ge 49, 3) := by decide +kernel
theorem dX6_draw_82 : decode cX6_draw 82 = .ok (.aload_n 0, 1) := by decide +kernel
theorem dX6_draw_83 : decode cX6_draw 83 = .ok (.getfield 11, 3) := by decide +kernel
theorem dX6_draw_86 : decode cX6_draw 86 = .ok (.iload_n 3, 1) := by decide +kernel
theorem dX6_draw_87 : decode cX6_draw 87 = .ok (.invokestatic 52, 3) := by decide +kernel
theorem dX6_draw_90 : decode cX6_draw 90 = .ok (.iload_n 2, 1) := by decide +kernel
theorem dX6_draw_91 : decode cX6_draw 91 = .ok (.invokestatic 79, 3) := by decide +kernel
theorem dX6_draw_94 : decode cX6_draw 94 = .ok (.ifCond .eq 28, 3) := by decide +kernel
theorem dX6_draw_97 : decode cX6_draw 97 = .ok (.aload_n 0, 1) := by decide +kernel
theorem dX6_draw_98 : decode cX6_draw 98 = .ok (.getfield 11, 3) := by decide +kernel
theorem dX6_draw_101 : decode cX6_draw 101 = .ok (.iload_n 3, 1) := by decide +kernel
theorem dX6_draw_102 : decode cX6_draw 102 = .ok (.aload_n 0, 1) := by decide +kernel
theorem dX6_draw_103 : decode cX6_draw 103 = .ok (.getfield 11, 3) := by decide +kernel
theorem dX6_draw_106 : decode cX6_draw 106 = .ok (.iload_n 3, 1) := by decide +kernel
theorem dX6_draw_107 : decode cX6_draw 107 = .ok (.invokestatic 52, 3) := by decide +kernel
theorem dX6_draw_110 : decode cX6_draw 110 = .ok (.aload_n 0, 1) := by decide +kernel
theorem dX6_draw_111 : decode cX6_draw 111 = .ok (.getfield 11, 3) := by decide +kernel
theorem dX6_draw_114 : decode cX6_draw 114 = .ok (.iload_n 2, 1) := by decide +kernel
theorem dX6_draw_115 : decode cX6_draw 115 = .ok (.invokestatic 52, 3) := by decide +kernel
theorem dX6_draw_118 : decode cX6_draw 118 = .ok (.ior, 1) := by decide +kernel
theorem dX6_draw_119 : decode cX6_draw 119 = .ok (.invokestatic 56, 3) := by decide +kernel
theorem dX6_draw_122 : decode cX6_draw 122 = .ok (.iinc 3 1, 3) := by decide +kernel
theorem dX6_draw_125 : decode cX6_draw 125 = .ok (.goto (-49), 3) := by decide +kernel
theorem dX6_draw_128 : decode cX6_draw 128 = .ok (.iinc 2 1, 3) := by decide +kernel
theorem dX6_draw_131 : decode cX6_draw 131 = .ok (.goto (-63), 3) := by decide +kernel
theorem dX6_draw_134 : decode cX6_draw 134 = .ok (.return_, 1) := by decide +kernel
theorem dX6_drawChild_0 : decode cX6_drawChild 0 = .ok (.iload_n 3, 1) := by decide +kernel
theorem dX6_drawChild_1 : decode cX6_drawChild 1 = .ok (.iload_n 2, 1) := by decide +kernel
theorem dX6_drawChild_2 : decode cX6_drawChild 2 = .ok (.invokestatic 82, 3) := by decide +kernel
theorem dX6_drawChild_5 : decode cX6_drawChild 5 = .ok (.istore 4, 2) := by decide +kernel
theorem dX6_drawChild_7 : decode cX6_drawChild 7 = .ok (.aload_n 0, 1) := by decide +kernel
theorem dX6_drawChild_8 : decode cX6_drawChild 8 = .ok (.iload_n 2, 1) := by decide +kernel
theorem dX6_drawChild_9 : decode cX6_drawChild 9 = .ok (.iconst 1, 1) := by decide +kernel
theorem dX6_drawChild_10 : decode cX6_drawChild 10 = .ok (.invokevirtual 64, 3) := by decide +kernel
theorem dX6_drawChild_13 : decode cX6_drawChild 13 = .ok (.ifCond .eq 24, 3) := by decide +kernel
theorem dX6_drawChild_16 : decode cX6_drawChild 16 = .ok (.aload_n 0, 1) := by decide +kernel
theorem dX6_drawChild_17 : decode cX6_drawChild 17 = .ok (.iload_n 1, 1) := by decide +kernel
theorem dX6_drawChild_18 : decode cX6_drawChild 18 = .ok (.iload_n 2, 1) := by decide +kernel
theorem dX6_drawChild_19 : decode cX6_drawChild 19 = .ok (.iload_n 3, 1) := by decide +kernel
theorem dX6_drawChild_20 : decode cX6_drawChild 20 = .ok (.invokevirtual 68, 3) := by decide +kernel
theorem dX6_drawChild_23 : decode cX6_drawChild 23 = .ok (.ifCond .ne 14, 3) := by decide +kernel
theorem dX6_drawChild_26 : decode cX6_drawChild 26 = .ok (.aload_n 0, 1) := by decide +kernel
theorem dX6_drawChild_27 : decode cX6_drawChild 27 = .ok (.iload 4, 2) := by decide +kernel
theorem dX6_drawChild_29 : decode cX6_drawChild 29 = .ok (.iconst (-1), 1) := by decide +kernel
theorem dX6_drawChild_30 : decode cX6_drawChild 30 = .ok (.iload_n 2, 1) := by decide +kernel
theorem dX6_drawChild_31 : decode cX6_drawChild 31 = .ok (.invokestatic 82, 3) := by decide +kernel
theorem dX6_drawChild_34 : decode cX6_drawChild 34 = .ok (.invokevirtual 86, 3) := by decide +kernel
theorem dX6_drawChild_37 : decode cX6_drawChild 37 = .ok (.aload_n 0, 1) := by decide +kernel
theorem dX6_drawChild_38 : decode cX6_drawChild 38 = .ok (.iload_n 2, 1) := by decide +kernel
theorem dX6_drawChild_39 : decode cX6_drawChild 39 = .ok (.iconst 0, 1) := by decide +kernel
theorem dX6_drawChild_40 : decode cX6_drawChild 40 = .ok (.invokevirtual 64, 3) := by decide +kernel
theorem dX6_drawChild_43 : decode cX6_drawChild 43 = .ok (.ifCond .eq 68, 3) := by decide +kernel
theorem dX6_drawChild_46 : decode cX6_drawChild 46 = .ok (.aload_n 0, 1) := by decide +kernel
theorem dX6_drawChild_47 : decode cX6_drawChild 47 = .ok (.getfield 18, 3) := by decide +kernel
theorem dX6_drawChild_50 : decode cX6_drawChild 50 = .ok (.iload_n 1, 1) := by decide +kernel
theorem dX6_drawChild_51 : decode cX6_drawChild 51 = .ok (.iload_n 3, 1) := by decide +kernel
theorem dX6_drawChild_52 : decode cX6_drawChild 52 = .ok (.invokevirtual 90, 3) := by decide +kernel
theorem dX6_drawChild_55 : decode cX6_drawChild 55 = .ok (.istore 5, 2) := by decide +kernel
theorem dX6_drawChild_57 : decode cX6_drawChild 57 = .ok (.aload_n 0, 1) := by decide +kernel
theorem dX6_drawChild_58 : decode cX6_drawChild 58 = .ok (.getfield 15, 3) := by decide +kernel
theorem dX6_drawChild_61 : decode cX6_drawChild 61 = .ok (.iload 5, 2) := by decide +kernel
theorem dX6_drawChild_63 : decode cX6_drawChild 63 = .ok (.bipush 6, 2) := by decide +kernel
theorem dX6_drawChild_65 : decode cX6_drawChild 65 = .ok (.imul, 1) := by decide +kernel
theorem dX6_drawChild_66 : decode cX6_drawChild 66 = .ok (.iload_n 2, 1) := by decide +kernel
theorem dX6_drawChild_67 : decode cX6_drawChild 67 = .ok (.iadd, 1) := by decide +kernel
theorem dX6_drawChild_68 : decode cX6_drawChild 68 = .ok (.invokestatic 52, 3) := by decide +kernel
theorem dX6_drawChild_71 : decode cX6_drawChild 71 = .ok (.istore 6, 2) := by decide +kernel
theorem dX6_drawChild_73 : decode cX6_drawChild 73 = .ok (.iconst 0, 1) := by decide +kernel
theorem dX6_drawChild_74 : decode cX6_drawChild 74 = .ok (.istore 7, 2) := by decide +kernel
theorem dX6_drawChild_76 : decode cX6_drawChild 76 = .ok (.iload 7, 2) := by decide +kernel
theorem dX6_drawChild_78 : decode cX6_drawChild 78 = .ok (.bipush 6, 2) := by decide +kernel
theorem dX6_drawChild_80 : decode cX6_drawChild 80 = .ok (.if_icmp .ge 31, 3) := by decide +kernel
theorem dX6_drawChild_83 : decode cX6_drawChild 83 = .ok (.iload 6, 2) := by decide +kernel
theorem dX6_drawChild_85 : decode cX6_drawChild 85 = .ok (.iload 7, 2) := by decide +kernel
theorem dX6_drawChild_87 : decode cX6_drawChild 87 = .ok (.invokestatic 79, 3) := by decide +kernel
theorem dX6_drawChild_90 : decode cX6_drawChild 90 = .ok (.ifCond .eq 15, 3) := by decide +kernel
theorem dX6_drawChild_93 : decode cX6_drawChild 93 = .ok (.aload_n 0, 1) := by decide +kernel
theorem dX6_drawChild_94 : decode cX6_drawChild 94 = .ok (.iload 4, 2) := by decide +kernel
theorem dX6_drawChild_96 : decode cX6_drawChild 96 = .ok (.iload_n 3, 1) := by decide +kernel
theorem dX6_drawChild_97 : decode cX6_drawChild 97 = .ok (.iload 7, 2) := by decide +kernel
theorem dX6_drawChild_99 : decode cX6_drawChild 99 = .ok (.invokestatic 82, 3) := by decide +kernel
theorem dX6_drawChild_102 : decode cX6_drawChild 102 = .ok (.invokevirtual 86, 3) := by decide +kernel
theorem dX6_drawChild_105 : decode cX6_drawChild 105 = .ok (.iinc 7 1, 3) := by decide +kernel
theorem dX6_drawChild_108 : decode cX6_drawChild 108 = .ok (.goto (-32), 3) := by decide +kernel
theorem dX6_drawChild_111 : decode cX6_drawChild 111 = .ok (.return_, 1) := by decide +kernel
theorem dX6_drawEquations_0 : decode cX6_drawEquations 0 = .ok (.aload_n 0, 1) := by decide +kernel
theorem dX6_drawEquations_1 : decode cX6_drawEquations 1 = .ok (.getfield 22, 3) := by decide +kernel
theorem dX6_drawEquations_4 : decode cX6_drawEquations 4 = .ok (.iload_n 1, 1) := by decide +kernel
theorem dX6_drawEquations_5 : decode cX6_drawEquations 5 = .ok (.iload_n 2, 1) := by decide +kernel
theorem dX6_drawEquations_6 : decode cX6_drawEquations 6 = .ok (.iload_n 3, 1) := by decide +kernel
theorem dX6_drawEquations_7 : decode cX6_drawEquations 7 = .ok (.invokevirtual 93, 3) := by decide +kernel
theorem dX6_drawEquations_10 : decode cX6_drawEquations 10 = .ok (.iconst (-1), 1) := by decide +kernel
theorem dX6_drawEquations_11 : decode cX6_drawEquations 11 = .ok (.if_icmp .ne 5, 3) := by decide +kernel
theorem dX6_drawEquations_14 : decode cX6_drawEquations 14 = .ok (.iconst 0, 1) := by decide +kernel
theorem dX6_drawEquations_15 : decode cX6_drawEquations 15 = .ok (.ireturn, 1) := by decide +kernel
theorem dX6_drawEquations_16 : decode cX6_drawEquations 16 = .ok (.aload_n 0, 1) := by decide +kernel
theorem dX6_drawEquations_17 : decode cX6_drawEquations 17 = .ok (.getfield 22, 3) := by decide +kernel
theorem dX6_drawEquations_20 : decode cX6_drawEquations 20 = .ok (.iload_n 1, 1) := by decide +kernel
theorem dX6_drawEquations_21 : decode cX6_drawEquations 21 = .ok (.iload_n 2, 1) := by decide +kernel
theorem dX6_drawEquations_22 : decode cX6_drawEquations 22 = .ok (.iload_n 3, 1) := by decide +kernel
theorem dX6_drawEquations_23 : decode cX6_drawEquations 23 = .ok (.invokevirtual 99, 3) := by decide +kernel
theorem dX6_drawEquations_26 : decode cX6_drawEquations 26 = .ok (.istore 4, 2) := by decide +kernel
theorem dX6_drawEquations_28 : decode cX6_drawEquations 28 = .ok (.aload_n 0, 1) := by decide +kernel
theorem dX6_drawEquations_29 : decode cX6_drawEquations 29 = .ok (.getfield 26, 3) := by decide +kernel
theorem dX6_drawEquations_32 : decode cX6_drawEquations 32 = .ok (.iload_n 1, 1) := by decide +kernel
theorem dX6_drawEquations_33 : decode cX6_drawEquations 33 = .ok (.iload 4, 2) := by decide +kernel
theorem dX6_drawEquations_35 : decode cX6_drawEquations 35 = .ok (.invokevirtual 102, 3) := by decide +kernel
theorem dX6_drawEquations_38 : decode cX6_drawEquations 38 = .ok (.istore 5, 2) := by decide +kernel
theorem dX6_drawEquations_40 : decode cX6_drawEquations 40 = .ok (.aload_n 0, 1) := by decide +kernel
theorem dX6_drawEquations_41 : decode cX6_drawEquations 41 = .ok (.getfield 26, 3) := by decide +kernel
theorem dX6_drawEquations_44 : decode cX6_drawEquations 44 = .ok (.iload_n 1, 1) := by decide +kernel
theorem dX6_drawEquations_45 : decode cX6_drawEquations 45 = .ok (.iload 4, 2) := by decide +kernel
theorem dX6_drawEquations_47 : decode cX6_drawEquations 47 = .ok (.iload_n 3, 1) := by decide +kernel
theorem dX6_drawEquations_48 : decode cX6_drawEquations 48 = .ok (.invokevirtual 107, 3) := by decide +kernel
theorem dX6_drawEquations_51 : decode cX6_drawEquations 51 = .ok (.istore 6, 2) := by decide +kernel
theorem dX6_drawEquations_53 : decode cX6_drawEquations 53 = .ok (.iconst 0, 1) := by decide +kernel
theorem dX6_drawEquations_54 : decode cX6_drawEquations 54 = .ok (.istore 7, 2) := by decide +kernel
theorem dX6_drawEquations_56 : decode cX6_drawEquations 56 = .ok (.iload 7, 2) := by decide +kernel
theorem dX6_drawEquations_58 : decode cX6_drawEquations 58 = .ok (.aload_n 0, 1) := by decide +kernel
theorem dX6_drawEquations_59 : decode cX6_drawEquations 59 = .ok (.getfield 22, 3) := by decide +kernel
theorem dX6_drawEquations_62 : decode cX6_drawEquations 62 = .ok (.getfield 110, 3) := by decide +kernel
theorem dX6_drawEquations_65 : decode cX6_drawEquations 65 = .ok (.if_icmp .ge 64, 3) := by decide +kernel
theorem dX6_drawEquations_68 : decode cX6_drawEquations 68 = .ok (.aload_n 0, 1) := by decide +kernel
theorem dX6_drawEquations_69 : decode cX6_drawEquations 69 = .ok (.getfield 22, 3) := by decide +kernel
theorem dX6_drawEquations_72 : decode cX6_drawEquations 72 = .ok (.iload 7, 2) := by decide +kernel
theorem dX6_drawEquations_74 : decode cX6_drawEquations 74 = .ok (.invokevirtual 113, 3) := by decide +kernel
theorem dX6_drawEquations_77 : decode cX6_drawEquations 77 = .ok (.astore 8, 2) := by decide +kernel
theorem dX6_drawEquations_79 : decode cX6_drawEquations 79 = .ok (.aload 8, 2) := by decide +kernel
theorem dX6_drawEquations_81 : decode cX6_drawEquations 81 = .ok (.ifnull 42, 3) := by decide +kernel
theorem dX6_drawEquations_84 : decode cX6_drawEquations 84 = .ok (.aload_n 0, 1) := by decide +kernel
theorem dX6_drawEquations_85 : decode cX6_drawEquations 85 = .ok (.getfield 22, 3) := by decide +kernel
theorem dX6_drawEquations_88 : decode cX6_drawEquations 88 = .ok (.aload 8, 2) := by decide +kernel
theorem dX6_drawEquations_90 : decode cX6_drawEquations 90 = .ok (.invokevirtual 117, 3) := by decide +kernel
theorem dX6_drawEquations_93 : decode cX6_drawEquations 93 = .ok (.ifCond .eq 30, 3) := by decide +kernel
theorem dX6_drawEquations_96 : decode cX6_drawEquations 96 = .ok (.aload 8, 2) := by decide +kernel
theorem dX6_drawEquations_98 : decode cX6_drawEquations 98 = .ok (.iload 5, 2) := by decide +kernel
theorem dX6_drawEquations_100 : decode cX6_drawEquations 100 = .ok (.iload_n 2, 1) := by decide +kernel
theorem dX6_drawEquations_101 : decode cX6_drawEquations 101 = .ok (.iload 6, 2) := by decide +kernel
theorem dX6_drawEquations_103 : decode cX6_drawEquations 103 = .ok (.invokevirtual 121, 3) := by decide +kernel
theorem dX6_drawEquations_106 : decode cX6_drawEquations 106 = .ok (.ifCond .eq 17, 3) := by decide +kernel
theorem dX6_drawEquations_109 : decode cX6_drawEquations 109 = .ok (.aload_n 0, 1) := by decide +kernel
theorem dX6_drawEquations_110 : decode cX6_drawEquations 110 = .ok (.aload 8, 2) := by decide +kernel
theorem dX6_drawEquations_112 : decode cX6_drawEquations 112 = .ok (.iload_n 1, 1) := by decide +kernel
theorem dX6_drawEquations_113 : decode cX6_drawEquations 113 = .ok (.iload 4, 2) := by decide +kernel
theorem dX6_drawEquations_115 : decode cX6_drawEquations 115 = .ok (.iload_n 3, 1) := by decide +kernel
theorem dX6_drawEquations_116 : decode cX6_drawEquations 116 = .ok (.iload_n 2, 1) := by decide +kernel
theorem dX6_drawEquations_117 : decode cX6_drawEquations 117 = .ok (.invokestatic 82, 3) := by decide +kernel
theorem dX6_drawEquations_120 : decode cX6_drawEquations 120 = .ok (.invokevirtual 126, 3) := by decide +kernel
theorem dX6_drawEquations_123 : decode cX6_drawEquations 123 = .ok (.iinc 7 1, 3) := by decide +kernel
theorem dX6_drawEquations_126 : decode cX6_drawEquations 126 = .ok (.goto (-70), 3) := by decide +kernel
theorem dX6_drawEquations_129 : decode cX6_drawEquations 129 = .ok (.iconst 1, 1) := by decide +kernel
theorem dX6_drawEquations_130 : decode cX6_drawEquations 130 = .ok (.ireturn, 1) := by decide +kernel
theorem dX6_drawSteps_0 : decode cX6_drawSteps 0 = .ok (.iconst 0, 1) := by decide +kernel
theorem dX6_drawSteps_1 : decode cX6_drawSteps 1 = .ok (.istore 5, 2) := by decide +kernel
theorem dX6_drawSteps_3 : decode cX6_drawSteps 3 = .ok (.iload 5, 2) := by decide +kernel
theorem dX6_drawSteps_5 : decode cX6_drawSteps 5 = .ok (.aload_n 1, 1) := by decide +kernel
theorem dX6_drawSteps_6 : decode cX6_drawSteps 6 = .ok (.getfield 130, 3) := by decide +kernel
theorem dX6_drawSteps_9 : decode cX6_drawSteps 9 = .ok (.if_icmp .ge 115, 3) := by decide +kernel
theorem dX6_drawSteps_12 : decode cX6_drawSteps 12 = .ok (.aload_n 1, 1) := by decide +kernel
theorem dX6_drawSteps_13 : decode cX6_drawSteps 13 = .ok (.iload 5, 2) := by decide +kernel
theorem dX6_drawSteps_15 : decode cX6_drawSteps 15 = .ok (.invokevirtual 133, 3) := by decide +kernel
theorem dX6_drawSteps_18 : decode cX6_drawSteps 18 = .ok (.istore 6, 2) := by decide +kernel
theorem dX6_drawSteps_20 : decode cX6_drawSteps 20 = .ok (.aload_n 1, 1) := by decide +kernel
theorem dX6_drawSteps_21 : decode cX6_drawSteps 21 = .ok (.iload 5, 2) := by decide +kernel
theorem dX6_drawSteps_23 : decode cX6_drawSteps 23 = .ok (.invokevirtual 134, 3) := by decide +kernel
theorem dX6_drawSteps_26 : decode cX6_drawSteps 26 = .ok (.istore 7, 2) := by decide +kernel
theorem dX6_drawSteps_28 : decode cX6_drawSteps 28 = .ok (.iload 6, 2) := by decide +kernel
theorem dX6_drawSteps_30 : decode cX6_drawSteps 30 = .ok (.iconst 2, 1) := by decide +kernel
theorem dX6_drawSteps_31 : decode cX6_drawSteps 31 = .ok (.if_icmp .ne 21, 3) := by decide +kernel
theorem dX6_drawSteps_34 : decode cX6_drawSteps 34 = .ok (.aload_n 0, 1) := by decide +kernel
theorem dX6_drawSteps_35 : decode cX6_drawSteps 35 = .ok (.getfield 26, 3) := by decide +kernel
theorem dX6_drawSteps_38 : decode cX6_drawSteps 38 = .ok (.iload_n 2, 1) := by decide +kernel
theorem dX6_drawSteps_39 : decode cX6_drawSteps 39 = .ok (.iload_n 3, 1) := by decide +kernel
theorem dX6_drawSteps_40 : decode cX6_drawSteps 40 = .ok (.aload_n 1, 1) := by decide +kernel
theorem dX6_drawSteps_41 : decode cX6_drawSteps 41 = .ok (.iload 5, 2) := by decide +kernel
theorem dX6_drawSteps_43 : decode cX6_drawSteps 43 = .ok (.invokevirtual 137, 3) := by decide +kernel
theorem dX6_drawSteps_46 : decode cX6_drawSteps 46 = .ok (.invokevirtual 140, 3) := by decide +kernel
theorem dX6_drawSteps_49 : decode cX6_drawSteps 49 = .ok (.goto 4, 3) := by decide +kernel
theorem dX6_drawSteps_52 : decode cX6_drawSteps 52 = .ok (.iconst (-1), 1) := by decide +kernel
theorem dX6_drawSteps_53 : decode cX6_drawSteps 53 = .ok (.istore 8, 2) := by decide +kernel
theorem dX6_drawSteps_55 : decode cX6_drawSteps 55 = .ok (.iload 6, 2) := by decide +kernel
theorem dX6_drawSteps_57 : decode cX6_drawSteps 57 = .ok (.iconst 1, 1) := by decide +kernel
theorem dX6_drawSteps_58 : decode cX6_drawSteps 58 = .ok (.if_icmp .eq 15, 3) := by decide +kernel
theorem dX6_drawSteps_61 : decode cX6_drawSteps 61 = .ok (.iload 6, 2) := by decide +kernel
theorem dX6_drawSteps_63 : decode cX6_drawSteps 63 = .ok (.iconst 2, 1) := by decide +kernel
theorem dX6_drawSteps_64 : decode cX6_drawSteps 64 = .ok (.if_icmp .ne 13, 3) := by decide +kernel
theorem dX6_drawSteps_67 : decode cX6_drawSteps 67 = .ok (.iload 8, 2) := by decide +kernel
theorem dX6_drawSteps_69 : decode cX6_drawSteps 69 = .ok (.iconst (-1), 1) := by decide +kernel
theorem dX6_drawSteps_70 : decode cX6_drawSteps 70 = .ok (.if_icmp .eq 7, 3) := by decide +kernel
theorem dX6_drawSteps_73 : decode cX6_drawSteps 73 = .ok (.iconst 1, 1) := by decide +kernel
theorem dX6_drawSteps_74 : decode cX6_drawSteps 74 = .ok (.goto 4, 3) := by decide +kernel
theorem dX6_drawSteps_77 : decode cX6_drawSteps 77 = .ok (.iconst 0, 1) := by decide +kernel
theorem dX6_drawSteps_78 : decode cX6_drawSteps 78 = .ok (.istore 9, 2) := by decide +kernel
theorem dX6_drawSteps_80 : decode cX6_drawSteps 80 = .ok (.iload 9, 2) := by decide +kernel
theorem dX6_drawSteps_82 : decode cX6_drawSteps 82 = .ok (.ifCond .eq 36, 3) := by decide +kernel
theorem dX6_drawSteps_85 : decode cX6_drawSteps 85 = .ok (.aload_n 0, 1) := by decide +kernel
theorem dX6_drawSteps_86 : decode cX6_drawSteps 86 = .ok (.iload 7, 2) := by decide +kernel
theorem dX6_drawSteps_88 : decode cX6_drawSteps 88 = .ok (.iconst 0, 1) := by decide +kernel
theorem dX6_drawSteps_89 : decode cX6_drawSteps 89 = .ok (.invokevirtual 64, 3) := by decide +kernel
theorem dX6_drawSteps_92 : decode cX6_drawSteps 92 = .ok (.ifCond .ne 13, 3) := by decide +kernel
theorem dX6_drawSteps_95 : decode cX6_drawSteps 95 = .ok (.aload_n 0, 1) := by decide +kernel
theorem dX6_drawSteps_96 : decode cX6_drawSteps 96 = .ok (.iload 7, 2) := by decide +kernel
theorem dX6_drawSteps_98 : decode cX6_drawSteps 98 = .ok (.iconst 1, 1) := by decide +kernel
theorem dX6_drawSteps_99 : decode cX6_drawSteps 99 = .ok (.invokevirtual 64, 3) := by decide +kernel
theorem dX6_drawSteps_102 : decode cX6_drawSteps 102 = .ok (.ifCond .eq 16, 3) := by decide +kernel
theorem dX6_drawSteps_105 : decode cX6_drawSteps 105 = .ok (.aload_n 0, 1) := by decide +kernel
theorem dX6_drawSteps_106 : decode cX6_drawSteps 106 = .ok (.iload 4, 2) := by decide +kernel
theorem dX6_drawSteps_108 : decode cX6_drawSteps 108 = .ok (.iload 8, 2) := by decide +kernel
theorem dX6_drawSteps_110 : decode cX6_drawSteps 110 = .ok (.iload 7, 2) := by decide +kernel
theorem dX6_drawSteps_112 : decode cX6_drawSteps 112 = .ok (.invokestatic 82, 3) := by decide +kernel
theorem dX6_drawSteps_115 : decode cX6_drawSteps 115 = .ok (.invokevirtual 86, 3) := by decide +kernel
theorem dX6_drawSteps_118 : decode cX6_drawSteps 118 = .ok (.iinc 5 1, 3) := by decide +kernel
theorem dX6_drawSteps_121 : decode cX6_drawSteps 121 = .ok (.goto (-118), 3) := by decide +kernel
theorem dX6_drawSteps_124 : decode cX6_drawSteps 124 = .ok (.return_, 1) := by decide +kernel
theorem dX6_tellRelations_0 : decode cX6_tellRelations 0 = .ok (.aload_n 0, 1) := by decide +kernel
theorem dX6_tellRelations_1 : decode cX6_tellRelations 1 = .ok (.getfield 18, 3) := by decide +kernel
theorem dX6_tellRelations_4 : decode cX6_tellRelations 4 = .ok (.iload_n 1, 1) := by decide +kernel
theorem dX6_tellRelations_5 : decode cX6_tellRelations 5 = .ok (.invokevirtual 143, 3) := by decide +kernel
theorem dX6_tellRelations_8 : decode cX6_tellRelations 8 = .ok (.istore_n 2, 1) := by decide +kernel
theorem dX6_tellRelations_9 : decode cX6_tellRelations 9 = .ok (.iconst 0, 1) := by decide +kernel
theorem dX6_tellRelations_10 : decode cX6_tellRelations 10 = .ok (.istore_n 3, 1) := by decide +kernel
theorem dX6_tellRelations_11 : decode cX6_tellRelations 11 = .ok (.iconst 0, 1) := by decide +kernel
theorem dX6_tellRelations_12 : decode cX6_tellRelations 12 = .ok (.istore 4, 2) := by decide +kernel
theorem dX6_tellRelations_14 : decode cX6_tellRelations 14 = .ok (.iload 4, 2) := by decide +kernel
theorem dX6_tellRelations_16 : decode cX6_tellRelations 16 = .ok (.bipush 6, 2) := by decide +kernel
theorem dX6_tellRelations_18 : decode cX6_tellRelations 18 = .ok (.if_icmp .ge 92, 3) := by decide +kernel
theorem dX6_tellRelations_21 : decode cX6_tellRelations 21 = .ok (.iload_n 2, 1) := by decide +kernel
theorem dX6_tellRelations_22 : decode cX6_tellRelations 22 = .ok (.bipush 6, 2) := by decide +kernel
theorem dX6_tellRelations_24 : decode cX6_tellRelations 24 = .ok (.imul, 1) := by decide +kernel
theorem dX6_tellRelations_25 : decode cX6_tellRelations 25 = .ok (.iload 4, 2) := by decide +kernel
theorem dX6_tellRelations_27 : decode cX6_tellRelations 27 = .ok (.iadd, 1) := by decide +kernel
theorem dX6_tellRelations_28 : decode cX6_tellRelations 28 = .ok (.istore 5, 2) := by decide +kernel
theorem dX6_tellRelations_30 : decode cX6_tellRelations 30 = .ok (.aload_n 0, 1) := by decide +kernel
theorem dX6_tellRelations_31 : decode cX6_tellRelations 31 = .ok (.getfield 15, 3) := by decide +kernel
theorem dX6_tellRelations_34 : decode cX6_tellRelations 34 = .ok (.iload 5, 2) := by decide +kernel
theorem dX6_tellRelations_36 : decode cX6_tellRelations 36 = .ok (.invokestatic 52, 3) := by decide +kernel
theorem dX6_tellRelations_39 : decode cX6_tellRelations 39 = .ok (.istore 6, 2) := by decide +kernel
theorem dX6_tellRelations_41 : decode cX6_tellRelations 41 = .ok (.aload_n 0, 1) := by decide +kernel
theorem dX6_tellRelations_42 : decode cX6_tellRelations 42 = .ok (.iload 4, 2) := by decide +kernel
theorem dX6_tellRelations_44 : decode cX6_tellRelations 44 = .ok (.iconst 0, 1) := by decide +kernel
theorem dX6_tellRelations_45 : decode cX6_tellRelations 45 = .ok (.invokevirtual 64, 3) := by decide +kernel
theorem dX6_tellRelations_48 : decode cX6_tellRelations 48 = .ok (.ifCond .eq 19, 3) := by decide +kernel
theorem dX6_tellRelations_51 : decode cX6_tellRelations 51 = .ok (.aload_n 0, 1) := by decide +kernel
theorem dX6_tellRelations_52 : decode cX6_tellRelations 52 = .ok (.aload_n 0, 1) := by decide +kernel
theorem dX6_tellRelations_53 : decode cX6_tellRelations 53 = .ok (.getfield 11, 3) := by decide +kernel
theorem dX6_tellRelations_56 : decode cX6_tellRelations 56 = .ok (.iload 4, 2) := by decide +kernel
theorem dX6_tellRelations_58 : decode cX6_tellRelations 58 = .ok (.invokestatic 52, 3) := by decide +kernel
theorem dX6_tellRelations_61 : decode cX6_tellRelations 61 = .ok (.invokevirtual 146, 3) := by decide +kernel
theorem dX6_tellRelations_64 : decode cX6_tellRelations 64 = .ok (.goto 4, 3) := by decide +kernel
theorem dX6_tellRelations_67 : decode cX6_tellRelations 67 = .ok (.iconst 0, 1) := by decide +kernel
theorem dX6_tellRelations_68 : decode cX6_tellRelations 68 = .ok (.istore 7, 2) := by decide +kernel
theorem dX6_tellRelations_70 : decode cX6_tellRelations 70 = .ok (.aload_n 0, 1) := by decide +kernel
theorem dX6_tellRelations_71 : decode cX6_tellRelations 71 = .ok (.getfield 15, 3) := by decide +kernel
theorem dX6_tellRelations_74 : decode cX6_tellRelations 74 = .ok (.iload 5, 2) := by decide +kernel
theorem dX6_tellRelations_76 : decode cX6_tellRelations 76 = .ok (.iload 6, 2) := by decide +kernel
theorem dX6_tellRelations_78 : decode cX6_tellRelations 78 = .ok (.iload 7, 2) := by decide +kernel
theorem dX6_tellRelations_80 : decode cX6_tellRelations 80 = .ok (.ior, 1) := by decide +kernel
theorem dX6_tellRelations_81 : decode cX6_tellRelations 81 = .ok (.invokestatic 56, 3) := by decide +kernel
theorem dX6_tellRelations_84 : decode cX6_tellRelations 84 = .ok (.iload_n 3, 1) := by decide +kernel
theorem dX6_tellRelations_85 : decode cX6_tellRelations 85 = .ok (.ifCond .ne 13, 3) := by decide +kernel
theorem dX6_tellRelations_88 : decode cX6_tellRelations 88 = .ok (.iload 6, 2) := by decide +kernel
theorem dX6_tellRelations_90 : decode cX6_tellRelations 90 = .ok (.iload 7, 2) := by decide +kernel
theorem dX6_tellRelations_92 : decode cX6_tellRelations 92 = .ok (.ior, 1) := by decide +kernel
theorem dX6_tellRelations_93 : decode cX6_tellRelations 93 = .ok (.iload 6, 2) := by decide +kernel
theorem dX6_tellRelations_95 : decode cX6_tellRelations 95 = .ok (.if_icmp .eq 7, 3) := by decide +kernel
theorem dX6_tellRelations_98 : decode cX6_tellRelations 98 = .ok (.iconst 1, 1) := by decide +kernel
theorem dX6_tellRelations_99 : decode cX6_tellRelations 99 = .ok (.goto 4, 3) := by decide +kernel
theorem dX6_tellRelations_102 : decode cX6_tellRelations 102 = .ok (.iconst 0, 1) := by decide +kernel
theorem dX6_tellRelations_103 : decode cX6_tellRelations 103 = .ok (.istore_n 3, 1) := by decide +kernel
theorem dX6_tellRelations_104 : decode cX6_tellRelations 104 = .ok (.iinc 4 1, 3) := by decide +kernel
theorem dX6_tellRelations_107 : decode cX6_tellRelations 107 = .ok (.goto (-93), 3) := by decide +kernel
theorem dX6_tellRelations_110 : decode cX6_tellRelations 110 = .ok (.iload_n 3, 1) := by decide +kernel
theorem dX6_tellRelations_111 : decode cX6_tellRelations 111 = .ok (.ireturn, 1) := by decide +kernel
theorem dX6_downsOf_0 : decode cX6_downsOf 0 = .ok (.iconst 0, 1) := by decide +kernel
theorem dX6_downsOf_1 : decode cX6_downsOf 1 = .ok (.istore_n 2, 1) := by decide +kernel
theorem dX6_downsOf_2 : decode cX6_downsOf 2 = .ok (.iconst 0, 1) := by decide +kernel
theorem dX6_downsOf_3 : decode cX6_downsOf 3 = .ok (.istore_n 3, 1) := by decide +kernel
theorem dX6_downsOf_4 : decode cX6_downsOf 4 = .ok (.iload_n 3, 1) := by decide +kernel
theorem dX6_downsOf_5 : decode cX6_downsOf 5 = .ok (.bipush 6, 2) := by decide +kernel
theorem dX6_downsOf_7 : decode cX6_downsOf 7 = .ok (.if_icmp .ge 30, 3) := by decide +kernel
theorem dX6_downsOf_10 : decode cX6_downsOf 10 = .ok (.iload_n 2, 1) := by decide +kernel
theorem dX6_downsOf_11 : decode cX6_downsOf 11 = .ok (.aload_n 0, 1) := by decide +kernel
theorem dX6_downsOf_12 : decode cX6_downsOf 12 = .ok (.iload_n 3, 1) := by decide +kernel
theorem dX6_downsOf_13 : decode cX6_downsOf 13 = .ok (.iconst 1, 1) := by decide +kernel
theorem dX6_downsOf_14 : decode cX6_downsOf 14 = .ok (.invokevirtual 64, 3) := by decide +kernel
theorem dX6_downsOf_17 : decode cX6_downsOf 17 = .ok (.ifCond .eq 11, 3) := by decide +kernel
theorem dX6_downsOf_20 : decode cX6_downsOf 20 = .ok (.iload_n 1, 1) := by decide +kernel
theorem dX6_downsOf_21 : decode cX6_downsOf 21 = .ok (.iconst 1, 1) := by decide +kernel
theorem dX6_downsOf_22 : decode cX6_downsOf 22 = .ok (.iload_n 3, 1) := by decide +kernel
theorem dX6_downsOf_23 : decode cX6_downsOf 23 = .ok (.ishl, 1) := by decide +kernel
theorem dX6_downsOf_24 : decode cX6_downsOf 24 = .ok (.iand, 1) := by decide +kernel
theorem dX6_downsOf_25 : decode cX6_downsOf 25 = .ok (.goto 4, 3) := by decide +kernel
theorem dX6_downsOf_28 : decode cX6_downsOf 28 = .ok (.iconst 0, 1) := by decide +kernel
theorem dX6_downsOf_29 : decode cX6_downsOf 29 = .ok (.ior, 1) := by decide +kernel
theorem dX6_downsOf_30 : decode cX6_downsOf 30 = .ok (.istore_n 2, 1) := by decide +kernel
theorem dX6_downsOf_31 : decode cX6_downsOf 31 = .ok (.iinc 3 1, 3) := by decide +kernel
theorem dX6_downsOf_34 : decode cX6_downsOf 34 = .ok (.goto (-30), 3) := by decide +kernel
theorem dX6_downsOf_37 : decode cX6_downsOf 37 = .ok (.iload_n 2, 1) := by decide +kernel
theorem dX6_downsOf_38 : decode cX6_downsOf 38 = .ok (.ireturn, 1) := by decide +kernel
theorem dX6_hasRing_0 : decode cX6_hasRing 0 = .ok (.iconst 0, 1) := by decide +kernel
theorem dX6_hasRing_1 : decode cX6_hasRing 1 = .ok (.istore_n 1, 1) := by decide +kernel
theorem dX6_hasRing_2 : decode cX6_hasRing 2 = .ok (.iload_n 1, 1) := by decide +kernel
theorem dX6_hasRing_3 : decode cX6_hasRing 3 = .ok (.bipush 24, 2) := by decide +kernel
theorem dX6_hasRing_5 : decode cX6_hasRing 5 = .ok (.if_icmp .ge 26, 3) := by decide +kernel
theorem dX6_hasRing_8 : decode cX6_hasRing 8 = .ok (.aload_n 0, 1) := by decide +kernel
theorem dX6_hasRing_9 : decode cX6_hasRing 9 = .ok (.getfield 11, 3) := by decide +kernel
theorem dX6_hasRing_12 : decode cX6_hasRing 12 = .ok (.iload_n 1, 1) := by decide +kernel
theorem dX6_hasRing_13 : decode cX6_hasRing 13 = .ok (.invokestatic 52, 3) := by decide +kernel
theorem dX6_hasRing_16 : decode cX6_hasRing 16 = .ok (.iload_n 1, 1) := by decide +kernel
theorem dX6_hasRing_17 : decode cX6_hasRing 17 = .ok (.invokestatic 79, 3) := by decide +kernel
theorem dX6_hasRing_20 : decode cX6_hasRing 20 = .ok (.ifCond .eq 5, 3) := by decide +kernel
theorem dX6_hasRing_23 : decode cX6_hasRing 23 = .ok (.iconst 1, 1) := by decide +kernel
theorem dX6_hasRing_24 : decode cX6_hasRing 24 = .ok (.ireturn, 1) := by decide +kernel
theorem dX6_hasRing_25 : decode cX6_hasRing 25 = .ok (.iinc 1 1, 3) := by decide +kernel
theorem dX6_hasRing_28 : decode cX6_hasRing 28 = .ok (.goto (-26), 3) := by decide +kernel
theorem dX6_hasRing_31 : decode cX6_hasRing 31 = .ok (.iconst 0, 1) := by decide +kernel
theorem dX6_hasRing_32 : decode cX6_hasRing 32 = .ok (.ireturn, 1) := by decide +kernel
theorem dX7_init_0 : decode cX7_init 0 = .ok (.aload_n 0, 1) := by decide +kernel
theorem dX7_init_1 : decode cX7_init 1 = .ok (.invokespecial 3, 3) := by decide +kernel
theorem dX7_init_4 : decode cX7_init 4 = .ok (.aload_n 0, 1) := by decide +kernel
theorem dX7_init_5 : decode cX7_init 5 = .ok (.sipush 180, 3) := by decide +kernel
theorem dX7_init_8 : decode cX7_init 8 = .ok (.newarray .int, 2) := by decide +kernel
theorem dX7_init_10 : decode cX7_init 10 = .ok (.putfield 9, 3) := by decide +kernel
theorem dX7_init_13 : decode cX7_init 13 = .ok (.aload_n 0, 1) := by decide +kernel
theorem dX7_init_14 : decode cX7_init 14 = .ok (.aload_n 1, 1) := by decide +kernel
theorem dX7_init_15 : decode cX7_init 15 = .ok (.putfield 15, 3) := by decide +kernel
theorem dX7_init_18 : decode cX7_init 18 = .ok (.aload_n 0, 1) := by decide +kernel
theorem dX7_init_19 : decode cX7_init 19 = .ok (.aload_n 2, 1) := by decide +kernel
theorem dX7_init_20 : decode cX7_init 20 = .ok (.putfield 19, 3) := by decide +kernel
theorem dX7_init_23 : decode cX7_init 23 = .ok (.aload_n 0, 1) := by decide +kernel
theorem dX7_init_24 : decode cX7_init 24 = .ok (.aload_n 3, 1) := by decide +kernel
theorem dX7_init_25 : decode cX7_init 25 = .ok (.putfield 23, 3) := by decide +kernel
theorem dX7_init_28 : decode cX7_init 28 = .ok (.aload_n 0, 1) := by decide +kernel
theorem dX7_init_29 : decode cX7_init 29 = .ok (.aload 4, 2) := by decide +kernel
theorem dX7_init_31 : decode cX7_init 31 = .ok (.putfield 27, 3) := by decide +kernel
theorem dX7_init_34 : decode cX7_init 34 = .ok (.aload_n 0, 1) := by decide +kernel
theorem dX7_init_35 : decode cX7_init 35 = .ok (.aload 5, 2) := by decide +kernel
theorem dX7_init_37 : decode cX7_init 37 = .ok (.putfield 31, 3) := by decide +kernel
theorem dX7_init_40 : decode cX7_init 40 = .ok (.return_, 1) := by decide +kernel
theorem dX7_forget_0 : decode cX7_forget 0 = .ok (.aload_n 0, 1) := by decide +kernel
theorem dX7_forget_1 : decode cX7_forget 1 = .ok (.iconst 0, 1) := by decide +kernel
theorem dX7_forget_2 : decode cX7_forget 2 = .ok (.putfield 34, 3) := by decide +kernel
theorem dX7_forget_5 : decode cX7_forget 5 = .ok (.return_, 1) := by decide +kernel
theorem dX7_valueOf_0 : decode cX7_valueOf 0 = .ok (.aload_n 0, 1) := by decide +kernel
theorem dX7_valueOf_1 : decode cX7_valueOf 1 = .ok (.getfield 31, 3) := by decide +kernel
theorem dX7_valueOf_4 : decode cX7_valueOf 4 = .ok (.iload_n 1, 1) := by decide +kernel
theorem dX7_valueOf_5 : decode cX7_valueOf 5 = .ok (.invokestatic 38, 3) := by decide +kernel
theorem dX7_valueOf_8 : decode cX7_valueOf 8 = .ok (.ireturn, 1) := by decide +kernel
theorem dX7_settle_0 : decode cX7_settle 0 = .ok (.aload_n 0, 1) := by decide +kernel
theorem dX7_settle_1 : decode cX7_settle 1 = .ok (.getfield 34, 3) := by decide +kernel
theorem dX7_settle_4 : decode cX7_settle 4 = .ok (.ifCond .eq 4, 3) := by decide +kernel
theorem dX7_settle_7 : decode cX7_settle 7 = .ok (.return_, 1) := by decide +kernel
theorem dX7_settle_8 : decode cX7_settle 8 = .ok (.aload_n 0, 1) := by decide +kernel
theorem dX7_settle_9 : decode cX7_settle 9 = .ok (.iconst 1, 1) := by decide +kernel
theorem dX7_settle_10 : decode cX7_settle 10 = .ok (.putfield 34, 3) := by decide +kernel
theorem dX7_settle_13 : decode cX7_settle 13 = .ok (.aload_n 0, 1) := by decide +kernel
theorem dX7_settle_14 : decode cX7_settle 14 = .ok (.getfield 31, 3) := by decide +kernel
theorem dX7_settle_17 : decode cX7_settle 17 = .ok (.iconst 0, 1) := by decide +kernel
theorem dX7_settle_18 : decode cX7_settle 18 = .ok (.invokestatic 42, 3) := by decide +kernel
theorem dX7_settle_21 : decode cX7_settle 21 = .ok (.aload_n 0, 1) := by decide +kernel
theorem dX7_settle_22 : decode cX7_settle 22 = .ok (.getfield 9, 3) := by decide +kernel
theorem dX7_settle_25 : decode cX7_settle 25 = .ok (.iconst 0, 1) := by decide +kernel
theorem dX7_settle_26 : decode cX7_settle 26 = .ok (.invokestatic 42, 3) := by decide +kernel
theorem dX7_settle_29 : decode cX7_settle 29 = .ok (.iconst 0, 1) := by decide +kernel
theorem dX7_settle_30 : decode cX7_settle 30 = .ok (.istore_n 1, 1) := by decide +kernel
theorem dX7_settle_31 : decode cX7_settle 31 = .ok (.iload_n 1, 1) := by decide +kernel
theorem dX7_settle_32 : decode cX7_settle 32 = .ok (.bipush 30, 2) := by decide +kernel
theorem dX7_settle_34 : decode cX7_settle 34 = .ok (.if_icmp .ge 17, 3) := by decide +kernel
theorem dX7_settle_37 : decode cX7_settle 37 = .ok (.aload_n 0, 1) := by decide +kernel
theorem dX7_settle_38 : decode cX7_settle 38 = .ok (.invokevirtual 46, 3) := by decide +kernel
theorem dX7_settle_41 : decode cX7_settle 41 = .ok (.ifCond .ne 4, 3) := by decide +kernel
theorem dX7_settle_44 : decode cX7_settle 44 = .ok (.return_, 1) := by decide +kernel
theorem dX7_settle_45 : decode cX7_settle 45 = .ok (.iinc 1 1, 3) := by decide +kernel
theorem dX7_settle_48 : decode cX7_settle 48 = .ok (.goto (-17), 3) := by decide +kernel
theorem dX7_settle_51 : decode cX7_settle 51 = .ok (.aload_n 0, 1) := by decide +kernel
theorem dX7_settle_52 : decode cX7_settle 52 = .ok (.getfield 31, 3) := by decide +kernel
theorem dX7_settle_55 : decode cX7_settle 55 = .ok (.bipush (-2), 2) := by decide +kernel
theorem dX7_settle_57 : decode cX7_settle 57 = .ok (.invokestatic 42, 3) := by decide +kernel
theorem dX7_settle_60 : decode cX7_settle 60 = .ok (.return_, 1) := by decide +kernel
theorem dX7_goRound_0 : decode cX7_goRound 0 = .ok (.iconst 0, 1) := by decide +kernel
theorem dX7_goRound_1 : decode cX7_goRound 1 = .ok (.istore_n 1, 1) := by decide +kernel
theorem dX7_goRound_2 : decode cX7_goRound 2 = .ok (.aload_n 0, 1) := by decide +kernel
theorem dX7_goRound_3 : decode cX7_goRound 3 = .ok (.getfield 27, 3) := by decide +kernel
theorem dX7_goRound_6 : decode cX7_goRound 6 = .ok (.invokevirtual 50, 3) := by decide +kernel
theorem dX7_goRound_9 : decode cX7_goRound 9 = .ok (.iconst 0, 1) := by decide +kernel
theorem dX7_goRound_10 : decode cX7_goRound 10 = .ok (.istore_n 2, 1) := by decide +kernel
theorem dX7_goRound_11 : decode cX7_goRound 11 = .ok (.iload_n 2, 1) := by decide +kernel
theorem dX7_goRound_12 : decode cX7_goRound 12 = .ok (.aload_n 0, 1) := by decide +kernel
theorem dX7_goRound_13 : decode cX7_goRound 13 = .ok (.getfield 19, 3) := by decide +kernel
theorem dX7_goRound_16 : decode cX7_goRound 16 = .ok (.getfield 55, 3) := by decide +kernel
theorem dX7_goRound_19 : decode cX7_goRound 19 = .ok (.bipush 6, 2) := by decide +kernel
theorem dX7_goRound_21 : decode cX7_goRound 21 = .ok (.imul, 1) := by decide +kernel
theorem dX7_goRound_22 : decode cX7_goRound 22 = .ok (.if_icmp .ge 93, 3) := by decide +kernel
theorem dX7_goRound_25 : decode cX7_goRound 25 = .ok (.aload_n 0, 1) := by decide +kernel
theorem dX7_goRound_26 : decode cX7_goRound 26 = .ok (.getfield 15, 3) := by decide +kernel
theorem dX7_goRound_29 : decode cX7_goRound 29 = .ok (.iload_n 2, 1) := by decide +kernel
theorem dX7_goRound_30 : decode cX7_goRound 30 = .ok (.bipush 6, 2) := by decide +kernel
theorem dX7_goRound_32 : decode cX7_goRound 32 = .ok (.irem, 1) := by decide +kernel
theorem dX7_goRound_33 : decode cX7_goRound 33 = .ok (.invokevirtual 61, 3) := by decide +kernel
theorem dX7_goRound_36 : decode cX7_goRound 36 = .ok (.iconst 3, 1) := by decide +kernel
theorem dX7_goRound_37 : decode cX7_goRound 37 = .ok (.if_icmp .eq 6, 3) := by decide +kernel
theorem dX7_goRound_40 : decode cX7_goRound 40 = .ok (.goto 69, 3) := by decide +kernel
theorem dX7_goRound_43 : decode cX7_goRound 43 = .ok (.aload_n 0, 1) := by decide +kernel
theorem dX7_goRound_44 : decode cX7_goRound 44 = .ok (.getfield 23, 3) := by decide +kernel
theorem dX7_goRound_47 : decode cX7_goRound 47 = .ok (.iload_n 2, 1) := by decide +kernel
theorem dX7_goRound_48 : decode cX7_goRound 48 = .ok (.bipush 6, 2) := by decide +kernel
theorem dX7_goRound_50 : decode cX7_goRound 50 = .ok (.idiv, 1) := by decide +kernel
theorem dX7_goRound_51 : decode cX7_goRound 51 = .ok (.iload_n 2, 1) := by decide +kernel
theorem dX7_goRound_52 : decode cX7_goRound 52 = .ok (.bipush 6, 2) := by decide +kernel
theorem dX7_goRound_54 : decode cX7_goRound 54 = .ok (.irem, 1) := by decide +kernel
theorem dX7_goRound_55 : decode cX7_goRound 55 = .ok (.aload_n 0, 1) := by decide +kernel
theorem dX7_goRound_56 : decode cX7_goRound 56 = .ok (.getfield 27, 3) := by decide +kernel
theorem dX7_goRound_59 : decode cX7_goRound 59 = .ok (.invokevirtual 67, 3) := by decide +kernel
theorem dX7_goRound_62 : decode cX7_goRound 62 = .ok (.istore_n 3, 1) := by decide +kernel
theorem dX7_goRound_63 : decode cX7_goRound 63 = .ok (.aload_n 0, 1) := by decide +kernel
theorem dX7_goRound_64 : decode cX7_goRound 64 = .ok (.getfield 9, 3) := by decide +kernel
theorem dX7_goRound_67 : decode cX7_goRound 67 = .ok (.iload_n 2, 1) := by decide +kernel
theorem dX7_goRound_68 : decode cX7_goRound 68 = .ok (.iload_n 3, 1) := by decide +kernel
theorem dX7_goRound_69 : decode cX7_goRound 69 = .ok (.sipush 1000, 3) := by decide +kernel
theorem dX7_goRound_72 : decode cX7_goRound 72 = .ok (.if_icmp .lt 7, 3) := by decide +kernel
theorem dX7_goRound_75 : decode cX7_goRound 75 = .ok (.iconst (-1), 1) := by decide +kernel
theorem dX7_goRound_76 : decode cX7_goRound 76 = .ok (.goto 4, 3) := by decide +kernel
theorem dX7_goRound_79 : decode cX7_goRound 79 = .ok (.iload_n 3, 1) := by decide +kernel
theorem dX7_goRound_80 : decode cX7_goRound 80 = .ok (.invokestatic 73, 3) := by decide +kernel
theorem dX7_goRound_83 : decode cX7_goRound 83 = .ok (.iload_n 1, 1) := by decide +kernel
theorem dX7_goRound_84 : decode cX7_goRound 84 = .ok (.ifCond .ne 19, 3) := by decide +kernel
theorem dX7_goRound_87 : decode cX7_goRound 87 = .ok (.aload_n 0, 1) := by decide +kernel
theorem dX7_goRound_88 : decode cX7_goRound 88 = .ok (.getfield 9, 3) := by decide +kernel
theorem dX7_goRound_91 : decode cX7_goRound 91 = .ok (.iload_n 2, 1) := by decide +kernel
theorem dX7_goRound_92 : decode cX7_goRound 92 = .ok (.invokestatic 38, 3) := by decide +kernel
theorem dX7_goRound_95 : decode cX7_goRound 95 = .ok (.aload_n 0, 1) := by decide +kernel
theorem dX7_goRound_96 : decode cX7_goRound 96 = .ok (.iload_n 2, 1) := by decide +kernel
theorem dX7_goRound_97 : decode cX7_goRound 97 = .ok (.invokevirtual 77, 3) := by decide +kernel
theorem dX7_goRound_100 : decode cX7_goRound 100 = .ok (.if_icmp .eq 7, 3) := by decide +kernel
theorem dX7_goRound_103 : decode cX7_goRound 103 = .ok (.iconst 1, 1) := by decide +kernel
theorem dX7_goRound_104 : decode cX7_goRound 104 = .ok (.goto 4, 3) := by decide +kernel
theorem dX7_goRound_107 : decode cX7_goRound 107 = .ok (.iconst 0, 1) := by decide +kernel
theorem dX7_goRound_108 : decode cX7_goRound 108 = .ok (.istore_n 1, 1) := by decide +kernel
theorem dX7_goRound_109 : decode cX7_goRound 109 = .ok (.iinc 2 1, 3) := by decide +kernel
theorem dX7_goRound_112 : decode cX7_goRound 112 = .ok (.goto (-101), 3) := by decide +kernel
theorem dX7_goRound_115 : decode cX7_goRound 115 = .ok (.aload_n 0, 1) := by decide +kernel
theorem dX7_goRound_116 : decode cX7_goRound 116 = .ok (.getfield 9, 3) := by decide +kernel
theorem dX7_goRound_119 : decode cX7_goRound 119 = .ok (.aload_n 0, 1) := by decide +kernel
theorem dX7_goRound_120 : decode cX7_goRound 120 = .ok (.getfield 31, 3) := by decide +kernel
theorem dX7_goRound_123 : decode cX7_goRound 123 = .ok (.invokestatic 80, 3) := by decide +kernel
theorem dX7_goRound_126 : decode cX7_goRound 126 = .ok (.iload_n 1, 1) := by decide +kernel
theorem dX7_goRound_127 : decode cX7_goRound 127 = .ok (.ireturn, 1) := by decide +kernel
theorem dX8_init_0 : decode cX8_init 0 = .ok (.aload_n 0, 1) := by decide +kernel
theorem dX8_init_1 : decode cX8_init 1 = .ok (.invokespecial 3, 3) := by decide +kernel
theorem dX8_init_4 : decode cX8_init 4 = .ok (.aload_n 0, 1) := by decide +kernel
theorem dX8_init_5 : decode cX8_init 5 = .ok (.bipush 30, 2) := by decide +kernel
theorem dX8_init_7 : decode cX8_init 7 = .ok (.newarray .int, 2) := by decide +kernel
theorem dX8_init_9 : decode cX8_init 9 = .ok (.putfield 9, 3) := by decide +kernel
theorem dX8_init_12 : decode cX8_init 12 = .ok (.aload_n 0, 1) := by decide +kernel
theorem dX8_init_13 : decode cX8_init 13 = .ok (.bipush 30, 2) := by decide +kernel
theorem dX8_init_15 : decode cX8_init 15 = .ok (.newarray .int, 2) := by decide +kernel
theorem dX8_init_17 : decode cX8_init 17 = .ok (.putfield 15, 3) := by decide +kernel
theorem dX8_init_20 : decode cX8_init 20 = .ok (.aload_n 0, 1) := by decide +kernel
theorem dX8_init_21 : decode cX8_init 21 = .ok (.bipush 30, 2) := by decide +kernel
theorem dX8_init_23 : decode cX8_init 23 = .ok (.newarray .int, 2) := by decide +kernel
theorem dX8_init_25 : decode cX8_init 25 = .ok (.putfield 18, 3) := by decide +kernel
theorem dX8_init_28 : decode cX8_init 28 = .ok (.aload_n 0, 1) := by decide +kernel
theorem dX8_init_29 : decode cX8_init 29 = .ok (.bipush 30, 2) := by decide +kernel
theorem dX8_init_31 : decode cX8_init 31 = .ok (.newarray .int, 2) := by decide +kernel
theorem dX8_init_33 : decode cX8_init 33 = .ok (.putfield 21, 3) := by decide +kernel
theorem dX8_init_36 : decode cX8_init 36 = .ok (.aload_n 0, 1) := by decide +kernel
theorem dX8_init_37 : decode cX8_init 37 = .ok (.bipush 90, 2) := by decide +kernel
theorem dX8_init_39 : decode cX8_init 39 = .ok (.newarray .int, 2) := by decide +kernel
theorem dX8_init_41 : decode cX8_init 41 = .ok (.putfield 24, 3) := by decide +kernel
theorem dX8_init_44 : decode cX8_init 44 = .ok (.aload_n 0, 1) := by decide +kernel
theorem dX8_init_45 : decode cX8_init 45 = .ok (.bipush 30, 2) := by decide +kernel
theorem dX8_init_47 : decode cX8_init 47 = .ok (.newarray .int, 2) := by decide +kernel
theorem dX8_init_49 : decode cX8_init 49 = .ok (.putfield 27, 3) := by decide +kernel
theorem dX8_init_52 : decode cX8_init 52 = .ok (.aload_n 0, 1) := by decide +kernel
theorem dX8_init_53 : decode cX8_init 53 = .ok (.bipush 30, 2) := by decide +kernel
theorem dX8_init_55 : decode cX8_init 55 = .ok (.newarray .int, 2) := by decide +kernel
theorem dX8_init_57 : decode cX8_init 57 = .ok (.putfield 30, 3) := by decide +kernel
theorem dX8_init_60 : decode cX8_init 60 = .ok (.return_, 1) := by decide +kernel
theorem dX8_clear_0 : decode cX8_clear 0 = .ok (.aload_n 0, 1) := by decide +kernel
theorem dX8_clear_1 : decode cX8_clear 1 = .ok (.iconst 0, 1) := by decide +kernel
theorem dX8_clear_2 : decode cX8_clear 2 = .ok (.putfield 33, 3) := by decide +kernel
theorem dX8_clear_5 : decode cX8_clear 5 = .ok (.aload_n 0, 1) := by decide +kernel
theorem dX8_clear_6 : decode cX8_clear 6 = .ok (.iconst 0, 1) := by decide +kernel
theorem dX8_clear_7 : decode cX8_clear 7 = .ok (.putfield 37, 3) := by decide +kernel
theorem dX8_clear_10 : decode cX8_clear 10 = .ok (.return_, 1) := by decide +kernel
theorem dX8_append_0 : decode cX8_append 0 = .ok (.aload_n 0, 1) := by decide +kernel
theorem dX8_append_1 : decode cX8_append 1 = .ok (.getfield 33, 3) := by decide +kernel
theorem dX8_append_4 : decode cX8_append 4 = .ok (.istore 5, 2) := by decide +kernel
theorem dX8_append_6 : decode cX8_append 6 = .ok (.iload 5, 2) := by decide +kernel
theorem dX8_append_8 : decode cX8_append 8 = .ok (.bipush 30, 2) := by decide +kernel
theorem dX8_append_10 : decode cX8_append 10 = .ok (.if_icmp .lt 5, 3) := by decide +kernel
theorem dX8_append_13 : decode cX8_append 13 = .ok (.iconst (-1), 1) := by decide +kernel
theorem dX8_append_14 : decode cX8_append 14 = .ok (.ireturn, 1) := by decide +kernel
theorem dX8_append_15 : decode cX8_append 15 = .ok (.aload_n 0, 1) := by decide +kernel
theorem dX8_append_16 : decode cX8_append 16 = .ok (.dup, 1) := by decide +kernel
theorem dX8_append_17 : decode cX8_append 17 = .ok (.getfield 33, 3) := by decide +kernel
theorem dX8_append_20 : decode cX8_append 20 = .ok (.iconst 1, 1) := by decide +kernel
theorem dX8_append_21 : decode cX8_append 21 = .ok (.iadd, 1) := by decide +kernel
theorem dX8_append_22 : decode cX8_append 22 = .ok (.putfield 33, 3) := by decide +kernel
theorem dX8_append_25 : decode cX8_append 25 = .ok (.aload_n 0, 1) := by decide +kernel
theorem dX8_append_26 : decode cX8_append 26 = .ok (.getfield 9, 3) := by decide +kernel
theorem dX8_append_29 : decode cX8_append 29 = .ok (.iload 5, 2) := by decide +kernel
theorem dX8_append_31 : decode cX8_append 31 = .ok (.iload_n 1, 1) := by decide +kernel
theorem dX8_append_32 : decode cX8_append 32 = .ok (.invokestatic 40, 3) := by decide +kernel
theorem dX8_append_35 : decode cX8_append 35 = .ok (.aload_n 0, 1) := by decide +kernel
theorem dX8_append_36 : decode cX8_append 36 = .ok (.getfield 15, 3) := by decide +kernel
theorem dX8_append_39 : decode cX8_append 39 = .ok (.iload 5, 2) := by decide +kernel
theorem dX8_append_41 : decode cX8_append 41 = .ok (.iload_n 2, 1) := by decide +kernel
theorem dX8_append_42 : decode cX8_append 42 = .ok (.invokestatic 40, 3) := by decide +kernel
theorem dX8_append_45 : decode cX8_append 45 = .ok (.aload_n 0, 1) := by decide +kernel
theorem dX8_append_46 : decode cX8_append 46 = .ok (.getfield 18, 3) := by decide +kernel
theorem dX8_append_49 : decode cX8_append 49 = .ok (.iload 5, 2) := by decide +kernel
theorem dX8_append_51 : decode cX8_append 51 = .ok (.iload_n 3, 1) := by decide +kernel
theorem dX8_append_52 : decode cX8_append 52 = .ok (.invokestatic 40, 3) := by decide +kernel
theorem dX8_append_55 : decode cX8_append 55 = .ok (.aload_n 0, 1) := by decide +kernel
theorem dX8_append_56 : decode cX8_append 56 = .ok (.getfield 21, 3) := by decide +kernel
theorem dX8_append_59 : decode cX8_append 59 = .ok (.iload 5, 2) := by decide +kernel
theorem dX8_append_61 : decode cX8_append 61 = .ok (.iload_n 3, 1) := by decide +kernel
theorem dX8_append_62 : decode cX8_append 62 = .ok (.invokestatic 40, 3) := by decide +kernel
theorem dX8_append_65 : decode cX8_append 65 = .ok (.aload_n 0, 1) := by decide +kernel
theorem dX8_append_66 : decode cX8_append 66 = .ok (.getfield 27, 3) := by decide +kernel
theorem dX8_append_69 : decode cX8_append 69 = .ok (.iload 5, 2) := by decide +kernel
theorem dX8_append_71 : decode cX8_append 71 = .ok (.iload 4, 2) := by decide +kernel
theorem dX8_append_73 : decode cX8_append 73 = .ok (.invokestatic 40, 3) := by decide +kernel
theorem dX8_append_76 : decode cX8_append 76 = .ok (.iconst 0, 1) := by decide +kernel
theorem dX8_append_77 : decode cX8_append 77 = .ok (.istore 6, 2) := by decide +kernel
theorem dX8_append_79 : decode cX8_append 79 = .ok (.iload 6, 2) := by decide +kernel
theorem dX8_append_81 : decode cX8_append 81 = .ok (.iconst 3, 1) := by decide +kernel
theorem dX8_append_82 : decode cX8_append 82 = .ok (.if_icmp .ge 24, 3) := by decide +kernel
theorem dX8_append_85 : decode cX8_append 85 = .ok (.aload_n 0, 1) := by decide +kernel
theorem dX8_append_86 : decode cX8_append 86 = .ok (.getfield 24, 3) := by decide +kernel
theorem dX8_append_89 : decode cX8_append 89 = .ok (.iload 5, 2) := by decide +kernel
theorem dX8_append_91 : decode cX8_append 91 = .ok (.iconst 3, 1) := by decide +kernel
theorem dX8_append_92 : decode cX8_append 92 = .ok (.imul, 1) := by decide +kernel
theorem dX8_append_93 : decode cX8_append 93 = .ok (.iload 6, 2) := by decide +kernel
theorem dX8_append_95 : decode cX8_append 95 = .ok (.iadd, 1) := by decide +kernel
theorem dX8_append_96 : decode cX8_append 96 = .ok (.iconst (-1), 1) := by decide +kernel
theorem dX8_append_97 : decode cX8_append 97 = .ok (.invokestatic 40, 3) := by decide +kernel
theorem dX8_append_100 : decode cX8_append 100 = .ok (.iinc 6 1, 3) := by decide +kernel
theorem dX8_append_103 : decode cX8_append 103 = .ok (.goto (-24), 3) := by decide +kernel
theorem dX8_append_106 : decode cX8_append 106 = .ok (.iload_n 1, 1) := by decide +kernel
theorem dX8_append_107 : decode cX8_append 107 = .ok (.ifCond .lt 26, 3) := by decide +kernel
theorem dX8_append_110 : decode cX8_append 110 = .ok (.iload_n 2, 1) := by decide +kernel
theorem dX8_append_111 : decode cX8_append 111 = .ok (.ifCond .lt 22, 3) := by decide +kernel
theorem dX8_append_114 : decode cX8_append 114 = .ok (.iload_n 2, 1) := by decide +kernel
theorem dX8_append_115 : decode cX8_append 115 = .ok (.iconst 3, 1) := by decide +kernel
theorem dX8_append_116 : decode cX8_append 116 = .ok (.if_icmp .ge 17, 3) := by decide +kernel
theorem dX8_append_119 : decode cX8_append 119 = .ok (.aload_n 0, 1) := by decide +kernel
theorem dX8_append_120 : decode cX8_append 120 = .ok (.getfield 24, 3) := by decide +kernel
theorem dX8_append_123 : decode cX8_append 123 = .ok (.iload_n 1, 1) := by decide +kernel
theorem dX8_append_124 : decode cX8_append 124 = .ok (.iconst 3, 1) := by decide +kernel
theorem dX8_append_125 : decode cX8_append 125 = .ok (.imul, 1) := by decide +kernel
theorem dX8_append_126 : decode cX8_append 126 = .ok (.iload_n 2, 1) := by decide +kernel
theorem dX8_append_127 : decode cX8_append 127 = .ok (.iadd, 1) := by decide +kernel
theorem dX8_append_128 : decode cX8_append 128 = .ok (.iload 5, 2) := by decide +kernel
theorem dX8_append_130 : decode cX8_append 130 = .ok (.invokestatic 40, 3) := by decide +kernel
theorem dX8_append_133 : decode cX8_append 133 = .ok (.iload 5, 2) := by decide +kernel
theorem dX8_append_135 : decode cX8_append 135 = .ok (.ireturn, 1) := by decide +kernel
theorem dX8_hasNode_0 : decode cX8_hasNode 0 = .ok (.iload_n 1, 1) := by decide +kernel
theorem dX8_hasNode_1 : decode cX8_hasNode 1 = .ok (.ifCond .lt 15, 3) := by decide +kernel
theorem dX8_hasNode_4 : decode cX8_hasNode 4 = .ok (.iload_n 1, 1) := by decide +kernel
theorem dX8_hasNode_5 : decode cX8_hasNode 5 = .ok (.aload_n 0, 1) := by decide +kernel
theorem dX8_hasNode_6 : decode cX8_hasNode 6 = .ok (.getfield 33, 3) := by decide +kernel
theorem dX8_hasNode_9 : decode cX8_hasNode 9 = .ok (.if_icmp .ge 7, 3) := by decide +kernel
theorem dX8_hasNode_12 : decode cX8_hasNode 12 = .ok (.iconst 1, 1) := by decide +kernel
theorem dX8_hasNode_13 : decode cX8_hasNode 13 = .ok (.goto 4, 3) := by decide +kernel
theorem dX8_hasNode_16 : decode cX8_hasNode 16 = .ok (.iconst 0, 1) := by decide +kernel
theorem dX8_hasNode_17 : decode cX8_hasNode 17 = .ok (.ireturn, 1) := by decide +kernel
theorem dX8_parentOf_0 : decode cX8_parentOf 0 = .ok (.iload_n 1, 1) := by decide +kernel
theorem dX8_parentOf_1 : decode cX8_parentOf 1 = .ok (.ifCond .lt 18, 3) := by decide +kernel
theorem dX8_parentOf_4 : decode cX8_parentOf 4 = .ok (.iload_n 1, 1) := by decide +kernel
theorem dX8_parentOf_5 : decode cX8_parentOf 5 = .ok (.bipush 30, 2) := by decide +kernel
theorem dX8_parentOf_7 : decode cX8_parentOf 7 = .ok (.if_icmp .ge 12, 3) := by decide +kernel
theorem dX8_parentOf_10 : decode cX8_parentOf 10 = .ok (.aload_n 0, 1) := by decide +kernel
theorem dX8_parentOf_11 : decode cX8_parentOf 11 = .ok (.getfield 9, 3) := by decide +kernel
theorem dX8_parentOf_14 : decode cX8_parentOf 14 = .ok (.iload_n 1, 1) := by decide +kernel
theorem dX8_parentOf_15 : decode cX8_parentOf 15 = .ok (.iaload, 1) := by decide +kernel
theorem dX8_parentOf_16 : decode cX8_parentOf 16 = .ok (.goto 4, 3) := by decide +kernel
theorem dX8_parentOf_19 : decode cX8_parentOf 19 = .ok (.iconst (-1), 1) := by decide +kernel
theorem dX8_parentOf_20 : decode cX8_parentOf 20 = .ok (.ireturn, 1) := by decide +kernel
theorem dX8_placeOf_0 : decode cX8_placeOf 0 = .ok (.iload_n 1, 1) := by decide +kernel
theorem dX8_placeOf_1 : decode cX8_placeOf 1 = .ok (.ifCond .lt 18, 3) := by decide +kernel
theorem dX8_placeOf_4 : decode cX8_placeOf 4 = .ok (.iload_n 1, 1) := by decide +kernel
theorem dX8_placeOf_5 : decode cX8_placeOf 5 = .ok (.bipush 30, 2) := by decide +kernel
theorem dX8_placeOf_7 : decode cX8_placeOf 7 = .ok (.if_icmp .ge 12, 3) := by decide +kernel
theorem dX8_placeOf_10 : decode cX8_placeOf 10 = .ok (.aload_n 0, 1) := by decide +kernel
theorem dX8_placeOf_11 : decode cX8_placeOf 11 = .ok (.getfield 15, 3) := by decide +kernel
theorem dX8_placeOf_14 : decode cX8_placeOf 14 = .ok (.iload_n 1, 1) := by decide +kernel
theorem dX8_placeOf_15 : decode cX8_placeOf 15 = .ok (.iaload, 1) := by decide +kernel
theorem dX8_placeOf_16 : decode cX8_placeOf 16 = .ok (.goto 4, 3) := by decide +kernel
theorem dX8_placeOf_19 : decode cX8_placeOf 19 = .ok (.iconst (-1), 1) := by decide +kernel
theorem dX8_placeOf_20 : decode cX8_placeOf 20 = .ok (.ireturn, 1) := by decide +kernel
theorem dX8_readAsOf_0 : decode cX8_readAsOf 0 = .ok (.iload_n 1, 1) := by decide +kernel
theorem dX8_readAsOf_1 : decode cX8_readAsOf 1 = .ok (.ifCond .lt 18, 3) := by decide +kernel
theorem dX8_readAsOf_4 : decode cX8_readAsOf 4 = .ok (.iload_n 1, 1) := by decide +kernel
theorem dX8_readAsOf_5 : decode cX8_readAsOf 5 = .ok (.bipush 30, 2) := by decide +kernel
theorem dX8_readAsOf_7 : decode cX8_readAsOf 7 = .ok (.if_icmp .ge 12, 3) := by decide +kernel
theorem dX8_readAsOf_10 : decode cX8_readAsOf 10 = .ok (.aload_n 0, 1) := by decide +kernel
theorem dX8_readAsOf_11 : decode cX8_readAsOf 11 = .ok (.getfield 18, 3) := by decide +kernel
theorem dX8_readAsOf_14 : decode cX8_readAsOf 14 = .ok (.iload_n 1, 1) := by decide +kernel
theorem dX8_readAsOf_15 : decode cX8_readAsOf 15 = .ok (.iaload, 1) := by decide +kernel
theorem dX8_readAsOf_16 : decode cX8_readAsOf 16 = .ok (.goto 4, 3) := by decide +kernel
theorem dX8_readAsOf_19 : decode cX8_readAsOf 19 = .ok (.iconst (-1), 1) := by decide +kernel
theorem dX8_readAsOf_20 : decode cX8_readAsOf 20 = .ok (.ireturn, 1) := by decide +kernel
theorem dX8_nowOf_0 : decode cX8_nowOf 0 = .ok (.iload_n 1, 1) := by decide +kernel
theorem dX8_nowOf_1 : decode cX8_nowOf 1 = .ok (.ifCond .lt 18, 3) := by decide +kernel
theorem dX8_nowOf_4 : decode cX8_nowOf 4 = .ok (.iload_n 1, 1) := by decide +kernel
theorem dX8_nowOf_5 : decode cX8_nowOf 5 = .ok (.bipush 30, 2) := by decide +kernel
theorem dX8_nowOf_7 : decode cX8_nowOf 7 = .ok (.if_icmp .ge 12, 3) := by decide +kernel
theorem dX8_nowOf_10 : decode cX8_nowOf 10 = .ok (.aload_n 0, 1) := by decide +kernel
theorem dX8_nowOf_11 : decode cX8_nowOf 11 = .ok (.getfield 21, 3) := by decide +kernel
theorem dX8_nowOf_14 : decode cX8_nowOf 14 = .ok (.iload_n 1, 1) := by decide +kernel
theorem dX8_nowOf_15 : decode cX8_nowOf 15 = .ok (.iaload, 1) := by decide +kernel
theorem dX8_nowOf_16 : decode cX8_nowOf 16 = .ok (.goto 4, 3) := by decide +kernel
theorem dX8_nowOf_19 : decode cX8_nowOf 19 = .ok (.iconst (-1), 1) := by decide +kernel
theorem dX8_nowOf_20 : decode cX8_nowOf 20 = .ok (.ireturn, 1) := by decide +kernel
theorem dX8_rewriteTo_0 : decode cX8_rewriteTo 0 = .ok (.aload_n 0, 1) := by decide +kernel
theorem dX8_rewriteTo_1 : decode cX8_rewriteTo 1 = .ok (.getfield 21, 3) := by decide +kernel
theorem dX8_rewriteTo_4 : decode cX8_rewriteTo 4 = .ok (.iload_n 1, 1) := by decide +kernel
theorem dX8_rewriteTo_5 : decode cX8_rewriteTo 5 = .ok (.iload_n 2, 1) := by decide +kernel
theorem dX8_rewriteTo_6 : decode cX8_rewriteTo 6 = .ok (.invokestatic 40, 3) := by decide +kernel
theorem dX8_rewriteTo_9 : decode cX8_rewriteTo 9 = .ok (.return_, 1) := by decide +kernel
theorem dX8_childOf_0 : decode cX8_childOf 0 = .ok (.iload_n 1, 1) := by decide +kernel
theorem dX8_childOf_1 : decode cX8_childOf 1 = .ok (.ifCond .lt 20, 3) := by decide +kernel
theorem dX8_childOf_4 : decode cX8_childOf 4 = .ok (.iload_n 1, 1) := by decide +kernel
theorem dX8_childOf_5 : decode cX8_childOf 5 = .ok (.aload_n 0, 1) := by decide +kernel
theorem dX8_childOf_6 : decode cX8_childOf 6 = .ok (.getfield 33, 3) := by decide +kernel
theorem dX8_childOf_9 : decode cX8_childOf 9 = .ok (.if_icmp .ge 12, 3) := by decide +kernel
theorem dX8_childOf_12 : decode cX8_childOf 12 = .ok (.iload_n 2, 1) := by decide +kernel
theorem dX8_childOf_13 : decode cX8_childOf 13 = .ok (.ifCond .lt 8, 3) := by decide +kernel
theorem dX8_childOf_16 : decode cX8_childOf 16 = .ok (.iload_n 2, 1) := by decide +kernel
theorem dX8_childOf_17 : decode cX8_childOf 17 = .ok (.iconst 3, 1) := by decide +kernel
theorem dX8_childOf_18 : decode cX8_childOf 18 = .ok (.if_icmp .lt 5, 3) := by decide +kernel
theorem dX8_childOf_21 : decode cX8_childOf 21 = .ok (.iconst (-1), 1) := by decide +kernel
theorem dX8_childOf_22 : decode cX8_childOf 22 = .ok (.ireturn, 1) := by decide +kernel
theorem dX8_childOf_23 : decode cX8_childOf 23 = .ok (.iload_n 1, 1) := by decide +kernel
theorem dX8_childOf_24 : decode cX8_childOf 24 = .ok (.iconst 3, 1) := by decide +kernel
theorem dX8_childOf_25 : decode cX8_childOf 25 = .ok (.imul, 1) := by decide +kernel
theorem dX8_childOf_26 : decode cX8_childOf 26 = .ok (.iload_n 2, 1) := by decide +kernel
theorem dX8_childOf_27 : decode cX8_childOf 27 = .ok (.iadd, 1) := by decide +kernel
theorem dX8_childOf_28 : decode cX8_childOf 28 = .ok (.istore_n 3, 1) := by decide +kernel
theorem dX8_childOf_29 : decode cX8_childOf 29 = .ok (.iload_n 3, 1) := by decide +kernel
theorem dX8_childOf_30 : decode cX8_childOf 30 = .ok (.aload_n 0, 1) := by decide +kernel
theorem dX8_childOf_31 : decode cX8_childOf 31 = .ok (.getfield 24, 3) := by decide +kernel
theorem dX8_childOf_34 : decode cX8_childOf 34 = .ok (.arraylength, 1) := by decide +kernel
theorem dX8_childOf_35 : decode cX8_childOf 35 = .ok (.if_icmp .ge 12, 3) := by decide +kernel
theorem dX8_childOf_38 : decode cX8_childOf 38 = .ok (.aload_n 0, 1) := by decide +kernel
theorem dX8_childOf_39 : decode cX8_childOf 39 = .ok (.getfield 24, 3) := by decide +kernel
theorem dX8_childOf_42 : decode cX8_childOf 42 = .ok (.iload_n 3, 1) := by decide +kernel
theorem dX8_childOf_43 : decode cX8_childOf 43 = .ok (.iaload, 1) := by decide +kernel
theorem dX8_childOf_44 : decode cX8_childOf 44 = .ok (.goto 4, 3) := by decide +kernel
theorem dX8_childOf_47 : decode cX8_childOf 47 = .ok (.iconst (-1), 1) := by decide +kernel
theorem dX8_childOf_48 : decode cX8_childOf 48 = .ok (.ireturn, 1) := by decide +kernel
theorem dX8_putOf_0 : decode cX8_putOf 0 = .ok (.iload_n 1, 1) := by decide +kernel
theorem dX8_putOf_1 : decode cX8_putOf 1 = .ok (.ifCond .lt 22, 3) := by decide +kernel
theorem dX8_putOf_4 : decode cX8_putOf 4 = .ok (.iload_n 1, 1) := by decide +kernel
theorem dX8_putOf_5 : decode cX8_putOf 5 = .ok (.bipush 30, 2) := by decide +kernel
theorem dX8_putOf_7 : decode cX8_putOf 7 = .ok (.if_icmp .ge 16, 3) := by decide +kernel
theorem dX8_putOf_10 : decode cX8_putOf 10 = .ok (.iload_n 2, 1) := by decide +kernel
theorem dX8_putOf_11 : decode cX8_putOf 11 = .ok (.ifCond .lt 12, 3) := by decide +kernel
theorem dX8_putOf_14 : decode cX8_putOf 14 = .ok (.iload_n 2, 1) := by decide +kernel
theorem dX8_putOf_15 : decode cX8_putOf 15 = .ok (.iconst 3, 1) := by decide +kernel
theorem dX8_putOf_16 : decode cX8_putOf 16 = .ok (.if_icmp .ge 7, 3) := by decide +kernel
theorem dX8_putOf_19 : decode cX8_putOf 19 = .ok (.iconst 1, 1) := by decide +kernel
theorem dX8_putOf_20 : decode cX8_putOf 20 = .ok (.goto 4, 3) := by decide +kernel
theorem dX8_putOf_23 : decode cX8_putOf 23 = .ok (.iconst 0, 1) := by decide +kernel
theorem dX8_putOf_24 : decode cX8_putOf 24 = .ok (.istore_n 3, 1) := by decide +kernel
theorem dX8_putOf_25 : decode cX8_putOf 25 = .ok (.iload_n 3, 1) := by decide +kernel
theorem dX8_putOf_26 : decode cX8_putOf 26 = .ok (.ifCond .eq 16, 3) := by decide +kernel
theorem dX8_putOf_29 : decode cX8_putOf 29 = .ok (.aload_n 0, 1) := by decide +kernel
theorem dX8_putOf_30 : decode cX8_putOf 30 = .ok (.getfield 27, 3) := by decide +kernel
theorem dX8_putOf_33 : decode cX8_putOf 33 = .ok (.iload_n 1, 1) := by decide +kernel
theorem dX8_putOf_34 : decode cX8_putOf 34 = .ok (.iaload, 1) := by decide +kernel
theorem dX8_putOf_35 : decode cX8_putOf 35 = .ok (.iload_n 2, 1) := by decide +kernel
theorem dX8_putOf_36 : decode cX8_putOf 36 = .ok (.ishr, 1) := by decide +kernel
theorem dX8_putOf_37 : decode cX8_putOf 37 = .ok (.iconst 1, 1) := by decide +kernel
theorem dX8_putOf_38 : decode cX8_putOf 38 = .ok (.iand, 1) := by decide +kernel
theorem dX8_putOf_39 : decode cX8_putOf 39 = .ok (.goto 4, 3) := by decide +kernel
theorem dX8_putOf_42 : decode cX8_putOf 42 = .ok (.iconst 0, 1) := by decide +kernel
theorem dX8_putOf_43 : decode cX8_putOf 43 = .ok (.ireturn, 1) := by decide +kernel
theorem dX8_heirOf_0 : decode cX8_heirOf 0 = .ok (.aload_n 0, 1) := by decide +kernel
theorem dX8_heirOf_1 : decode cX8_heirOf 1 = .ok (.iload_n 1, 1) := by decide +kernel
theorem dX8_heirOf_2 : decode cX8_heirOf 2 = .ok (.invokevirtual 44, 3) := by decide +kernel
theorem dX8_heirOf_5 : decode cX8_heirOf 5 = .ok (.ifCond .eq 14, 3) := by decide +kernel
theorem dX8_heirOf_8 : decode cX8_heirOf 8 = .ok (.aload_n 0, 1) := by decide +kernel
theorem dX8_heirOf_9 : decode cX8_heirOf 9 = .ok (.getfield 30, 3) := by decide +kernel
theorem dX8_heirOf_12 : decode cX8_heirOf 12 = .ok (.iload_n 1, 1) := by decide +kernel
theorem dX8_heirOf_13 : decode cX8_heirOf 13 = .ok (.invokestatic 48, 3) := by decide +kernel
theorem dX8_heirOf_16 : decode cX8_heirOf 16 = .ok (.goto 4, 3) := by decide +kernel
theorem dX8_heirOf_19 : decode cX8_heirOf 19 = .ok (.iconst (-1), 1) := by decide +kernel
theorem dX8_heirOf_20 : decode cX8_heirOf 20 = .ok (.ireturn, 1) := by decide +kernel
theorem dX8_compare_0 : decode cX8_compare 0 = .ok (.iconst 0, 1) := by decide +kernel
theorem dX8_compare_1 : decode cX8_compare 1 = .ok (.istore_n 2, 1) := by decide +kernel
theorem dX8_compare_2 : decode cX8_compare 2 = .ok (.iconst 0, 1) := by decide +kernel
theorem dX8_compare_3 : decode cX8_compare 3 = .ok (.istore_n 3, 1) := by decide +kernel
theorem dX8_compare_4 : decode cX8_compare 4 = .ok (.iload_n 3, 1) := by decide +kernel
theorem dX8_compare_5 : decode cX8_compare 5 = .ok (.aload_n 0, 1) := by decide +kernel
theorem dX8_compare_6 : decode cX8_compare 6 = .ok (.getfield 33, 3) := by decide +kernel
theorem dX8_compare_9 : decode cX8_compare 9 = .ok (.if_icmp .ge 93, 3) := by decide +kernel
theorem dX8_compare_12 : decode cX8_compare 12 = .ok (.iload_n 3, 1) := by decide +kernel
theorem dX8_compare_13 : decode cX8_compare 13 = .ok (.ifCond .ne 7, 3) := by decide +kernel
theorem dX8_compare_16 : decode cX8_compare 16 = .ok (.iconst 0, 1) := by decide +kernel
theorem dX8_compare_17 : decode cX8_compare 17 = .ok (.goto 21, 3) := by decide +kernel
theorem dX8_compare_20 : decode cX8_compare 20 = .ok (.aload_n 1, 1) := by decide +kernel
theorem dX8_compare_21 : decode cX8_compare 21 = .ok (.aload_n 0, 1) := by decide +kernel
theorem dX8_compare_22 : decode cX8_compare 22 = .ok (.aload_n 0, 1) := by decide +kernel
theorem dX8_compare_23 : decode cX8_compare 23 = .ok (.iload_n 3, 1) := by decide +kernel
theorem dX8_compare_24 : decode cX8_compare 24 = .ok (.invokevirtual 52, 3) := by decide +kernel
theorem dX8_compare_27 : decode cX8_compare 27 = .ok (.invokevirtual 56, 3) := by decide +kernel
theorem dX8_compare_30 : decode cX8_compare 30 = .ok (.aload_n 0, 1) := by decide +kernel
theorem dX8_compare_31 : decode cX8_compare 31 = .ok (.iload_n 3, 1) := by decide +kernel
theorem dX8_compare_32 : decode cX8_compare 32 = .ok (.invokevirtual 59, 3) := by decide +kernel
theorem dX8_compare_35 : decode cX8_compare 35 = .ok (.invokevirtual 62, 3) := by decide +kernel
theorem dX8_compare_38 : decode cX8_compare 38 = .ok (.istore 4, 2) := by decide +kernel
theorem dX8_compare_40 : decode cX8_compare 40 = .ok (.aload_n 1, 1) := by decide +kernel
theorem dX8_compare_41 : decode cX8_compare 41 = .ok (.iload 4, 2) := by decide +kernel
theorem dX8_compare_43 : decode cX8_compare 43 = .ok (.invokevirtual 44, 3) := by decide +kernel
theorem dX8_compare_46 : decode cX8_compare 46 = .ok (.ifCond .eq 14, 3) := by decide +kernel
theorem dX8_compare_49 : decode cX8_compare 49 = .ok (.aload_n 0, 1) := by decide +kernel
theorem dX8_compare_50 : decode cX8_compare 50 = .ok (.iload_n 3, 1) := by decide +kernel
theorem dX8_compare_51 : decode cX8_compare 51 = .ok (.aload_n 1, 1) := by decide +kernel
theorem dX8_compare_52 : decode cX8_compare 52 = .ok (.iload 4, 2) := by decide +kernel
theorem dX8_compare_54 : decode cX8_compare 54 = .ok (.invokevirtual 66, 3) := by decide +kernel
theorem dX8_compare_57 : decode cX8_compare 57 = .ok (.ifCond .ne 15, 3) := by decide +kernel
theorem dX8_compare_60 : decode cX8_compare 60 = .ok (.aload_n 0, 1) := by decide +kernel
theorem dX8_compare_61 : decode cX8_compare 61 = .ok (.getfield 30, 3) := by decide +kernel
theorem dX8_compare_64 : decode cX8_compare 64 = .ok (.iload_n 3, 1) := by decide +kernel
theorem dX8_compare_65 : decode cX8_compare 65 = .ok (.iconst (-1), 1) := by decide +kernel
theorem dX8_compare_66 : decode cX8_compare 66 = .ok (.invokestatic 40, 3) := by decide +kernel
theorem dX8_compare_69 : decode cX8_compare 69 = .ok (.goto 27, 3) := by decide +kernel
theorem dX8_compare_72 : decode cX8_compare 72 = .ok (.aload_n 0, 1) := by decide +kernel
theorem dX8_compare_73 : decode cX8_compare 73 = .ok (.getfield 30, 3) := by decide +kernel
theorem dX8_compare_76 : decode cX8_compare 76 = .ok (.iload_n 3, 1) := by decide +kernel
theorem dX8_compare_77 : decode cX8_compare 77 = .ok (.iload 4, 2) := by decide +kernel
theorem dX8_compare_79 : decode cX8_compare 79 = .ok (.invokestatic 40, 3) := by decide +kernel
theorem dX8_compare_82 : decode cX8_compare 82 = .ok (.aload_n 1, 1) := by decide +kernel
theorem dX8_compare_83 : decode cX8_compare 83 = .ok (.iload 4, 2) := by decide +kernel
theorem dX8_compare_85 : decode cX8_compare 85 = .ok (.aload_n 0, 1) := by decide +kernel
theorem dX8_compare_86 : decode cX8_compare 86 = .ok (.iload_n 3, 1) := by decide +kernel
theorem dX8_compare_87 : decode cX8_compare 87 = .ok (.invokevirtual 70, 3) := by decide +kernel
theorem dX8_compare_90 : decode cX8_compare 90 = .ok (.invokevirtual 73, 3) := by decide +kernel
theorem dX8_compare_93 : decode cX8_compare 93 = .ok (.iinc 2 1, 3) := by decide +kernel
theorem dX8_compare_96 : decode cX8_compare 96 = .ok (.iinc 3 1, 3) := by decide +kernel
theorem dX8_compare_99 : decode cX8_compare 99 = .ok (.goto (-95), 3) := by decide +kernel
theorem dX8_compare_102 : decode cX8_compare 102 = .ok (.iload_n 2, 1) := by decide +kernel
theorem dX8_compare_103 : decode cX8_compare 103 = .ok (.ireturn, 1) := by decide +kernel
theorem dX8_isAlike_0 : decode cX8_isAlike 0 = .ok (.aload_n 0, 1) := by decide +kernel
theorem dX8_isAlike_1 : decode cX8_isAlike 1 = .ok (.iload_n 1, 1) := by decide +kernel
theorem dX8_isAlike_2 : decode cX8_isAlike 2 = .ok (.invokevirtual 77, 3) := by decide +kernel
theorem dX8_isAlike_5 : decode cX8_isAlike 5 = .ok (.aload_n 2, 1) := by decide +kernel
theorem dX8_isAlike_6 : decode cX8_isAlike 6 = .ok (.iload_n 3, 1) := by decide +kernel
theorem dX8_isAlike_7 : decode cX8_isAlike 7 = .ok (.invokevirtual 77, 3) := by decide +kernel
theorem dX8_isAlike_10 : decode cX8_isAlike 10 = .ok (.if_icmp .ne 26, 3) := by decide +kernel
theorem dX8_isAlike_13 : decode cX8_isAlike 13 = .ok (.aload_n 0, 1) := by decide +kernel
theorem dX8_isAlike_14 : decode cX8_isAlike 14 = .ok (.getfield 27, 3) := by decide +kernel
theorem dX8_isAlike_17 : decode cX8_isAlike 17 = .ok (.iload_n 1, 1) := by decide +kernel
theorem dX8_isAlike_18 : decode cX8_isAlike 18 = .ok (.invokestatic 48, 3) := by decide +kernel
theorem dX8_isAlike_21 : decode cX8_isAlike 21 = .ok (.aload_n 2, 1) := by decide +kernel
theorem dX8_isAlike_22 : decode cX8_isAlike 22 = .ok (.getfield 27, 3) := by decide +kernel
theorem dX8_isAlike_25 : decode cX8_isAlike 25 = .ok (.iload_n 3, 1) := by decide +kernel
theorem dX8_isAlike_26 : decode cX8_isAlike 26 = .ok (.invokestatic 48, 3) := by decide +kernel
theorem dX8_isAlike_29 : decode cX8_isAlike 29 = .ok (.if_icmp .ne 7, 3) := by decide +kernel
theorem dX8_isAlike_32 : decode cX8_isAlike 32 = .ok (.iconst 1, 1) := by decide +kernel
theorem dX8_isAlike_33 : decode cX8_isAlike 33 = .ok (.goto 4, 3) := by decide +kernel
theorem dX8_isAlike_36 : decode cX8_isAlike 36 = .ok (.iconst 0, 1) := by decide +kernel
theorem dX8_isAlike_37 : decode cX8_isAlike 37 = .ok (.ireturn, 1) := by decide +kernel
theorem dX8_touched_0 : decode cX8_touched 0 = .ok (.iconst 0, 1) := by decide +kernel
theorem dX8_touched_1 : decode cX8_touched 1 = .ok (.istore_n 1, 1) := by decide +kernel
theorem dX8_touched_2 : decode cX8_touched 2 = .ok (.iconst 0, 1) := by decide +kernel
theorem dX8_touched_3 : decode cX8_touched 3 = .ok (.istore_n 2, 1) := by decide +kernel
theorem dX8_touched_4 : decode cX8_touched 4 = .ok (.iload_n 2, 1) := by decide +kernel
theorem dX8_touched_5 : decode cX8_touched 5 = .ok (.aload_n 0, 1) := by decide +kernel
theorem dX8_touched_6 : decode cX8_touched 6 = .ok (.getfield 33, 3) := by decide +kernel
theorem dX8_touched_9 : decode cX8_touched 9 = .ok (.if_icmp .ge 34, 3) := by decide +kernel
theorem dX8_touched_12 : decode cX8_touched 12 = .ok (.aload_n 0, 1) := by decide +kernel
theorem dX8_touched_13 : decode cX8_touched 13 = .ok (.iload_n 2, 1) := by decide +kernel
theorem dX8_touched_14 : decode cX8_touched 14 = .ok (.invokevirtual 56, 3) := by decide +kernel
theorem dX8_touched_17 : decode cX8_touched 17 = .ok (.iconst (-1), 1) := by decide +kernel
theorem dX8_touched_18 : decode cX8_touched 18 = .ok (.if_icmp .ne 19, 3) := by decide +kernel
theorem dX8_touched_21 : decode cX8_touched 21 = .ok (.iload_n 1, 1) := by decide +kernel
theorem dX8_touched_22 : decode cX8_touched 22 = .ok (.iload_n 2, 1) := by decide +kernel
theorem dX8_touched_23 : decode cX8_touched 23 = .ok (.invokestatic 80, 3) := by decide +kernel
theorem dX8_touched_26 : decode cX8_touched 26 = .ok (.aload_n 0, 1) := by decide +kernel
theorem dX8_touched_27 : decode cX8_touched 27 = .ok (.iload_n 2, 1) := by decide +kernel
theorem dX8_touched_28 : decode cX8_touched 28 = .ok (.invokevirtual 52, 3) := by decide +kernel
theorem dX8_touched_31 : decode cX8_touched 31 = .ok (.invokestatic 80, 3) := by decide +kernel
theorem dX8_touched_34 : decode cX8_touched 34 = .ok (.ior, 1) := by decide +kernel
theorem dX8_touched_35 : decode cX8_touched 35 = .ok (.ior, 1) := by decide +kernel
theorem dX8_touched_36 : decode cX8_touched 36 = .ok (.istore_n 1, 1) := by decide +kernel
theorem dX8_touched_37 : decode cX8_touched 37 = .ok (.iinc 2 1, 3) := by decide +kernel
theorem dX8_touched_40 : decode cX8_touched 40 = .ok (.goto (-36), 3) := by decide +kernel
theorem dX8_touched_43 : decode cX8_touched 43 = .ok (.iload_n 1, 1) := by decide +kernel
theorem dX8_touched_44 : decode cX8_touched 44 = .ok (.ireturn, 1) := by decide +kernel
theorem dX8_take_0 : decode cX8_take 0 = .ok (.aload_n 0, 1) := by decide +kernel
theorem dX8_take_1 : decode cX8_take 1 = .ok (.aload_n 1, 1) := by decide +kernel
theorem dX8_take_2 : decode cX8_take 2 = .ok (.getfield 33, 3) := by decide +kernel
theorem dX8_take_5 : decode cX8_take 5 = .ok (.putfield 33, 3) := by decide +kernel
theorem dX8_take_8 : decode cX8_take 8 = .ok (.aload_n 0, 1) := by decide +kernel
theorem dX8_take_9 : decode cX8_take 9 = .ok (.aload_n 1, 1) := by decide +kernel
theorem dX8_take_10 : decode cX8_take 10 = .ok (.getfield 37, 3) := by decide +kernel
theorem dX8_take_13 : decode cX8_take 13 = .ok (.putfield 37, 3) := by decide +kernel
theorem dX8_take_16 : decode cX8_take 16 = .ok (.aload_n 1, 1) := by decide +kernel
theorem dX8_take_17 : decode cX8_take 17 = .ok (.getfield 9, 3) := by decide +kernel
theorem dX8_take_20 : decode cX8_take 20 = .ok (.aload_n 0, 1) := by decide +kernel
theorem dX8_take_21 : decode cX8_take 21 = .ok (.getfield 9, 3) := by decide +kernel
theorem dX8_take_24 : decode cX8_take 24 = .ok (.invokestatic 83, 3) := by decide +kernel
theorem dX8_take_27 : decode cX8_take 27 = .ok (.aload_n 1, 1) := by decide +kernel
theorem dX8_take_28 : decode cX8_take 28 = .ok (.getfield 15, 3) := by decide +kernel
theorem dX8_take_31 : decode cX8_take 31 = .ok (.aload_n 0, 1) := by decide +kernel
theorem dX8_take_32 : decode cX8_take 32 = .ok (.getfield 15, 3) := by decide +kernel
theorem dX8_take_35 : decode cX8_take 35 = .ok (.invokestatic 83, 3) := by decide +kernel
theorem dX8_take_38 : decode cX8_take 38 = .ok (.aload_n 1, 1) := by decide +kernel
theorem dX8_take_39 : decode cX8_take 39 = .ok (.getfield 18, 3) := by decide +kernel
theorem dX8_take_42 : decode cX8_take 42 = .ok (.aload_n 0, 1) := by decide +kernel
theorem dX8_take_43 : decode cX8_take 43 = .ok (.getfield 18, 3) := by decide +kernel
theorem dX8_take_46 : decode cX8_take 46 = .ok (.invokestatic 83, 3) := by decide +kernel
theorem dX8_take_49 : decode cX8_take 49 = .ok (.aload_n 1, 1) := by decide +kernel
theorem dX8_take_50 : decode cX8_take 50 = .ok (.getfield 21, 3) := by decide +kernel
theorem dX8_take_53 : decode cX8_take 53 = .ok (.aload_n 0, 1) := by decide +kernel
theorem dX8_take_54 : decode cX8_take 54 = .ok (.getfield 21, 3) := by decide +kernel
theorem dX8_take_57 : decode cX8_take 57 = .ok (.invokestatic 83, 3) := by decide +kernel
theorem dX8_take_60 : decode cX8_take 60 = .ok (.aload_n 1, 1) := by decide +kernel
theorem dX8_take_61 : decode cX8_take 61 = .ok (.getfield 24, 3) := by decide +kernel
theorem dX8_take_64 : decode cX8_take 64 = .ok (.aload_n 0, 1) := by decide +kernel
theorem dX8_take_65 : decode cX8_take 65 = .ok (.getfield 24, 3) := by decide +kernel
theorem dX8_take_68 : decode cX8_take 68 = .ok (.invokestatic 83, 3) := by decide +kernel
theorem dX8_take_71 : decode cX8_take 71 = .ok (.aload_n 1, 1) := by decide +kernel
theorem dX8_take_72 : decode cX8_take 72 = .ok (.getfield 27, 3) := by decide +kernel
theorem dX8_take_75 : decode cX8_take 75 = .ok (.aload_n 0, 1) := by decide +kernel
theorem dX8_take_76 : decode cX8_take 76 = .ok (.getfield 27, 3) := by decide +kernel
theorem dX8_take_79 : decode cX8_take 79 = .ok (.invokestatic 83, 3) := by decide +kernel
theorem dX8_take_82 : decode cX8_take 82 = .ok (.return_, 1) := by decide +kernel
theorem dX9_init_0 : decode cX9_init 0 = .ok (.aload_n 0, 1) := by decide +kernel
theorem dX9_init_1 : decode cX9_init 1 = .ok (.invokespecial 5, 3) := by decide +kernel
theorem dX9_init_4 : decode cX9_init 4 = .ok (.aload_n 0, 1) := by decide +kernel
theorem dX9_init_5 : decode cX9_init 5 = .ok (.bipush 12, 2) := by decide +kernel
theorem dX9_init_7 : decode cX9_init 7 = .ok (.newarray .int, 2) := by decide +kernel
theorem dX9_init_9 : decode cX9_init 9 = .ok (.putfield 11, 3) := by decide +kernel
theorem dX9_init_12 : decode cX9_init 12 = .ok (.aload_n 0, 1) := by decide +kernel
theorem dX9_init_13 : decode cX9_init 13 = .ok (.sipush 1690, 3) := by decide +kernel
theorem dX9_init_16 : decode cX9_init 16 = .ok (.newarray .int, 2) := by decide +kernel
theorem dX9_init_18 : decode cX9_init 18 = .ok (.putfield 15, 3) := by decide +kernel
theorem dX9_init_21 : decode cX9_init 21 = .ok (.aload_n 0, 1) := by decide +kernel
theorem dX9_init_22 : decode cX9_init 22 = .ok (.sipush 1690, 3) := by decide +kernel
theorem dX9_init_25 : decode cX9_init 25 = .ok (.newarray .int, 2) := by decide +kernel
theorem dX9_init_27 : decode cX9_init 27 = .ok (.putfield 18, 3) := by decide +kernel
theorem dX9_init_30 : decode cX9_init 30 = .ok (.aload_n 0, 1) := by decide +kernel
theorem dX9_init_31 : decode cX9_init 31 = .ok (.bipush 90, 2) := by decide +kernel
theorem dX9_init_33 : decode cX9_init 33 = .ok (.newarray .int, 2) := by decide +kernel
theorem dX9_init_35 : decode cX9_init 35 = .ok (.putfield 21, 3) := by decide +kernel
theorem dX9_init_38 : decode cX9_init 38 = .ok (.aload_n 0, 1) := by decide +kernel
theorem dX9_init_39 : decode cX9_init 39 = .ok (.bipush 90, 2) := by decide +kernel
theorem dX9_init_41 : decode cX9_init 41 = .ok (.newarray .int, 2) := by decide +kernel
theorem dX9_init_43 : decode cX9_init 43 = .ok (.putfield 24, 3) := by decide +kernel
theorem dX9_init_46 : decode cX9_init 46 = .ok (.aload_n 0, 1) := by decide +kernel
theorem dX9_init_47 : decode cX9_init 47 = .ok (.bipush 90, 2) := by decide +kernel
theorem dX9_init_49 : decode cX9_init 49 = .ok (.newarray .int, 2) := by decide +kernel
theorem dX9_init_51 : decode cX9_init 51 = .ok (.putfield 27, 3) := by decide +kernel
theorem dX9_init_54 : decode cX9_init 54 = .ok (.aload_n 0, 1) := by decide +kernel
theorem dX9_init_55 : decode cX9_init 55 = .ok (.bipush 90, 2) := by decide +kernel
theorem dX9_init_57 : decode cX9_init 57 = .ok (.newarray .int, 2) := by decide +kernel
theorem dX9_init_59 : decode cX9_init 59 = .ok (.putfield 30, 3) := by decide +kernel
theorem dX9_init_62 : decode cX9_init 62 = .ok (.aload_n 0, 1) := by decide +kernel
theorem dX9_init_63 : decode cX9_init 63 = .ok (.bipush 90, 2) := by decide +kernel
theorem dX9_init_65 : decode cX9_init 65 = .ok (.newarray .int, 2) := by decide +kernel
theorem dX9_init_67 : decode cX9_init 67 = .ok (.putfield 33, 3) := by decide +kernel
theorem dX9_init_70 : decode cX9_init 70 = .ok (.aload_n 0, 1) := by decide +kernel
theorem dX9_init_71 : decode cX9_init 71 = .ok (.iconst 4, 1) := by decide +kernel
theorem dX9_init_72 : decode cX9_init 72 = .ok (.newarray .int, 2) := by decide +kernel
theorem dX9_init_74 : decode cX9_init 74 = .ok (.putfield 36, 3) := by decide +kernel
theorem dX9_init_77 : decode cX9_init 77 = .ok (.aload_n 0, 1) := by decide +kernel
theorem dX9_init_78 : decode cX9_init 78 = .ok (.aload_n 1, 1) := by decide +kernel
theorem dX9_init_79 : decode cX9_init 79 = .ok (.putfield 39, 3) := by decide +kernel
theorem dX9_init_82 : decode cX9_init 82 = .ok (.return_, 1) := by decide +kernel
theorem dX9_putLetter_0 : decode cX9_putLetter 0 = .ok (.aload_n 0, 1) := by decide +kernel
theorem dX9_putLetter_1 : decode cX9_putLetter 1 = .ok (.getfield 43, 3) := by decide +kernel
theorem dX9_putLetter_4 : decode cX9_putLetter 4 = .ok (.istore_n 3, 1) := by decide +kernel
theorem dX9_putLetter_5 : decode cX9_putLetter 5 = .ok (.iload_n 3, 1) := by decide +kernel
theorem dX9_putLetter_6 : decode cX9_putLetter 6 = .ok (.iload_n 1, 1) := by decide +kernel
theorem dX9_putLetter_7 : decode cX9_putLetter 7 = .ok (.if_icmp .le 27, 3) := by decide +kernel
theorem dX9_putLetter_10 : decode cX9_putLetter 10 = .ok (.aload_n 0, 1) := by decide +kernel
theorem dX9_putLetter_11 : decode cX9_putLetter 11 = .ok (.getfield 11, 3) := by decide +kernel
theorem dX9_putLetter_14 : decode cX9_putLetter 14 = .ok (.iload_n 3, 1) := by decide +kernel
theorem dX9_putLetter_15 : decode cX9_putLetter 15 = .ok (.aload_n 0, 1) := by decide +kernel
theorem dX9_putLetter_16 : decode cX9_putLetter 16 = .ok (.getfield 11, 3) := by decide +kernel
theorem dX9_putLetter_19 : decode cX9_putLetter 19 = .ok (.iload_n 3, 1) := by decide +kernel
theorem dX9_putLetter_20 : decode cX9_putLetter 20 = .ok (.iconst 1, 1) := by decide +kernel
theorem dX9_putLetter_21 : decode cX9_putLetter 21 = .ok (.isub, 1) := by decide +kernel
theorem dX9_putLetter_22 : decode cX9_putLetter 22 = .ok (.invokestatic 47, 3) := by decide +kernel
theorem dX9_putLetter_25 : decode cX9_putLetter 25 = .ok (.invokestatic 51, 3) := by decide +kernel
theorem dX9_putLetter_28 : decode cX9_putLetter 28 = .ok (.iinc 3 (-1), 3) := by decide +kernel
theorem dX9_putLetter_31 : decode cX9_putLetter 31 = .ok (.goto (-26), 3) := by decide +kernel
theorem dX9_putLetter_34 : decode cX9_putLetter 34 = .ok (.aload_n 0, 1) := by decide +kernel
theorem dX9_putLetter_35 : decode cX9_putLetter 35 = .ok (.getfield 11, 3) := by decide +kernel
theorem dX9_putLetter_38 : decode cX9_putLetter 38 = .ok (.iload_n 1, 1) := by decide +kernel
theorem dX9_putLetter_39 : decode cX9_putLetter 39 = .ok (.iload_n 2, 1) := by decide +kernel
theorem dX9_putLetter_40 : decode cX9_putLetter 40 = .ok (.invokestatic 51, 3) := by decide +kernel
theorem dX9_putLetter_43 : decode cX9_putLetter 43 = .ok (.aload_n 0, 1) := by decide +kernel
theorem dX9_putLetter_44 : decode cX9_putLetter 44 = .ok (.dup, 1) := by decide +kernel
theorem dX9_putLetter_45 : decode cX9_putLetter 45 = .ok (.getfield 43, 3) := by decide +kernel
theorem dX9_putLetter_48 : decode cX9_putLetter 48 = .ok (.iconst 1, 1) := by decide +kernel
theorem dX9_putLetter_49 : decode cX9_putLetter 49 = .ok (.iadd, 1) := by decide +kernel
theorem dX9_putLetter_50 : decode cX9_putLetter 50 = .ok (.putfield 43, 3) := by decide +kernel
theorem dX9_putLetter_53 : decode cX9_putLetter 53 = .ok (.return_, 1) := by decide +kernel
theorem dX9_takeLetter_0 : decode cX9_takeLetter 0 = .ok (.iload_n 1, 1) := by decide +kernel
theorem dX9_takeLetter_1 : decode cX9_takeLetter 1 = .ok (.istore_n 2, 1) := by decide +kernel
theorem dX9_takeLetter_2 : decode cX9_takeLetter 2 = .ok (.iload_n 2, 1) := by decide +kernel
theorem dX9_takeLetter_3 : decode cX9_takeLetter 3 = .ok (.iconst 1, 1) := by decide +kernel
theorem dX9_takeLetter_4 : decode cX9_takeLetter 4 = .ok (.iadd, 1) := by decide +kernel
theorem dX9_takeLetter_5 : decode cX9_takeLetter 5 = .ok (.aload_n 0, 1) := by decide +kernel
theorem dX9_takeLetter_6 : decode cX9_takeLetter 6 = .ok (.getfield 43, 3) := by decide +kernel
theorem dX9_takeLetter_9 : decode cX9_takeLetter 9 = .ok (.if_icmp .ge 27, 3) := by decide +kernel
theorem dX9_takeLetter_12 : decode cX9_takeLetter 12 = .ok (.aload_n 0, 1) := by decide +kernel
theorem dX9_takeLetter_13 : decode cX9_takeLetter 13 = .ok (.getfield 11, 3) := by decide +kernel
theorem dX9_takeLetter_16 : decode cX9_takeLetter 16 = .ok (.iload_n 2, 1) := by decide +kernel
theorem dX9_takeLetter_17 : decode cX9_takeLetter 17 = .ok (.aload_n 0, 1) := by decide +kernel
theorem dX9_takeLetter_18 : decode cX9_takeLetter 18 = .ok (.getfield 11, 3) := by decide +kernel
theorem dX9_takeLetter_21 : decode cX9_takeLetter 21 = .ok (.iload_n 2, 1) := by decide +kernel
theorem dX9_takeLetter_22 : decode cX9_takeLetter 22 = .ok (.iconst 1, 1) := by decide +kernel
theorem dX9_takeLetter_23 : decode cX9_takeLetter 23 = .ok (.iadd, 1) := by decide +kernel
theorem dX9_takeLetter_24 : decode cX9_takeLetter 24 = .ok (.invokestatic 47, 3) := by decide +kernel
theorem dX9_takeLetter_27 : decode cX9_takeLetter 27 = .ok (.invokestatic 51, 3) := by decide +kernel
theorem dX9_takeLetter_30 : decode cX9_takeLetter 30 = .ok (.iinc 2 1, 3) := by decide +kernel
theorem dX9_takeLetter_33 : decode cX9_takeLetter 33 = .ok (.goto (-31), 3) := by decide +kernel
theorem dX9_takeLetter_36 : decode cX9_takeLetter 36 = .ok (.aload_n 0, 1) := by decide +kernel
theorem dX9_takeLetter_37 : decode cX9_takeLetter 37 = .ok (.dup, 1) := by decide +kernel
theorem dX9_takeLetter_38 : decode cX9_takeLetter 38 = .ok (.getfield 43, 3) := by decide +kernel
theorem dX9_takeLetter_41 : decode cX9_takeLetter 41 = .ok (.iconst 1, 1) := by decide +kernel
theorem dX9_takeLetter_42 : decode cX9_takeLetter 42 = .ok (.isub, 1) := by decide +kernel
theorem dX9_takeLetter_43 : decode cX9_takeLetter 43 = .ok (.putfield 43, 3) := by decide +kernel
theorem dX9_takeLetter_46 : decode cX9_takeLetter 46 = .ok (.return_, 1) := by decide +kernel
theorem dX9_readInto_0 : decode cX9_readInto 0 = .ok (.aload_n 1, 1) := by decide +kernel
theorem dX9_readInto_1 : decode cX9_readInto 1 = .ok (.invokevirtual 55, 3) := by decide +kernel
theorem dX9_readInto_4 : decode cX9_readInto 4 = .ok (.aload_n 0, 1) := by decide +kernel
theorem dX9_readInto_5 : decode cX9_readInto 5 = .ok (.invokevirtual 60, 3) := by decide +kernel
theorem dX9_readInto_8 : decode cX9_readInto 8 = .ok (.aload_n 0, 1) := by decide +kernel
theorem dX9_readInto_9 : decode cX9_readInto 9 = .ok (.iconst 0, 1) := by decide +kernel
theorem dX9_readInto_10 : decode cX9_readInto 10 = .ok (.iconst 0, 1) := by decide +kernel
theorem dX9_readInto_11 : decode cX9_readInto 11 = .ok (.aload_n 0, 1) := by decide +kernel
theorem dX9_readInto_12 : decode cX9_readInto 12 = .ok (.getfield 43, 3) := by decide +kernel
theorem dX9_readInto_15 : decode cX9_readInto 15 = .ok (.invokevirtual 63, 3) := by decide +kernel
theorem dX9_readInto_18 : decode cX9_readInto 18 = .ok (.istore_n 2, 1) := by decide +kernel
theorem dX9_readInto_19 : decode cX9_readInto 19 = .ok (.iload_n 2, 1) := by decide +kernel
theorem dX9_readInto_20 : decode cX9_readInto 20 = .ok (.ldc 67, 2) := by decide +kernel
theorem dX9_readInto_22 : decode cX9_readInto 22 = .ok (.if_icmp .ge 25, 3) := by decide +kernel
theorem dX9_readInto_25 : decode cX9_readInto 25 = .ok (.iload_n 2, 1) := by decide +kernel
theorem dX9_readInto_26 : decode cX9_readInto 26 = .ok (.ldc 68, 2) := by decide +kernel
theorem dX9_readInto_28 : decode cX9_readInto 28 = .ok (.irem, 1) := by decide +kernel
theorem dX9_readInto_29 : decode cX9_readInto 29 = .ok (.bipush 30, 2) := by decide +kernel
theorem dX9_readInto_31 : decode cX9_readInto 31 = .ok (.if_icmp .gt 16, 3) := by decide +kernel
theorem dX9_readInto_34 : decode cX9_readInto 34 = .ok (.aload_n 0, 1) := by decide +kernel
theorem dX9_readInto_35 : decode cX9_readInto 35 = .ok (.aload_n 1, 1) := by decide +kernel
theorem dX9_readInto_36 : decode cX9_readInto 36 = .ok (.invokevirtual 69, 3) := by decide +kernel
theorem dX9_readInto_39 : decode cX9_readInto 39 = .ok (.aload_n 1, 1) := by decide +kernel
theorem dX9_readInto_40 : decode cX9_readInto 40 = .ok (.iload_n 2, 1) := by decide +kernel
theorem dX9_readInto_41 : decode cX9_readInto 41 = .ok (.ldc 68, 2) := by decide +kernel
theorem dX9_readInto_43 : decode cX9_readInto 43 = .ok (.idiv, 1) := by decide +kernel
theorem dX9_readInto_44 : decode cX9_readInto 44 = .ok (.putfield 73, 3) := by decide +kernel
theorem dX9_readInto_47 : decode cX9_readInto 47 = .ok (.return_, 1) := by decide +kernel
theorem dX9_measure_0 : decode cX9_measure 0 = .ok (.aload_n 0, 1) := by decide +kernel
theorem dX9_measure_1 : decode cX9_measure 1 = .ok (.getfield 15, 3) := by decide +kernel
theorem dX9_measure_4 : decode cX9_measure 4 = .ok (.ldc 67, 2) := by decide +kernel
theorem dX9_measure_6 : decode cX9_measure 6 = .ok (.invokestatic 76, 3) := by decide +kernel
theorem dX9_measure_9 : decode cX9_measure 9 = .ok (.aload_n 0, 1) := by decide +kernel
theorem dX9_measure_10 : decode cX9_measure 10 = .ok (.getfield 18, 3) := by decide +kernel
theorem dX9_measure_13 : decode cX9_measure 13 = .ok (.ldc 67, 2) := by decide +kernel
theorem dX9_measure_15 : decode cX9_measure 15 = .ok (.invokestatic 76, 3) := by decide +kernel
theorem dX9_measure_18 : decode cX9_measure 18 = .ok (.iconst 0, 1) := by decide +kernel
theorem dX9_measure_19 : decode cX9_measure 19 = .ok (.istore_n 1, 1) := by decide +kernel
theorem dX9_measure_20 : decode cX9_measure 20 = .ok (.iload_n 1, 1) := by decide +kernel
theorem dX9_measure_21 : decode cX9_measure 21 = .ok (.bipush 6, 2) := by decide +kernel
theorem dX9_measure_23 : decode cX9_measure 23 = .ok (.if_icmp .ge 14, 3) := by decide +kernel
theorem dX9_measure_26 : decode cX9_measure 26 = .ok (.aload_n 0, 1) := by decide +kernel
theorem dX9_measure_27 : decode cX9_measure 27 = .ok (.iload_n 1, 1) := by decide +kernel
theorem dX9_measure_28 : decode cX9_measure 28 = .ok (.invokevirtual 80, 3) := by decide +kernel
theorem dX9_measure_31 : decode cX9_measure 31 = .ok (.iinc 1 1, 3) := by decide +kernel
theorem dX9_measure_34 : decode cX9_measure 34 = .ok (.goto (-14), 3) := by decide +kernel
theorem dX9_measure_37 : decode cX9_measure 37 = .ok (.iconst 0, 1) := by decide +kernel
theorem dX9_measure_38 : decode cX9_measure 38 = .ok (.istore_n 1, 1) := by decide +kernel
theorem dX9_measure_39 : decode cX9_measure 39 = .ok (.iload_n 1, 1) := by decide +kernel
theorem dX9_measure_40 : decode cX9_measure 40 = .ok (.aload_n 0, 1) := by decide +kernel
theorem dX9_measure_41 : decode cX9_measure 41 = .ok (.getfield 43, 3) := by decide +kernel
theorem dX9_measure_44 : decode cX9_measure 44 = .ok (.if_icmp .gt 35, 3) := by decide +kernel
theorem dX9_measure_47 : decode cX9_measure 47 = .ok (.iconst 0, 1) := by decide +kernel
theorem dX9_measure_48 : decode cX9_measure 48 = .ok (.istore_n 2, 1) := by decide +kernel
theorem dX9_measure_49 : decode cX9_measure 49 = .ok (.iload_n 2, 1) := by decide +kernel
theorem dX9_measure_50 : decode cX9_measure 50 = .ok (.iload_n 1, 1) := by decide +kernel
theorem dX9_measure_51 : decode cX9_measure 51 = .ok (.iadd, 1) := by decide +kernel
theorem dX9_measure_52 : decode cX9_measure 52 = .ok (.aload_n 0, 1) := by decide +kernel
theorem dX9_measure_53 : decode cX9_measure 53 = .ok (.getfield 43, 3) := by decide +kernel
theorem dX9_measure_56 : decode cX9_measure 56 = .ok (.if_icmp .gt 17, 3) := by decide +kernel
theorem dX9_measure_59 : decode cX9_measure 59 = .ok (.aload_n 0, 1) := by decide +kernel
theorem dX9_measure_60 : decode cX9_measure 60 = .ok (.iload_n 2, 1) := by decide +kernel
theorem dX9_measure_61 : decode cX9_measure 61 = .ok (.iload_n 2, 1) := by decide +kernel
theorem dX9_measure_62 : decode cX9_measure 62 = .ok (.iload_n 1, 1) := by decide +kernel
theorem dX9_measure_63 : decode cX9_measure 63 = .ok (.iadd, 1) := by decide +kernel
theorem dX9_measure_64 : decode cX9_measure 64 = .ok (.invokevirtual 84, 3) := by decide +kernel
theorem dX9_measure_67 : decode cX9_measure 67 = .ok (.iinc 2 1, 3) := by decide +kernel
theorem dX9_measure_70 : decode cX9_measure 70 = .ok (.goto (-21), 3) := by decide +kernel
theorem dX9_measure_73 : decode cX9_measure 73 = .ok (.iinc 1 1, 3) := by decide +kernel
theorem dX9_measure_76 : decode cX9_measure 76 = .ok (.goto (-37), 3) := by decide +kernel
theorem dX9_measure_79 : decode cX9_measure 79 = .ok (.return_, 1) := by decide +kernel
theorem dX9_measureLetter_0 : decode cX9_measureLetter 0 = .ok (.iconst 0, 1) := by decide +kernel
theorem dX9_measureLetter_1 : decode cX9_measureLetter 1 = .ok (.istore_n 2, 1) := by decide +kernel
theorem dX9_measureLetter_2 : decode cX9_measureLetter 2 = .ok (.iload_n 2, 1) := by decide +kernel
theorem dX9_measureLetter_3 : decode cX9_measureLetter 3 = .ok (.aload_n 0, 1) := by decide +kernel
theorem dX9_measureLetter_4 : decode cX9_measureLetter 4 = .ok (.getfield 43, 3) := by decide +kernel
theorem dX9_measureLetter_7 : decode cX9_measureLetter 7 = .ok (.if_icmp .gt 102, 3) := by decide +kernel
theorem dX9_measureLetter_10 : decode cX9_measureLetter 10 = .ok (.iconst 0, 1) := by decide +kernel
theorem dX9_measureLetter_11 : decode cX9_measureLetter 11 = .ok (.istore_n 3, 1) := by decide +kernel
theorem dX9_measureLetter_12 : decode cX9_measureLetter 12 = .ok (.iload_n 2, 1) := by decide +kernel
theorem dX9_measureLetter_13 : decode cX9_measureLetter 13 = .ok (.istore 4, 2) := by decide +kernel
theorem dX9_measureLetter_15 : decode cX9_measureLetter 15 = .ok (.iload 4, 2) := by decide +kernel
theorem dX9_measureLetter_17 : decode cX9_measureLetter 17 = .ok (.aload_n 0, 1) := by decide +kernel
theorem dX9_measureLetter_18 : decode cX9_measureLetter 18 = .ok (.getfield 43, 3) := by decide +kernel
theorem dX9_measureLetter_21 : decode cX9_measureLetter 21 = .ok (.if_icmp .gt 82, 3) := by decide +kernel
theorem dX9_measureLetter_24 : decode cX9_measureLetter 24 = .ok (.iload_n 3, 1) := by decide +kernel
theorem dX9_measureLetter_25 : decode cX9_measureLetter 25 = .ok (.ifCond .ne 24, 3) := by decide +kernel
theorem dX9_measureLetter_28 : decode cX9_measureLetter 28 = .ok (.iload 4, 2) := by decide +kernel
theorem dX9_measureLetter_30 : decode cX9_measureLetter 30 = .ok (.iload_n 2, 1) := by decide +kernel
theorem dX9_measureLetter_31 : decode cX9_measureLetter 31 = .ok (.if_icmp .le 22, 3) := by decide +kernel
theorem dX9_measureLetter_34 : decode cX9_measureLetter 34 = .ok (.aload_n 0, 1) := by decide +kernel
theorem dX9_measureLetter_35 : decode cX9_measureLetter 35 = .ok (.getfield 11, 3) := by decide +kernel
theorem dX9_measureLetter_38 : decode cX9_measureLetter 38 = .ok (.iload 4, 2) := by decide +kernel
theorem dX9_measureLetter_40 : decode cX9_measureLetter 40 = .ok (.iconst 1, 1) := by decide +kernel
theorem dX9_measureLetter_41 : decode cX9_measureLetter 41 = .ok (.isub, 1) := by decide +kernel
theorem dX9_measureLetter_42 : decode cX9_measureLetter 42 = .ok (.invokestatic 47, 3) := by decide +kernel
theorem dX9_measureLetter_45 : decode cX9_measureLetter 45 = .ok (.iload_n 1, 1) := by decide +kernel
theorem dX9_measureLetter_46 : decode cX9_measureLetter 46 = .ok (.if_icmp .ne 7, 3) := by decide +kernel
theorem dX9_measureLetter_49 : decode cX9_measureLetter 49 = .ok (.iconst 1, 1) := by decide +kernel
theorem dX9_measureLetter_50 : decode cX9_measureLetter 50 = .ok (.goto 4, 3) := by decide +kernel
theorem dX9_measureLetter_53 : decode cX9_measureLetter 53 = .ok (.iconst 0, 1) := by decide +kernel
theorem dX9_measureLetter_54 : decode cX9_measureLetter 54 = .ok (.istore_n 3, 1) := by decide +kernel
theorem dX9_measureLetter_55 : decode cX9_measureLetter 55 = .ok (.iload_n 3, 1) := by decide +kernel
theorem dX9_measureLetter_56 : decode cX9_measureLetter 56 = .ok (.ifCond .eq 12, 3) := by decide +kernel
theorem dX9_measureLetter_59 : decode cX9_measureLetter 59 = .ok (.iload 4, 2) := by decide +kernel
theorem dX9_measureLetter_61 : decode cX9_measureLetter 61 = .ok (.iload_n 2, 1) := by decide +kernel
theorem dX9_measureLetter_62 : decode cX9_measureLetter 62 = .ok (.isub, 1) := by decide +kernel
theorem dX9_measureLetter_63 : decode cX9_measureLetter 63 = .ok (.iconst 1, 1) := by decide +kernel
theorem dX9_measureLetter_64 : decode cX9_measureLetter 64 = .ok (.isub, 1) := by decide +kernel
theorem dX9_measureLetter_65 : decode cX9_measureLetter 65 = .ok (.goto 9, 3) := by decide +kernel
theorem dX9_measureLetter_68 : decode cX9_measureLetter 68 = .ok (.iload 4, 2) := by decide +kernel
theorem dX9_measureLetter_70 : decode cX9_measureLetter 70 = .ok (.iload_n 2, 1) := by decide +kernel
theorem dX9_measureLetter_71 : decode cX9_measureLetter 71 = .ok (.isub, 1) := by decide +kernel
theorem dX9_measureLetter_72 : decode cX9_measureLetter 72 = .ok (.iconst 1, 1) := by decide +kernel
theorem dX9_measureLetter_73 : decode cX9_measureLetter 73 = .ok (.iadd, 1) := by decide +kernel
theorem dX9_measureLetter_74 : decode cX9_measureLetter 74 = .ok (.istore 5, 2) := by decide +kernel
theorem dX9_measureLetter_76 : decode cX9_measureLetter 76 = .ok (.aload_n 0, 1) := by decide +kernel
theorem dX9_measureLetter_77 : decode cX9_measureLetter 77 = .ok (.getfield 15, 3) := by decide +kernel
theorem dX9_measureLetter_80 : decode cX9_measureLetter 80 = .ok (.iconst 4, 1) := by decide +kernel
theorem dX9_measureLetter_81 : decode cX9_measureLetter 81 = .ok (.iload_n 1, 1) := by decide +kernel
theorem dX9_measureLetter_82 : decode cX9_measureLetter 82 = .ok (.iadd, 1) := by decide +kernel
theorem dX9_measureLetter_83 : decode cX9_measureLetter 83 = .ok (.iload_n 2, 1) := by decide +kernel
theorem dX9_measureLetter_84 : decode cX9_measureLetter 84 = .ok (.iload 4, 2) := by decide +kernel
theorem dX9_measureLetter_86 : decode cX9_measureLetter 86 = .ok (.invokestatic 88, 3) := by decide +kernel
theorem dX9_measureLetter_89 : decode cX9_measureLetter 89 = .ok (.iload 5, 2) := by decide +kernel
theorem dX9_measureLetter_91 : decode cX9_measureLetter 91 = .ok (.ldc 68, 2) := by decide +kernel
theorem dX9_measureLetter_93 : decode cX9_measureLetter 93 = .ok (.imul, 1) := by decide +kernel
theorem dX9_measureLetter_94 : decode cX9_measureLetter 94 = .ok (.invokestatic 51, 3) := by decide +kernel
theorem dX9_measureLetter_97 : decode cX9_measureLetter 97 = .ok (.iinc 4 1, 3) := by decide +kernel
theorem dX9_measureLetter_100 : decode cX9_measureLetter 100 = .ok (.goto (-85), 3) := by decide +kernel
theorem dX9_measureLetter_103 : decode cX9_measureLetter 103 = .ok (.iinc 2 1, 3) := by decide +kernel
theorem dX9_measureLetter_106 : decode cX9_measureLetter 106 = .ok (.goto (-104), 3) := by decide +kernel
theorem dX9_measureLetter_109 : decode cX9_measureLetter 109 = .ok (.return_, 1) := by decide +kernel
theorem dX9_measureStretch_0 : decode cX9_measureStretch 0 = .ok (.iconst 1, 1) := by decide +kernel
theorem dX9_measureStretch_1 : decode cX9_measureStretch 1 = .ok (.istore_n 3, 1) := by decide +kernel
theorem dX9_measureStretch_2 : decode cX9_measureStretch 2 = .ok (.iconst 0, 1) := by decide +kernel
theorem dX9_measureStretch_3 : decode cX9_measureStretch 3 = .ok (.istore 4, 2) := by decide +kernel
theorem dX9_measureStretch_5 : decode cX9_measureStretch 5 = .ok (.iload 4, 2) := by decide +kernel
theorem dX9_measureStretch_7 : decode cX9_measureStretch 7 = .ok (.bipush 6, 2) := by decide +kernel
theorem dX9_measureStretch_9 : decode cX9_measureStretch 9 = .ok (.if_icmp .ge 128, 3) := by decide +kernel
theorem dX9_measureStretch_12 : decode cX9_measureStretch 12 = .ok (.iload_n 3, 1) := by decide +kernel
theorem dX9_measureStretch_13 : decode cX9_measureStretch 13 = .ok (.ifCond .eq 124, 3) := by decide +kernel
theorem dX9_measureStretch_16 : decode cX9_measureStretch 16 = .ok (.iconst 0, 1) := by decide +kernel
theorem dX9_measureStretch_17 : decode cX9_measureStretch 17 = .ok (.istore_n 3, 1) := by decide +kernel
theorem dX9_measureStretch_18 : decode cX9_measureStretch 18 = .ok (.iconst 0, 1) := by decide +kernel
theorem dX9_measureStretch_19 : decode cX9_measureStretch 19 = .ok (.istore 5, 2) := by decide +kernel
theorem dX9_measureStretch_21 : decode cX9_measureStretch 21 = .ok (.iload 5, 2) := by decide +kernel
theorem dX9_measureStretch_23 : decode cX9_measureStretch 23 = .ok (.aload_n 0, 1) := by decide +kernel
theorem dX9_measureStretch_24 : decode cX9_measureStretch 24 = .ok (.getfield 39, 3) := by decide +kernel
theorem dX9_measureStretch_27 : decode cX9_measureStretch 27 = .ok (.getfield 91, 3) := by decide +kernel
theorem dX9_measureStretch_30 : decode cX9_measureStretch 30 = .ok (.if_icmp .ge 101, 3) := by decide +kernel
theorem dX9_measureStretch_33 : decode cX9_measureStretch 33 = .ok (.aload_n 0, 1) := by decide +kernel
theorem dX9_measureStretch_34 : decode cX9_measureStretch 34 = .ok (.getfield 39, 3) := by decide +kernel
theorem dX9_measureStretch_37 : decode cX9_measureStretch 37 = .ok (.iload 5, 2) := by decide +kernel
theorem dX9_measureStretch_39 : decode cX9_measureStretch 39 = .ok (.invokevirtual 96, 3) := by decide +kernel
theorem dX9_measureStretch_42 : decode cX9_measureStretch 42 = .ok (.iconst 3, 1) := by decide +kernel
theorem dX9_measureStretch_43 : decode cX9_measureStretch 43 = .ok (.if_icmp .ne 26, 3) := by decide +kernel
theorem dX9_measureStretch_46 : decode cX9_measureStretch 46 = .ok (.aload_n 0, 1) := by decide +kernel
theorem dX9_measureStretch_47 : decode cX9_measureStretch 47 = .ok (.getfield 18, 3) := by decide +kernel
theorem dX9_measureStretch_50 : decode cX9_measureStretch 50 = .ok (.iload 5, 2) := by decide +kernel
theorem dX9_measureStretch_52 : decode cX9_measureStretch 52 = .ok (.iload_n 1, 1) := by decide +kernel
theorem dX9_measureStretch_53 : decode cX9_measureStretch 53 = .ok (.iload_n 2, 1) := by decide +kernel
theorem dX9_measureStretch_54 : decode cX9_measureStretch 54 = .ok (.invokestatic 88, 3) := by decide +kernel
theorem dX9_measureStretch_57 : decode cX9_measureStretch 57 = .ok (.aload_n 0, 1) := by decide +kernel
theorem dX9_measureStretch_58 : decode cX9_measureStretch 58 = .ok (.iload 5, 2) := by decide +kernel
theorem dX9_measureStretch_60 : decode cX9_measureStretch 60 = .ok (.iconst 1, 1) := by decide +kernel
theorem dX9_measureStretch_61 : decode cX9_measureStretch 61 = .ok (.iload_n 1, 1) := by decide +kernel
theorem dX9_measureStretch_62 : decode cX9_measureStretch 62 = .ok (.iload_n 2, 1) := by decide +kernel
theorem dX9_measureStretch_63 : decode cX9_measureStretch 63 = .ok (.invokevirtual 100, 3) := by decide +kernel
theorem dX9_measureStretch_66 : decode cX9_measureStretch 66 = .ok (.invokestatic 51, 3) := by decide +kernel
theorem dX9_measureStretch_69 : decode cX9_measureStretch 69 = .ok (.aload_n 0, 1) := by decide +kernel
theorem dX9_measureStretch_70 : decode cX9_measureStretch 70 = .ok (.iload 5, 2) := by decide +kernel
theorem dX9_measureStretch_72 : decode cX9_measureStretch 72 = .ok (.iconst 0, 1) := by decide +kernel
theorem dX9_measureStretch_73 : decode cX9_measureStretch 73 = .ok (.iload_n 1, 1) := by decide +kernel
theorem dX9_measureStretch_74 : decode cX9_measureStretch 74 = .ok (.iload_n 2, 1) := by decide +kernel
theorem dX9_measureStretch_75 : decode cX9_measureStretch 75 = .ok (.invokevirtual 100, 3) := by decide +kernel
theorem dX9_measureStretch_78 : decode cX9_measureStretch 78 = .ok (.iconst 1, 1) := by decide +kernel
theorem dX9_measureStretch_79 : decode cX9_measureStretch 79 = .ok (.iadd, 1) := by decide +kernel
theorem dX9_measureStretch_80 : decode cX9_measureStretch 80 = .ok (.istore 6, 2) := by decide +kernel
theorem dX9_measureStretch_82 : decode cX9_measureStretch 82 = .ok (.aload_n 0, 1) := by decide +kernel
theorem dX9_measureStretch_83 : decode cX9_measureStretch 83 = .ok (.getfield 39, 3) := by decide +kernel
theorem dX9_measureStretch_86 : decode cX9_measureStretch 86 = .ok (.iload 5, 2) := by decide +kernel
theorem dX9_measureStretch_88 : decode cX9_measureStretch 88 = .ok (.invokevirtual 104, 3) := by decide +kernel
theorem dX9_measureStretch_91 : decode cX9_measureStretch 91 = .ok (.iload_n 1, 1) := by decide +kernel
theorem dX9_measureStretch_92 : decode cX9_measureStretch 92 = .ok (.iload_n 2, 1) := by decide +kernel
theorem dX9_measureStretch_93 : decode cX9_measureStretch 93 = .ok (.invokestatic 88, 3) := by decide +kernel
theorem dX9_measureStretch_96 : decode cX9_measureStretch 96 = .ok (.istore 7, 2) := by decide +kernel
theorem dX9_measureStretch_98 : decode cX9_measureStretch 98 = .ok (.iload 6, 2) := by decide +kernel
theorem dX9_measureStretch_100 : decode cX9_measureStretch 100 = .ok (.aload_n 0, 1) := by decide +kernel
theorem dX9_measureStretch_101 : decode cX9_measureStretch 101 = .ok (.getfield 15, 3) := by decide +kernel
theorem dX9_measureStretch_104 : decode cX9_measureStretch 104 = .ok (.iload 7, 2) := by decide +kernel
theorem dX9_measureStretch_106 : decode cX9_measureStretch 106 = .ok (.invokestatic 47, 3) := by decide +kernel
theorem dX9_measureStretch_109 : decode cX9_measureStretch 109 = .ok (.if_icmp .ge 16, 3) := by decide +kernel
theorem dX9_measureStretch_112 : decode cX9_measureStretch 112 = .ok (.aload_n 0, 1) := by decide +kernel
theorem dX9_measureStretch_113 : decode cX9_measureStretch 113 = .ok (.getfield 15, 3) := by decide +kernel
theorem dX9_measureStretch_116 : decode cX9_measureStretch 116 = .ok (.iload 7, 2) := by decide +kernel
theorem dX9_measureStretch_118 : decode cX9_measureStretch 118 = .ok (.iload 6, 2) := by decide +kernel
theorem dX9_measureStretch_120 : decode cX9_measureStretch 120 = .ok (.invokestatic 51, 3) := by decide +kernel
theorem dX9_measureStretch_123 : decode cX9_measureStretch 123 = .ok (.iconst 1, 1) := by decide +kernel
theorem dX9_measureStretch_124 : decode cX9_measureStretch 124 = .ok (.istore_n 3, 1) := by decide +kernel
theorem dX9_measureStretch_125 : decode cX9_measureStretch 125 = .ok (.iinc 5 1, 3) := by decide +kernel
theorem dX9_measureStretch_128 : decode cX9_measureStretch 128 = .ok (.goto (-107), 3) := by decide +kernel
theorem dX9_measureStretch_131 : decode cX9_measureStretch 131 = .ok (.iinc 4 1, 3) := by decide +kernel
theorem dX9_measureStretch_134 : decode cX9_measureStretch 134 = .ok (.goto (-129), 3) := by decide +kernel
theorem dX9_measureStretch_137 : decode cX9_measureStretch 137 = .ok (.return_, 1) := by decide +kernel
theorem dX9_weigh_0 : decode cX9_weigh 0 = .ok (.aload_n 0, 1) := by decide +kernel
theorem dX9_weigh_1 : decode cX9_weigh 1 = .ok (.getfield 39, 3) := by decide +kernel
theorem dX9_weigh_4 : decode cX9_weigh 4 = .ok (.iload_n 1, 1) := by decide +kernel
theorem dX9_weigh_5 : decode cX9_weigh 5 = .ok (.invokevirtual 96, 3) := by decide +kernel
theorem dX9_weigh_8 : decode cX9_weigh 8 = .ok (.iconst 1, 1) := by decide +kernel
theorem dX9_weigh_9 : decode cX9_weigh 9 = .ok (.isub, 1) := by decide +kernel
theorem dX9_weigh_10 : decode cX9_weigh 10 = .ok (.istore 5, 2) := by decide +kernel
theorem dX9_weigh_12 : decode cX9_weigh 12 = .ok (.aload_n 0, 1) := by decide +kernel
theorem dX9_weigh_13 : decode cX9_weigh 13 = .ok (.getfield 39, 3) := by decide +kernel
theorem dX9_weigh_16 : decode cX9_weigh 16 = .ok (.iload_n 1, 1) := by decide +kernel
theorem dX9_weigh_17 : decode cX9_weigh 17 = .ok (.iload_n 2, 1) := by decide +kernel
theorem dX9_weigh_18 : decode cX9_weigh 18 = .ok (.invokevirtual 107, 3) := by decide +kernel
theorem dX9_weigh_21 : decode cX9_weigh 21 = .ok (.istore 6, 2) := by decide +kernel
theorem dX9_weigh_23 : decode cX9_weigh 23 = .ok (.aload_n 0, 1) := by decide +kernel
theorem dX9_weigh_24 : decode cX9_weigh 24 = .ok (.iload 4, 2) := by decide +kernel
theorem dX9_weigh_26 : decode cX9_weigh 26 = .ok (.putfield 111, 3) := by decide +kernel
theorem dX9_weigh_29 : decode cX9_weigh 29 = .ok (.iload 5, 2) := by decide +kernel
theorem dX9_weigh_31 : decode cX9_weigh 31 = .ok (.ifCond .ge 11, 3) := by decide +kernel
theorem dX9_weigh_34 : decode cX9_weigh 34 = .ok (.iload 4, 2) := by decide +kernel
theorem dX9_weigh_36 : decode cX9_weigh 36 = .ok (.iload_n 3, 1) := by decide +kernel
theorem dX9_weigh_37 : decode cX9_weigh 37 = .ok (.isub, 1) := by decide +kernel
theorem dX9_weigh_38 : decode cX9_weigh 38 = .ok (.ldc 68, 2) := by decide +kernel
theorem dX9_weigh_40 : decode cX9_weigh 40 = .ok (.imul, 1) := by decide +kernel
theorem dX9_weigh_41 : decode cX9_weigh 41 = .ok (.ireturn, 1) := by decide +kernel
theorem dX9_weigh_42 : decode cX9_weigh 42 = .ok (.iload_n 2, 1) := by decide +kernel
theorem dX9_weigh_43 : decode cX9_weigh 43 = .ok (.iload 5, 2) := by decide +kernel
theorem dX9_weigh_45 : decode cX9_weigh 45 = .ok (.if_icmp .lt 13, 3) := by decide +kernel
theorem dX9_weigh_48 : decode cX9_weigh 48 = .ok (.aload_n 0, 1) := by decide +kernel
theorem dX9_weigh_49 : decode cX9_weigh 49 = .ok (.iload 6, 2) := by decide +kernel
theorem dX9_weigh_51 : decode cX9_weigh 51 = .ok (.iload_n 3, 1) := by decide +kernel
theorem dX9_weigh_52 : decode cX9_weigh 52 = .ok (.iload 4, 2) := by decide +kernel
theorem dX9_weigh_54 : decode cX9_weigh 54 = .ok (.invokevirtual 63, 3) := by decide +kernel
theorem dX9_weigh_57 : decode cX9_weigh 57 = .ok (.ireturn, 1) := by decide +kernel
theorem dX9_weigh_58 : decode cX9_weigh 58 = .ok (.iload_n 2, 1) := by decide +kernel
theorem dX9_weigh_59 : decode cX9_weigh 59 = .ok (.iconst 1, 1) := by decide +kernel
theorem dX9_weigh_60 : decode cX9_weigh 60 = .ok (.iadd, 1) := by decide +kernel
theorem dX9_weigh_61 : decode cX9_weigh 61 = .ok (.iload 5, 2) := by decide +kernel
theorem dX9_weigh_63 : decode cX9_weigh 63 = .ok (.if_icmp .ge 7, 3) := by decide +kernel
theorem dX9_weigh_66 : decode cX9_weigh 66 = .ok (.iconst 1, 1) := by decide +kernel
theorem dX9_weigh_67 : decode cX9_weigh 67 = .ok (.goto 4, 3) := by decide +kernel
theorem dX9_weigh_70 : decode cX9_weigh 70 = .ok (.iconst 0, 1) := by decide +kernel
theorem dX9_weigh_71 : decode cX9_weigh 71 = .ok (.istore 7, 2) := by decide +kernel
theorem dX9_weigh_73 : decode cX9_weigh 73 = .ok (.iload 7, 2) := by decide +kernel
theorem dX9_weigh_75 : decode cX9_weigh 75 = .ok (.ifCond .eq 10, 3) := by decide +kernel
theorem dX9_weigh_78 : decode cX9_weigh 78 = .ok (.aload_n 0, 1) := by decide +kernel
theorem dX9_weigh_79 : decode cX9_weigh 79 = .ok (.getfield 18, 3) := by decide +kernel
theorem dX9_weigh_82 : decode cX9_weigh 82 = .ok (.goto 7, 3) := by decide +kernel
theorem dX9_weigh_85 : decode cX9_weigh 85 = .ok (.aload_n 0, 1) := by decide +kernel
theorem dX9_weigh_86 : decode cX9_weigh 86 = .ok (.getfield 15, 3) := by decide +kernel
theorem dX9_weigh_89 : decode cX9_weigh 89 = .ok (.astore 8, 2) := by decide +kernel
theorem dX9_weigh_91 : decode cX9_weigh 91 = .ok (.iload 7, 2) := by decide +kernel
theorem dX9_weigh_93 : decode cX9_weigh 93 = .ok (.ifCond .eq 7, 3) := by decide +kernel
theorem dX9_weigh_96 : decode cX9_weigh 96 = .ok (.iload_n 1, 1) := by decide +kernel
theorem dX9_weigh_97 : decode cX9_weigh 97 = .ok (.goto 13, 3) := by decide +kernel
theorem dX9_weigh_100 : decode cX9_weigh 100 = .ok (.aload_n 0, 1) := by decide +kernel
theorem dX9_weigh_101 : decode cX9_weigh 101 = .ok (.getfield 39, 3) := by decide +kernel
theorem dX9_weigh_104 : decode cX9_weigh 104 = .ok (.iload_n 1, 1) := by decide +kernel
theorem dX9_weigh_105 : decode cX9_weigh 105 = .ok (.iload 5, 2) := by decide +kernel
theorem dX9_weigh_107 : decode cX9_weigh 107 = .ok (.invokevirtual 107, 3) := by decide +kernel
theorem dX9_weigh_110 : decode cX9_weigh 110 = .ok (.istore 9, 2) := by decide +kernel
theorem dX9_weigh_112 : decode cX9_weigh 112 = .ok (.ldc 67, 2) := by decide +kernel
theorem dX9_weigh_114 : decode cX9_weigh 114 = .ok (.istore 10, 2) := by decide +kernel
theorem dX9_weigh_116 : decode cX9_weigh 116 = .ok (.iload_n 3, 1) := by decide +kernel
theorem dX9_weigh_117 : decode cX9_weigh 117 = .ok (.istore 11, 2) := by decide +kernel
theorem dX9_weigh_119 : decode cX9_weigh 119 = .ok (.iload 11, 2) := by decide +kernel
theorem dX9_weigh_121 : decode cX9_weigh 121 = .ok (.iload 4, 2) := by decide +kernel
theorem dX9_weigh_123 : decode cX9_weigh 123 = .ok (.if_icmp .gt 52, 3) := by decide +kernel
theorem dX9_weigh_126 : decode cX9_weigh 126 = .ok (.aload_n 0, 1) := by decide +kernel
theorem dX9_weigh_127 : decode cX9_weigh 127 = .ok (.iload 6, 2) := by decide +kernel
theorem dX9_weigh_129 : decode cX9_weigh 129 = .ok (.iload_n 3, 1) := by decide +kernel
theorem dX9_weigh_130 : decode cX9_weigh 130 = .ok (.iload 11, 2) := by decide +kernel
theorem dX9_weigh_132 : decode cX9_weigh 132 = .ok (.invokevirtual 63, 3) := by decide +kernel
theorem dX9_weigh_135 : decode cX9_weigh 135 = .ok (.aload 8, 2) := by decide +kernel
theorem dX9_weigh_137 : decode cX9_weigh 137 = .ok (.iload 9, 2) := by decide +kernel
theorem dX9_weigh_139 : decode cX9_weigh 139 = .ok (.iload 11, 2) := by decide +kernel
theorem dX9_weigh_141 : decode cX9_weigh 141 = .ok (.iload 4, 2) := by decide +kernel
theorem dX9_weigh_143 : decode cX9_weigh 143 = .ok (.invokestatic 88, 3) := by decide +kernel
theorem dX9_weigh_146 : decode cX9_weigh 146 = .ok (.invokestatic 47, 3) := by decide +kernel
theorem dX9_weigh_149 : decode cX9_weigh 149 = .ok (.iadd, 1) := by decide +kernel
theorem dX9_weigh_150 : decode cX9_weigh 150 = .ok (.istore 12, 2) := by decide +kernel
theorem dX9_weigh_152 : decode cX9_weigh 152 = .ok (.iload 12, 2) := by decide +kernel
theorem dX9_weigh_154 : decode cX9_weigh 154 = .ok (.iload 10, 2) := by decide +kernel
theorem dX9_weigh_156 : decode cX9_weigh 156 = .ok (.if_icmp .ge 13, 3) := by decide +kernel
theorem dX9_weigh_159 : decode cX9_weigh 159 = .ok (.iload 12, 2) := by decide +kernel
theorem dX9_weigh_161 : decode cX9_weigh 161 = .ok (.istore 10, 2) := by decide +kernel
theorem dX9_weigh_163 : decode cX9_weigh 163 = .ok (.aload_n 0, 1) := by decide +kernel
theorem dX9_weigh_164 : decode cX9_weigh 164 = .ok (.iload 11, 2) := by decide +kernel
theorem dX9_weigh_166 : decode cX9_weigh 166 = .ok (.putfield 111, 3) := by decide +kernel
theorem dX9_weigh_169 : decode cX9_weigh 169 = .ok (.iinc 11 1, 3) := by decide +kernel
theorem dX9_weigh_172 : decode cX9_weigh 172 = .ok (.goto (-53), 3) := by decide +kernel
theorem dX9_weigh_175 : decode cX9_weigh 175 = .ok (.iload 10, 2) := by decide +kernel
theorem dX9_weigh_177 : decode cX9_weigh 177 = .ok (.ireturn, 1) := by decide +kernel
theorem dX9_weightOf_0 : decode cX9_weightOf 0 = .ok (.aload_n 0, 1) := by decide +kernel
theorem dX9_weightOf_1 : decode cX9_weightOf 1 = .ok (.getfield 15, 3) := by decide +kernel
theorem dX9_weightOf_4 : decode cX9_weightOf 4 = .ok (.iload_n 1, 1) := by decide +kernel
theorem dX9_weightOf_5 : decode cX9_weightOf 5 = .ok (.iload_n 2, 1) := by decide +kernel
theorem dX9_weightOf_6 : decode cX9_weightOf 6 = .ok (.iload_n 3, 1) := by decide +kernel
theorem dX9_weightOf_7 : decode cX9_weightOf 7 = .ok (.invokestatic 88, 3) := by decide +kernel
theorem dX9_weightOf_10 : decode cX9_weightOf 10 = .ok (.invokestatic 47, 3) := by decide +kernel
theorem dX9_weightOf_13 : decode cX9_weightOf 13 = .ok (.ireturn, 1) := by decide +kernel
theorem dX9_placeOf_0 : decode cX9_placeOf 0 = .ok (.iload_n 0, 1) := by decide +kernel
theorem dX9_placeOf_1 : decode cX9_placeOf 1 = .ok (.sipush 169, 3) := by decide +kernel
theorem dX9_placeOf_4 : decode cX9_placeOf 4 = .ok (.imul, 1) := by decide +kernel
theorem dX9_placeOf_5 : decode cX9_placeOf 5 = .ok (.iload_n 1, 1) := by decide +kernel
theorem dX9_placeOf_6 : decode cX9_placeOf 6 = .ok (.bipush 13, 2) := by decide +kernel
theorem dX9_placeOf_8 : decode cX9_placeOf 8 = .ok (.imul, 1) := by decide +kernel
theorem dX9_placeOf_9 : decode cX9_placeOf 9 = .ok (.iadd, 1) := by decide +kernel
theorem dX9_placeOf_10 : decode cX9_placeOf 10 = .ok (.iload_n 2, 1) := by decide +kernel
theorem dX9_placeOf_11 : decode cX9_placeOf 11 = .ok (.iadd, 1) := by decide +kernel
theorem dX9_placeOf_12 : decode cX9_placeOf 12 = .ok (.ireturn, 1) := by decide +kernel
theorem dX9_grow_0 : decode cX9_grow 0 = .ok (.aload_n 0, 1) := by decide +kernel
theorem dX9_grow_1 : decode cX9_grow 1 = .ok (.iconst 0, 1) := by decide +kernel
theorem dX9_grow_2 : decode cX9_grow 2 = .ok (.putfield 114, 3) := by decide +kernel
theorem dX9_grow_5 : decode cX9_grow 5 = .ok (.aload_n 0, 1) := by decide +kernel
theorem dX9_grow_6 : decode cX9_grow 6 = .ok (.iconst 0, 1) := by decide +kernel
theorem dX9_grow_7 : decode cX9_grow 7 = .ok (.iconst 0, 1) := by decide +kernel
theorem dX9_grow_8 : decode cX9_grow 8 = .ok (.aload_n 0, 1) := by decide +kernel
theorem dX9_grow_9 : decode cX9_grow 9 = .ok (.getfield 43, 3) := by decide +kernel
theorem dX9_grow_12 : decode cX9_grow 12 = .ok (.iconst (-1), 1) := by decide +kernel
theorem dX9_grow_13 : decode cX9_grow 13 = .ok (.iconst 0, 1) := by decide +kernel
theorem dX9_grow_14 : decode cX9_grow 14 = .ok (.invokevirtual 117, 3) := by decide +kernel
theorem dX9_grow_17 : decode cX9_grow 17 = .ok (.iconst 0, 1) := by decide +kernel
theorem dX9_grow_18 : decode cX9_grow 18 = .ok (.istore_n 2, 1) := by decide +kernel
theorem dX9_grow_19 : decode cX9_grow 19 = .ok (.iload_n 2, 1) := by decide +kernel
theorem dX9_grow_20 : decode cX9_grow 20 = .ok (.bipush 30, 2) := by decide +kernel
theorem dX9_grow_22 : decode cX9_grow 22 = .ok (.if_icmp .ge 128, 3) := by decide +kernel
theorem dX9_grow_25 : decode cX9_grow 25 = .ok (.aload_n 0, 1) := by decide +kernel
theorem dX9_grow_26 : decode cX9_grow 26 = .ok (.getfield 114, 3) := by decide +kernel
theorem dX9_grow_29 : decode cX9_grow 29 = .ok (.ifCond .le 121, 3) := by decide +kernel
theorem dX9_grow_32 : decode cX9_grow 32 = .ok (.aload_n 0, 1) := by decide +kernel
theorem dX9_grow_33 : decode cX9_grow 33 = .ok (.dup, 1) := by decide +kernel
theorem dX9_grow_34 : decode cX9_grow 34 = .ok (.getfield 114, 3) := by decide +kernel
theorem dX9_grow_37 : decode cX9_grow 37 = .ok (.iconst 1, 1) := by decide +kernel
theorem dX9_grow_38 : decode cX9_grow 38 = .ok (.isub, 1) := by decide +kernel
theorem dX9_grow_39 : decode cX9_grow 39 = .ok (.putfield 114, 3) := by decide +kernel
theorem dX9_grow_42 : decode cX9_grow 42 = .ok (.aload_n 0, 1) := by decide +kernel
theorem dX9_grow_43 : decode cX9_grow 43 = .ok (.getfield 24, 3) := by decide +kernel
theorem dX9_grow_46 : decode cX9_grow 46 = .ok (.aload_n 0, 1) := by decide +kernel
theorem dX9_grow_47 : decode cX9_grow 47 = .ok (.getfield 114, 3) := by decide +kernel
theorem dX9_grow_50 : decode cX9_grow 50 = .ok (.invokestatic 47, 3) := by decide +kernel
theorem dX9_grow_53 : decode cX9_grow 53 = .ok (.istore_n 3, 1) := by decide +kernel
theorem dX9_grow_54 : decode cX9_grow 54 = .ok (.aload_n 0, 1) := by decide +kernel
theorem dX9_grow_55 : decode cX9_grow 55 = .ok (.getfield 27, 3) := by decide +kernel
theorem dX9_grow_58 : decode cX9_grow 58 = .ok (.aload_n 0, 1) := by decide +kernel
theorem dX9_grow_59 : decode cX9_grow 59 = .ok (.getfield 114, 3) := by decide +kernel
theorem dX9_grow_62 : decode cX9_grow 62 = .ok (.invokestatic 47, 3) := by decide +kernel
theorem dX9_grow_65 : decode cX9_grow 65 = .ok (.istore 4, 2) := by decide +kernel
theorem dX9_grow_67 : decode cX9_grow 67 = .ok (.aload_n 0, 1) := by decide +kernel
theorem dX9_grow_68 : decode cX9_grow 68 = .ok (.aload_n 0, 1) := by decide +kernel
theorem dX9_grow_69 : decode cX9_grow 69 = .ok (.getfield 21, 3) := by decide +kernel
theorem dX9_grow_72 : decode cX9_grow 72 = .ok (.aload_n 0, 1) := by decide +kernel
theorem dX9_grow_73 : decode cX9_grow 73 = .ok (.getfield 114, 3) := by decide +kernel
theorem dX9_grow_76 : decode cX9_grow 76 = .ok (.invokestatic 47, 3) := by decide +kernel
theorem dX9_grow_79 : decode cX9_grow 79 = .ok (.iload_n 3, 1) := by decide +kernel
theorem dX9_grow_80 : decode cX9_grow 80 = .ok (.iload 4, 2) := by decide +kernel
theorem dX9_grow_82 : decode cX9_grow 82 = .ok (.invokevirtual 121, 3) := by decide +kernel
theorem dX9_grow_85 : decode cX9_grow 85 = .ok (.istore 5, 2) := by decide +kernel
theorem dX9_grow_87 : decode cX9_grow 87 = .ok (.aload_n 0, 1) := by decide +kernel
theorem dX9_grow_88 : decode cX9_grow 88 = .ok (.iload 5, 2) := by decide +kernel
theorem dX9_grow_90 : decode cX9_grow 90 = .ok (.iload_n 3, 1) := by decide +kernel
theorem dX9_grow_91 : decode cX9_grow 91 = .ok (.iload 4, 2) := by decide +kernel
theorem dX9_grow_93 : decode cX9_grow 93 = .ok (.invokevirtual 124, 3) := by decide +kernel
theorem dX9_grow_96 : decode cX9_grow 96 = .ok (.aload_n 0, 1) := by decide +kernel
theorem dX9_grow_97 : decode cX9_grow 97 = .ok (.iload 5, 2) := by decide +kernel
theorem dX9_grow_99 : decode cX9_grow 99 = .ok (.invokevirtual 128, 3) := by decide +kernel
theorem dX9_grow_102 : decode cX9_grow 102 = .ok (.istore 6, 2) := by decide +kernel
theorem dX9_grow_104 : decode cX9_grow 104 = .ok (.aload_n 1, 1) := by decide +kernel
theorem dX9_grow_105 : decode cX9_grow 105 = .ok (.aload_n 0, 1) := by decide +kernel
theorem dX9_grow_106 : decode cX9_grow 106 = .ok (.getfield 30, 3) := by decide +kernel
theorem dX9_grow_109 : decode cX9_grow 109 = .ok (.aload_n 0, 1) := by decide +kernel
theorem dX9_grow_110 : decode cX9_grow 110 = .ok (.getfield 114, 3) := by decide +kernel
theorem dX9_grow_113 : decode cX9_grow 113 = .ok (.invokestatic 47, 3) := by decide +kernel
theorem dX9_grow_116 : decode cX9_grow 116 = .ok (.aload_n 0, 1) := by decide +kernel
theorem dX9_grow_117 : decode cX9_grow 117 = .ok (.getfield 33, 3) := by decide +kernel
theorem dX9_grow_120 : decode cX9_grow 120 = .ok (.aload_n 0, 1) := by decide +kernel
theorem dX9_grow_121 : decode cX9_grow 121 = .ok (.getfield 114, 3) := by decide +kernel
theorem dX9_grow_124 : decode cX9_grow 124 = .ok (.invokestatic 47, 3) := by decide +kernel
theorem dX9_grow_127 : decode cX9_grow 127 = .ok (.iload 5, 2) := by decide +kernel
theorem dX9_grow_129 : decode cX9_grow 129 = .ok (.iload 6, 2) := by decide +kernel
theorem dX9_grow_131 : decode cX9_grow 131 = .ok (.invokevirtual 131, 3) := by decide +kernel
theorem dX9_grow_134 : decode cX9_grow 134 = .ok (.istore 7, 2) := by decide +kernel
theorem dX9_grow_136 : decode cX9_grow 136 = .ok (.aload_n 0, 1) := by decide +kernel
theorem dX9_grow_137 : decode cX9_grow 137 = .ok (.iload 5, 2) := by decide +kernel
theorem dX9_grow_139 : decode cX9_grow 139 = .ok (.iload 7, 2) := by decide +kernel
theorem dX9_grow_141 : decode cX9_grow 141 = .ok (.invokevirtual 134, 3) := by decide +kernel
theorem dX9_grow_144 : decode cX9_grow 144 = .ok (.iinc 2 1, 3) := by decide +kernel
theorem dX9_grow_147 : decode cX9_grow 147 = .ok (.goto (-128), 3) := by decide +kernel
theorem dX9_grow_150 : decode cX9_grow 150 = .ok (.return_, 1) := by decide +kernel
theorem dX9_await_0 : decode cX9_await 0 = .ok (.aload_n 0, 1) := by decide +kernel
theorem dX9_await_1 : decode cX9_await 1 = .ok (.getfield 114, 3) := by decide +kernel
theorem dX9_await_4 : decode cX9_await 4 = .ok (.bipush 90, 2) := by decide +kernel
theorem dX9_await_6 : decode cX9_await 6 = .ok (.if_icmp .lt 4, 3) := by decide +kernel
theorem dX9_await_9 : decode cX9_await 9 = .ok (.return_, 1) := by decide +kernel
theorem dX9_await_10 : decode cX9_await 10 = .ok (.aload_n 0, 1) := by decide +kernel
theorem dX9_await_11 : decode cX9_await 11 = .ok (.getfield 21, 3) := by decide +kernel
theorem dX9_await_14 : decode cX9_await 14 = .ok (.aload_n 0, 1) := by decide +kernel
theorem dX9_await_15 : decode cX9_await 15 = .ok (.getfield 114, 3) := by decide +kernel
theorem dX9_await_18 : decode cX9_await 18 = .ok (.iload_n 1, 1) := by decide +kernel
theorem dX9_await_19 : decode cX9_await 19 = .ok (.invokestatic 51, 3) := by decide +kernel
theorem dX9_await_22 : decode cX9_await 22 = .ok (.aload_n 0, 1) := by decide +kernel
theorem dX9_await_23 : decode cX9_await 23 = .ok (.getfield 24, 3) := by decide +kernel
theorem dX9_await_26 : decode cX9_await 26 = .ok (.aload_n 0, 1) := by decide +kernel
theorem dX9_await_27 : decode cX9_await 27 = .ok (.getfield 114, 3) := by decide +kernel
theorem dX9_await_30 : decode cX9_await 30 = .ok (.iload_n 2, 1) := by decide +kernel
theorem dX9_await_31 : decode cX9_await 31 = .ok (.invokestatic 51, 3) := by decide +kernel
theorem dX9_await_34 : decode cX9_await 34 = .ok (.aload_n 0, 1) := by decide +kernel
theorem dX9_await_35 : decode cX9_await 35 = .ok (.getfield 27, 3) := by decide +kernel
theorem dX9_await_38 : decode cX9_await 38 = .ok (.aload_n 0, 1) := by decide +kernel
theorem dX9_await_39 : decode cX9_await 39 = .ok (.getfield 114, 3) := by decide +kernel
theorem dX9_await_42 : decode cX9_await 42 = .ok (.iload_n 3, 1) := by decide +kernel
theorem dX9_await_43 : decode cX9_await 43 = .ok (.invokestatic 51, 3) := by decide +kernel
theorem dX9_await_46 : decode cX9_await 46 = .ok (.aload_n 0, 1) := by decide +kernel
theorem dX9_await_47 : decode cX9_await 47 = .ok (.getfield 30, 3) := by decide +kernel
theorem dX9_await_50 : decode cX9_await 50 = .ok (.aload_n 0, 1) := by decide +kernel
theorem dX9_await_51 : decode cX9_await 51 = .ok (.getfield 114, 3) := by decide +kernel
theorem dX9_await_54 : decode cX9_await 54 = .ok (.iload 4, 2) := by decide +kernel
theorem dX9_await_56 : decode cX9_await 56 = .ok (.invokestatic 51, 3) := by decide +kernel
theorem dX9_await_59 : decode cX9_await 59 = .ok (.aload_n 0, 1) := by decide +kernel
theorem dX9_await_60 : decode cX9_await 60 = .ok (.getfield 33, 3) := by decide +kernel
theorem dX9_await_63 : decode cX9_await 63 = .ok (.aload_n 0, 1) := by decide +kernel
theorem dX9_await_64 : decode cX9_await 64 = .ok (.getfield 114, 3) := by decide +kernel
theorem dX9_await_67 : decode cX9_await 67 = .ok (.iload 5, 2) := by decide +kernel
theorem dX9_await_69 : decode cX9_await 69 = .ok (.invokestatic 51, 3) := by decide +kernel
theorem dX9_await_72 : decode cX9_await 72 = .ok (.aload_n 0, 1) := by decide +kernel
theorem dX9_await_73 : decode cX9_await 73 = .ok (.dup, 1) := by decide +kernel
theorem dX9_await_74 : decode cX9_await 74 = .ok (.getfield 114, 3) := by decide +kernel
theorem dX9_await_77 : decode cX9_await 77 = .ok (.iconst 1, 1) := by decide +kernel
theorem dX9_await_78 : decode cX9_await 78 = .ok (.iadd, 1) := by decide +kernel
theorem dX9_await_79 : decode cX9_await 79 = .ok (.putfield 114, 3) := by decide +kernel
theorem dX9_await_82 : decode cX9_await 82 = .ok (.return_, 1) := by decide +kernel
theorem dX9_productionFor_0 : decode cX9_productionFor 0 = .ok (.aload_n 0, 1) := by decide +kernel
theorem dX9_productionFor_1 : decode cX9_productionFor 1 = .ok (.iload_n 1, 1) := by decide +kernel
theorem dX9_productionFor_2 : decode cX9_productionFor 2 = .ok (.iload_n 2, 1) := by decide +kernel
theorem dX9_productionFor_3 : decode cX9_productionFor 3 = .ok (.iload_n 3, 1) := by decide +kernel
theorem dX9_productionFor_4 : decode cX9_productionFor 4 = .ok (.invokevirtual 63, 3) := by decide +kernel
theorem dX9_productionFor_7 : decode cX9_productionFor 7 = .ok (.istore 4, 2) := by decide +kernel
theorem dX9_productionFor_9 : decode cX9_productionFor 9 = .ok (.iconst 0, 1) := by decide +kernel
theorem dX9_productionFor_10 : decode cX9_productionFor 10 = .ok (.istore 5, 2) := by decide +kernel
theorem dX9_productionFor_12 : decode cX9_productionFor 12 = .ok (.iload 5, 2) := by decide +kernel
theorem dX9_productionFor_14 : decode cX9_productionFor 14 = .ok (.aload_n 0, 1) := by decide +kernel
theorem dX9_productionFor_15 : decode cX9_productionFor 15 = .ok (.getfield 39, 3) := by decide +kernel
theorem dX9_productionFor_18 : decode cX9_productionFor 18 = .ok (.getfield 91, 3) := by decide +kernel
theorem dX9_productionFor_21 : decode cX9_productionFor 21 = .ok (.if_icmp .ge 41, 3) := by decide +kernel
theorem dX9_productionFor_24 : decode cX9_productionFor 24 = .ok (.aload_n 0, 1) := by decide +kernel
theorem dX9_productionFor_25 : decode cX9_productionFor 25 = .ok (.getfield 39, 3) := by decide +kernel
theorem dX9_productionFor_28 : decode cX9_productionFor 28 = .ok (.iload 5, 2) := by decide +kernel
theorem dX9_productionFor_30 : decode cX9_productionFor 30 = .ok (.invokevirtual 104, 3) := by decide +kernel
theorem dX9_productionFor_33 : decode cX9_productionFor 33 = .ok (.iload_n 1, 1) := by decide +kernel
theorem dX9_productionFor_34 : decode cX9_productionFor 34 = .ok (.if_icmp .ne 22, 3) := by decide +kernel
theorem dX9_productionFor_37 : decode cX9_productionFor 37 = .ok (.aload_n 0, 1) := by decide +kernel
theorem dX9_productionFor_38 : decode cX9_productionFor 38 = .ok (.iload 5, 2) := by decide +kernel
theorem dX9_productionFor_40 : decode cX9_productionFor 40 = .ok (.iconst 0, 1) := by decide +kernel
theorem dX9_productionFor_41 : decode cX9_productionFor 41 = .ok (.iload_n 2, 1) := by decide +kernel
theorem dX9_productionFor_42 : decode cX9_productionFor 42 = .ok (.iload_n 3, 1) := by decide +kernel
theorem dX9_productionFor_43 : decode cX9_productionFor 43 = .ok (.invokevirtual 100, 3) := by decide +kernel
theorem dX9_productionFor_46 : decode cX9_productionFor 46 = .ok (.iconst 1, 1) := by decide +kernel
theorem dX9_productionFor_47 : decode cX9_productionFor 47 = .ok (.iadd, 1) := by decide +kernel
theorem dX9_productionFor_48 : decode cX9_productionFor 48 = .ok (.iload 4, 2) := by decide +kernel
theorem dX9_productionFor_50 : decode cX9_productionFor 50 = .ok (.if_icmp .ne 6, 3) := by decide +kernel
theorem dX9_productionFor_53 : decode cX9_productionFor 53 = .ok (.iload 5, 2) := by decide +kernel
theorem dX9_productionFor_55 : decode cX9_productionFor 55 = .ok (.ireturn, 1) := by decide +kernel
theorem dX9_productionFor_56 : decode cX9_productionFor 56 = .ok (.iinc 5 1, 3) := by decide +kernel
theorem dX9_productionFor_59 : decode cX9_productionFor 59 = .ok (.goto (-47), 3) := by decide +kernel
theorem dX9_productionFor_62 : decode cX9_productionFor 62 = .ok (.iconst (-1), 1) := by decide +kernel
theorem dX9_productionFor_63 : decode cX9_productionFor 63 = .ok (.ireturn, 1) := by decide +kernel
theorem dX9_cutUp_0 : decode cX9_cutUp 0 = .ok (.aload_n 0, 1) := by decide +kernel
theorem dX9_cutUp_1 : decode cX9_cutUp 1 = .ok (.getfield 36, 3) := by decide +kernel
theorem dX9_cutUp_4 : decode cX9_cutUp 4 = .ok (.iload_n 3, 1) := by decide +kernel
theorem dX9_cutUp_5 : decode cX9_cutUp 5 = .ok (.invokestatic 76, 3) := by decide +kernel
theorem dX9_cutUp_8 : decode cX9_cutUp 8 = .ok (.aload_n 0, 1) := by decide +kernel
theorem dX9_cutUp_9 : decode cX9_cutUp 9 = .ok (.getfield 36, 3) := by decide +kernel
theorem dX9_cutUp_12 : decode cX9_cutUp 12 = .ok (.iconst 0, 1) := by decide +kernel
theorem dX9_cutUp_13 : decode cX9_cutUp 13 = .ok (.iload_n 2, 1) := by decide +kernel
theorem dX9_cutUp_14 : decode cX9_cutUp 14 = .ok (.invokestatic 51, 3) := by decide +kernel
theorem dX9_cutUp_17 : decode cX9_cutUp 17 = .ok (.iload_n 2, 1) := by decide +kernel
theorem dX9_cutUp_18 : decode cX9_cutUp 18 = .ok (.istore 4, 2) := by decide +kernel
theorem dX9_cutUp_20 : decode cX9_cutUp 20 = .ok (.iconst 0, 1) := by decide +kernel
theorem dX9_cutUp_21 : decode cX9_cutUp 21 = .ok (.istore 5, 2) := by decide +kernel
theorem dX9_cutUp_23 : decode cX9_cutUp 23 = .ok (.iload 5, 2) := by decide +kernel
theorem dX9_cutUp_25 : decode cX9_cutUp 25 = .ok (.aload_n 0, 1) := by decide +kernel
theorem dX9_cutUp_26 : decode cX9_cutUp 26 = .ok (.getfield 39, 3) := by decide +kernel
theorem dX9_cutUp_29 : decode cX9_cutUp 29 = .ok (.iload_n 1, 1) := by decide +kernel
theorem dX9_cutUp_30 : decode cX9_cutUp 30 = .ok (.invokevirtual 96, 3) := by decide +kernel
theorem dX9_cutUp_33 : decode cX9_cutUp 33 = .ok (.if_icmp .ge 39, 3) := by decide +kernel
theorem dX9_cutUp_36 : decode cX9_cutUp 36 = .ok (.aload_n 0, 1) := by decide +kernel
theorem dX9_cutUp_37 : decode cX9_cutUp 37 = .ok (.iload_n 1, 1) := by decide +kernel
theorem dX9_cutUp_38 : decode cX9_cutUp 38 = .ok (.iload 5, 2) := by decide +kernel
theorem dX9_cutUp_40 : decode cX9_cutUp 40 = .ok (.iload 4, 2) := by decide +kernel
theorem dX9_cutUp_42 : decode cX9_cutUp 42 = .ok (.iload_n 3, 1) := by decide +kernel
theorem dX9_cutUp_43 : decode cX9_cutUp 43 = .ok (.invokevirtual 100, 3) := by decide +kernel
theorem dX9_cutUp_46 : decode cX9_cutUp 46 = .ok (.pop, 1) := by decide +kernel
theorem dX9_cutUp_47 : decode cX9_cutUp 47 = .ok (.aload_n 0, 1) := by decide +kernel
theorem dX9_cutUp_48 : decode cX9_cutUp 48 = .ok (.getfield 111, 3) := by decide +kernel
theorem dX9_cutUp_51 : decode cX9_cutUp 51 = .ok (.istore 4, 2) := by decide +kernel
theorem dX9_cutUp_53 : decode cX9_cutUp 53 = .ok (.aload_n 0, 1) := by decide +kernel
theorem dX9_cutUp_54 : decode cX9_cutUp 54 = .ok (.getfield 36, 3) := by decide +kernel
theorem dX9_cutUp_57 : decode cX9_cutUp 57 = .ok (.iload 5, 2) := by decide +kernel
theorem dX9_cutUp_59 : decode cX9_cutUp 59 = .ok (.iconst 1, 1) := by decide +kernel
theorem dX9_cutUp_60 : decode cX9_cutUp 60 = .ok (.iadd, 1) := by decide +kernel
theorem dX9_cutUp_61 : decode cX9_cutUp 61 = .ok (.iload 4, 2) := by decide +kernel
theorem dX9_cutUp_63 : decode cX9_cutUp 63 = .ok (.invokestatic 51, 3) := by decide +kernel
theorem dX9_cutUp_66 : decode cX9_cutUp 66 = .ok (.iinc 5 1, 3) := by decide +kernel
theorem dX9_cutUp_69 : decode cX9_cutUp 69 = .ok (.goto (-46), 3) := by decide +kernel
theorem dX9_cutUp_72 : decode cX9_cutUp 72 = .ok (.return_, 1) := by decide +kernel
theorem dX9_putsOf_0 : decode cX9_putsOf 0 = .ok (.iconst 0, 1) := by decide +kernel
theorem dX9_putsOf_1 : decode cX9_putsOf 1 = .ok (.istore_n 2, 1) := by decide +kernel
theorem dX9_putsOf_2 : decode cX9_putsOf 2 = .ok (.iconst 1, 1) := by decide +kernel
theorem dX9_putsOf_3 : decode cX9_putsOf 3 = .ok (.istore_n 3, 1) := by decide +kernel
theorem dX9_putsOf_4 : decode cX9_putsOf 4 = .ok (.iconst 0, 1) := by decide +kernel
theorem dX9_putsOf_5 : decode cX9_putsOf 5 = .ok (.istore 4, 2) := by decide +kernel
theorem dX9_putsOf_7 : decode cX9_putsOf 7 = .ok (.iload 4, 2) := by decide +kernel
theorem dX9_putsOf_9 : decode cX9_putsOf 9 = .ok (.aload_n 0, 1) := by decide +kernel
theorem dX9_putsOf_10 : decode cX9_putsOf 10 = .ok (.getfield 39, 3) := by decide +kernel
theorem dX9_putsOf_13 : decode cX9_putsOf 13 = .ok (.iload_n 1, 1) := by decide +kernel
theorem dX9_putsOf_14 : decode cX9_putsOf 14 = .ok (.invokevirtual 96, 3) := by decide +kernel
theorem dX9_putsOf_17 : decode cX9_putsOf 17 = .ok (.if_icmp .ge 87, 3) := by decide +kernel
theorem dX9_putsOf_20 : decode cX9_putsOf 20 = .ok (.aload_n 0, 1) := by decide +kernel
theorem dX9_putsOf_21 : decode cX9_putsOf 21 = .ok (.getfield 39, 3) := by decide +kernel
theorem dX9_putsOf_24 : decode cX9_putsOf 24 = .ok (.iload_n 1, 1) := by decide +kernel
theorem dX9_putsOf_25 : decode cX9_putsOf 25 = .ok (.iload 4, 2) := by decide +kernel
theorem dX9_putsOf_27 : decode cX9_putsOf 27 = .ok (.invokevirtual 107, 3) := by decide +kernel
theorem dX9_putsOf_30 : decode cX9_putsOf 30 = .ok (.istore 5, 2) := by decide +kernel
theorem dX9_putsOf_32 : decode cX9_putsOf 32 = .ok (.iload 5, 2) := by decide +kernel
theorem dX9_putsOf_34 : decode cX9_putsOf 34 = .ok (.iconst 4, 1) := by decide +kernel
theorem dX9_putsOf_35 : decode cX9_putsOf 35 = .ok (.if_icmp .ge 6, 3) := by decide +kernel
theorem dX9_putsOf_38 : decode cX9_putsOf 38 = .ok (.goto 60, 3) := by decide +kernel
theorem dX9_putsOf_41 : decode cX9_putsOf 41 = .ok (.aload_n 0, 1) := by decide +kernel
theorem dX9_putsOf_42 : decode cX9_putsOf 42 = .ok (.getfield 36, 3) := by decide +kernel
theorem dX9_putsOf_45 : decode cX9_putsOf 45 = .ok (.iload 4, 2) := by decide +kernel
theorem dX9_putsOf_47 : decode cX9_putsOf 47 = .ok (.invokestatic 47, 3) := by decide +kernel
theorem dX9_putsOf_50 : decode cX9_putsOf 50 = .ok (.istore 6, 2) := by decide +kernel
theorem dX9_putsOf_52 : decode cX9_putsOf 52 = .ok (.aload_n 0, 1) := by decide +kernel
theorem dX9_putsOf_53 : decode cX9_putsOf 53 = .ok (.getfield 36, 3) := by decide +kernel
theorem dX9_putsOf_56 : decode cX9_putsOf 56 = .ok (.iload 4, 2) := by decide +kernel
theorem dX9_putsOf_58 : decode cX9_putsOf 58 = .ok (.iconst 1, 1) := by decide +kernel
theorem dX9_putsOf_59 : decode cX9_putsOf 59 = .ok (.iadd, 1) := by decide +kernel
theorem dX9_putsOf_60 : decode cX9_putsOf 60 = .ok (.invokestatic 47, 3) := by decide +kernel
theorem dX9_putsOf_63 : decode cX9_putsOf 63 = .ok (.istore 7, 2) := by decide +kernel
theorem dX9_putsOf_65 : decode cX9_putsOf 65 = .ok (.iload_n 2, 1) := by decide +kernel
theorem dX9_putsOf_66 : decode cX9_putsOf 66 = .ok (.aload_n 0, 1) := by decide +kernel
theorem dX9_putsOf_67 : decode cX9_putsOf 67 = .ok (.iload 5, 2) := by decide +kernel
theorem dX9_putsOf_69 : decode cX9_putsOf 69 = .ok (.iload 6, 2) := by decide +kernel
theorem dX9_putsOf_71 : decode cX9_putsOf 71 = .ok (.iload 7, 2) := by decide +kernel
theorem dX9_putsOf_73 : decode cX9_putsOf 73 = .ok (.invokevirtual 63, 3) := by decide +kernel
theorem dX9_putsOf_76 : decode cX9_putsOf 76 = .ok (.iload 7, 2) := by decide +kernel
theorem dX9_putsOf_78 : decode cX9_putsOf 78 = .ok (.iload 6, 2) := by decide +kernel
theorem dX9_putsOf_80 : decode cX9_putsOf 80 = .ok (.isub, 1) := by decide +kernel
theorem dX9_putsOf_81 : decode cX9_putsOf 81 = .ok (.ldc 68, 2) := by decide +kernel
theorem dX9_putsOf_83 : decode cX9_putsOf 83 = .ok (.imul, 1) := by decide +kernel
theorem dX9_putsOf_84 : decode cX9_putsOf 84 = .ok (.if_icmp .le 7, 3) := by decide +kernel
theorem dX9_putsOf_87 : decode cX9_putsOf 87 = .ok (.iload_n 3, 1) := by decide +kernel
theorem dX9_putsOf_88 : decode cX9_putsOf 88 = .ok (.goto 4, 3) := by decide +kernel
theorem dX9_putsOf_91 : decode cX9_putsOf 91 = .ok (.iconst 0, 1) := by decide +kernel
theorem dX9_putsOf_92 : decode cX9_putsOf 92 = .ok (.ior, 1) := by decide +kernel
theorem dX9_putsOf_93 : decode cX9_putsOf 93 = .ok (.istore_n 2, 1) := by decide +kernel
theorem dX9_putsOf_94 : decode cX9_putsOf 94 = .ok (.iload_n 3, 1) := by decide +kernel
theorem dX9_putsOf_95 : decode cX9_putsOf 95 = .ok (.iconst 1, 1) := by decide +kernel
theorem dX9_putsOf_96 : decode cX9_putsOf 96 = .ok (.ishl, 1) := by decide +kernel
theorem dX9_putsOf_97 : decode cX9_putsOf 97 = .ok (.istore_n 3, 1) := by decide +kernel
theorem dX9_putsOf_98 : decode cX9_putsOf 98 = .ok (.iinc 4 1, 3) := by decide +kernel
theorem dX9_putsOf_101 : decode cX9_putsOf 101 = .ok (.goto (-94), 3) := by decide +kernel
theorem dX9_putsOf_104 : decode cX9_putsOf 104 = .ok (.iload_n 2, 1) := by decide +kernel
theorem dX9_putsOf_105 : decode cX9_putsOf 105 = .ok (.ireturn, 1) := by decide +kernel
theorem dX9_awaitChildren_0 : decode cX9_awaitChildren 0 = .ok (.aload_n 0, 1) := by decide +kernel
theorem dX9_awaitChildren_1 : decode cX9_awaitChildren 1 = .ok (.getfield 39, 3) := by decide +kernel
theorem dX9_awaitChildren_4 : decode cX9_awaitChildren 4 = .ok (.iload_n 1, 1) := by decide +kernel
theorem dX9_awaitChildren_5 : decode cX9_awaitChildren 5 = .ok (.invokevirtual 137, 3) := by decide +kernel
theorem dX9_awaitChildren_8 : decode cX9_awaitChildren 8 = .ok (.istore_n 3, 1) := by decide +kernel
theorem dX9_awaitChildren_9 : decode cX9_awaitChildren 9 = .ok (.aload_n 0, 1) := by decide +kernel
theorem dX9_awaitChildren_10 : decode cX9_awaitChildren 10 = .ok (.getfield 39, 3) := by decide +kernel
theorem dX9_awaitChildren_13 : decode cX9_awaitChildren 13 = .ok (.iload_n 1, 1) := by decide +kernel
theorem dX9_awaitChildren_14 : decode cX9_awaitChildren 14 = .ok (.invokevirtual 96, 3) := by decide +kernel
theorem dX9_awaitChildren_17 : decode cX9_awaitChildren 17 = .ok (.iconst 1, 1) := by decide +kernel
theorem dX9_awaitChildren_18 : decode cX9_awaitChildren 18 = .ok (.isub, 1) := by decide +kernel
theorem dX9_awaitChildren_19 : decode cX9_awaitChildren 19 = .ok (.istore 4, 2) := by decide +kernel
theorem dX9_awaitChildren_21 : decode cX9_awaitChildren 21 = .ok (.iload 4, 2) := by decide +kernel
theorem dX9_awaitChildren_23 : decode cX9_awaitChildren 23 = .ok (.ifCond .lt 58, 3) := by decide +kernel
theorem dX9_awaitChildren_26 : decode cX9_awaitChildren 26 = .ok (.aload_n 0, 1) := by decide +kernel
theorem dX9_awaitChildren_27 : decode cX9_awaitChildren 27 = .ok (.getfield 39, 3) := by decide +kernel
theorem dX9_awaitChildren_30 : decode cX9_awaitChildren 30 = .ok (.iload_n 1, 1) := by decide +kernel
theorem dX9_awaitChildren_31 : decode cX9_awaitChildren 31 = .ok (.iload 4, 2) := by decide +kernel
theorem dX9_awaitChildren_33 : decode cX9_awaitChildren 33 = .ok (.invokevirtual 107, 3) := by decide +kernel
theorem dX9_awaitChildren_36 : decode cX9_awaitChildren 36 = .ok (.istore 5, 2) := by decide +kernel
theorem dX9_awaitChildren_38 : decode cX9_awaitChildren 38 = .ok (.iload 5, 2) := by decide +kernel
theorem dX9_awaitChildren_40 : decode cX9_awaitChildren 40 = .ok (.iconst 4, 1) := by decide +kernel
theorem dX9_awaitChildren_41 : decode cX9_awaitChildren 41 = .ok (.if_icmp .ge 34, 3) := by decide +kernel
theorem dX9_awaitChildren_44 : decode cX9_awaitChildren 44 = .ok (.iinc 3 (-1), 3) := by decide +kernel
theorem dX9_awaitChildren_47 : decode cX9_awaitChildren 47 = .ok (.aload_n 0, 1) := by decide +kernel
theorem dX9_awaitChildren_48 : decode cX9_awaitChildren 48 = .ok (.iload 5, 2) := by decide +kernel
theorem dX9_awaitChildren_50 : decode cX9_awaitChildren 50 = .ok (.aload_n 0, 1) := by decide +kernel
theorem dX9_awaitChildren_51 : decode cX9_awaitChildren 51 = .ok (.getfield 36, 3) := by decide +kernel
theorem dX9_awaitChildren_54 : decode cX9_awaitChildren 54 = .ok (.iload 4, 2) := by decide +kernel
theorem dX9_awaitChildren_56 : decode cX9_awaitChildren 56 = .ok (.invokestatic 47, 3) := by decide +kernel
theorem dX9_awaitChildren_59 : decode cX9_awaitChildren 59 = .ok (.aload_n 0, 1) := by decide +kernel
theorem dX9_awaitChildren_60 : decode cX9_awaitChildren 60 = .ok (.getfield 36, 3) := by decide +kernel
theorem dX9_awaitChildren_63 : decode cX9_awaitChildren 63 = .ok (.iload 4, 2) := by decide +kernel
theorem dX9_awaitChildren_65 : decode cX9_awaitChildren 65 = .ok (.iconst 1, 1) := by decide +kernel
theorem dX9_awaitChildren_66 : decode cX9_awaitChildren 66 = .ok (.iadd, 1) := by decide +kernel
theorem dX9_awaitChildren_67 : decode cX9_awaitChildren 67 = .ok (.invokestatic 47, 3) := by decide +kernel
theorem dX9_awaitChildren_70 : decode cX9_awaitChildren 70 = .ok (.iload_n 2, 1) := by decide +kernel
theorem dX9_awaitChildren_71 : decode cX9_awaitChildren 71 = .ok (.iload_n 3, 1) := by decide +kernel
theorem dX9_awaitChildren_72 : decode cX9_awaitChildren 72 = .ok (.invokevirtual 117, 3) := by decide +kernel
theorem dX9_awaitChildren_75 : decode cX9_awaitChildren 75 = .ok (.iinc 4 (-1), 3) := by decide +kernel
theorem dX9_awaitChildren_78 : decode cX9_awaitChildren 78 = .ok (.goto (-57), 3) := by decide +kernel
theorem dX9_awaitChildren_81 : decode cX9_awaitChildren 81 = .ok (.return_, 1) := by decide +kernel
theorem dX10_init_0 : decode cX10_init 0 = .ok (.aload_n 0, 1) := by decide +kernel
theorem dX10_init_1 : decode cX10_init 1 = .ok (.invokespecial 3, 3) := by decide +kernel
theorem dX10_init_4 : decode cX10_init 4 = .ok (.aload_n 0, 1) := by decide +kernel
theorem dX10_init_5 : decode cX10_init 5 = .ok (.bipush 40, 2) := by decide +kernel
theorem dX10_init_7 : decode cX10_init 7 = .ok (.newarray .int, 2) := by decide +kernel
theorem dX10_init_9 : decode cX10_init 9 = .ok (.putfield 11, 3) := by decide +kernel
theorem dX10_init_12 : decode cX10_init 12 = .ok (.aload_n 0, 1) := by decide +kernel
theorem dX10_init_13 : decode cX10_init 13 = .ok (.bipush 120, 2) := by decide +kernel
theorem dX10_init_15 : decode cX10_init 15 = .ok (.newarray .int, 2) := by decide +kernel
theorem dX10_init_17 : decode cX10_init 17 = .ok (.putfield 15, 3) := by decide +kernel
theorem dX10_init_20 : decode cX10_init 20 = .ok (.aload_n 0, 1) := by decide +kernel
theorem dX10_init_21 : decode cX10_init 21 = .ok (.aload_n 1, 1) := by decide +kernel
theorem dX10_init_22 : decode cX10_init 22 = .ok (.putfield 18, 3) := by decide +kernel
theorem dX10_init_25 : decode cX10_init 25 = .ok (.return_, 1) := by decide +kernel
theorem dX10_arrange_0 : decode cX10_arrange 0 = .ok (.aload_n 0, 1) := by decide +kernel
theorem dX10_arrange_1 : decode cX10_arrange 1 = .ok (.getfield 11, 3) := by decide +kernel
theorem dX10_arrange_4 : decode cX10_arrange 4 = .ok (.iconst (-1), 1) := by decide +kernel
theorem dX10_arrange_5 : decode cX10_arrange 5 = .ok (.invokestatic 22, 3) := by decide +kernel
theorem dX10_arrange_8 : decode cX10_arrange 8 = .ok (.aload_n 0, 1) := by decide +kernel
theorem dX10_arrange_9 : decode cX10_arrange 9 = .ok (.getfield 15, 3) := by decide +kernel
theorem dX10_arrange_12 : decode cX10_arrange 12 = .ok (.iconst (-1), 1) := by decide +kernel
theorem dX10_arrange_13 : decode cX10_arrange 13 = .ok (.invokestatic 22, 3) := by decide +kernel
theorem dX10_arrange_16 : decode cX10_arrange 16 = .ok (.iconst 0, 1) := by decide +kernel
theorem dX10_arrange_17 : decode cX10_arrange 17 = .ok (.istore_n 1, 1) := by decide +kernel
theorem dX10_arrange_18 : decode cX10_arrange 18 = .ok (.iload_n 1, 1) := by decide +kernel
theorem dX10_arrange_19 : decode cX10_arrange 19 = .ok (.aload_n 0, 1) := by decide +kernel
theorem dX10_arrange_20 : decode cX10_arrange 20 = .ok (.getfield 18, 3) := by decide +kernel
theorem dX10_arrange_23 : decode cX10_arrange 23 = .ok (.getfield 26, 3) := by decide +kernel
theorem dX10_arrange_26 : decode cX10_arrange 26 = .ok (.if_icmp .ge 14, 3) := by decide +kernel
theorem dX10_arrange_29 : decode cX10_arrange 29 = .ok (.aload_n 0, 1) := by decide +kernel
theorem dX10_arrange_30 : decode cX10_arrange 30 = .ok (.iload_n 1, 1) := by decide +kernel
theorem dX10_arrange_31 : decode cX10_arrange 31 = .ok (.invokevirtual 31, 3) := by decide +kernel
theorem dX10_arrange_34 : decode cX10_arrange 34 = .ok (.iinc 1 1, 3) := by decide +kernel
theorem dX10_arrange_37 : decode cX10_arrange 37 = .ok (.goto (-19), 3) := by decide +kernel
theorem dX10_arrange_40 : decode cX10_arrange 40 = .ok (.return_, 1) := by decide +kernel
theorem dX10_arrangeOne_0 : decode cX10_arrangeOne 0 = .ok (.iconst (-1), 1) := by decide +kernel
theorem dX10_arrangeOne_1 : decode cX10_arrangeOne 1 = .ok (.istore_n 2, 1) := by decide +kernel
theorem dX10_arrangeOne_2 : decode cX10_arrangeOne 2 = .ok (.iload_n 1, 1) := by decide +kernel
theorem dX10_arrangeOne_3 : decode cX10_arrangeOne 3 = .ok (.istore_n 3, 1) := by decide +kernel
theorem dX10_arrangeOne_4 : decode cX10_arrangeOne 4 = .ok (.iconst 0, 1) := by decide +kernel
theorem dX10_arrangeOne_5 : decode cX10_arrangeOne 5 = .ok (.istore 4, 2) := by decide +kernel
theorem dX10_arrangeOne_7 : decode cX10_arrangeOne 7 = .ok (.iload 4, 2) := by decide +kernel
theorem dX10_arrangeOne_9 : decode cX10_arrangeOne 9 = .ok (.iconst 4, 1) := by decide +kernel
theorem dX10_arrangeOne_10 : decode cX10_arrangeOne 10 = .ok (.if_icmp .ge 116, 3) := by decide +kernel
theorem dX10_arrangeOne_13 : decode cX10_arrangeOne 13 = .ok (.iload_n 3, 1) := by decide +kernel
theorem dX10_arrangeOne_14 : decode cX10_arrangeOne 14 = .ok (.iconst (-1), 1) := by decide +kernel
theorem dX10_arrangeOne_15 : decode cX10_arrangeOne 15 = .ok (.if_icmp .eq 111, 3) := by decide +kernel
theorem dX10_arrangeOne_18 : decode cX10_arrangeOne 18 = .ok (.iload_n 1, 1) := by decide +kernel
theorem dX10_arrangeOne_19 : decode cX10_arrangeOne 19 = .ok (.iconst 4, 1) := by decide +kernel
theorem dX10_arrangeOne_20 : decode cX10_arrangeOne 20 = .ok (.imul, 1) := by decide +kernel
theorem dX10_arrangeOne_21 : decode cX10_arrangeOne 21 = .ok (.iload 4, 2) := by decide +kernel
theorem dX10_arrangeOne_23 : decode cX10_arrangeOne 23 = .ok (.iadd, 1) := by decide +kernel
theorem dX10_arrangeOne_24 : decode cX10_arrangeOne 24 = .ok (.istore 5, 2) := by decide +kernel
theorem dX10_arrangeOne_26 : decode cX10_arrangeOne 26 = .ok (.aload_n 0, 1) := by decide +kernel
theorem dX10_arrangeOne_27 : decode cX10_arrangeOne 27 = .ok (.getfield 11, 3) := by decide +kernel
theorem dX10_arrangeOne_30 : decode cX10_arrangeOne 30 = .ok (.iload 5, 2) := by decide +kernel
theorem dX10_arrangeOne_32 : decode cX10_arrangeOne 32 = .ok (.iload_n 3, 1) := by decide +kernel
theorem dX10_arrangeOne_33 : decode cX10_arrangeOne 33 = .ok (.invokestatic 35, 3) := by decide +kernel
theorem dX10_arrangeOne_36 : decode cX10_arrangeOne 36 = .ok (.iconst 0, 1) := by decide +kernel
theorem dX10_arrangeOne_37 : decode cX10_arrangeOne 37 = .ok (.istore 6, 2) := by decide +kernel
theorem dX10_arrangeOne_39 : decode cX10_arrangeOne 39 = .ok (.iload 6, 2) := by decide +kernel
theorem dX10_arrangeOne_41 : decode cX10_arrangeOne 41 = .ok (.aload_n 0, 1) := by decide +kernel
theorem dX10_arrangeOne_42 : decode cX10_arrangeOne 42 = .ok (.getfield 18, 3) := by decide +kernel
theorem dX10_arrangeOne_45 : decode cX10_arrangeOne 45 = .ok (.iload_n 3, 1) := by decide +kernel
theorem dX10_arrangeOne_46 : decode cX10_arrangeOne 46 = .ok (.invokevirtual 39, 3) := by decide +kernel
theorem dX10_arrangeOne_49 : decode cX10_arrangeOne 49 = .ok (.if_icmp .ge 60, 3) := by decide +kernel
theorem dX10_arrangeOne_52 : decode cX10_arrangeOne 52 = .ok (.aload_n 0, 1) := by decide +kernel
theorem dX10_arrangeOne_53 : decode cX10_arrangeOne 53 = .ok (.getfield 18, 3) := by decide +kernel
theorem dX10_arrangeOne_56 : decode cX10_arrangeOne 56 = .ok (.iload_n 2, 1) := by decide +kernel
theorem dX10_arrangeOne_57 : decode cX10_arrangeOne 57 = .ok (.iload 6, 2) := by decide +kernel
theorem dX10_arrangeOne_59 : decode cX10_arrangeOne 59 = .ok (.invokevirtual 43, 3) := by decide +kernel
theorem dX10_arrangeOne_62 : decode cX10_arrangeOne 62 = .ok (.istore 7, 2) := by decide +kernel
theorem dX10_arrangeOne_64 : decode cX10_arrangeOne 64 = .ok (.iload 4, 2) := by decide +kernel
theorem dX10_arrangeOne_66 : decode cX10_arrangeOne 66 = .ok (.ifCond .ne 8, 3) := by decide +kernel
theorem dX10_arrangeOne_69 : decode cX10_arrangeOne 69 = .ok (.iload 6, 2) := by decide +kernel
theorem dX10_arrangeOne_71 : decode cX10_arrangeOne 71 = .ok (.goto 14, 3) := by decide +kernel
theorem dX10_arrangeOne_74 : decode cX10_arrangeOne 74 = .ok (.aload_n 0, 1) := by decide +kernel
theorem dX10_arrangeOne_75 : decode cX10_arrangeOne 75 = .ok (.iload_n 1, 1) := by decide +kernel
theorem dX10_arrangeOne_76 : decode cX10_arrangeOne 76 = .ok (.iload 4, 2) := by decide +kernel
theorem dX10_arrangeOne_78 : decode cX10_arrangeOne 78 = .ok (.iconst 1, 1) := by decide +kernel
theorem dX10_arrangeOne_79 : decode cX10_arrangeOne 79 = .ok (.isub, 1) := by decide +kernel
theorem dX10_arrangeOne_80 : decode cX10_arrangeOne 80 = .ok (.iload 7, 2) := by decide +kernel
theorem dX10_arrangeOne_82 : decode cX10_arrangeOne 82 = .ok (.invokevirtual 47, 3) := by decide +kernel
theorem dX10_arrangeOne_85 : decode cX10_arrangeOne 85 = .ok (.istore 8, 2) := by decide +kernel
theorem dX10_arrangeOne_87 : decode cX10_arrangeOne 87 = .ok (.aload_n 0, 1) := by decide +kernel
theorem dX10_arrangeOne_88 : decode cX10_arrangeOne 88 = .ok (.getfield 15, 3) := by decide +kernel
theorem dX10_arrangeOne_91 : decode cX10_arrangeOne 91 = .ok (.iload 5, 2) := by decide +kernel
theorem dX10_arrangeOne_93 : decode cX10_arrangeOne 93 = .ok (.iconst 3, 1) := by decide +kernel
theorem dX10_arrangeOne_94 : decode cX10_arrangeOne 94 = .ok (.imul, 1) := by decide +kernel
theorem dX10_arrangeOne_95 : decode cX10_arrangeOne 95 = .ok (.iload 6, 2) := by decide +kernel
theorem dX10_arrangeOne_97 : decode cX10_arrangeOne 97 = .ok (.iadd, 1) := by decide +kernel
theorem dX10_arrangeOne_98 : decode cX10_arrangeOne 98 = .ok (.iload 8, 2) := by decide +kernel
theorem dX10_arrangeOne_100 : decode cX10_arrangeOne 100 = .ok (.invokestatic 35, 3) := by decide +kernel
theorem dX10_arrangeOne_103 : decode cX10_arrangeOne 103 = .ok (.iinc 6 1, 3) := by decide +kernel
theorem dX10_arrangeOne_106 : decode cX10_arrangeOne 106 = .ok (.goto (-67), 3) := by decide +kernel
theorem dX10_arrangeOne_109 : decode cX10_arrangeOne 109 = .ok (.iload_n 3, 1) := by decide +kernel
theorem dX10_arrangeOne_110 : decode cX10_arrangeOne 110 = .ok (.istore_n 2, 1) := by decide +kernel
theorem dX10_arrangeOne_111 : decode cX10_arrangeOne 111 = .ok (.aload_n 0, 1) := by decide +kernel
theorem dX10_arrangeOne_112 : decode cX10_arrangeOne 112 = .ok (.getfield 18, 3) := by decide +kernel
theorem dX10_arrangeOne_115 : decode cX10_arrangeOne 115 = .ok (.iload_n 3, 1) := by decide +kernel
theorem dX10_arrangeOne_116 : decode cX10_arrangeOne 116 = .ok (.invokevirtual 51, 3) := by decide +kernel
theorem dX10_arrangeOne_119 : decode cX10_arrangeOne 119 = .ok (.istore_n 3, 1) := by decide +kernel
theorem dX10_arrangeOne_120 : decode cX10_arrangeOne 120 = .ok (.iinc 4 1, 3) := by decide +kernel
theorem dX10_arrangeOne_123 : decode cX10_arrangeOne 123 = .ok (.goto (-116), 3) := by decide +kernel
theorem dX10_arrangeOne_126 : decode cX10_arrangeOne 126 = .ok (.return_, 1) := by decide +kernel
theorem dX10_productionAt_0 : decode cX10_productionAt 0 = .ok (.iload_n 1, 1) := by decide +kernel
theorem dX10_productionAt_1 : decode cX10_productionAt 1 = .ok (.iconst 4, 1) := by decide +kernel
theorem dX10_productionAt_2 : decode cX10_productionAt 2 = .ok (.imul, 1) := by decide +kernel
theorem dX10_productionAt_3 : decode cX10_productionAt 3 = .ok (.iload_n 2, 1) := by decide +kernel
theorem dX10_productionAt_4 : decode cX10_productionAt 4 = .ok (.iadd, 1) := by decide +kernel
theorem dX10_productionAt_5 : decode cX10_productionAt 5 = .ok (.istore_n 3, 1) := by decide +kernel
theorem dX10_productionAt_6 : decode cX10_productionAt 6 = .ok (.iload_n 2, 1) := by decide +kernel
theorem dX10_productionAt_7 : decode cX10_productionAt 7 = .ok (.ifCond .lt 25, 3) := by decide +kernel
theorem dX10_productionAt_10 : decode cX10_productionAt 10 = .ok (.iload_n 2, 1) := by decide +kernel
theorem dX10_productionAt_11 : decode cX10_productionAt 11 = .ok (.iconst 4, 1) := by decide +kernel
theorem dX10_productionAt_12 : decode cX10_productionAt 12 = .ok (.if_icmp .ge 20, 3) := by decide +kernel
theorem dX10_productionAt_15 : decode cX10_productionAt 15 = .ok (.iload_n 3, 1) := by decide +kernel
theorem dX10_productionAt_16 : decode cX10_productionAt 16 = .ok (.ifCond .lt 16, 3) := by decide +kernel
theorem dX10_productionAt_19 : decode cX10_productionAt 19 = .ok (.iload_n 3, 1) := by decide +kernel
theorem dX10_productionAt_20 : decode cX10_productionAt 20 = .ok (.aload_n 0, 1) := by decide +kernel
theorem dX10_productionAt_21 : decode cX10_productionAt 21 = .ok (.getfield 11, 3) := by decide +kernel
theorem dX10_productionAt_24 : decode cX10_productionAt 24 = .ok (.arraylength, 1) := by decide +kernel
theorem dX10_productionAt_25 : decode cX10_productionAt 25 = .ok (.if_icmp .ge 7, 3) := by decide +kernel
theorem dX10_productionAt_28 : decode cX10_productionAt 28 = .ok (.iconst 1, 1) := by decide +kernel
theorem dX10_productionAt_29 : decode cX10_productionAt 29 = .ok (.goto 4, 3) := by decide +kernel
theorem dX10_productionAt_32 : decode cX10_productionAt 32 = .ok (.iconst 0, 1) := by decide +kernel
theorem dX10_productionAt_33 : decode cX10_productionAt 33 = .ok (.istore 4, 2) := by decide +kernel
theorem dX10_productionAt_35 : decode cX10_productionAt 35 = .ok (.iload 4, 2) := by decide +kernel
theorem dX10_productionAt_37 : decode cX10_productionAt 37 = .ok (.ifCond .eq 12, 3) := by decide +kernel
theorem dX10_productionAt_40 : decode cX10_productionAt 40 = .ok (.aload_n 0, 1) := by decide +kernel
theorem dX10_productionAt_41 : decode cX10_productionAt 41 = .ok (.getfield 11, 3) := by decide +kernel
theorem dX10_productionAt_44 : decode cX10_productionAt 44 = .ok (.iload_n 3, 1) := by decide +kernel
theorem dX10_productionAt_45 : decode cX10_productionAt 45 = .ok (.iaload, 1) := by decide +kernel
theorem dX10_productionAt_46 : decode cX10_productionAt 46 = .ok (.goto 4, 3) := by decide +kernel
theorem dX10_productionAt_49 : decode cX10_productionAt 49 = .ok (.iconst (-1), 1) := by decide +kernel
theorem dX10_productionAt_50 : decode cX10_productionAt 50 = .ok (.ireturn, 1) := by decide +kernel
theorem dX10_childAt_0 : decode cX10_childAt 0 = .ok (.iload_n 1, 1) := by decide +kernel
theorem dX10_childAt_1 : decode cX10_childAt 1 = .ok (.iconst 4, 1) := by decide +kernel
theorem dX10_childAt_2 : decode cX10_childAt 2 = .ok (.imul, 1) := by decide +kernel
theorem dX10_childAt_3 : decode cX10_childAt 3 = .ok (.iload_n 2, 1) := by decide +kernel
theorem dX10_childAt_4 : decode cX10_childAt 4 = .ok (.iadd, 1) := by decide +kernel
theorem dX10_childAt_5 : decode cX10_childAt 5 = .ok (.iconst 3, 1) := by decide +kernel
theorem dX10_childAt_6 : decode cX10_childAt 6 = .ok (.imul, 1) := by decide +kernel
theorem dX10_childAt_7 : decode cX10_childAt 7 = .ok (.iload_n 3, 1) := by decide +kernel
theorem dX10_childAt_8 : decode cX10_childAt 8 = .ok (.iadd, 1) := by decide +kernel
theorem dX10_childAt_9 : decode cX10_childAt 9 = .ok (.istore 4, 2) := by decide +kernel
theorem dX10_childAt_11 : decode cX10_childAt 11 = .ok (.iload_n 2, 1) := by decide +kernel
theorem dX10_childAt_12 : decode cX10_childAt 12 = .ok (.ifCond .lt 21, 3) := by decide +kernel
theorem dX10_childAt_15 : decode cX10_childAt 15 = .ok (.iload_n 2, 1) := by decide +kernel
theorem dX10_childAt_16 : decode cX10_childAt 16 = .ok (.iconst 4, 1) := by decide +kernel
theorem dX10_childAt_17 : decode cX10_childAt 17 = .ok (.if_icmp .ge 16, 3) := by decide +kernel
theorem dX10_childAt_20 : decode cX10_childAt 20 = .ok (.iload_n 3, 1) := by decide +kernel
theorem dX10_childAt_21 : decode cX10_childAt 21 = .ok (.ifCond .lt 12, 3) := by decide +kernel
theorem dX10_childAt_24 : decode cX10_childAt 24 = .ok (.iload_n 3, 1) := by decide +kernel
theorem dX10_childAt_25 : decode cX10_childAt 25 = .ok (.iconst 3, 1) := by decide +kernel
theorem dX10_childAt_26 : decode cX10_childAt 26 = .ok (.if_icmp .ge 7, 3) := by decide +kernel
theorem dX10_childAt_29 : decode cX10_childAt 29 = .ok (.iconst 1, 1) := by decide +kernel
theorem dX10_childAt_30 : decode cX10_childAt 30 = .ok (.goto 4, 3) := by decide +kernel
theorem dX10_childAt_33 : decode cX10_childAt 33 = .ok (.iconst 0, 1) := by decide +kernel
theorem dX10_childAt_34 : decode cX10_childAt 34 = .ok (.istore 5, 2) := by decide +kernel
theorem dX10_childAt_36 : decode cX10_childAt 36 = .ok (.iload 5, 2) := by decide +kernel
theorem dX10_childAt_38 : decode cX10_childAt 38 = .ok (.ifCond .eq 28, 3) := by decide +kernel
theorem dX10_childAt_41 : decode cX10_childAt 41 = .ok (.iload 4, 2) := by decide +kernel
theorem dX10_childAt_43 : decode cX10_childAt 43 = .ok (.ifCond .lt 23, 3) := by decide +kernel
theorem dX10_childAt_46 : decode cX10_childAt 46 = .ok (.iload 4, 2) := by decide +kernel
theorem dX10_childAt_48 : decode cX10_childAt 48 = .ok (.aload_n 0, 1) := by decide +kernel
theorem dX10_childAt_49 : decode cX10_childAt 49 = .ok (.getfield 15, 3) := by decide +kernel
theorem dX10_childAt_52 : decode cX10_childAt 52 = .ok (.arraylength, 1) := by decide +kernel
theorem dX10_childAt_53 : decode cX10_childAt 53 = .ok (.if_icmp .ge 13, 3) := by decide +kernel
theorem dX10_childAt_56 : decode cX10_childAt 56 = .ok (.aload_n 0, 1) := by decide +kernel
theorem dX10_childAt_57 : decode cX10_childAt 57 = .ok (.getfield 15, 3) := by decide +kernel
theorem dX10_childAt_60 : decode cX10_childAt 60 = .ok (.iload 4, 2) := by decide +kernel
theorem dX10_childAt_62 : decode cX10_childAt 62 = .ok (.iaload, 1) := by decide +kernel
theorem dX10_childAt_63 : decode cX10_childAt 63 = .ok (.goto 4, 3) := by decide +kernel
theorem dX10_childAt_66 : decode cX10_childAt 66 = .ok (.iconst (-1), 1) := by decide +kernel
theorem dX10_childAt_67 : decode cX10_childAt 67 = .ok (.ireturn, 1) := by decide +kernel
theorem dX10_targetAt_0 : decode cX10_targetAt 0 = .ok (.iload_n 3, 1) := by decide +kernel
theorem dX10_targetAt_1 : decode cX10_targetAt 1 = .ok (.ifCond .ge 5, 3) := by decide +kernel
theorem dX10_targetAt_4 : decode cX10_targetAt 4 = .ok (.iload_n 3, 1) := by decide +kernel
theorem dX10_targetAt_5 : decode cX10_targetAt 5 = .ok (.ireturn, 1) := by decide +kernel
theorem dX10_targetAt_6 : decode cX10_targetAt 6 = .ok (.iconst 0, 1) := by decide +kernel
theorem dX10_targetAt_7 : decode cX10_targetAt 7 = .ok (.istore 4, 2) := by decide +kernel
theorem dX10_targetAt_9 : decode cX10_targetAt 9 = .ok (.iload 4, 2) := by decide +kernel
theorem dX10_targetAt_11 : decode cX10_targetAt 11 = .ok (.iconst 3, 1) := by decide +kernel
theorem dX10_targetAt_12 : decode cX10_targetAt 12 = .ok (.if_icmp .ge 24, 3) := by decide +kernel
theorem dX10_targetAt_15 : decode cX10_targetAt 15 = .ok (.aload_n 0, 1) := by decide +kernel
theorem dX10_targetAt_16 : decode cX10_targetAt 16 = .ok (.iload_n 1, 1) := by decide +kernel
theorem dX10_targetAt_17 : decode cX10_targetAt 17 = .ok (.iload_n 2, 1) := by decide +kernel
theorem dX10_targetAt_18 : decode cX10_targetAt 18 = .ok (.iload 4, 2) := by decide +kernel
theorem dX10_targetAt_20 : decode cX10_targetAt 20 = .ok (.invokevirtual 47, 3) := by decide +kernel
theorem dX10_targetAt_23 : decode cX10_targetAt 23 = .ok (.iload_n 3, 1) := by decide +kernel
theorem dX10_targetAt_24 : decode cX10_targetAt 24 = .ok (.if_icmp .ne 6, 3) := by decide +kernel
theorem dX10_targetAt_27 : decode cX10_targetAt 27 = .ok (.iload 4, 2) := by decide +kernel
theorem dX10_targetAt_29 : decode cX10_targetAt 29 = .ok (.ireturn, 1) := by decide +kernel
theorem dX10_targetAt_30 : decode cX10_targetAt 30 = .ok (.iinc 4 1, 3) := by decide +kernel
theorem dX10_targetAt_33 : decode cX10_targetAt 33 = .ok (.goto (-24), 3) := by decide +kernel
theorem dX10_targetAt_36 : decode cX10_targetAt 36 = .ok (.bipush (-9), 2) := by decide +kernel
theorem dX10_targetAt_38 : decode cX10_targetAt 38 = .ok (.ireturn, 1) := by decide +kernel
theorem dX11_init_0 : decode cX11_init 0 = .ok (.aload_n 0, 1) := by decide +kernel
theorem dX11_init_1 : decode cX11_init 1 = .ok (.invokespecial 3, 3) := by decide +kernel
theorem dX11_init_4 : decode cX11_init 4 = .ok (.aload_n 0, 1) := by decide +kernel
theorem dX11_init_5 : decode cX11_init 5 = .ok (.new 9, 3) := by decide +kernel
theorem dX11_init_8 : decode cX11_init 8 = .ok (.dup, 1) := by decide +kernel
theorem dX11_init_9 : decode cX11_init 9 = .ok (.invokespecial 11, 3) := by decide +kernel
theorem dX11_init_12 : decode cX11_init 12 = .ok (.putfield 12, 3) := by decide +kernel
theorem dX11_init_15 : decode cX11_init 15 = .ok (.aload_n 0, 1) := by decide +kernel
theorem dX11_init_16 : decode cX11_init 16 = .ok (.new 16, 3) := by decide +kernel
theorem dX11_init_19 : decode cX11_init 19 = .ok (.dup, 1) := by decide +kernel
theorem dX11_init_20 : decode cX11_init 20 = .ok (.invokespecial 18, 3) := by decide +kernel
theorem dX11_init_23 : decode cX11_init 23 = .ok (.putfield 19, 3) := by decide +kernel
theorem dX11_init_26 : decode cX11_init 26 = .ok (.new 23, 3) := by decide +kernel
theorem dX11_init_29 : decode cX11_init 29 = .ok (.dup, 1) := by decide +kernel
theorem dX11_init_30 : decode cX11_init 30 = .ok (.aload_n 0, 1) := by decide +kernel
theorem dX11_init_31 : decode cX11_init 31 = .ok (.getfield 12, 3) := by decide +kernel
theorem dX11_init_34 : decode cX11_init 34 = .ok (.invokespecial 25, 3) := by decide +kernel
theorem dX11_init_37 : decode cX11_init 37 = .ok (.astore_n 1, 1) := by decide +kernel
theorem dX11_init_38 : decode cX11_init 38 = .ok (.aload_n 0, 1) := by decide +kernel
theorem dX11_init_39 : decode cX11_init 39 = .ok (.new 28, 3) := by decide +kernel
theorem dX11_init_42 : decode cX11_init 42 = .ok (.dup, 1) := by decide +kernel
theorem dX11_init_43 : decode cX11_init 43 = .ok (.aload_n 0, 1) := by decide +kernel
theorem dX11_init_44 : decode cX11_init 44 = .ok (.getfield 12, 3) := by decide +kernel
theorem dX11_init_47 : decode cX11_init 47 = .ok (.aload_n 1, 1) := by decide +kernel
theorem dX11_init_48 : decode cX11_init 48 = .ok (.invokespecial 30, 3) := by decide +kernel
theorem dX11_init_51 : decode cX11_init 51 = .ok (.putfield 33, 3) := by decide +kernel
theorem dX11_init_54 : decode cX11_init 54 = .ok (.aload_n 0, 1) := by decide +kernel
theorem dX11_init_55 : decode cX11_init 55 = .ok (.new 37, 3) := by decide +kernel
theorem dX11_init_58 : decode cX11_init 58 = .ok (.dup, 1) := by decide +kernel
theorem dX11_init_59 : decode cX11_init 59 = .ok (.aload_n 0, 1) := by decide +kernel
theorem dX11_init_60 : decode cX11_init 60 = .ok (.getfield 12, 3) := by decide +kernel
theorem dX11_init_63 : decode cX11_init 63 = .ok (.invokespecial 39, 3) := by decide +kernel
theorem dX11_init_66 : decode cX11_init 66 = .ok (.putfield 40, 3) := by decide +kernel
theorem dX11_init_69 : decode cX11_init 69 = .ok (.aload_n 0, 1) := by decide +kernel
theorem dX11_init_70 : decode cX11_init 70 = .ok (.new 44, 3) := by decide +kernel
theorem dX11_init_73 : decode cX11_init 73 = .ok (.dup, 1) := by decide +kernel
theorem dX11_init_74 : decode cX11_init 74 = .ok (.invokespecial 46, 3) := by decide +kernel
theorem dX11_init_77 : decode cX11_init 77 = .ok (.putfield 47, 3) := by decide +kernel
theorem dX11_init_80 : decode cX11_init 80 = .ok (.aload_n 0, 1) := by decide +kernel
theorem dX11_init_81 : decode cX11_init 81 = .ok (.new 44, 3) := by decide +kernel
theorem dX11_init_84 : decode cX11_init 84 = .ok (.dup, 1) := by decide +kernel
theorem dX11_init_85 : decode cX11_init 85 = .ok (.invokespecial 46, 3) := by decide +kernel
theorem dX11_init_88 : decode cX11_init 88 = .ok (.putfield 51, 3) := by decide +kernel
theorem dX11_init_91 : decode cX11_init 91 = .ok (.aload_n 0, 1) := by decide +kernel
theorem dX11_init_92 : decode cX11_init 92 = .ok (.new 54, 3) := by decide +kernel
theorem dX11_init_95 : decode cX11_init 95 = .ok (.dup, 1) := by decide +kernel
theorem dX11_init_96 : decode cX11_init 96 = .ok (.invokespecial 56, 3) := by decide +kernel
theorem dX11_init_99 : decode cX11_init 99 = .ok (.putfield 57, 3) := by decide +kernel
theorem dX11_init_102 : decode cX11_init 102 = .ok (.aload_n 0, 1) := by decide +kernel
theorem dX11_init_103 : decode cX11_init 103 = .ok (.new 54, 3) := by decide +kernel
theorem dX11_init_106 : decode cX11_init 106 = .ok (.dup, 1) := by decide +kernel
theorem dX11_init_107 : decode cX11_init 107 = .ok (.invokespecial 56, 3) := by decide +kernel
theorem dX11_init_110 : decode cX11_init 110 = .ok (.putfield 61, 3) := by decide +kernel
theorem dX11_init_113 : decode cX11_init 113 = .ok (.sipush 180, 3) := by decide +kernel
theorem dX11_init_116 : decode cX11_init 116 = .ok (.newarray .int, 2) := by decide +kernel
theorem dX11_init_118 : decode cX11_init 118 = .ok (.astore_n 2, 1) := by decide +kernel
theorem dX11_init_119 : decode cX11_init 119 = .ok (.aload_n 0, 1) := by decide +kernel
theorem dX11_init_120 : decode cX11_init 120 = .ok (.new 64, 3) := by decide +kernel
theorem dX11_init_123 : decode cX11_init 123 = .ok (.dup, 1) := by decide +kernel
theorem dX11_init_124 : decode cX11_init 124 = .ok (.aload_n 0, 1) := by decide +kernel
theorem dX11_init_125 : decode cX11_init 125 = .ok (.getfield 12, 3) := by decide +kernel
theorem dX11_init_128 : decode cX11_init 128 = .ok (.aload_n 0, 1) := by decide +kernel
theorem dX11_init_129 : decode cX11_init 129 = .ok (.getfield 33, 3) := by decide +kernel
theorem dX11_init_132 : decode cX11_init 132 = .ok (.aload_n 1, 1) := by decide +kernel
theorem dX11_init_133 : decode cX11_init 133 = .ok (.aload_n 0, 1) := by decide +kernel
theorem dX11_init_134 : decode cX11_init 134 = .ok (.getfield 47, 3) := by decide +kernel
theorem dX11_init_137 : decode cX11_init 137 = .ok (.aload_n 2, 1) := by decide +kernel
theorem dX11_init_138 : decode cX11_init 138 = .ok (.invokespecial 66, 3) := by decide +kernel
theorem dX11_init_141 : decode cX11_init 141 = .ok (.putfield 69, 3) := by decide +kernel
theorem dX11_init_144 : decode cX11_init 144 = .ok (.aload_n 0, 1) := by decide +kernel
theorem dX11_init_145 : decode cX11_init 145 = .ok (.new 73, 3) := by decide +kernel
theorem dX11_init_148 : decode cX11_init 148 = .ok (.dup, 1) := by decide +kernel
theorem dX11_init_149 : decode cX11_init 149 = .ok (.aload_n 0, 1) := by decide +kernel
theorem dX11_init_150 : decode cX11_init 150 = .ok (.getfield 12, 3) := by decide +kernel
theorem dX11_init_153 : decode cX11_init 153 = .ok (.aload_n 0, 1) := by decide +kernel
theorem dX11_init_154 : decode cX11_init 154 = .ok (.getfield 47, 3) := by decide +kernel
theorem dX11_init_157 : decode cX11_init 157 = .ok (.aload_n 0, 1) := by decide +kernel
theorem dX11_init_158 : decode cX11_init 158 = .ok (.getfield 69, 3) := by decide +kernel
theorem dX11_init_161 : decode cX11_init 161 = .ok (.aload_n 0, 1) := by decide +kernel
theorem dX11_init_162 : decode cX11_init 162 = .ok (.getfield 61, 3) := by decide +kernel
theorem dX11_init_165 : decode cX11_init 165 = .ok (.aload_n 2, 1) := by decide +kernel
theorem dX11_init_166 : decode cX11_init 166 = .ok (.invokespecial 75, 3) := by decide +kernel
theorem dX11_init_169 : decode cX11_init 169 = .ok (.putfield 78, 3) := by decide +kernel
theorem dX11_init_172 : decode cX11_init 172 = .ok (.aload_n 0, 1) := by decide +kernel
theorem dX11_init_173 : decode cX11_init 173 = .ok (.new 82, 3) := by decide +kernel
theorem dX11_init_176 : decode cX11_init 176 = .ok (.dup, 1) := by decide +kernel
theorem dX11_init_177 : decode cX11_init 177 = .ok (.aload_n 0, 1) := by decide +kernel
theorem dX11_init_178 : decode cX11_init 178 = .ok (.getfield 12, 3) := by decide +kernel
theorem dX11_init_181 : decode cX11_init 181 = .ok (.aload_n 0, 1) := by decide +kernel
theorem dX11_init_182 : decode cX11_init 182 = .ok (.getfield 33, 3) := by decide +kernel
theorem dX11_init_185 : decode cX11_init 185 = .ok (.aload_n 1, 1) := by decide +kernel
theorem dX11_init_186 : decode cX11_init 186 = .ok (.invokespecial 84, 3) := by decide +kernel
theorem dX11_init_189 : decode cX11_init 189 = .ok (.putfield 87, 3) := by decide +kernel
theorem dX11_init_192 : decode cX11_init 192 = .ok (.return_, 1) := by decide +kernel
theorem dX11_production_0 : decode cX11_production 0 = .ok (.iload_n 1, 1) := by decide +kernel
theorem dX11_production_1 : decode cX11_production 1 = .ok (.ifCond .lt 8, 3) := by decide +kernel
theorem dX11_production_4 : decode cX11_production 4 = .ok (.iload_n 1, 1) := by decide +kernel
theorem dX11_production_5 : decode cX11_production 5 = .ok (.iconst 4, 1) := by decide +kernel
theorem dX11_production_6 : decode cX11_production 6 = .ok (.if_icmp .lt 13, 3) := by decide +kernel
theorem dX11_production_9 : decode cX11_production 9 = .ok (.new 91, 3) := by decide +kernel
theorem dX11_production_12 : decode cX11_production 12 = .ok (.dup, 1) := by decide +kernel
theorem dX11_production_13 : decode cX11_production 13 = .ok (.ldc 93, 2) := by decide +kernel
theorem dX11_production_15 : decode cX11_production 15 = .ok (.invokespecial 95, 3) := by decide +kernel
theorem dX11_production_18 : decode cX11_production 18 = .ok (.athrow, 1) := by decide +kernel
theorem dX11_production_19 : decode cX11_production 19 = .ok (.iload_n 2, 1) := by decide +kernel
theorem dX11_production_20 : decode cX11_production 20 = .ok (.iconst 1, 1) := by decide +kernel
theorem dX11_production_21 : decode cX11_production 21 = .ok (.invokestatic 98, 3) := by decide +kernel
theorem dX11_production_24 : decode cX11_production 24 = .ok (.ifCond .eq 36, 3) := by decide +kernel
theorem dX11_production_27 : decode cX11_production 27 = .ok (.iload_n 3, 1) := by decide +kernel
theorem dX11_production_28 : decode cX11_production 28 = .ok (.iload_n 2, 1) := by decide +kernel
theorem dX11_production_29 : decode cX11_production 29 = .ok (.ifCond .lt 7, 3) := by decide +kernel
theorem dX11_production_32 : decode cX11_production 32 = .ok (.iconst 1, 1) := by decide +kernel
theorem dX11_production_33 : decode cX11_production 33 = .ok (.goto 4, 3) := by decide +kernel
theorem dX11_production_36 : decode cX11_production 36 = .ok (.iconst 0, 1) := by decide +kernel
theorem dX11_production_37 : decode cX11_production 37 = .ok (.invokestatic 98, 3) := by decide +kernel
theorem dX11_production_40 : decode cX11_production 40 = .ok (.ifCond .eq 20, 3) := by decide +kernel
theorem dX11_production_43 : decode cX11_production 43 = .ok (.iload 4, 2) := by decide +kernel
theorem dX11_production_45 : decode cX11_production 45 = .ok (.iload_n 3, 1) := by decide +kernel
theorem dX11_production_46 : decode cX11_production 46 = .ok (.ifCond .lt 7, 3) := by decide +kernel
theorem dX11_production_49 : decode cX11_production 49 = .ok (.iconst 1, 1) := by decide +kernel
theorem dX11_production_50 : decode cX11_production 50 = .ok (.goto 4, 3) := by decide +kernel
theorem dX11_production_53 : decode cX11_production 53 = .ok (.iconst 0, 1) := by decide +kernel
theorem dX11_production_54 : decode cX11_production 54 = .ok (.invokestatic 98, 3) := by decide +kernel
theorem dX11_production_57 : decode cX11_production 57 = .ok (.ifCond .ne 13, 3) := by decide +kernel
theorem dX11_production_60 : decode cX11_production 60 = .ok (.new 102, 3) := by decide +kernel
theorem dX11_production_63 : decode cX11_production 63 = .ok (.dup, 1) := by decide +kernel
theorem dX11_production_64 : decode cX11_production 64 = .ok (.ldc 104, 2) := by decide +kernel
theorem dX11_production_66 : decode cX11_production 66 = .ok (.invokespecial 106, 3) := by decide +kernel
theorem dX11_production_69 : decode cX11_production 69 = .ok (.athrow, 1) := by decide +kernel
theorem dX11_production_70 : decode cX11_production 70 = .ok (.aload_n 0, 1) := by decide +kernel
theorem dX11_production_71 : decode cX11_production 71 = .ok (.getfield 12, 3) := by decide +kernel
theorem dX11_production_74 : decode cX11_production 74 = .ok (.getfield 107, 3) := by decide +kernel
theorem dX11_production_77 : decode cX11_production 77 = .ok (.bipush 10, 2) := by decide +kernel
theorem dX11_production_79 : decode cX11_production 79 = .ok (.if_icmp .lt 13, 3) := by decide +kernel
theorem dX11_production_82 : decode cX11_production 82 = .ok (.new 111, 3) := by decide +kernel
theorem dX11_production_85 : decode cX11_production 85 = .ok (.dup, 1) := by decide +kernel
theorem dX11_production_86 : decode cX11_production 86 = .ok (.ldc 113, 2) := by decide +kernel
theorem dX11_production_88 : decode cX11_production 88 = .ok (.invokespecial 115, 3) := by decide +kernel
theorem dX11_production_91 : decode cX11_production 91 = .ok (.athrow, 1) := by decide +kernel
theorem dX11_production_92 : decode cX11_production 92 = .ok (.aload_n 0, 1) := by decide +kernel
theorem dX11_production_93 : decode cX11_production 93 = .ok (.getfield 12, 3) := by decide +kernel
theorem dX11_production_96 : decode cX11_production 96 = .ok (.iload_n 1, 1) := by decide +kernel
theorem dX11_production_97 : decode cX11_production 97 = .ok (.iload_n 2, 1) := by decide +kernel
theorem dX11_production_98 : decode cX11_production 98 = .ok (.iload_n 3, 1) := by decide +kernel
theorem dX11_production_99 : decode cX11_production 99 = .ok (.iload 4, 2) := by decide +kernel
theorem dX11_production_101 : decode cX11_production 101 = .ok (.invokevirtual 116, 3) := by decide +kernel
theorem dX11_production_104 : decode cX11_production 104 = .ok (.istore 5, 2) := by decide +kernel
theorem dX11_production_106 : decode cX11_production 106 = .ok (.aload_n 0, 1) := by decide +kernel
theorem dX11_production_107 : decode cX11_production 107 = .ok (.invokevirtual 120, 3) := by decide +kernel
theorem dX11_production_110 : decode cX11_production 110 = .ok (.iload 5, 2) := by decide +kernel
theorem dX11_production_112 : decode cX11_production 112 = .ok (.ireturn, 1) := by decide +kernel
theorem dX11_forward_0 : decode cX11_forward 0 = .ok (.aload_n 0, 1) := by decide +kernel
theorem dX11_forward_1 : decode cX11_forward 1 = .ok (.getfield 12, 3) := by decide +kernel
theorem dX11_forward_4 : decode cX11_forward 4 = .ok (.iload_n 1, 1) := by decide +kernel
theorem dX11_forward_5 : decode cX11_forward 5 = .ok (.invokevirtual 123, 3) := by decide +kernel
theorem dX11_forward_8 : decode cX11_forward 8 = .ok (.ifCond .eq 19, 3) := by decide +kernel
theorem dX11_forward_11 : decode cX11_forward 11 = .ok (.iload_n 2, 1) := by decide +kernel
theorem dX11_forward_12 : decode cX11_forward 12 = .ok (.iconst (-1), 1) := by decide +kernel
theorem dX11_forward_13 : decode cX11_forward 13 = .ok (.if_icmp .eq 24, 3) := by decide +kernel
theorem dX11_forward_16 : decode cX11_forward 16 = .ok (.aload_n 0, 1) := by decide +kernel
theorem dX11_forward_17 : decode cX11_forward 17 = .ok (.getfield 12, 3) := by decide +kernel
theorem dX11_forward_20 : decode cX11_forward 20 = .ok (.iload_n 2, 1) := by decide +kernel
theorem dX11_forward_21 : decode cX11_forward 21 = .ok (.invokevirtual 123, 3) := by decide +kernel
theorem dX11_forward_24 : decode cX11_forward 24 = .ok (.ifCond .ne 13, 3) := by decide +kernel
theorem dX11_forward_27 : decode cX11_forward 27 = .ok (.new 91, 3) := by decide +kernel
theorem dX11_forward_30 : decode cX11_forward 30 = .ok (.dup, 1) := by decide +kernel
theorem dX11_forward_31 : decode cX11_forward 31 = .ok (.ldc 127, 2) := by decide +kernel
theorem dX11_forward_33 : decode cX11_forward 33 = .ok (.invokespecial 95, 3) := by decide +kernel
theorem dX11_forward_36 : decode cX11_forward 36 = .ok (.athrow, 1) := by decide +kernel
theorem dX11_forward_37 : decode cX11_forward 37 = .ok (.aload_n 0, 1) := by decide +kernel
theorem dX11_forward_38 : decode cX11_forward 38 = .ok (.iload_n 1, 1) := by decide +kernel
theorem dX11_forward_39 : decode cX11_forward 39 = .ok (.iload_n 2, 1) := by decide +kernel
theorem dX11_forward_40 : decode cX11_forward 40 = .ok (.iconst 0, 1) := by decide +kernel
theorem dX11_forward_41 : decode cX11_forward 41 = .ok (.iload_n 3, 1) := by decide +kernel
theorem dX11_forward_42 : decode cX11_forward 42 = .ok (.invokevirtual 129, 3) := by decide +kernel
theorem dX11_forward_45 : decode cX11_forward 45 = .ok (.ifCond .eq 27, 3) := by decide +kernel
theorem dX11_forward_48 : decode cX11_forward 48 = .ok (.aload_n 0, 1) := by decide +kernel
theorem dX11_forward_49 : decode cX11_forward 49 = .ok (.iload_n 1, 1) := by decide +kernel
theorem dX11_forward_50 : decode cX11_forward 50 = .ok (.iload_n 2, 1) := by decide +kernel
theorem dX11_forward_51 : decode cX11_forward 51 = .ok (.iconst 1, 1) := by decide +kernel
theorem dX11_forward_52 : decode cX11_forward 52 = .ok (.iload 4, 2) := by decide +kernel
theorem dX11_forward_54 : decode cX11_forward 54 = .ok (.invokevirtual 129, 3) := by decide +kernel
theorem dX11_forward_57 : decode cX11_forward 57 = .ok (.ifCond .eq 15, 3) := by decide +kernel
theorem dX11_forward_60 : decode cX11_forward 60 = .ok (.aload_n 0, 1) := by decide +kernel
theorem dX11_forward_61 : decode cX11_forward 61 = .ok (.iload_n 1, 1) := by decide +kernel
theorem dX11_forward_62 : decode cX11_forward 62 = .ok (.iload_n 2, 1) := by decide +kernel
theorem dX11_forward_63 : decode cX11_forward 63 = .ok (.iconst 2, 1) := by decide +kernel
theorem dX11_forward_64 : decode cX11_forward 64 = .ok (.iload 5, 2) := by decide +kernel
theorem dX11_forward_66 : decode cX11_forward 66 = .ok (.invokevirtual 129, 3) := by decide +kernel
theorem dX11_forward_69 : decode cX11_forward 69 = .ok (.ifCond .ne 13, 3) := by decide +kernel
theorem dX11_forward_72 : decode cX11_forward 72 = .ok (.new 91, 3) := by decide +kernel
theorem dX11_forward_75 : decode cX11_forward 75 = .ok (.dup, 1) := by decide +kernel
theorem dX11_forward_76 : decode cX11_forward 76 = .ok (.ldc 133, 2) := by decide +kernel
theorem dX11_forward_78 : decode cX11_forward 78 = .ok (.invokespecial 95, 3) := by decide +kernel
theorem dX11_forward_81 : decode cX11_forward 81 = .ok (.athrow, 1) := by decide +kernel
theorem dX11_forward_82 : decode cX11_forward 82 = .ok (.iload_n 2, 1) := by decide +kernel
theorem dX11_forward_83 : decode cX11_forward 83 = .ok (.iload_n 1, 1) := by decide +kernel
theorem dX11_forward_84 : decode cX11_forward 84 = .ok (.if_icmp .eq 27, 3) := by decide +kernel
theorem dX11_forward_87 : decode cX11_forward 87 = .ok (.iload_n 2, 1) := by decide +kernel
theorem dX11_forward_88 : decode cX11_forward 88 = .ok (.iconst (-1), 1) := by decide +kernel
theorem dX11_forward_89 : decode cX11_forward 89 = .ok (.if_icmp .eq 32, 3) := by decide +kernel
theorem dX11_forward_92 : decode cX11_forward 92 = .ok (.aload_n 0, 1) := by decide +kernel
theorem dX11_forward_93 : decode cX11_forward 93 = .ok (.getfield 12, 3) := by decide +kernel
theorem dX11_forward_96 : decode cX11_forward 96 = .ok (.iload_n 2, 1) := by decide +kernel
theorem dX11_forward_97 : decode cX11_forward 97 = .ok (.invokevirtual 135, 3) := by decide +kernel
theorem dX11_forward_100 : decode cX11_forward 100 = .ok (.aload_n 0, 1) := by decide +kernel
theorem dX11_forward_101 : decode cX11_forward 101 = .ok (.getfield 12, 3) := by decide +kernel
theorem dX11_forward_104 : decode cX11_forward 104 = .ok (.iload_n 1, 1) := by decide +kernel
theorem dX11_forward_105 : decode cX11_forward 105 = .ok (.invokevirtual 135, 3) := by decide +kernel
theorem dX11_forward_108 : decode cX11_forward 108 = .ok (.if_icmp .eq 13, 3) := by decide +kernel
theorem dX11_forward_111 : decode cX11_forward 111 = .ok (.new 102, 3) := by decide +kernel
theorem dX11_forward_114 : decode cX11_forward 114 = .ok (.dup, 1) := by decide +kernel
theorem dX11_forward_115 : decode cX11_forward 115 = .ok (.ldc 139, 2) := by decide +kernel
theorem dX11_forward_117 : decode cX11_forward 117 = .ok (.invokespecial 106, 3) := by decide +kernel
theorem dX11_forward_120 : decode cX11_forward 120 = .ok (.athrow, 1) := by decide +kernel
theorem dX11_forward_121 : decode cX11_forward 121 = .ok (.aload_n 0, 1) := by decide +kernel
theorem dX11_forward_122 : decode cX11_forward 122 = .ok (.iload_n 1, 1) := by decide +kernel
theorem dX11_forward_123 : decode cX11_forward 123 = .ok (.iload_n 2, 1) := by decide +kernel
theorem dX11_forward_124 : decode cX11_forward 124 = .ok (.iconst 0, 1) := by decide +kernel
theorem dX11_forward_125 : decode cX11_forward 125 = .ok (.iload_n 3, 1) := by decide +kernel
theorem dX11_forward_126 : decode cX11_forward 126 = .ok (.invokevirtual 141, 3) := by decide +kernel
theorem dX11_forward_129 : decode cX11_forward 129 = .ok (.ifCond .eq 27, 3) := by decide +kernel
theorem dX11_forward_132 : decode cX11_forward 132 = .ok (.aload_n 0, 1) := by decide +kernel
theorem dX11_forward_133 : decode cX11_forward 133 = .ok (.iload_n 1, 1) := by decide +kernel
theorem dX11_forward_134 : decode cX11_forward 134 = .ok (.iload_n 2, 1) := by decide +kernel
theorem dX11_forward_135 : decode cX11_forward 135 = .ok (.iconst 1, 1) := by decide +kernel
theorem dX11_forward_136 : decode cX11_forward 136 = .ok (.iload 4, 2) := by decide +kernel
theorem dX11_forward_138 : decode cX11_forward 138 = .ok (.invokevirtual 141, 3) := by decide +kernel
theorem dX11_forward_141 : decode cX11_forward 141 = .ok (.ifCond .eq 15, 3) := by decide +kernel
theorem dX11_forward_144 : decode cX11_forward 144 = .ok (.aload_n 0, 1) := by decide +kernel
theorem dX11_forward_145 : decode cX11_forward 145 = .ok (.iload_n 1, 1) := by decide +kernel
theorem dX11_forward_146 : decode cX11_forward 146 = .ok (.iload_n 2, 1) := by decide +kernel
theorem dX11_forward_147 : decode cX11_forward 147 = .ok (.iconst 2, 1) := by decide +kernel
theorem dX11_forward_148 : decode cX11_forward 148 = .ok (.iload 5, 2) := by decide +kernel
theorem dX11_forward_150 : decode cX11_forward 150 = .ok (.invokevirtual 141, 3) := by decide +kernel
theorem dX11_forward_153 : decode cX11_forward 153 = .ok (.ifCond .ne 13, 3) := by decide +kernel
theorem dX11_forward_156 : decode cX11_forward 156 = .ok (.new 102, 3) := by decide +kernel
theorem dX11_forward_159 : decode cX11_forward 159 = .ok (.dup, 1) := by decide +kernel
theorem dX11_forward_160 : decode cX11_forward 160 = .ok (.ldc 144, 2) := by decide +kernel
theorem dX11_forward_162 : decode cX11_forward 162 = .ok (.invokespecial 106, 3) := by decide +kernel
theorem dX11_forward_165 : decode cX11_forward 165 = .ok (.athrow, 1) := by decide +kernel
theorem dX11_forward_166 : decode cX11_forward 166 = .ok (.aload_n 0, 1) := by decide +kernel
theorem dX11_forward_167 : decode cX11_forward 167 = .ok (.getfield 12, 3) := by decide +kernel
theorem dX11_forward_170 : decode cX11_forward 170 = .ok (.iload_n 1, 1) := by decide +kernel
theorem dX11_forward_171 : decode cX11_forward 171 = .ok (.iload_n 2, 1) := by decide +kernel
theorem dX11_forward_172 : decode cX11_forward 172 = .ok (.iload_n 3, 1) := by decide +kernel
theorem dX11_forward_173 : decode cX11_forward 173 = .ok (.iload 4, 2) := by decide +kernel
theorem dX11_forward_175 : decode cX11_forward 175 = .ok (.iload 5, 2) := by decide +kernel
theorem dX11_forward_177 : decode cX11_forward 177 = .ok (.invokevirtual 146, 3) := by decide +kernel
theorem dX11_forward_180 : decode cX11_forward 180 = .ok (.istore 6, 2) := by decide +kernel
theorem dX11_forward_182 : decode cX11_forward 182 = .ok (.aload_n 0, 1) := by decide +kernel
theorem dX11_forward_183 : decode cX11_forward 183 = .ok (.invokevirtual 120, 3) := by decide +kernel
theorem dX11_forward_186 : decode cX11_forward 186 = .ok (.iload 6, 2) := by decide +kernel
theorem dX11_forward_188 : decode cX11_forward 188 = .ok (.ireturn, 1) := by decide +kernel
theorem dX11_rule_0 : decode cX11_rule 0 = .ok (.aload_n 0, 1) := by decide +kernel
theorem dX11_rule_1 : decode cX11_rule 1 = .ok (.getfield 12, 3) := by decide +kernel
theorem dX11_rule_4 : decode cX11_rule 4 = .ok (.iload_n 1, 1) := by decide +kernel
theorem dX11_rule_5 : decode cX11_rule 5 = .ok (.invokevirtual 123, 3) := by decide +kernel
theorem dX11_rule_8 : decode cX11_rule 8 = .ok (.ifCond .eq 14, 3) := by decide +kernel
theorem dX11_rule_11 : decode cX11_rule 11 = .ok (.aload_n 0, 1) := by decide +kernel
theorem dX11_rule_12 : decode cX11_rule 12 = .ok (.getfield 12, 3) := by decide +kernel
theorem dX11_rule_15 : decode cX11_rule 15 = .ok (.iload_n 3, 1) := by decide +kernel
theorem dX11_rule_16 : decode cX11_rule 16 = .ok (.invokevirtual 123, 3) := by decide +kernel
theorem dX11_rule_19 : decode cX11_rule 19 = .ok (.ifCond .ne 13, 3) := by decide +kernel
theorem dX11_rule_22 : decode cX11_rule 22 = .ok (.new 91, 3) := by decide +kernel
theorem dX11_rule_25 : decode cX11_rule 25 = .ok (.dup, 1) := by decide +kernel
theorem dX11_rule_26 : decode cX11_rule 26 = .ok (.ldc 127, 2) := by decide +kernel
theorem dX11_rule_28 : decode cX11_rule 28 = .ok (.invokespecial 95, 3) := by decide +kernel
theorem dX11_rule_31 : decode cX11_rule 31 = .ok (.athrow, 1) := by decide +kernel
theorem dX11_rule_32 : decode cX11_rule 32 = .ok (.aload_n 0, 1) := by decide +kernel
theorem dX11_rule_33 : decode cX11_rule 33 = .ok (.iload_n 2, 1) := by decide +kernel
theorem dX11_rule_34 : decode cX11_rule 34 = .ok (.invokevirtual 150, 3) := by decide +kernel
theorem dX11_rule_37 : decode cX11_rule 37 = .ok (.iload_n 1, 1) := by decide +kernel
theorem dX11_rule_38 : decode cX11_rule 38 = .ok (.iload_n 3, 1) := by decide +kernel
theorem dX11_rule_39 : decode cX11_rule 39 = .ok (.if_icmp .eq 15, 3) := by decide +kernel
theorem dX11_rule_42 : decode cX11_rule 42 = .ok (.aload_n 0, 1) := by decide +kernel
theorem dX11_rule_43 : decode cX11_rule 43 = .ok (.getfield 12, 3) := by decide +kernel
theorem dX11_rule_46 : decode cX11_rule 46 = .ok (.iload_n 1, 1) := by decide +kernel
theorem dX11_rule_47 : decode cX11_rule 47 = .ok (.iload_n 3, 1) := by decide +kernel
theorem dX11_rule_48 : decode cX11_rule 48 = .ok (.invokevirtual 154, 3) := by decide +kernel
theorem dX11_rule_51 : decode cX11_rule 51 = .ok (.ifCond .ne 13, 3) := by decide +kernel
theorem dX11_rule_54 : decode cX11_rule 54 = .ok (.new 102, 3) := by decide +kernel
theorem dX11_rule_57 : decode cX11_rule 57 = .ok (.dup, 1) := by decide +kernel
theorem dX11_rule_58 : decode cX11_rule 58 = .ok (.ldc 139, 2) := by decide +kernel
theorem dX11_rule_60 : decode cX11_rule 60 = .ok (.invokespecial 106, 3) := by decide +kernel
theorem dX11_rule_63 : decode cX11_rule 63 = .ok (.athrow, 1) := by decide +kernel
theorem dX11_rule_64 : decode cX11_rule 64 = .ok (.aload_n 0, 1) := by decide +kernel
theorem dX11_rule_65 : decode cX11_rule 65 = .ok (.getfield 12, 3) := by decide +kernel
theorem dX11_rule_68 : decode cX11_rule 68 = .ok (.iload_n 1, 1) := by decide +kernel
theorem dX11_rule_69 : decode cX11_rule 69 = .ok (.iload_n 2, 1) := by decide +kernel
theorem dX11_rule_70 : decode cX11_rule 70 = .ok (.iload_n 3, 1) := by decide +kernel
theorem dX11_rule_71 : decode cX11_rule 71 = .ok (.invokevirtual 158, 3) := by decide +kernel
theorem dX11_rule_74 : decode cX11_rule 74 = .ok (.istore 4, 2) := by decide +kernel
theorem dX11_rule_76 : decode cX11_rule 76 = .ok (.aload_n 0, 1) := by decide +kernel
theorem dX11_rule_77 : decode cX11_rule 77 = .ok (.invokevirtual 120, 3) := by decide +kernel
theorem dX11_rule_80 : decode cX11_rule 80 = .ok (.iload 4, 2) := by decide +kernel
theorem dX11_rule_82 : decode cX11_rule 82 = .ok (.ireturn, 1) := by decide +kernel
theorem dX11_attribute_0 : decode cX11_attribute 0 = .ok (.iload_n 1, 1) := by decide +kernel
theorem dX11_attribute_1 : decode cX11_attribute 1 = .ok (.ifCond .lt 8, 3) := by decide +kernel
theorem dX11_attribute_4 : decode cX11_attribute 4 = .ok (.iload_n 1, 1) := by decide +kernel
theorem dX11_attribute_5 : decode cX11_attribute 5 = .ok (.iconst 4, 1) := by decide +kernel
theorem dX11_attribute_6 : decode cX11_attribute 6 = .ok (.if_icmp .lt 13, 3) := by decide +kernel
theorem dX11_attribute_9 : decode cX11_attribute 9 = .ok (.new 102, 3) := by decide +kernel
theorem dX11_attribute_12 : decode cX11_attribute 12 = .ok (.dup, 1) := by decide +kernel
theorem dX11_attribute_13 : decode cX11_attribute 13 = .ok (.ldc 162, 2) := by decide +kernel
theorem dX11_attribute_15 : decode cX11_attribute 15 = .ok (.invokespecial 106, 3) := by decide +kernel
theorem dX11_attribute_18 : decode cX11_attribute 18 = .ok (.athrow, 1) := by decide +kernel
theorem dX11_attribute_19 : decode cX11_attribute 19 = .ok (.aload_n 0, 1) := by decide +kernel
theorem dX11_attribute_20 : decode cX11_attribute 20 = .ok (.getfield 12, 3) := by decide +kernel
theorem dX11_attribute_23 : decode cX11_attribute 23 = .ok (.getfield 164, 3) := by decide +kernel
theorem dX11_attribute_26 : decode cX11_attribute 26 = .ok (.bipush 6, 2) := by decide +kernel
theorem dX11_attribute_28 : decode cX11_attribute 28 = .ok (.if_icmp .lt 13, 3) := by decide +kernel
theorem dX11_attribute_31 : decode cX11_attribute 31 = .ok (.new 111, 3) := by decide +kernel
theorem dX11_attribute_34 : decode cX11_attribute 34 = .ok (.dup, 1) := by decide +kernel
theorem dX11_attribute_35 : decode cX11_attribute 35 = .ok (.ldc 167, 2) := by decide +kernel
theorem dX11_attribute_37 : decode cX11_attribute 37 = .ok (.invokespecial 115, 3) := by decide +kernel
theorem dX11_attribute_40 : decode cX11_attribute 40 = .ok (.athrow, 1) := by decide +kernel
theorem dX11_attribute_41 : decode cX11_attribute 41 = .ok (.aload_n 0, 1) := by decide +kernel
theorem dX11_attribute_42 : decode cX11_attribute 42 = .ok (.getfield 12, 3) := by decide +kernel
theorem dX11_attribute_45 : decode cX11_attribute 45 = .ok (.iload_n 1, 1) := by decide +kernel
theorem dX11_attribute_46 : decode cX11_attribute 46 = .ok (.invokevirtual 169, 3) := by decide +kernel
theorem dX11_attribute_49 : decode cX11_attribute 49 = .ok (.istore_n 2, 1) := by decide +kernel
theorem dX11_attribute_50 : decode cX11_attribute 50 = .ok (.aload_n 0, 1) := by decide +kernel
theorem dX11_attribute_51 : decode cX11_attribute 51 = .ok (.invokevirtual 120, 3) := by decide +kernel
theorem dX11_attribute_54 : decode cX11_attribute 54 = .ok (.iload_n 2, 1) := by decide +kernel
theorem dX11_attribute_55 : decode cX11_attribute 55 = .ok (.ireturn, 1) := by decide +kernel
theorem dX11_step_0 : decode cX11_step 0 = .ok (.iload_n 1, 1) := by decide +kernel
theorem dX11_step_1 : decode cX11_step 1 = .ok (.invokestatic 172, 3) := by decide +kernel
theorem dX11_step_4 : decode cX11_step 4 = .ok (.ifCond .eq 8, 3) := by decide +kernel
theorem dX11_step_7 : decode cX11_step 7 = .ok (.aload_n 0, 1) := by decide +kernel
theorem dX11_step_8 : decode cX11_step 8 = .ok (.iload_n 2, 1) := by decide +kernel
theorem dX11_step_9 : decode cX11_step 9 = .ok (.invokevirtual 150, 3) := by decide +kernel
theorem dX11_step_12 : decode cX11_step 12 = .ok (.iload_n 1, 1) := by decide +kernel
theorem dX11_step_13 : decode cX11_step 13 = .ok (.ifCond .lt 25, 3) := by decide +kernel
theorem dX11_step_16 : decode cX11_step 16 = .ok (.iload_n 1, 1) := by decide +kernel
theorem dX11_step_17 : decode cX11_step 17 = .ok (.bipush 15, 2) := by decide +kernel
theorem dX11_step_19 : decode cX11_step 19 = .ok (.if_icmp .ge 19, 3) := by decide +kernel
theorem dX11_step_22 : decode cX11_step 22 = .ok (.iload_n 1, 1) := by decide +kernel
theorem dX11_step_23 : decode cX11_step 23 = .ok (.iload_n 2, 1) := by decide +kernel
theorem dX11_step_24 : decode cX11_step 24 = .ok (.invokestatic 175, 3) := by decide +kernel
theorem dX11_step_27 : decode cX11_step 27 = .ok (.ifCond .eq 11, 3) := by decide +kernel
theorem dX11_step_30 : decode cX11_step 30 = .ok (.iload_n 1, 1) := by decide +kernel
theorem dX11_step_31 : decode cX11_step 31 = .ok (.iload_n 3, 1) := by decide +kernel
theorem dX11_step_32 : decode cX11_step 32 = .ok (.invokestatic 178, 3) := by decide +kernel
theorem dX11_step_35 : decode cX11_step 35 = .ok (.ifCond .ne 13, 3) := by decide +kernel
theorem dX11_step_38 : decode cX11_step 38 = .ok (.new 102, 3) := by decide +kernel
theorem dX11_step_41 : decode cX11_step 41 = .ok (.dup, 1) := by decide +kernel
theorem dX11_step_42 : decode cX11_step 42 = .ok (.ldc 181, 2) := by decide +kernel
theorem dX11_step_44 : decode cX11_step 44 = .ok (.invokespecial 106, 3) := by decide +kernel
theorem dX11_step_47 : decode cX11_step 47 = .ok (.athrow, 1) := by decide +kernel
theorem dX11_step_48 : decode cX11_step 48 = .ok (.aload_n 0, 1) := by decide +kernel
theorem dX11_step_49 : decode cX11_step 49 = .ok (.getfield 19, 3) := by decide +kernel
theorem dX11_step_52 : decode cX11_step 52 = .ok (.getfield 183, 3) := by decide +kernel
theorem dX11_step_55 : decode cX11_step 55 = .ok (.bipush 8, 2) := by decide +kernel
theorem dX11_step_57 : decode cX11_step 57 = .ok (.if_icmp .ge 17, 3) := by decide +kernel
theorem dX11_step_60 : decode cX11_step 60 = .ok (.aload_n 0, 1) := by decide +kernel
theorem dX11_step_61 : decode cX11_step 61 = .ok (.getfield 19, 3) := by decide +kernel
theorem dX11_step_64 : decode cX11_step 64 = .ok (.getfield 186, 3) := by decide +kernel
theorem dX11_step_67 : decode cX11_step 67 = .ok (.iload_n 1, 1) := by decide +kernel
theorem dX11_step_68 : decode cX11_step 68 = .ok (.invokestatic 189, 3) := by decide +kernel
theorem dX11_step_71 : decode cX11_step 71 = .ok (.if_icmp .ge 13, 3) := by decide +kernel
theorem dX11_step_74 : decode cX11_step 74 = .ok (.new 111, 3) := by decide +kernel
theorem dX11_step_77 : decode cX11_step 77 = .ok (.dup, 1) := by decide +kernel
theorem dX11_step_78 : decode cX11_step 78 = .ok (.ldc 192, 2) := by decide +kernel
theorem dX11_step_80 : decode cX11_step 80 = .ok (.invokespecial 115, 3) := by decide +kernel
theorem dX11_step_83 : decode cX11_step 83 = .ok (.athrow, 1) := by decide +kernel
theorem dX11_step_84 : decode cX11_step 84 = .ok (.aload_n 0, 1) := by decide +kernel
theorem dX11_step_85 : decode cX11_step 85 = .ok (.getfield 19, 3) := by decide +kernel
theorem dX11_step_88 : decode cX11_step 88 = .ok (.iload_n 1, 1) := by decide +kernel
theorem dX11_step_89 : decode cX11_step 89 = .ok (.iload_n 2, 1) := by decide +kernel
theorem dX11_step_90 : decode cX11_step 90 = .ok (.iload_n 3, 1) := by decide +kernel
theorem dX11_step_91 : decode cX11_step 91 = .ok (.invokevirtual 194, 3) := by decide +kernel
theorem dX11_step_94 : decode cX11_step 94 = .ok (.aload_n 0, 1) := by decide +kernel
theorem dX11_step_95 : decode cX11_step 95 = .ok (.getfield 19, 3) := by decide +kernel
theorem dX11_step_98 : decode cX11_step 98 = .ok (.getfield 186, 3) := by decide +kernel
theorem dX11_step_101 : decode cX11_step 101 = .ok (.ireturn, 1) := by decide +kernel
theorem dX11_dropSteps_0 : decode cX11_dropSteps 0 = .ok (.aload_n 0, 1) := by decide +kernel
theorem dX11_dropSteps_1 : decode cX11_dropSteps 1 = .ok (.getfield 19, 3) := by decide +kernel
theorem dX11_dropSteps_4 : decode cX11_dropSteps 4 = .ok (.getfield 183, 3) := by decide +kernel
theorem dX11_dropSteps_7 : decode cX11_dropSteps 7 = .ok (.istore_n 1, 1) := by decide +kernel
theorem dX11_dropSteps_8 : decode cX11_dropSteps 8 = .ok (.aload_n 0, 1) := by decide +kernel
theorem dX11_dropSteps_9 : decode cX11_dropSteps 9 = .ok (.getfield 19, 3) := by decide +kernel
theorem dX11_dropSteps_12 : decode cX11_dropSteps 12 = .ok (.invokevirtual 198, 3) := by decide +kernel
theorem dX11_dropSteps_15 : decode cX11_dropSteps 15 = .ok (.iload_n 1, 1) := by decide +kernel
theorem dX11_dropSteps_16 : decode cX11_dropSteps 16 = .ok (.ireturn, 1) := by decide +kernel
theorem dX11_equation_0 : decode cX11_equation 0 = .ok (.aload_n 0, 1) := by decide +kernel
theorem dX11_equation_1 : decode cX11_equation 1 = .ok (.getfield 12, 3) := by decide +kernel
theorem dX11_equation_4 : decode cX11_equation 4 = .ok (.iload_n 1, 1) := by decide +kernel
theorem dX11_equation_5 : decode cX11_equation 5 = .ok (.invokevirtual 123, 3) := by decide +kernel
theorem dX11_equation_8 : decode cX11_equation 8 = .ok (.ifCond .ne 13, 3) := by decide +kernel
theorem dX11_equation_11 : decode cX11_equation 11 = .ok (.new 91, 3) := by decide +kernel
theorem dX11_equation_14 : decode cX11_equation 14 = .ok (.dup, 1) := by decide +kernel
theorem dX11_equation_15 : decode cX11_equation 15 = .ok (.ldc 127, 2) := by decide +kernel
theorem dX11_equation_17 : decode cX11_equation 17 = .ok (.invokespecial 95, 3) := by decide +kernel
theorem dX11_equation_20 : decode cX11_equation 20 = .ok (.athrow, 1) := by decide +kernel
theorem dX11_equation_21 : decode cX11_equation 21 = .ok (.aload_n 0, 1) := by decide +kernel
theorem dX11_equation_22 : decode cX11_equation 22 = .ok (.iload_n 2, 1) := by decide +kernel
theorem dX11_equation_23 : decode cX11_equation 23 = .ok (.invokevirtual 150, 3) := by decide +kernel
theorem dX11_equation_26 : decode cX11_equation 26 = .ok (.iload_n 3, 1) := by decide +kernel
theorem dX11_equation_27 : decode cX11_equation 27 = .ok (.ifCond .lt 25, 3) := by decide +kernel
theorem dX11_equation_30 : decode cX11_equation 30 = .ok (.iload_n 3, 1) := by decide +kernel
theorem dX11_equation_31 : decode cX11_equation 31 = .ok (.aload_n 0, 1) := by decide +kernel
theorem dX11_equation_32 : decode cX11_equation 32 = .ok (.getfield 12, 3) := by decide +kernel
theorem dX11_equation_35 : decode cX11_equation 35 = .ok (.iload_n 1, 1) := by decide +kernel
theorem dX11_equation_36 : decode cX11_equation 36 = .ok (.invokevirtual 201, 3) := by decide +kernel
theorem dX11_equation_39 : decode cX11_equation 39 = .ok (.if_icmp .lt 13, 3) := by decide +kernel
theorem dX11_equation_42 : decode cX11_equation 42 = .ok (.new 91, 3) := by decide +kernel
theorem dX11_equation_45 : decode cX11_equation 45 = .ok (.dup, 1) := by decide +kernel
theorem dX11_equation_46 : decode cX11_equation 46 = .ok (.ldc 133, 2) := by decide +kernel
theorem dX11_equation_48 : decode cX11_equation 48 = .ok (.invokespecial 95, 3) := by decide +kernel
theorem dX11_equation_51 : decode cX11_equation 51 = .ok (.athrow, 1) := by decide +kernel
theorem dX11_equation_52 : decode cX11_equation 52 = .ok (.aload_n 0, 1) := by decide +kernel
theorem dX11_equation_53 : decode cX11_equation 53 = .ok (.iload 4, 2) := by decide +kernel
theorem dX11_equation_55 : decode cX11_equation 55 = .ok (.invokevirtual 204, 3) := by decide +kernel
theorem dX11_equation_58 : decode cX11_equation 58 = .ok (.aload_n 0, 1) := by decide +kernel
theorem dX11_equation_59 : decode cX11_equation 59 = .ok (.getfield 12, 3) := by decide +kernel
theorem dX11_equation_62 : decode cX11_equation 62 = .ok (.iload_n 2, 1) := by decide +kernel
theorem dX11_equation_63 : decode cX11_equation 63 = .ok (.invokevirtual 207, 3) := by decide +kernel
theorem dX11_equation_66 : decode cX11_equation 66 = .ok (.istore 5, 2) := by decide +kernel
theorem dX11_equation_68 : decode cX11_equation 68 = .ok (.iload_n 3, 1) := by decide +kernel
theorem dX11_equation_69 : decode cX11_equation 69 = .ok (.iload 5, 2) := by decide +kernel
theorem dX11_equation_71 : decode cX11_equation 71 = .ok (.invokestatic 210, 3) := by decide +kernel
theorem dX11_equation_74 : decode cX11_equation 74 = .ok (.ifCond .ne 13, 3) := by decide +kernel
theorem dX11_equation_77 : decode cX11_equation 77 = .ok (.new 102, 3) := by decide +kernel
theorem dX11_equation_80 : decode cX11_equation 80 = .ok (.dup, 1) := by decide +kernel
theorem dX11_equation_81 : decode cX11_equation 81 = .ok (.ldc 213, 2) := by decide +kernel
theorem dX11_equation_83 : decode cX11_equation 83 = .ok (.invokespecial 106, 3) := by decide +kernel
theorem dX11_equation_86 : decode cX11_equation 86 = .ok (.athrow, 1) := by decide +kernel
theorem dX11_equation_87 : decode cX11_equation 87 = .ok (.aload_n 0, 1) := by decide +kernel
theorem dX11_equation_88 : decode cX11_equation 88 = .ok (.getfield 19, 3) := by decide +kernel
theorem dX11_equation_91 : decode cX11_equation 91 = .ok (.getfield 186, 3) := by decide +kernel
theorem dX11_equation_94 : decode cX11_equation 94 = .ok (.iload 5, 2) := by decide +kernel
theorem dX11_equation_96 : decode cX11_equation 96 = .ok (.iconst 2, 1) := by decide +kernel
theorem dX11_equation_97 : decode cX11_equation 97 = .ok (.if_icmp .ne 7, 3) := by decide +kernel
theorem dX11_equation_100 : decode cX11_equation 100 = .ok (.iconst 2, 1) := by decide +kernel
theorem dX11_equation_101 : decode cX11_equation 101 = .ok (.goto 4, 3) := by decide +kernel
theorem dX11_equation_104 : decode cX11_equation 104 = .ok (.iconst 1, 1) := by decide +kernel
theorem dX11_equation_105 : decode cX11_equation 105 = .ok (.if_icmp .ne 15, 3) := by decide +kernel
theorem dX11_equation_108 : decode cX11_equation 108 = .ok (.aload_n 0, 1) := by decide +kernel
theorem dX11_equation_109 : decode cX11_equation 109 = .ok (.getfield 33, 3) := by decide +kernel
theorem dX11_equation_112 : decode cX11_equation 112 = .ok (.getfield 215, 3) := by decide +kernel
theorem dX11_equation_115 : decode cX11_equation 115 = .ok (.bipush 30, 2) := by decide +kernel
theorem dX11_equation_117 : decode cX11_equation 117 = .ok (.if_icmp .lt 13, 3) := by decide +kernel
theorem dX11_equation_120 : decode cX11_equation 120 = .ok (.new 111, 3) := by decide +kernel
theorem dX11_equation_123 : decode cX11_equation 123 = .ok (.dup, 1) := by decide +kernel
theorem dX11_equation_124 : decode cX11_equation 124 = .ok (.ldc 218, 2) := by decide +kernel
theorem dX11_equation_126 : decode cX11_equation 126 = .ok (.invokespecial 115, 3) := by decide +kernel
theorem dX11_equation_129 : decode cX11_equation 129 = .ok (.athrow, 1) := by decide +kernel
theorem dX11_equation_130 : decode cX11_equation 130 = .ok (.aload_n 0, 1) := by decide +kernel
theorem dX11_equation_131 : decode cX11_equation 131 = .ok (.getfield 19, 3) := by decide +kernel
theorem dX11_equation_134 : decode cX11_equation 134 = .ok (.iload_n 1, 1) := by decide +kernel
theorem dX11_equation_135 : decode cX11_equation 135 = .ok (.iload_n 2, 1) := by decide +kernel
theorem dX11_equation_136 : decode cX11_equation 136 = .ok (.iload_n 3, 1) := by decide +kernel
theorem dX11_equation_137 : decode cX11_equation 137 = .ok (.iload 4, 2) := by decide +kernel
theorem dX11_equation_139 : decode cX11_equation 139 = .ok (.invokevirtual 220, 3) := by decide +kernel
theorem dX11_equation_142 : decode cX11_equation 142 = .ok (.aload_n 0, 1) := by decide +kernel
theorem dX11_equation_143 : decode cX11_equation 143 = .ok (.getfield 33, 3) := by decide +kernel
theorem dX11_equation_146 : decode cX11_equation 146 = .ok (.aload_n 0, 1) := by decide +kernel
theorem dX11_equation_147 : decode cX11_equation 147 = .ok (.getfield 19, 3) := by decide +kernel
theorem dX11_equation_150 : decode cX11_equation 150 = .ok (.invokevirtual 224, 3) := by decide +kernel
theorem dX11_equation_153 : decode cX11_equation 153 = .ok (.istore 6, 2) := by decide +kernel
theorem dX11_equation_155 : decode cX11_equation 155 = .ok (.aload_n 0, 1) := by decide +kernel
theorem dX11_equation_156 : decode cX11_equation 156 = .ok (.getfield 19, 3) := by decide +kernel
theorem dX11_equation_159 : decode cX11_equation 159 = .ok (.invokevirtual 198, 3) := by decide +kernel
theorem dX11_equation_162 : decode cX11_equation 162 = .ok (.aload_n 0, 1) := by decide +kernel
theorem dX11_equation_163 : decode cX11_equation 163 = .ok (.invokevirtual 120, 3) := by decide +kernel
theorem dX11_equation_166 : decode cX11_equation 166 = .ok (.iload 6, 2) := by decide +kernel
theorem dX11_equation_168 : decode cX11_equation 168 = .ok (.ireturn, 1) := by decide +kernel
theorem dX11_toggle_0 : decode cX11_toggle 0 = .ok (.aload_n 0, 1) := by decide +kernel
theorem dX11_toggle_1 : decode cX11_toggle 1 = .ok (.iload_n 1, 1) := by decide +kernel
theorem dX11_toggle_2 : decode cX11_toggle 2 = .ok (.invokevirtual 204, 3) := by decide +kernel
theorem dX11_toggle_5 : decode cX11_toggle 5 = .ok (.aload_n 0, 1) := by decide +kernel
theorem dX11_toggle_6 : decode cX11_toggle 6 = .ok (.getfield 33, 3) := by decide +kernel
theorem dX11_toggle_9 : decode cX11_toggle 9 = .ok (.iload_n 1, 1) := by decide +kernel
theorem dX11_toggle_10 : decode cX11_toggle 10 = .ok (.invokevirtual 227, 3) := by decide +kernel
theorem dX11_toggle_13 : decode cX11_toggle 13 = .ok (.istore_n 2, 1) := by decide +kernel
theorem dX11_toggle_14 : decode cX11_toggle 14 = .ok (.aload_n 0, 1) := by decide +kernel
theorem dX11_toggle_15 : decode cX11_toggle 15 = .ok (.invokevirtual 120, 3) := by decide +kernel
theorem dX11_toggle_18 : decode cX11_toggle 18 = .ok (.iload_n 2, 1) := by decide +kernel
theorem dX11_toggle_19 : decode cX11_toggle 19 = .ok (.ireturn, 1) := by decide +kernel
theorem dX11_conflicts_0 : decode cX11_conflicts 0 = .ok (.aload_n 0, 1) := by decide +kernel
theorem dX11_conflicts_1 : decode cX11_conflicts 1 = .ok (.getfield 33, 3) := by decide +kernel
theorem dX11_conflicts_4 : decode cX11_conflicts 4 = .ok (.invokevirtual 230, 3) := by decide +kernel
theorem dX11_conflicts_7 : decode cX11_conflicts 7 = .ok (.ireturn, 1) := by decide +kernel
theorem dX11_ringIn_0 : decode cX11_ringIn 0 = .ok (.aload_n 0, 1) := by decide +kernel
theorem dX11_ringIn_1 : decode cX11_ringIn 1 = .ok (.getfield 87, 3) := by decide +kernel
theorem dX11_ringIn_4 : decode cX11_ringIn 4 = .ok (.invokevirtual 234, 3) := by decide +kernel
theorem dX11_ringIn_7 : decode cX11_ringIn 7 = .ok (.ireturn, 1) := by decide +kernel
theorem dX11_insert_0 : decode cX11_insert 0 = .ok (.iload_n 1, 1) := by decide +kernel
theorem dX11_insert_1 : decode cX11_insert 1 = .ok (.ifCond .lt 14, 3) := by decide +kernel
theorem dX11_insert_4 : decode cX11_insert 4 = .ok (.iload_n 1, 1) := by decide +kernel
theorem dX11_insert_5 : decode cX11_insert 5 = .ok (.aload_n 0, 1) := by decide +kernel
theorem dX11_insert_6 : decode cX11_insert 6 = .ok (.getfield 40, 3) := by decide +kernel
theorem dX11_insert_9 : decode cX11_insert 9 = .ok (.getfield 237, 3) := by decide +kernel
theorem dX11_insert_12 : decode cX11_insert 12 = .ok (.if_icmp .le 13, 3) := by decide +kernel
theorem dX11_insert_15 : decode cX11_insert 15 = .ok (.new 91, 3) := by decide +kernel
theorem dX11_insert_18 : decode cX11_insert 18 = .ok (.dup, 1) := by decide +kernel
theorem dX11_insert_19 : decode cX11_insert 19 = .ok (.ldc 240, 2) := by decide +kernel
theorem dX11_insert_21 : decode cX11_insert 21 = .ok (.invokespecial 95, 3) := by decide +kernel
theorem dX11_insert_24 : decode cX11_insert 24 = .ok (.athrow, 1) := by decide +kernel
theorem dX11_insert_25 : decode cX11_insert 25 = .ok (.iload_n 2, 1) := by decide +kernel
theorem dX11_insert_26 : decode cX11_insert 26 = .ok (.bipush 97, 2) := by decide +kernel
theorem dX11_insert_28 : decode cX11_insert 28 = .ok (.if_icmp .lt 9, 3) := by decide +kernel
theorem dX11_insert_31 : decode cX11_insert 31 = .ok (.iload_n 2, 1) := by decide +kernel
theorem dX11_insert_32 : decode cX11_insert 32 = .ok (.bipush 103, 2) := by decide +kernel
theorem dX11_insert_34 : decode cX11_insert 34 = .ok (.if_icmp .lt 13, 3) := by decide +kernel
theorem dX11_insert_37 : decode cX11_insert 37 = .ok (.new 102, 3) := by decide +kernel
theorem dX11_insert_40 : decode cX11_insert 40 = .ok (.dup, 1) := by decide +kernel
theorem dX11_insert_41 : decode cX11_insert 41 = .ok (.ldc 242, 2) := by decide +kernel
theorem dX11_insert_43 : decode cX11_insert 43 = .ok (.invokespecial 106, 3) := by decide +kernel
theorem dX11_insert_46 : decode cX11_insert 46 = .ok (.athrow, 1) := by decide +kernel
theorem dX11_insert_47 : decode cX11_insert 47 = .ok (.aload_n 0, 1) := by decide +kernel
theorem dX11_insert_48 : decode cX11_insert 48 = .ok (.getfield 40, 3) := by decide +kernel
theorem dX11_insert_51 : decode cX11_insert 51 = .ok (.getfield 237, 3) := by decide +kernel
theorem dX11_insert_54 : decode cX11_insert 54 = .ok (.bipush 12, 2) := by decide +kernel
theorem dX11_insert_56 : decode cX11_insert 56 = .ok (.if_icmp .ge 13, 3) := by decide +kernel
theorem dX11_insert_59 : decode cX11_insert 59 = .ok (.aload_n 0, 1) := by decide +kernel
theorem dX11_insert_60 : decode cX11_insert 60 = .ok (.getfield 12, 3) := by decide +kernel
theorem dX11_insert_63 : decode cX11_insert 63 = .ok (.getfield 107, 3) := by decide +kernel
theorem dX11_insert_66 : decode cX11_insert 66 = .ok (.ifCond .ne 13, 3) := by decide +kernel
theorem dX11_insert_69 : decode cX11_insert 69 = .ok (.new 111, 3) := by decide +kernel
theorem dX11_insert_72 : decode cX11_insert 72 = .ok (.dup, 1) := by decide +kernel
theorem dX11_insert_73 : decode cX11_insert 73 = .ok (.ldc 244, 2) := by decide +kernel
theorem dX11_insert_75 : decode cX11_insert 75 = .ok (.invokespecial 115, 3) := by decide +kernel
theorem dX11_insert_78 : decode cX11_insert 78 = .ok (.athrow, 1) := by decide +kernel
theorem dX11_insert_79 : decode cX11_insert 79 = .ok (.aload_n 0, 1) := by decide +kernel
theorem dX11_insert_80 : decode cX11_insert 80 = .ok (.getfield 40, 3) := by decide +kernel
theorem dX11_insert_83 : decode cX11_insert 83 = .ok (.iload_n 1, 1) := by decide +kernel
theorem dX11_insert_84 : decode cX11_insert 84 = .ok (.iload_n 2, 1) := by decide +kernel
theorem dX11_insert_85 : decode cX11_insert 85 = .ok (.bipush 97, 2) := by decide +kernel
theorem dX11_insert_87 : decode cX11_insert 87 = .ok (.isub, 1) := by decide +kernel
theorem dX11_insert_88 : decode cX11_insert 88 = .ok (.invokevirtual 246, 3) := by decide +kernel
theorem dX11_insert_91 : decode cX11_insert 91 = .ok (.aload_n 0, 1) := by decide +kernel
theorem dX11_insert_92 : decode cX11_insert 92 = .ok (.invokevirtual 250, 3) := by decide +kernel
theorem dX11_insert_95 : decode cX11_insert 95 = .ok (.ireturn, 1) := by decide +kernel
theorem dX11_delete_0 : decode cX11_delete 0 = .ok (.iload_n 1, 1) := by decide +kernel
theorem dX11_delete_1 : decode cX11_delete 1 = .ok (.ifCond .lt 14, 3) := by decide +kernel
theorem dX11_delete_4 : decode cX11_delete 4 = .ok (.iload_n 1, 1) := by decide +kernel
theorem dX11_delete_5 : decode cX11_delete 5 = .ok (.aload_n 0, 1) := by decide +kernel
theorem dX11_delete_6 : decode cX11_delete 6 = .ok (.getfield 40, 3) := by decide +kernel
theorem dX11_delete_9 : decode cX11_delete 9 = .ok (.getfield 237, 3) := by decide +kernel
theorem dX11_delete_12 : decode cX11_delete 12 = .ok (.if_icmp .lt 13, 3) := by decide +kernel
theorem dX11_delete_15 : decode cX11_delete 15 = .ok (.new 91, 3) := by decide +kernel
theorem dX11_delete_18 : decode cX11_delete 18 = .ok (.dup, 1) := by decide +kernel
theorem dX11_delete_19 : decode cX11_delete 19 = .ok (.ldc 253, 2) := by decide +kernel
theorem dX11_delete_21 : decode cX11_delete 21 = .ok (.invokespecial 95, 3) := by decide +kernel
theorem dX11_delete_24 : decode cX11_delete 24 = .ok (.athrow, 1) := by decide +kernel
theorem dX11_delete_25 : decode cX11_delete 25 = .ok (.aload_n 0, 1) := by decide +kernel
theorem dX11_delete_26 : decode cX11_delete 26 = .ok (.getfield 12, 3) := by decide +kernel
theorem dX11_delete_29 : decode cX11_delete 29 = .ok (.getfield 107, 3) := by decide +kernel
theorem dX11_delete_32 : decode cX11_delete 32 = .ok (.ifCond .ne 13, 3) := by decide +kernel
theorem dX11_delete_35 : decode cX11_delete 35 = .ok (.new 111, 3) := by decide +kernel
theorem dX11_delete_38 : decode cX11_delete 38 = .ok (.dup, 1) := by decide +kernel
theorem dX11_delete_39 : decode cX11_delete 39 = .ok (.ldc 255, 2) := by decide +kernel
theorem dX11_delete_41 : decode cX11_delete 41 = .ok (.invokespecial 115, 3) := by decide +kernel
theorem dX11_delete_44 : decode cX11_delete 44 = .ok (.athrow, 1) := by decide +kernel
theorem dX11_delete_45 : decode cX11_delete 45 = .ok (.aload_n 0, 1) := by decide +kernel
theorem dX11_delete_46 : decode cX11_delete 46 = .ok (.getfield 40, 3) := by decide +kernel
theorem dX11_delete_49 : decode cX11_delete 49 = .ok (.iload_n 1, 1) := by decide +kernel
theorem dX11_delete_50 : decode cX11_delete 50 = .ok (.invokevirtual 257, 3) := by decide +kernel
theorem dX11_delete_53 : decode cX11_delete 53 = .ok (.aload_n 0, 1) := by decide +kernel
theorem dX11_delete_54 : decode cX11_delete 54 = .ok (.invokevirtual 250, 3) := by decide +kernel
theorem dX11_delete_57 : decode cX11_delete 57 = .ok (.ireturn, 1) := by decide +kernel
theorem dX11_read_0 : decode cX11_read 0 = .ok (.aload_n 0, 1) := by decide +kernel
theorem dX11_read_1 : decode cX11_read 1 = .ok (.getfield 12, 3) := by decide +kernel
theorem dX11_read_4 : decode cX11_read 4 = .ok (.getfield 107, 3) := by decide +kernel
theorem dX11_read_7 : decode cX11_read 7 = .ok (.ifCond .ne 13, 3) := by decide +kernel
theorem dX11_read_10 : decode cX11_read 10 = .ok (.new 111, 3) := by decide +kernel
theorem dX11_read_13 : decode cX11_read 13 = .ok (.dup, 1) := by decide +kernel
theorem dX11_read_14 : decode cX11_read 14 = .ok (.ldc 255, 2) := by decide +kernel
theorem dX11_read_16 : decode cX11_read 16 = .ok (.invokespecial 115, 3) := by decide +kernel
theorem dX11_read_19 : decode cX11_read 19 = .ok (.athrow, 1) := by decide +kernel
theorem dX11_read_20 : decode cX11_read 20 = .ok (.aload_n 0, 1) := by decide +kernel
theorem dX11_read_21 : decode cX11_read 21 = .ok (.invokevirtual 250, 3) := by decide +kernel
theorem dX11_read_24 : decode cX11_read 24 = .ok (.ireturn, 1) := by decide +kernel
theorem dX11_cost_0 : decode cX11_cost 0 = .ok (.aload_n 0, 1) := by decide +kernel
theorem dX11_cost_1 : decode cX11_cost 1 = .ok (.getfield 47, 3) := by decide +kernel
theorem dX11_cost_4 : decode cX11_cost 4 = .ok (.getfield 260, 3) := by decide +kernel
theorem dX11_cost_7 : decode cX11_cost 7 = .ok (.ifCond .ne 7, 3) := by decide +kernel
theorem dX11_cost_10 : decode cX11_cost 10 = .ok (.iconst (-1), 1) := by decide +kernel
theorem dX11_cost_11 : decode cX11_cost 11 = .ok (.goto 10, 3) := by decide +kernel
theorem dX11_cost_14 : decode cX11_cost 14 = .ok (.aload_n 0, 1) := by decide +kernel
theorem dX11_cost_15 : decode cX11_cost 15 = .ok (.getfield 47, 3) := by decide +kernel
theorem dX11_cost_18 : decode cX11_cost 18 = .ok (.getfield 261, 3) := by decide +kernel
theorem dX11_cost_21 : decode cX11_cost 21 = .ok (.ireturn, 1) := by decide +kernel
theorem dX11_node_0 : decode cX11_node 0 = .ok (.aload_n 0, 1) := by decide +kernel
theorem dX11_node_1 : decode cX11_node 1 = .ok (.iload_n 1, 1) := by decide +kernel
theorem dX11_node_2 : decode cX11_node 2 = .ok (.invokevirtual 264, 3) := by decide +kernel
theorem dX11_node_5 : decode cX11_node 5 = .ok (.aload_n 0, 1) := by decide +kernel
theorem dX11_node_6 : decode cX11_node 6 = .ok (.getfield 47, 3) := by decide +kernel
theorem dX11_node_9 : decode cX11_node 9 = .ok (.iload_n 1, 1) := by decide +kernel
theorem dX11_node_10 : decode cX11_node 10 = .ok (.invokevirtual 267, 3) := by decide +kernel
theorem dX11_node_13 : decode cX11_node 13 = .ok (.istore_n 2, 1) := by decide +kernel
theorem dX11_node_14 : decode cX11_node 14 = .ok (.sipush 1000, 3) := by decide +kernel
theorem dX11_node_17 : decode cX11_node 17 = .ok (.aload_n 0, 1) := by decide +kernel
theorem dX11_node_18 : decode cX11_node 18 = .ok (.getfield 47, 3) := by decide +kernel
theorem dX11_node_21 : decode cX11_node 21 = .ok (.iload_n 1, 1) := by decide +kernel
theorem dX11_node_22 : decode cX11_node 22 = .ok (.invokevirtual 270, 3) := by decide +kernel
theorem dX11_node_25 : decode cX11_node 25 = .ok (.iconst 1, 1) := by decide +kernel
theorem dX11_node_26 : decode cX11_node 26 = .ok (.iadd, 1) := by decide +kernel
theorem dX11_node_27 : decode cX11_node 27 = .ok (.imul, 1) := by decide +kernel
theorem dX11_node_28 : decode cX11_node 28 = .ok (.bipush 10, 2) := by decide +kernel
theorem dX11_node_30 : decode cX11_node 30 = .ok (.iload_n 2, 1) := by decide +kernel
theorem dX11_node_31 : decode cX11_node 31 = .ok (.imul, 1) := by decide +kernel
theorem dX11_node_32 : decode cX11_node 32 = .ok (.iadd, 1) := by decide +kernel
theorem dX11_node_33 : decode cX11_node 33 = .ok (.aload_n 0, 1) := by decide +kernel
theorem dX11_node_34 : decode cX11_node 34 = .ok (.getfield 12, 3) := by decide +kernel
theorem dX11_node_37 : decode cX11_node 37 = .ok (.iload_n 2, 1) := by decide +kernel
theorem dX11_node_38 : decode cX11_node 38 = .ok (.invokevirtual 201, 3) := by decide +kernel
theorem dX11_node_41 : decode cX11_node 41 = .ok (.iadd, 1) := by decide +kernel
theorem dX11_node_42 : decode cX11_node 42 = .ok (.ireturn, 1) := by decide +kernel
theorem dX11_rewrite_0 : decode cX11_rewrite 0 = .ok (.aload_n 0, 1) := by decide +kernel
theorem dX11_rewrite_1 : decode cX11_rewrite 1 = .ok (.iload_n 1, 1) := by decide +kernel
theorem dX11_rewrite_2 : decode cX11_rewrite 2 = .ok (.invokevirtual 264, 3) := by decide +kernel
theorem dX11_rewrite_5 : decode cX11_rewrite 5 = .ok (.aload_n 0, 1) := by decide +kernel
theorem dX11_rewrite_6 : decode cX11_rewrite 6 = .ok (.getfield 47, 3) := by decide +kernel
theorem dX11_rewrite_9 : decode cX11_rewrite 9 = .ok (.iload_n 1, 1) := by decide +kernel
theorem dX11_rewrite_10 : decode cX11_rewrite 10 = .ok (.invokevirtual 273, 3) := by decide +kernel
theorem dX11_rewrite_13 : decode cX11_rewrite 13 = .ok (.istore_n 2, 1) := by decide +kernel
theorem dX11_rewrite_14 : decode cX11_rewrite 14 = .ok (.aload_n 0, 1) := by decide +kernel
theorem dX11_rewrite_15 : decode cX11_rewrite 15 = .ok (.getfield 12, 3) := by decide +kernel
theorem dX11_rewrite_18 : decode cX11_rewrite 18 = .ok (.iload_n 2, 1) := by decide +kernel
theorem dX11_rewrite_19 : decode cX11_rewrite 19 = .ok (.invokevirtual 276, 3) := by decide +kernel
theorem dX11_rewrite_22 : decode cX11_rewrite 22 = .ok (.istore_n 3, 1) := by decide +kernel
theorem dX11_rewrite_23 : decode cX11_rewrite 23 = .ok (.iload_n 3, 1) := by decide +kernel
theorem dX11_rewrite_24 : decode cX11_rewrite 24 = .ok (.iconst (-1), 1) := by decide +kernel
theorem dX11_rewrite_25 : decode cX11_rewrite 25 = .ok (.if_icmp .ne 5, 3) := by decide +kernel
theorem dX11_rewrite_28 : decode cX11_rewrite 28 = .ok (.iload_n 2, 1) := by decide +kernel
theorem dX11_rewrite_29 : decode cX11_rewrite 29 = .ok (.ireturn, 1) := by decide +kernel
theorem dX11_rewrite_30 : decode cX11_rewrite 30 = .ok (.aload_n 0, 1) := by decide +kernel
theorem dX11_rewrite_31 : decode cX11_rewrite 31 = .ok (.getfield 78, 3) := by decide +kernel
theorem dX11_rewrite_34 : decode cX11_rewrite 34 = .ok (.invokevirtual 279, 3) := by decide +kernel
theorem dX11_rewrite_37 : decode cX11_rewrite 37 = .ok (.aload_n 0, 1) := by decide +kernel
theorem dX11_rewrite_38 : decode cX11_rewrite 38 = .ok (.iload_n 1, 1) := by decide +kernel
theorem dX11_rewrite_39 : decode cX11_rewrite 39 = .ok (.aload_n 0, 1) := by decide +kernel
theorem dX11_rewrite_40 : decode cX11_rewrite 40 = .ok (.getfield 12, 3) := by decide +kernel
theorem dX11_rewrite_43 : decode cX11_rewrite 43 = .ok (.iload_n 2, 1) := by decide +kernel
theorem dX11_rewrite_44 : decode cX11_rewrite 44 = .ok (.invokevirtual 282, 3) := by decide +kernel
theorem dX11_rewrite_47 : decode cX11_rewrite 47 = .ok (.aload_n 0, 1) := by decide +kernel
theorem dX11_rewrite_48 : decode cX11_rewrite 48 = .ok (.getfield 57, 3) := by decide +kernel
theorem dX11_rewrite_51 : decode cX11_rewrite 51 = .ok (.invokevirtual 285, 3) := by decide +kernel
theorem dX11_rewrite_54 : decode cX11_rewrite 54 = .ok (.istore 4, 2) := by decide +kernel
theorem dX11_rewrite_56 : decode cX11_rewrite 56 = .ok (.iload 4, 2) := by decide +kernel
theorem dX11_rewrite_58 : decode cX11_rewrite 58 = .ok (.ifCond .le 11, 3) := by decide +kernel
theorem dX11_rewrite_61 : decode cX11_rewrite 61 = .ok (.iload 4, 2) := by decide +kernel
theorem dX11_rewrite_63 : decode cX11_rewrite 63 = .ok (.sipush 1000, 3) := by decide +kernel
theorem dX11_rewrite_66 : decode cX11_rewrite 66 = .ok (.if_icmp .lt 5, 3) := by decide +kernel
theorem dX11_rewrite_69 : decode cX11_rewrite 69 = .ok (.iload_n 2, 1) := by decide +kernel
theorem dX11_rewrite_70 : decode cX11_rewrite 70 = .ok (.ireturn, 1) := by decide +kernel
theorem dX11_rewrite_71 : decode cX11_rewrite 71 = .ok (.aload_n 0, 1) := by decide +kernel
theorem dX11_rewrite_72 : decode cX11_rewrite 72 = .ok (.getfield 47, 3) := by decide +kernel
theorem dX11_rewrite_75 : decode cX11_rewrite 75 = .ok (.iload_n 1, 1) := by decide +kernel
theorem dX11_rewrite_76 : decode cX11_rewrite 76 = .ok (.iload_n 3, 1) := by decide +kernel
theorem dX11_rewrite_77 : decode cX11_rewrite 77 = .ok (.invokevirtual 289, 3) := by decide +kernel
theorem dX11_rewrite_80 : decode cX11_rewrite 80 = .ok (.aload_n 0, 1) := by decide +kernel
theorem dX11_rewrite_81 : decode cX11_rewrite 81 = .ok (.getfield 57, 3) := by decide +kernel
theorem dX11_rewrite_84 : decode cX11_rewrite 84 = .ok (.iload_n 1, 1) := by decide +kernel
theorem dX11_rewrite_85 : decode cX11_rewrite 85 = .ok (.invokestatic 292, 3) := by decide +kernel
theorem dX11_rewrite_88 : decode cX11_rewrite 88 = .ok (.ldc_w 295, 3) := by decide +kernel
theorem dX11_rewrite_91 : decode cX11_rewrite 91 = .ok (.ior, 1) := by decide +kernel
theorem dX11_rewrite_92 : decode cX11_rewrite 92 = .ok (.invokevirtual 296, 3) := by decide +kernel
theorem dX11_rewrite_95 : decode cX11_rewrite 95 = .ok (.aload_n 0, 1) := by decide +kernel
theorem dX11_rewrite_96 : decode cX11_rewrite 96 = .ok (.getfield 78, 3) := by decide +kernel
theorem dX11_rewrite_99 : decode cX11_rewrite 99 = .ok (.invokevirtual 299, 3) := by decide +kernel
theorem dX11_rewrite_102 : decode cX11_rewrite 102 = .ok (.iload_n 3, 1) := by decide +kernel
theorem dX11_rewrite_103 : decode cX11_rewrite 103 = .ok (.ireturn, 1) := by decide +kernel
theorem dX11_value_0 : decode cX11_value 0 = .ok (.aload_n 0, 1) := by decide +kernel
theorem dX11_value_1 : decode cX11_value 1 = .ok (.iload_n 1, 1) := by decide +kernel
theorem dX11_value_2 : decode cX11_value 2 = .ok (.invokevirtual 264, 3) := by decide +kernel
theorem dX11_value_5 : decode cX11_value 5 = .ok (.aload_n 0, 1) := by decide +kernel
theorem dX11_value_6 : decode cX11_value 6 = .ok (.iload_n 2, 1) := by decide +kernel
theorem dX11_value_7 : decode cX11_value 7 = .ok (.invokevirtual 150, 3) := by decide +kernel
theorem dX11_value_10 : decode cX11_value 10 = .ok (.aload_n 0, 1) := by decide +kernel
theorem dX11_value_11 : decode cX11_value 11 = .ok (.getfield 78, 3) := by decide +kernel
theorem dX11_value_14 : decode cX11_value 14 = .ok (.invokevirtual 279, 3) := by decide +kernel
theorem dX11_value_17 : decode cX11_value 17 = .ok (.aload_n 0, 1) := by decide +kernel
theorem dX11_value_18 : decode cX11_value 18 = .ok (.iload_n 1, 1) := by decide +kernel
theorem dX11_value_19 : decode cX11_value 19 = .ok (.iload_n 2, 1) := by decide +kernel
theorem dX11_value_20 : decode cX11_value 20 = .ok (.aload_n 0, 1) := by decide +kernel
theorem dX11_value_21 : decode cX11_value 21 = .ok (.getfield 57, 3) := by decide +kernel
theorem dX11_value_24 : decode cX11_value 24 = .ok (.invokevirtual 285, 3) := by decide +kernel
theorem dX11_value_27 : decode cX11_value 27 = .ok (.ireturn, 1) := by decide +kernel
theorem dX11_valueAnew_0 : decode cX11_valueAnew 0 = .ok (.aload_n 0, 1) := by decide +kernel
theorem dX11_valueAnew_1 : decode cX11_valueAnew 1 = .ok (.iload_n 1, 1) := by decide +kernel
theorem dX11_valueAnew_2 : decode cX11_valueAnew 2 = .ok (.invokevirtual 264, 3) := by decide +kernel
theorem dX11_valueAnew_5 : decode cX11_valueAnew 5 = .ok (.aload_n 0, 1) := by decide +kernel
theorem dX11_valueAnew_6 : decode cX11_valueAnew 6 = .ok (.iload_n 2, 1) := by decide +kernel
theorem dX11_valueAnew_7 : decode cX11_valueAnew 7 = .ok (.invokevirtual 150, 3) := by decide +kernel
theorem dX11_valueAnew_10 : decode cX11_valueAnew 10 = .ok (.aload_n 0, 1) := by decide +kernel
theorem dX11_valueAnew_11 : decode cX11_valueAnew 11 = .ok (.getfield 78, 3) := by decide +kernel
theorem dX11_valueAnew_14 : decode cX11_valueAnew 14 = .ok (.invokevirtual 279, 3) := by decide +kernel
theorem dX11_valueAnew_17 : decode cX11_valueAnew 17 = .ok (.aload_n 0, 1) := by decide +kernel
theorem dX11_valueAnew_18 : decode cX11_valueAnew 18 = .ok (.getfield 61, 3) := by decide +kernel
theorem dX11_valueAnew_21 : decode cX11_valueAnew 21 = .ok (.invokevirtual 302, 3) := by decide +kernel
theorem dX11_valueAnew_24 : decode cX11_valueAnew 24 = .ok (.aload_n 0, 1) := by decide +kernel
theorem dX11_valueAnew_25 : decode cX11_valueAnew 25 = .ok (.iload_n 1, 1) := by decide +kernel
theorem dX11_valueAnew_26 : decode cX11_valueAnew 26 = .ok (.iload_n 2, 1) := by decide +kernel
theorem dX11_valueAnew_27 : decode cX11_valueAnew 27 = .ok (.aload_n 0, 1) := by decide +kernel
theorem dX11_valueAnew_28 : decode cX11_valueAnew 28 = .ok (.getfield 61, 3) := by decide +kernel
theorem dX11_valueAnew_31 : decode cX11_valueAnew 31 = .ok (.invokevirtual 285, 3) := by decide +kernel
theorem dX11_valueAnew_34 : decode cX11_valueAnew 34 = .ok (.ireturn, 1) := by decide +kernel
theorem dX11_found_0 : decode cX11_found 0 = .ok (.aload_n 0, 1) := by decide +kernel
theorem dX11_found_1 : decode cX11_found 1 = .ok (.getfield 57, 3) := by decide +kernel
theorem dX11_found_4 : decode cX11_found 4 = .ok (.getfield 303, 3) := by decide +kernel
theorem dX11_found_7 : decode cX11_found 7 = .ok (.ireturn, 1) := by decide +kernel
theorem dX11_isKept_0 : decode cX11_isKept 0 = .ok (.aload_n 0, 1) := by decide +kernel
theorem dX11_isKept_1 : decode cX11_isKept 1 = .ok (.iload_n 1, 1) := by decide +kernel
theorem dX11_isKept_2 : decode cX11_isKept 2 = .ok (.invokevirtual 264, 3) := by decide +kernel
theorem dX11_isKept_5 : decode cX11_isKept 5 = .ok (.aload_n 0, 1) := by decide +kernel
theorem dX11_isKept_6 : decode cX11_isKept 6 = .ok (.iload_n 2, 1) := by decide +kernel
theorem dX11_isKept_7 : decode cX11_isKept 7 = .ok (.invokevirtual 150, 3) := by decide +kernel
theorem dX11_isKept_10 : decode cX11_isKept 10 = .ok (.aload_n 0, 1) := by decide +kernel
theorem dX11_isKept_11 : decode cX11_isKept 11 = .ok (.getfield 57, 3) := by decide +kernel
theorem dX11_isKept_14 : decode cX11_isKept 14 = .ok (.iload_n 1, 1) := by decide +kernel
theorem dX11_isKept_15 : decode cX11_isKept 15 = .ok (.iload_n 2, 1) := by decide +kernel
theorem dX11_isKept_16 : decode cX11_isKept 16 = .ok (.invokestatic 306, 3) := by decide +kernel
theorem dX11_isKept_19 : decode cX11_isKept 19 = .ok (.invokevirtual 310, 3) := by decide +kernel
theorem dX11_isKept_22 : decode cX11_isKept 22 = .ok (.ireturn, 1) := by decide +kernel
theorem dX11_why_0 : decode cX11_why 0 = .ok (.aload_n 0, 1) := by decide +kernel
theorem dX11_why_1 : decode cX11_why 1 = .ok (.iload_n 1, 1) := by decide +kernel
theorem dX11_why_2 : decode cX11_why 2 = .ok (.invokevirtual 264, 3) := by decide +kernel
theorem dX11_why_5 : decode cX11_why 5 = .ok (.aload_n 0, 1) := by decide +kernel
theorem dX11_why_6 : decode cX11_why 6 = .ok (.iload_n 2, 1) := by decide +kernel
theorem dX11_why_7 : decode cX11_why 7 = .ok (.invokevirtual 150, 3) := by decide +kernel
theorem dX11_why_10 : decode cX11_why 10 = .ok (.aload_n 0, 1) := by decide +kernel
theorem dX11_why_11 : decode cX11_why 11 = .ok (.getfield 78, 3) := by decide +kernel
theorem dX11_why_14 : decode cX11_why 14 = .ok (.invokevirtual 279, 3) := by decide +kernel
theorem dX11_why_17 : decode cX11_why 17 = .ok (.aload_n 0, 1) := by decide +kernel
theorem dX11_why_18 : decode cX11_why 18 = .ok (.getfield 61, 3) := by decide +kernel
theorem dX11_why_21 : decode cX11_why 21 = .ok (.invokevirtual 302, 3) := by decide +kernel
theorem dX11_why_24 : decode cX11_why 24 = .ok (.aload_n 0, 1) := by decide +kernel
theorem dX11_why_25 : decode cX11_why 25 = .ok (.getfield 69, 3) := by decide +kernel
theorem dX11_why_28 : decode cX11_why 28 = .ok (.iload_n 1, 1) := by decide +kernel
theorem dX11_why_29 : decode cX11_why 29 = .ok (.iload_n 2, 1) := by decide +kernel
theorem dX11_why_30 : decode cX11_why 30 = .ok (.aload_n 0, 1) := by decide +kernel
theorem dX11_why_31 : decode cX11_why 31 = .ok (.getfield 61, 3) := by decide +kernel
theorem dX11_why_34 : decode cX11_why 34 = .ok (.invokevirtual 313, 3) := by decide +kernel
theorem dX11_why_37 : decode cX11_why 37 = .ok (.iload_n 3, 1) := by decide +kernel
theorem dX11_why_38 : decode cX11_why 38 = .ok (.ifCond .lt 14, 3) := by decide +kernel
theorem dX11_why_41 : decode cX11_why 41 = .ok (.iload_n 3, 1) := by decide +kernel
theorem dX11_why_42 : decode cX11_why 42 = .ok (.aload_n 0, 1) := by decide +kernel
theorem dX11_why_43 : decode cX11_why 43 = .ok (.getfield 69, 3) := by decide +kernel
theorem dX11_why_46 : decode cX11_why 46 = .ok (.getfield 317, 3) := by decide +kernel
theorem dX11_why_49 : decode cX11_why 49 = .ok (.if_icmp .lt 14, 3) := by decide +kernel
theorem dX11_why_52 : decode cX11_why 52 = .ok (.new 91, 3) := by decide +kernel
theorem dX11_why_55 : decode cX11_why 55 = .ok (.dup, 1) := by decide +kernel
theorem dX11_why_56 : decode cX11_why 56 = .ok (.ldc_w 320, 3) := by decide +kernel
theorem dX11_why_59 : decode cX11_why 59 = .ok (.invokespecial 95, 3) := by decide +kernel
theorem dX11_why_62 : decode cX11_why 62 = .ok (.athrow, 1) := by decide +kernel
theorem dX11_why_63 : decode cX11_why 63 = .ok (.aload_n 0, 1) := by decide +kernel
theorem dX11_why_64 : decode cX11_why 64 = .ok (.getfield 69, 3) := by decide +kernel
theorem dX11_why_67 : decode cX11_why 67 = .ok (.getfield 322, 3) := by decide +kernel
theorem dX11_why_70 : decode cX11_why 70 = .ok (.iload_n 3, 1) := by decide +kernel
theorem dX11_why_71 : decode cX11_why 71 = .ok (.invokestatic 326, 3) := by decide +kernel
theorem dX11_why_74 : decode cX11_why 74 = .ok (.istore 4, 2) := by decide +kernel
theorem dX11_why_76 : decode cX11_why 76 = .ok (.bipush 10, 2) := by decide +kernel
theorem dX11_why_78 : decode cX11_why 78 = .ok (.iload 4, 2) := by decide +kernel
theorem dX11_why_80 : decode cX11_why 80 = .ok (.bipush 6, 2) := by decide +kernel
theorem dX11_why_82 : decode cX11_why 82 = .ok (.idiv, 1) := by decide +kernel
theorem dX11_why_83 : decode cX11_why 83 = .ok (.imul, 1) := by decide +kernel
theorem dX11_why_84 : decode cX11_why 84 = .ok (.iload 4, 2) := by decide +kernel
theorem dX11_why_86 : decode cX11_why 86 = .ok (.bipush 6, 2) := by decide +kernel
theorem dX11_why_88 : decode cX11_why 88 = .ok (.irem, 1) := by decide +kernel
theorem dX11_why_89 : decode cX11_why 89 = .ok (.iadd, 1) := by decide +kernel
theorem dX11_why_90 : decode cX11_why 90 = .ok (.ireturn, 1) := by decide +kernel
theorem dX11_mustBeAttribute_0 : decode cX11_mustBeAttribute 0 = .ok (.aload_n 0, 1) := by decide +kernel
theorem dX11_mustBeAttribute_1 : decode cX11_mustBeAttribute 1 = .ok (.getfield 12, 3) := by decide +kernel
theorem dX11_mustBeAttribute_4 : decode cX11_mustBeAttribute 4 = .ok (.iload_n 1, 1) := by decide +kernel
theorem dX11_mustBeAttribute_5 : decode cX11_mustBeAttribute 5 = .ok (.invokevirtual 330, 3) := by decide +kernel
theorem dX11_mustBeAttribute_8 : decode cX11_mustBeAttribute 8 = .ok (.ifCond .ne 14, 3) := by decide +kernel
theorem dX11_mustBeAttribute_11 : decode cX11_mustBeAttribute 11 = .ok (.new 91, 3) := by decide +kernel
theorem dX11_mustBeAttribute_14 : decode cX11_mustBeAttribute 14 = .ok (.dup, 1) := by decide +kernel
theorem dX11_mustBeAttribute_15 : decode cX11_mustBeAttribute 15 = .ok (.ldc_w 333, 3) := by decide +kernel
theorem dX11_mustBeAttribute_18 : decode cX11_mustBeAttribute 18 = .ok (.invokespecial 95, 3) := by decide +kernel
theorem dX11_mustBeAttribute_21 : decode cX11_mustBeAttribute 21 = .ok (.athrow, 1) := by decide +kernel
theorem dX11_mustBeAttribute_22 : decode cX11_mustBeAttribute 22 = .ok (.return_, 1) := by decide +kernel
theorem dX11_mustBeAspect_0 : decode cX11_mustBeAspect 0 = .ok (.iload_n 1, 1) := by decide +kernel
theorem dX11_mustBeAspect_1 : decode cX11_mustBeAspect 1 = .ok (.ifCond .lt 8, 3) := by decide +kernel
theorem dX11_mustBeAspect_4 : decode cX11_mustBeAspect 4 = .ok (.iload_n 1, 1) := by decide +kernel
theorem dX11_mustBeAspect_5 : decode cX11_mustBeAspect 5 = .ok (.iconst 4, 1) := by decide +kernel
theorem dX11_mustBeAspect_6 : decode cX11_mustBeAspect 6 = .ok (.if_icmp .lt 14, 3) := by decide +kernel
theorem dX11_mustBeAspect_9 : decode cX11_mustBeAspect 9 = .ok (.new 91, 3) := by decide +kernel
theorem dX11_mustBeAspect_12 : decode cX11_mustBeAspect 12 = .ok (.dup, 1) := by decide +kernel
theorem dX11_mustBeAspect_13 : decode cX11_mustBeAspect 13 = .ok (.ldc_w 335, 3) := by decide +kernel
theorem dX11_mustBeAspect_16 : decode cX11_mustBeAspect 16 = .ok (.invokespecial 95, 3) := by decide +kernel
theorem dX11_mustBeAspect_19 : decode cX11_mustBeAspect 19 = .ok (.athrow, 1) := by decide +kernel
theorem dX11_mustBeAspect_20 : decode cX11_mustBeAspect 20 = .ok (.return_, 1) := by decide +kernel
theorem dX11_mustBeNode_0 : decode cX11_mustBeNode 0 = .ok (.iload_n 1, 1) := by decide +kernel
theorem dX11_mustBeNode_1 : decode cX11_mustBeNode 1 = .ok (.ifCond .lt 14, 3) := by decide +kernel
theorem dX11_mustBeNode_4 : decode cX11_mustBeNode 4 = .ok (.iload_n 1, 1) := by decide +kernel
theorem dX11_mustBeNode_5 : decode cX11_mustBeNode 5 = .ok (.aload_n 0, 1) := by decide +kernel
theorem dX11_mustBeNode_6 : decode cX11_mustBeNode 6 = .ok (.getfield 47, 3) := by decide +kernel
theorem dX11_mustBeNode_9 : decode cX11_mustBeNode 9 = .ok (.getfield 260, 3) := by decide +kernel
theorem dX11_mustBeNode_12 : decode cX11_mustBeNode 12 = .ok (.if_icmp .lt 14, 3) := by decide +kernel
theorem dX11_mustBeNode_15 : decode cX11_mustBeNode 15 = .ok (.new 91, 3) := by decide +kernel
theorem dX11_mustBeNode_18 : decode cX11_mustBeNode 18 = .ok (.dup, 1) := by decide +kernel
theorem dX11_mustBeNode_19 : decode cX11_mustBeNode 19 = .ok (.ldc_w 337, 3) := by decide +kernel
theorem dX11_mustBeNode_22 : decode cX11_mustBeNode 22 = .ok (.invokespecial 95, 3) := by decide +kernel
theorem dX11_mustBeNode_25 : decode cX11_mustBeNode 25 = .ok (.athrow, 1) := by decide +kernel
theorem dX11_mustBeNode_26 : decode cX11_mustBeNode 26 = .ok (.return_, 1) := by decide +kernel
theorem dX11_followGrammar_0 : decode cX11_followGrammar 0 = .ok (.aload_n 0, 1) := by decide +kernel
theorem dX11_followGrammar_1 : decode cX11_followGrammar 1 = .ok (.getfield 33, 3) := by decide +kernel
theorem dX11_followGrammar_4 : decode cX11_followGrammar 4 = .ok (.invokevirtual 339, 3) := by decide +kernel
theorem dX11_followGrammar_7 : decode cX11_followGrammar 7 = .ok (.aload_n 0, 1) := by decide +kernel
theorem dX11_followGrammar_8 : decode cX11_followGrammar 8 = .ok (.getfield 57, 3) := by decide +kernel
theorem dX11_followGrammar_11 : decode cX11_followGrammar 11 = .ok (.invokevirtual 302, 3) := by decide +kernel
theorem dX11_followGrammar_14 : decode cX11_followGrammar 14 = .ok (.aload_n 0, 1) := by decide +kernel
theorem dX11_followGrammar_15 : decode cX11_followGrammar 15 = .ok (.getfield 78, 3) := by decide +kernel
theorem dX11_followGrammar_18 : decode cX11_followGrammar 18 = .ok (.invokevirtual 299, 3) := by decide +kernel
theorem dX11_followGrammar_21 : decode cX11_followGrammar 21 = .ok (.return_, 1) := by decide +kernel
theorem dX11_foundWith_0 : decode cX11_foundWith 0 = .ok (.aload_n 0, 1) := by decide +kernel
theorem dX11_foundWith_1 : decode cX11_foundWith 1 = .ok (.getfield 12, 3) := by decide +kernel
theorem dX11_foundWith_4 : decode cX11_foundWith 4 = .ok (.iload_n 2, 1) := by decide +kernel
theorem dX11_foundWith_5 : decode cX11_foundWith 5 = .ok (.invokevirtual 207, 3) := by decide +kernel
theorem dX11_foundWith_8 : decode cX11_foundWith 8 = .ok (.iconst 3, 1) := by decide +kernel
theorem dX11_foundWith_9 : decode cX11_foundWith 9 = .ok (.if_icmp .ne 16, 3) := by decide +kernel
theorem dX11_foundWith_12 : decode cX11_foundWith 12 = .ok (.aload_n 0, 1) := by decide +kernel
theorem dX11_foundWith_13 : decode cX11_foundWith 13 = .ok (.getfield 78, 3) := by decide +kernel
theorem dX11_foundWith_16 : decode cX11_foundWith 16 = .ok (.iload_n 1, 1) := by decide +kernel
theorem dX11_foundWith_17 : decode cX11_foundWith 17 = .ok (.iload_n 2, 1) := by decide +kernel
theorem dX11_foundWith_18 : decode cX11_foundWith 18 = .ok (.invokestatic 306, 3) := by decide +kernel
theorem dX11_foundWith_21 : decode cX11_foundWith 21 = .ok (.invokevirtual 342, 3) := by decide +kernel
theorem dX11_foundWith_24 : decode cX11_foundWith 24 = .ok (.ireturn, 1) := by decide +kernel
theorem dX11_foundWith_25 : decode cX11_foundWith 25 = .ok (.aload_n 0, 1) := by decide +kernel
theorem dX11_foundWith_26 : decode cX11_foundWith 26 = .ok (.getfield 69, 3) := by decide +kernel
theorem dX11_foundWith_29 : decode cX11_foundWith 29 = .ok (.iload_n 1, 1) := by decide +kernel
theorem dX11_foundWith_30 : decode cX11_foundWith 30 = .ok (.iload_n 2, 1) := by decide +kernel
theorem dX11_foundWith_31 : decode cX11_foundWith 31 = .ok (.aload_n 3, 1) := by decide +kernel
theorem dX11_foundWith_32 : decode cX11_foundWith 32 = .ok (.invokevirtual 345, 3) := by decide +kernel
theorem dX11_foundWith_35 : decode cX11_foundWith 35 = .ok (.ireturn, 1) := by decide +kernel
theorem dX11_readAgain_0 : decode cX11_readAgain 0 = .ok (.aload_n 0, 1) := by decide +kernel
theorem dX11_readAgain_1 : decode cX11_readAgain 1 = .ok (.getfield 40, 3) := by decide +kernel
theorem dX11_readAgain_4 : decode cX11_readAgain 4 = .ok (.aload_n 0, 1) := by decide +kernel
theorem dX11_readAgain_5 : decode cX11_readAgain 5 = .ok (.getfield 51, 3) := by decide +kernel
theorem dX11_readAgain_8 : decode cX11_readAgain 8 = .ok (.invokevirtual 348, 3) := by decide +kernel
theorem dX11_readAgain_11 : decode cX11_readAgain 11 = .ok (.aload_n 0, 1) := by decide +kernel
theorem dX11_readAgain_12 : decode cX11_readAgain 12 = .ok (.getfield 47, 3) := by decide +kernel
theorem dX11_readAgain_15 : decode cX11_readAgain 15 = .ok (.aload_n 0, 1) := by decide +kernel
theorem dX11_readAgain_16 : decode cX11_readAgain 16 = .ok (.getfield 51, 3) := by decide +kernel
theorem dX11_readAgain_19 : decode cX11_readAgain 19 = .ok (.invokevirtual 352, 3) := by decide +kernel
theorem dX11_readAgain_22 : decode cX11_readAgain 22 = .ok (.istore_n 1, 1) := by decide +kernel
theorem dX11_readAgain_23 : decode cX11_readAgain 23 = .ok (.iload_n 1, 1) := by decide +kernel
theorem dX11_readAgain_24 : decode cX11_readAgain 24 = .ok (.aload_n 0, 1) := by decide +kernel
theorem dX11_readAgain_25 : decode cX11_readAgain 25 = .ok (.getfield 47, 3) := by decide +kernel
theorem dX11_readAgain_28 : decode cX11_readAgain 28 = .ok (.getfield 260, 3) := by decide +kernel
theorem dX11_readAgain_31 : decode cX11_readAgain 31 = .ok (.if_icmp .ne 14, 3) := by decide +kernel
theorem dX11_readAgain_34 : decode cX11_readAgain 34 = .ok (.iload_n 1, 1) := by decide +kernel
theorem dX11_readAgain_35 : decode cX11_readAgain 35 = .ok (.aload_n 0, 1) := by decide +kernel
theorem dX11_readAgain_36 : decode cX11_readAgain 36 = .ok (.getfield 51, 3) := by decide +kernel
theorem dX11_readAgain_39 : decode cX11_readAgain 39 = .ok (.getfield 260, 3) := by decide +kernel
theorem dX11_readAgain_42 : decode cX11_readAgain 42 = .ok (.if_icmp .eq 39, 3) := by decide +kernel
theorem dX11_readAgain_45 : decode cX11_readAgain 45 = .ok (.aload_n 0, 1) := by decide +kernel
theorem dX11_readAgain_46 : decode cX11_readAgain 46 = .ok (.getfield 57, 3) := by decide +kernel
theorem dX11_readAgain_49 : decode cX11_readAgain 49 = .ok (.aload_n 0, 1) := by decide +kernel
theorem dX11_readAgain_50 : decode cX11_readAgain 50 = .ok (.getfield 47, 3) := by decide +kernel
theorem dX11_readAgain_53 : decode cX11_readAgain 53 = .ok (.invokevirtual 356, 3) := by decide +kernel
theorem dX11_readAgain_56 : decode cX11_readAgain 56 = .ok (.ldc_w 295, 3) := by decide +kernel
theorem dX11_readAgain_59 : decode cX11_readAgain 59 = .ok (.ior, 1) := by decide +kernel
theorem dX11_readAgain_60 : decode cX11_readAgain 60 = .ok (.invokevirtual 296, 3) := by decide +kernel
theorem dX11_readAgain_63 : decode cX11_readAgain 63 = .ok (.aload_n 0, 1) := by decide +kernel
theorem dX11_readAgain_64 : decode cX11_readAgain 64 = .ok (.getfield 57, 3) := by decide +kernel
theorem dX11_readAgain_67 : decode cX11_readAgain 67 = .ok (.aload_n 0, 1) := by decide +kernel
theorem dX11_readAgain_68 : decode cX11_readAgain 68 = .ok (.getfield 47, 3) := by decide +kernel
theorem dX11_readAgain_71 : decode cX11_readAgain 71 = .ok (.invokevirtual 359, 3) := by decide +kernel
theorem dX11_readAgain_74 : decode cX11_readAgain 74 = .ok (.aload_n 0, 1) := by decide +kernel
theorem dX11_readAgain_75 : decode cX11_readAgain 75 = .ok (.getfield 78, 3) := by decide +kernel
theorem dX11_readAgain_78 : decode cX11_readAgain 78 = .ok (.invokevirtual 299, 3) := by decide +kernel
theorem dX11_readAgain_81 : decode cX11_readAgain 81 = .ok (.aload_n 0, 1) := by decide +kernel
theorem dX11_readAgain_82 : decode cX11_readAgain 82 = .ok (.getfield 47, 3) := by decide +kernel
theorem dX11_readAgain_85 : decode cX11_readAgain 85 = .ok (.aload_n 0, 1) := by decide +kernel
theorem dX11_readAgain_86 : decode cX11_readAgain 86 = .ok (.getfield 51, 3) := by decide +kernel
theorem dX11_readAgain_89 : decode cX11_readAgain 89 = .ok (.invokevirtual 362, 3) := by decide +kernel
theorem dX11_readAgain_92 : decode cX11_readAgain 92 = .ok (.bipush 100, 2) := by decide +kernel
theorem dX11_readAgain_94 : decode cX11_readAgain 94 = .ok (.aload_n 0, 1) := by decide +kernel
theorem dX11_readAgain_95 : decode cX11_readAgain 95 = .ok (.getfield 47, 3) := by decide +kernel
theorem dX11_readAgain_98 : decode cX11_readAgain 98 = .ok (.getfield 260, 3) := by decide +kernel
theorem dX11_readAgain_101 : decode cX11_readAgain 101 = .ok (.imul, 1) := by decide +kernel
theorem dX11_readAgain_102 : decode cX11_readAgain 102 = .ok (.iload_n 1, 1) := by decide +kernel
theorem dX11_readAgain_103 : decode cX11_readAgain 103 = .ok (.iadd, 1) := by decide +kernel
theorem dX11_readAgain_104 : decode cX11_readAgain 104 = .ok (.ireturn, 1) := by decide +kernel
theorem dX11_standsByChild_0 : decode cX11_standsByChild 0 = .ok (.iload_n 3, 1) := by decide +kernel
theorem dX11_standsByChild_1 : decode cX11_standsByChild 1 = .ok (.aload_n 0, 1) := by decide +kernel
theorem dX11_standsByChild_2 : decode cX11_standsByChild 2 = .ok (.getfield 12, 3) := by decide +kernel
theorem dX11_standsByChild_5 : decode cX11_standsByChild 5 = .ok (.iload_n 2, 1) := by decide +kernel
theorem dX11_standsByChild_6 : decode cX11_standsByChild 6 = .ok (.invokevirtual 201, 3) := by decide +kernel
theorem dX11_standsByChild_9 : decode cX11_standsByChild 9 = .ok (.if_icmp .ge 21, 3) := by decide +kernel
theorem dX11_standsByChild_12 : decode cX11_standsByChild 12 = .ok (.iload 4, 2) := by decide +kernel
theorem dX11_standsByChild_14 : decode cX11_standsByChild 14 = .ok (.ifCond .lt 20, 3) := by decide +kernel
theorem dX11_standsByChild_17 : decode cX11_standsByChild 17 = .ok (.iload 4, 2) := by decide +kernel
theorem dX11_standsByChild_19 : decode cX11_standsByChild 19 = .ok (.aload_n 0, 1) := by decide +kernel
theorem dX11_standsByChild_20 : decode cX11_standsByChild 20 = .ok (.getfield 12, 3) := by decide +kernel
theorem dX11_standsByChild_23 : decode cX11_standsByChild 23 = .ok (.iload_n 1, 1) := by decide +kernel
theorem dX11_standsByChild_24 : decode cX11_standsByChild 24 = .ok (.invokevirtual 201, 3) := by decide +kernel
theorem dX11_standsByChild_27 : decode cX11_standsByChild 27 = .ok (.if_icmp .ge 7, 3) := by decide +kernel
theorem dX11_standsByChild_30 : decode cX11_standsByChild 30 = .ok (.iconst 1, 1) := by decide +kernel
theorem dX11_standsByChild_31 : decode cX11_standsByChild 31 = .ok (.goto 4, 3) := by decide +kernel
theorem dX11_standsByChild_34 : decode cX11_standsByChild 34 = .ok (.iconst 0, 1) := by decide +kernel
theorem dX11_standsByChild_35 : decode cX11_standsByChild 35 = .ok (.ireturn, 1) := by decide +kernel
theorem dX11_standsRightly_0 : decode cX11_standsRightly 0 = .ok (.iload_n 3, 1) := by decide +kernel
theorem dX11_standsRightly_1 : decode cX11_standsRightly 1 = .ok (.aload_n 0, 1) := by decide +kernel
theorem dX11_standsRightly_2 : decode cX11_standsRightly 2 = .ok (.getfield 12, 3) := by decide +kernel
theorem dX11_standsRightly_5 : decode cX11_standsRightly 5 = .ok (.iload_n 2, 1) := by decide +kernel
theorem dX11_standsRightly_6 : decode cX11_standsRightly 6 = .ok (.invokevirtual 201, 3) := by decide +kernel
theorem dX11_standsRightly_9 : decode cX11_standsRightly 9 = .ok (.if_icmp .lt 14, 3) := by decide +kernel
theorem dX11_standsRightly_12 : decode cX11_standsRightly 12 = .ok (.iload 4, 2) := by decide +kernel
theorem dX11_standsRightly_14 : decode cX11_standsRightly 14 = .ok (.ifCond .ne 7, 3) := by decide +kernel
theorem dX11_standsRightly_17 : decode cX11_standsRightly 17 = .ok (.iconst 1, 1) := by decide +kernel
theorem dX11_standsRightly_18 : decode cX11_standsRightly 18 = .ok (.goto 4, 3) := by decide +kernel
theorem dX11_standsRightly_21 : decode cX11_standsRightly 21 = .ok (.iconst 0, 1) := by decide +kernel
theorem dX11_standsRightly_22 : decode cX11_standsRightly 22 = .ok (.ireturn, 1) := by decide +kernel
theorem dX11_standsRightly_23 : decode cX11_standsRightly 23 = .ok (.aload_n 0, 1) := by decide +kernel
theorem dX11_standsRightly_24 : decode cX11_standsRightly 24 = .ok (.getfield 12, 3) := by decide +kernel
theorem dX11_standsRightly_27 : decode cX11_standsRightly 27 = .ok (.iload_n 1, 1) := by decide +kernel
theorem dX11_standsRightly_28 : decode cX11_standsRightly 28 = .ok (.iload 4, 2) := by decide +kernel
theorem dX11_standsRightly_30 : decode cX11_standsRightly 30 = .ok (.invokevirtual 365, 3) := by decide +kernel
theorem dX11_standsRightly_33 : decode cX11_standsRightly 33 = .ok (.aload_n 0, 1) := by decide +kernel
theorem dX11_standsRightly_34 : decode cX11_standsRightly 34 = .ok (.getfield 12, 3) := by decide +kernel
theorem dX11_standsRightly_37 : decode cX11_standsRightly 37 = .ok (.iload_n 2, 1) := by decide +kernel
theorem dX11_standsRightly_38 : decode cX11_standsRightly 38 = .ok (.iload_n 3, 1) := by decide +kernel
theorem dX11_standsRightly_39 : decode cX11_standsRightly 39 = .ok (.invokevirtual 365, 3) := by decide +kernel
theorem dX11_standsRightly_42 : decode cX11_standsRightly 42 = .ok (.if_icmp .ne 7, 3) := by decide +kernel
theorem dX11_standsRightly_45 : decode cX11_standsRightly 45 = .ok (.iconst 1, 1) := by decide +kernel
theorem dX11_standsRightly_46 : decode cX11_standsRightly 46 = .ok (.goto 4, 3) := by decide +kernel
theorem dX11_standsRightly_49 : decode cX11_standsRightly 49 = .ok (.iconst 0, 1) := by decide +kernel
theorem dX11_standsRightly_50 : decode cX11_standsRightly 50 = .ok (.ireturn, 1) := by decide +kernel
theorem dX11_followsAsSymbol_0 : decode cX11_followsAsSymbol 0 = .ok (.bipush 9, 2) := by decide +kernel
theorem dX11_followsAsSymbol_2 : decode cX11_followsAsSymbol 2 = .ok (.istore_n 2, 1) := by decide +kernel
theorem dX11_followsAsSymbol_3 : decode cX11_followsAsSymbol 3 = .ok (.iload_n 0, 1) := by decide +kernel
theorem dX11_followsAsSymbol_4 : decode cX11_followsAsSymbol 4 = .ok (.iconst (-1), 1) := by decide +kernel
theorem dX11_followsAsSymbol_5 : decode cX11_followsAsSymbol 5 = .ok (.if_icmp .eq 16, 3) := by decide +kernel
theorem dX11_followsAsSymbol_8 : decode cX11_followsAsSymbol 8 = .ok (.iload_n 1, 1) := by decide +kernel
theorem dX11_followsAsSymbol_9 : decode cX11_followsAsSymbol 9 = .ok (.ifCond .eq 16, 3) := by decide +kernel
theorem dX11_followsAsSymbol_12 : decode cX11_followsAsSymbol 12 = .ok (.iload_n 0, 1) := by decide +kernel
theorem dX11_followsAsSymbol_13 : decode cX11_followsAsSymbol 13 = .ok (.ifCond .lt 12, 3) := by decide +kernel
theorem dX11_followsAsSymbol_16 : decode cX11_followsAsSymbol 16 = .ok (.iload_n 0, 1) := by decide +kernel
theorem dX11_followsAsSymbol_17 : decode cX11_followsAsSymbol 17 = .ok (.iload_n 2, 1) := by decide +kernel
theorem dX11_followsAsSymbol_18 : decode cX11_followsAsSymbol 18 = .ok (.if_icmp .gt 7, 3) := by decide +kernel
theorem dX11_followsAsSymbol_21 : decode cX11_followsAsSymbol 21 = .ok (.iconst 1, 1) := by decide +kernel
theorem dX11_followsAsSymbol_22 : decode cX11_followsAsSymbol 22 = .ok (.goto 4, 3) := by decide +kernel
theorem dX11_followsAsSymbol_25 : decode cX11_followsAsSymbol 25 = .ok (.iconst 0, 1) := by decide +kernel
theorem dX11_followsAsSymbol_26 : decode cX11_followsAsSymbol 26 = .ok (.ireturn, 1) := by decide +kernel
theorem dX11_tellsAttribute_0 : decode cX11_tellsAttribute 0 = .ok (.iload_n 0, 1) := by decide +kernel
theorem dX11_tellsAttribute_1 : decode cX11_tellsAttribute 1 = .ok (.iconst 1, 1) := by decide +kernel
theorem dX11_tellsAttribute_2 : decode cX11_tellsAttribute 2 = .ok (.if_icmp .eq 14, 3) := by decide +kernel
theorem dX11_tellsAttribute_5 : decode cX11_tellsAttribute 5 = .ok (.iload_n 0, 1) := by decide +kernel
theorem dX11_tellsAttribute_6 : decode cX11_tellsAttribute 6 = .ok (.iconst 2, 1) := by decide +kernel
theorem dX11_tellsAttribute_7 : decode cX11_tellsAttribute 7 = .ok (.if_icmp .eq 9, 3) := by decide +kernel
theorem dX11_tellsAttribute_10 : decode cX11_tellsAttribute 10 = .ok (.iload_n 0, 1) := by decide +kernel
theorem dX11_tellsAttribute_11 : decode cX11_tellsAttribute 11 = .ok (.bipush 7, 2) := by decide +kernel
theorem dX11_tellsAttribute_13 : decode cX11_tellsAttribute 13 = .ok (.if_icmp .ne 7, 3) := by decide +kernel
theorem dX11_tellsAttribute_16 : decode cX11_tellsAttribute 16 = .ok (.iconst 1, 1) := by decide +kernel
theorem dX11_tellsAttribute_17 : decode cX11_tellsAttribute 17 = .ok (.goto 4, 3) := by decide +kernel
theorem dX11_tellsAttribute_20 : decode cX11_tellsAttribute 20 = .ok (.iconst 0, 1) := by decide +kernel
theorem dX11_tellsAttribute_21 : decode cX11_tellsAttribute 21 = .ok (.ireturn, 1) := by decide +kernel
theorem dX11_isRightNumber_0 : decode cX11_isRightNumber 0 = .ok (.iload_n 0, 1) := by decide +kernel
theorem dX11_isRightNumber_1 : decode cX11_isRightNumber 1 = .ok (.invokestatic 172, 3) := by decide +kernel
theorem dX11_isRightNumber_4 : decode cX11_isRightNumber 4 = .ok (.ifCond .eq 5, 3) := by decide +kernel
theorem dX11_isRightNumber_7 : decode cX11_isRightNumber 7 = .ok (.iconst 1, 1) := by decide +kernel
theorem dX11_isRightNumber_8 : decode cX11_isRightNumber 8 = .ok (.ireturn, 1) := by decide +kernel
theorem dX11_isRightNumber_9 : decode cX11_isRightNumber 9 = .ok (.iconst 0, 1) := by decide +kernel
theorem dX11_isRightNumber_10 : decode cX11_isRightNumber 10 = .ok (.istore_n 2, 1) := by decide +kernel
theorem dX11_isRightNumber_11 : decode cX11_isRightNumber 11 = .ok (.iload_n 0, 1) := by decide +kernel
theorem dX11_isRightNumber_12 : decode cX11_isRightNumber 12 = .ok (.ifCond .ne 10, 3) := by decide +kernel
theorem dX11_isRightNumber_15 : decode cX11_isRightNumber 15 = .ok (.sipush 999, 3) := by decide +kernel
theorem dX11_isRightNumber_18 : decode cX11_isRightNumber 18 = .ok (.istore_n 2, 1) := by decide +kernel
theorem dX11_isRightNumber_19 : decode cX11_isRightNumber 19 = .ok (.goto 15, 3) := by decide +kernel
theorem dX11_isRightNumber_22 : decode cX11_isRightNumber 22 = .ok (.iload_n 0, 1) := by decide +kernel
theorem dX11_isRightNumber_23 : decode cX11_isRightNumber 23 = .ok (.iconst 3, 1) := by decide +kernel
theorem dX11_isRightNumber_24 : decode cX11_isRightNumber 24 = .ok (.if_icmp .eq 8, 3) := by decide +kernel
theorem dX11_isRightNumber_27 : decode cX11_isRightNumber 27 = .ok (.iload_n 0, 1) := by decide +kernel
theorem dX11_isRightNumber_28 : decode cX11_isRightNumber 28 = .ok (.iconst 4, 1) := by decide +kernel
theorem dX11_isRightNumber_29 : decode cX11_isRightNumber 29 = .ok (.if_icmp .ne 5, 3) := by decide +kernel
theorem dX11_isRightNumber_32 : decode cX11_isRightNumber 32 = .ok (.iconst 2, 1) := by decide +kernel
theorem dX11_isRightNumber_33 : decode cX11_isRightNumber 33 = .ok (.istore_n 2, 1) := by decide +kernel
theorem dX11_isRightNumber_34 : decode cX11_isRightNumber 34 = .ok (.iload_n 1, 1) := by decide +kernel
theorem dX11_isRightNumber_35 : decode cX11_isRightNumber 35 = .ok (.ifCond .lt 12, 3) := by decide +kernel
theorem dX11_isRightNumber_38 : decode cX11_isRightNumber 38 = .ok (.iload_n 1, 1) := by decide +kernel
theorem dX11_isRightNumber_39 : decode cX11_isRightNumber 39 = .ok (.iload_n 2, 1) := by decide +kernel
theorem dX11_isRightNumber_40 : decode cX11_isRightNumber 40 = .ok (.if_icmp .gt 7, 3) := by decide +kernel
theorem dX11_isRightNumber_43 : decode cX11_isRightNumber 43 = .ok (.iconst 1, 1) := by decide +kernel
theorem dX11_isRightNumber_44 : decode cX11_isRightNumber 44 = .ok (.goto 4, 3) := by decide +kernel
theorem dX11_isRightNumber_47 : decode cX11_isRightNumber 47 = .ok (.iconst 0, 1) := by decide +kernel
theorem dX11_isRightNumber_48 : decode cX11_isRightNumber 48 = .ok (.ireturn, 1) := by decide +kernel
theorem dX11_isRightChild_0 : decode cX11_isRightChild 0 = .ok (.iload_n 1, 1) := by decide +kernel
theorem dX11_isRightChild_1 : decode cX11_isRightChild 1 = .ok (.ifCond .lt 27, 3) := by decide +kernel
theorem dX11_isRightChild_4 : decode cX11_isRightChild 4 = .ok (.iload_n 1, 1) := by decide +kernel
theorem dX11_isRightChild_5 : decode cX11_isRightChild 5 = .ok (.iload_n 0, 1) := by decide +kernel
theorem dX11_isRightChild_6 : decode cX11_isRightChild 6 = .ok (.iconst 2, 1) := by decide +kernel
theorem dX11_isRightChild_7 : decode cX11_isRightChild 7 = .ok (.if_icmp .eq 9, 3) := by decide +kernel
theorem dX11_isRightChild_10 : decode cX11_isRightChild 10 = .ok (.iload_n 0, 1) := by decide +kernel
theorem dX11_isRightChild_11 : decode cX11_isRightChild 11 = .ok (.bipush 6, 2) := by decide +kernel
theorem dX11_isRightChild_13 : decode cX11_isRightChild 13 = .ok (.if_icmp .ne 7, 3) := by decide +kernel
theorem dX11_isRightChild_16 : decode cX11_isRightChild 16 = .ok (.iconst 2, 1) := by decide +kernel
theorem dX11_isRightChild_17 : decode cX11_isRightChild 17 = .ok (.goto 4, 3) := by decide +kernel
theorem dX11_isRightChild_20 : decode cX11_isRightChild 20 = .ok (.iconst 0, 1) := by decide +kernel
theorem dX11_isRightChild_21 : decode cX11_isRightChild 21 = .ok (.if_icmp .gt 7, 3) := by decide +kernel
theorem dX11_isRightChild_24 : decode cX11_isRightChild 24 = .ok (.iconst 1, 1) := by decide +kernel
theorem dX11_isRightChild_25 : decode cX11_isRightChild 25 = .ok (.goto 4, 3) := by decide +kernel
theorem dX11_isRightChild_28 : decode cX11_isRightChild 28 = .ok (.iconst 0, 1) := by decide +kernel
theorem dX11_isRightChild_29 : decode cX11_isRightChild 29 = .ok (.ireturn, 1) := by decide +kernel
theorem dX11_goesWithKind_0 : decode cX11_goesWithKind 0 = .ok (.iload_n 1, 1) := by decide +kernel
theorem dX11_goesWithKind_1 : decode cX11_goesWithKind 1 = .ok (.iconst 1, 1) := by decide +kernel
theorem dX11_goesWithKind_2 : decode cX11_goesWithKind 2 = .ok (.if_icmp .ne 13, 3) := by decide +kernel
theorem dX11_goesWithKind_5 : decode cX11_goesWithKind 5 = .ok (.iload_n 0, 1) := by decide +kernel
theorem dX11_goesWithKind_6 : decode cX11_goesWithKind 6 = .ok (.ifCond .lt 7, 3) := by decide +kernel
theorem dX11_goesWithKind_9 : decode cX11_goesWithKind 9 = .ok (.iconst 1, 1) := by decide +kernel
theorem dX11_goesWithKind_10 : decode cX11_goesWithKind 10 = .ok (.goto 4, 3) := by decide +kernel
theorem dX11_goesWithKind_13 : decode cX11_goesWithKind 13 = .ok (.iconst 0, 1) := by decide +kernel
theorem dX11_goesWithKind_14 : decode cX11_goesWithKind 14 = .ok (.ireturn, 1) := by decide +kernel
theorem dX11_goesWithKind_15 : decode cX11_goesWithKind 15 = .ok (.iload_n 0, 1) := by decide +kernel
theorem dX11_goesWithKind_16 : decode cX11_goesWithKind 16 = .ok (.iload_n 1, 1) := by decide +kernel
theorem dX11_goesWithKind_17 : decode cX11_goesWithKind 17 = .ok (.iconst 2, 1) := by decide +kernel
theorem dX11_goesWithKind_18 : decode cX11_goesWithKind 18 = .ok (.if_icmp .ne 8, 3) := by decide +kernel
theorem dX11_goesWithKind_21 : decode cX11_goesWithKind 21 = .ok (.bipush (-2), 2) := by decide +kernel
theorem dX11_goesWithKind_23 : decode cX11_goesWithKind 23 = .ok (.goto 4, 3) := by decide +kernel
theorem dX11_goesWithKind_26 : decode cX11_goesWithKind 26 = .ok (.iconst (-1), 1) := by decide +kernel
theorem dX11_goesWithKind_27 : decode cX11_goesWithKind 27 = .ok (.if_icmp .ne 7, 3) := by decide +kernel
theorem dX11_goesWithKind_30 : decode cX11_goesWithKind 30 = .ok (.iconst 1, 1) := by decide +kernel
theorem dX11_goesWithKind_31 : decode cX11_goesWithKind 31 = .ok (.goto 4, 3) := by decide +kernel
theorem dX11_goesWithKind_34 : decode cX11_goesWithKind 34 = .ok (.iconst 0, 1) := by decide +kernel
theorem dX11_goesWithKind_35 : decode cX11_goesWithKind 35 = .ok (.ireturn, 1) := by decide +kernel
theorem dX11_operandsOf_0 : decode cX11_operandsOf 0 = .ok (.iload_n 0, 1) := by decide +kernel
theorem dX11_operandsOf_1 : decode cX11_operandsOf 1 = .ok (.bipush 7, 2) := by decide +kernel
theorem dX11_operandsOf_3 : decode cX11_operandsOf 3 = .ok (.if_icmp .ne 5, 3) := by decide +kernel
theorem dX11_operandsOf_6 : decode cX11_operandsOf 6 = .ok (.iconst 1, 1) := by decide +kernel
theorem dX11_operandsOf_7 : decode cX11_operandsOf 7 = .ok (.ireturn, 1) := by decide +kernel
theorem dX11_operandsOf_8 : decode cX11_operandsOf 8 = .ok (.iload_n 0, 1) := by decide +kernel
theorem dX11_operandsOf_9 : decode cX11_operandsOf 9 = .ok (.bipush 13, 2) := by decide +kernel
theorem dX11_operandsOf_11 : decode cX11_operandsOf 11 = .ok (.if_icmp .ne 5, 3) := by decide +kernel
theorem dX11_operandsOf_14 : decode cX11_operandsOf 14 = .ok (.iconst 3, 1) := by decide +kernel
theorem dX11_operandsOf_15 : decode cX11_operandsOf 15 = .ok (.ireturn, 1) := by decide +kernel
theorem dX11_operandsOf_16 : decode cX11_operandsOf 16 = .ok (.iload_n 0, 1) := by decide +kernel
theorem dX11_operandsOf_17 : decode cX11_operandsOf 17 = .ok (.bipush 8, 2) := by decide +kernel
theorem dX11_operandsOf_19 : decode cX11_operandsOf 19 = .ok (.if_icmp .lt 13, 3) := by decide +kernel
theorem dX11_operandsOf_22 : decode cX11_operandsOf 22 = .ok (.iload_n 0, 1) := by decide +kernel
theorem dX11_operandsOf_23 : decode cX11_operandsOf 23 = .ok (.bipush 12, 2) := by decide +kernel
theorem dX11_operandsOf_25 : decode cX11_operandsOf 25 = .ok (.if_icmp .gt 7, 3) := by decide +kernel
theorem dX11_operandsOf_28 : decode cX11_operandsOf 28 = .ok (.iconst 2, 1) := by decide +kernel
theorem dX11_operandsOf_29 : decode cX11_operandsOf 29 = .ok (.goto 4, 3) := by decide +kernel
theorem dX11_operandsOf_32 : decode cX11_operandsOf 32 = .ok (.iconst 0, 1) := by decide +kernel
theorem dX11_operandsOf_33 : decode cX11_operandsOf 33 = .ok (.ireturn, 1) := by decide +kernel
theorem dX11_slotOf_0 : decode cX11_slotOf 0 = .ok (.iload_n 0, 1) := by decide +kernel
theorem dX11_slotOf_1 : decode cX11_slotOf 1 = .ok (.bipush 6, 2) := by decide +kernel
theorem dX11_slotOf_3 : decode cX11_slotOf 3 = .ok (.imul, 1) := by decide +kernel
theorem dX11_slotOf_4 : decode cX11_slotOf 4 = .ok (.iload_n 1, 1) := by decide +kernel
theorem dX11_slotOf_5 : decode cX11_slotOf 5 = .ok (.iadd, 1) := by decide +kernel
theorem dX11_slotOf_6 : decode cX11_slotOf 6 = .ok (.ireturn, 1) := by decide +kernel
theorem dX11_bitOf_0 : decode cX11_bitOf 0 = .ok (.iload_n 0, 1) := by decide +kernel
theorem dX11_bitOf_1 : decode cX11_bitOf 1 = .ok (.ifCond .lt 15, 3) := by decide +kernel
theorem dX11_bitOf_4 : decode cX11_bitOf 4 = .ok (.iload_n 0, 1) := by decide +kernel
theorem dX11_bitOf_5 : decode cX11_bitOf 5 = .ok (.bipush 30, 2) := by decide +kernel
theorem dX11_bitOf_7 : decode cX11_bitOf 7 = .ok (.if_icmp .ge 9, 3) := by decide +kernel
theorem dX11_bitOf_10 : decode cX11_bitOf 10 = .ok (.iconst 1, 1) := by decide +kernel
theorem dX11_bitOf_11 : decode cX11_bitOf 11 = .ok (.iload_n 0, 1) := by decide +kernel
theorem dX11_bitOf_12 : decode cX11_bitOf 12 = .ok (.ishl, 1) := by decide +kernel
theorem dX11_bitOf_13 : decode cX11_bitOf 13 = .ok (.goto 4, 3) := by decide +kernel
theorem dX11_bitOf_16 : decode cX11_bitOf 16 = .ok (.iconst 0, 1) := by decide +kernel
theorem dX11_bitOf_17 : decode cX11_bitOf 17 = .ok (.ireturn, 1) := by decide +kernel
theorem dX11_entryOf_0 : decode cX11_entryOf 0 = .ok (.iload_n 1, 1) := by decide +kernel
theorem dX11_entryOf_1 : decode cX11_entryOf 1 = .ok (.ifCond .lt 15, 3) := by decide +kernel
theorem dX11_entryOf_4 : decode cX11_entryOf 4 = .ok (.iload_n 1, 1) := by decide +kernel
theorem dX11_entryOf_5 : decode cX11_entryOf 5 = .ok (.aload_n 0, 1) := by decide +kernel
theorem dX11_entryOf_6 : decode cX11_entryOf 6 = .ok (.arraylength, 1) := by decide +kernel
theorem dX11_entryOf_7 : decode cX11_entryOf 7 = .ok (.if_icmp .ge 9, 3) := by decide +kernel
theorem dX11_entryOf_10 : decode cX11_entryOf 10 = .ok (.aload_n 0, 1) := by decide +kernel
theorem dX11_entryOf_11 : decode cX11_entryOf 11 = .ok (.iload_n 1, 1) := by decide +kernel
theorem dX11_entryOf_12 : decode cX11_entryOf 12 = .ok (.iaload, 1) := by decide +kernel
theorem dX11_entryOf_13 : decode cX11_entryOf 13 = .ok (.goto 4, 3) := by decide +kernel
theorem dX11_entryOf_16 : decode cX11_entryOf 16 = .ok (.iconst (-1), 1) := by decide +kernel
theorem dX11_entryOf_17 : decode cX11_entryOf 17 = .ok (.ireturn, 1) := by decide +kernel
theorem dX11_setEntry_0 : decode cX11_setEntry 0 = .ok (.iload_n 1, 1) := by decide +kernel
theorem dX11_setEntry_1 : decode cX11_setEntry 1 = .ok (.ifCond .lt 13, 3) := by decide +kernel
theorem dX11_setEntry_4 : decode cX11_setEntry 4 = .ok (.iload_n 1, 1) := by decide +kernel
theorem dX11_setEntry_5 : decode cX11_setEntry 5 = .ok (.aload_n 0, 1) := by decide +kernel
theorem dX11_setEntry_6 : decode cX11_setEntry 6 = .ok (.arraylength, 1) := by decide +kernel
theorem dX11_setEntry_7 : decode cX11_setEntry 7 = .ok (.if_icmp .ge 7, 3) := by decide +kernel
theorem dX11_setEntry_10 : decode cX11_setEntry 10 = .ok (.aload_n 0, 1) := by decide +kernel
theorem dX11_setEntry_11 : decode cX11_setEntry 11 = .ok (.iload_n 1, 1) := by decide +kernel
theorem dX11_setEntry_12 : decode cX11_setEntry 12 = .ok (.iload_n 2, 1) := by decide +kernel
theorem dX11_setEntry_13 : decode cX11_setEntry 13 = .ok (.iastore, 1) := by decide +kernel
theorem dX11_setEntry_14 : decode cX11_setEntry 14 = .ok (.return_, 1) := by decide +kernel
theorem dX11_fillRow_0 : decode cX11_fillRow 0 = .ok (.iconst 0, 1) := by decide +kernel
theorem dX11_fillRow_1 : decode cX11_fillRow 1 = .ok (.istore_n 2, 1) := by decide +kernel
theorem dX11_fillRow_2 : decode cX11_fillRow 2 = .ok (.iload_n 2, 1) := by decide +kernel
theorem dX11_fillRow_3 : decode cX11_fillRow 3 = .ok (.aload_n 0, 1) := by decide +kernel
theorem dX11_fillRow_4 : decode cX11_fillRow 4 = .ok (.arraylength, 1) := by decide +kernel
theorem dX11_fillRow_5 : decode cX11_fillRow 5 = .ok (.if_icmp .ge 13, 3) := by decide +kernel
theorem dX11_fillRow_8 : decode cX11_fillRow 8 = .ok (.aload_n 0, 1) := by decide +kernel
theorem dX11_fillRow_9 : decode cX11_fillRow 9 = .ok (.iload_n 2, 1) := by decide +kernel
theorem dX11_fillRow_10 : decode cX11_fillRow 10 = .ok (.iload_n 1, 1) := by decide +kernel
theorem dX11_fillRow_11 : decode cX11_fillRow 11 = .ok (.iastore, 1) := by decide +kernel
theorem dX11_fillRow_12 : decode cX11_fillRow 12 = .ok (.iinc 2 1, 3) := by decide +kernel
theorem dX11_fillRow_15 : decode cX11_fillRow 15 = .ok (.goto (-13), 3) := by decide +kernel
theorem dX11_fillRow_18 : decode cX11_fillRow 18 = .ok (.return_, 1) := by decide +kernel
theorem dX11_copyRow_0 : decode cX11_copyRow 0 = .ok (.iconst 0, 1) := by decide +kernel
theorem dX11_copyRow_1 : decode cX11_copyRow 1 = .ok (.istore_n 2, 1) := by decide +kernel
theorem dX11_copyRow_2 : decode cX11_copyRow 2 = .ok (.iload_n 2, 1) := by decide +kernel
theorem dX11_copyRow_3 : decode cX11_copyRow 3 = .ok (.aload_n 0, 1) := by decide +kernel
theorem dX11_copyRow_4 : decode cX11_copyRow 4 = .ok (.arraylength, 1) := by decide +kernel
theorem dX11_copyRow_5 : decode cX11_copyRow 5 = .ok (.if_icmp .ge 21, 3) := by decide +kernel
theorem dX11_copyRow_8 : decode cX11_copyRow 8 = .ok (.iload_n 2, 1) := by decide +kernel
theorem dX11_copyRow_9 : decode cX11_copyRow 9 = .ok (.aload_n 1, 1) := by decide +kernel
theorem dX11_copyRow_10 : decode cX11_copyRow 10 = .ok (.arraylength, 1) := by decide +kernel
theorem dX11_copyRow_11 : decode cX11_copyRow 11 = .ok (.if_icmp .ge 15, 3) := by decide +kernel
theorem dX11_copyRow_14 : decode cX11_copyRow 14 = .ok (.aload_n 1, 1) := by decide +kernel
theorem dX11_copyRow_15 : decode cX11_copyRow 15 = .ok (.iload_n 2, 1) := by decide +kernel
theorem dX11_copyRow_16 : decode cX11_copyRow 16 = .ok (.aload_n 0, 1) := by decide +kernel
theorem dX11_copyRow_17 : decode cX11_copyRow 17 = .ok (.iload_n 2, 1) := by decide +kernel
theorem dX11_copyRow_18 : decode cX11_copyRow 18 = .ok (.iaload, 1) := by decide +kernel
theorem dX11_copyRow_19 : decode cX11_copyRow 19 = .ok (.iastore, 1) := by decide +kernel
theorem dX11_copyRow_20 : decode cX11_copyRow 20 = .ok (.iinc 2 1, 3) := by decide +kernel
theorem dX11_copyRow_23 : decode cX11_copyRow 23 = .ok (.goto (-21), 3) := by decide +kernel
theorem dX11_copyRow_26 : decode cX11_copyRow 26 = .ok (.return_, 1) := by decide +kernel
theorem dL_part_0 : decode cL_part 0 = .ok (.iload_n 1, 1) := by decide +kernel
theorem dL_part_1 : decode cL_part 1 = .ok (.aload_n 0, 1) := by decide +kernel
theorem dL_part_2 : decode cL_part 2 = .ok (.arraylength, 1) := by decide +kernel
theorem dL_part_3 : decode cL_part 3 = .ok (.if_icmp .ge 9, 3) := by decide +kernel
theorem dL_part_6 : decode cL_part 6 = .ok (.aload_n 0, 1) := by decide +kernel
theorem dL_part_7 : decode cL_part 7 = .ok (.iload_n 1, 1) := by decide +kernel
theorem dL_part_8 : decode cL_part 8 = .ok (.iaload, 1) := by decide +kernel
theorem dL_part_9 : decode cL_part 9 = .ok (.goto 16, 3) := by decide +kernel
theorem dL_part_12 : decode cL_part 12 = .ok (.sipush 647, 3) := by decide +kernel
theorem dL_part_15 : decode cL_part 15 = .ok (.iload_n 1, 1) := by decide +kernel
theorem dL_part_16 : decode cL_part 16 = .ok (.imul, 1) := by decide +kernel
theorem dL_part_17 : decode cL_part 17 = .ok (.sipush 509, 3) := by decide +kernel
theorem dL_part_20 : decode cL_part 20 = .ok (.iload_n 1, 1) := by decide +kernel
theorem dL_part_21 : decode cL_part 21 = .ok (.imul, 1) := by decide +kernel
theorem dL_part_22 : decode cL_part 22 = .ok (.iload_n 1, 1) := by decide +kernel
theorem dL_part_23 : decode cL_part 23 = .ok (.imul, 1) := by decide +kernel
theorem dL_part_24 : decode cL_part 24 = .ok (.iadd, 1) := by decide +kernel
theorem dL_part_25 : decode cL_part 25 = .ok (.istore_n 3, 1) := by decide +kernel
theorem dL_part_26 : decode cL_part 26 = .ok (.iload_n 3, 1) := by decide +kernel
theorem dL_part_27 : decode cL_part 27 = .ok (.ldc 7, 2) := by decide +kernel
theorem dL_part_29 : decode cL_part 29 = .ok (.iand, 1) := by decide +kernel
theorem dL_part_30 : decode cL_part 30 = .ok (.iload_n 2, 1) := by decide +kernel
theorem dL_part_31 : decode cL_part 31 = .ok (.irem, 1) := by decide +kernel
theorem dL_part_32 : decode cL_part 32 = .ok (.ireturn, 1) := by decide +kernel
theorem dL_does_0 : decode cL_does 0 = .ok (.iload_n 1, 1) := by decide +kernel
theorem dL_does_1 : decode cL_does 1 = .ok (.ifCond .ne 16, 3) := by decide +kernel
theorem dL_does_4 : decode cL_does 4 = .ok (.aload_n 0, 1) := by decide +kernel
theorem dL_does_5 : decode cL_does 5 = .ok (.iload_n 2, 1) := by decide +kernel
theorem dL_does_6 : decode cL_does 6 = .ok (.iload_n 3, 1) := by decide +kernel
theorem dL_does_7 : decode cL_does 7 = .ok (.iload 4, 2) := by decide +kernel
theorem dL_does_9 : decode cL_does 9 = .ok (.iload 5, 2) := by decide +kernel
theorem dL_does_11 : decode cL_does 11 = .ok (.invokevirtual 8, 3) := by decide +kernel
theorem dL_does_14 : decode cL_does 14 = .ok (.goto 239, 3) := by decide +kernel
theorem dL_does_17 : decode cL_does 17 = .ok (.iload_n 1, 1) := by decide +kernel
theorem dL_does_18 : decode cL_does 18 = .ok (.iconst 1, 1) := by decide +kernel
theorem dL_does_19 : decode cL_does 19 = .ok (.if_icmp .ne 18, 3) := by decide +kernel
theorem dL_does_22 : decode cL_does 22 = .ok (.aload_n 0, 1) := by decide +kernel
theorem dL_does_23 : decode cL_does 23 = .ok (.iload_n 2, 1) := by decide +kernel
theorem dL_does_24 : decode cL_does 24 = .ok (.iload_n 3, 1) := by decide +kernel
theorem dL_does_25 : decode cL_does 25 = .ok (.iload 4, 2) := by decide +kernel
theorem dL_does_27 : decode cL_does 27 = .ok (.iload 5, 2) := by decide +kernel
theorem dL_does_29 : decode cL_does 29 = .ok (.iload 6, 2) := by decide +kernel
theorem dL_does_31 : decode cL_does 31 = .ok (.invokevirtual 14, 3) := by decide +kernel
theorem dL_does_34 : decode cL_does 34 = .ok (.goto 219, 3) := by decide +kernel
theorem dL_does_37 : decode cL_does 37 = .ok (.iload_n 1, 1) := by decide +kernel
theorem dL_does_38 : decode cL_does 38 = .ok (.iconst 2, 1) := by decide +kernel
theorem dL_does_39 : decode cL_does 39 = .ok (.if_icmp .ne 14, 3) := by decide +kernel
theorem dL_does_42 : decode cL_does 42 = .ok (.aload_n 0, 1) := by decide +kernel
theorem dL_does_43 : decode cL_does 43 = .ok (.iload_n 2, 1) := by decide +kernel
theorem dL_does_44 : decode cL_does 44 = .ok (.iload_n 3, 1) := by decide +kernel
theorem dL_does_45 : decode cL_does 45 = .ok (.iload 4, 2) := by decide +kernel
theorem dL_does_47 : decode cL_does 47 = .ok (.invokevirtual 18, 3) := by decide +kernel
theorem dL_does_50 : decode cL_does 50 = .ok (.goto 203, 3) := by decide +kernel
theorem dL_does_53 : decode cL_does 53 = .ok (.iload_n 1, 1) := by decide +kernel
theorem dL_does_54 : decode cL_does 54 = .ok (.iconst 3, 1) := by decide +kernel
theorem dL_does_55 : decode cL_does 55 = .ok (.if_icmp .ne 11, 3) := by decide +kernel
theorem dL_does_58 : decode cL_does 58 = .ok (.aload_n 0, 1) := by decide +kernel
theorem dL_does_59 : decode cL_does 59 = .ok (.iload_n 2, 1) := by decide +kernel
theorem dL_does_60 : decode cL_does 60 = .ok (.invokevirtual 22, 3) := by decide +kernel
theorem dL_does_63 : decode cL_does 63 = .ok (.goto 190, 3) := by decide +kernel
theorem dL_does_66 : decode cL_does 66 = .ok (.iload_n 1, 1) := by decide +kernel
theorem dL_does_67 : decode cL_does 67 = .ok (.iconst 4, 1) := by decide +kernel
theorem dL_does_68 : decode cL_does 68 = .ok (.if_icmp .ne 14, 3) := by decide +kernel
theorem dL_does_71 : decode cL_does 71 = .ok (.aload_n 0, 1) := by decide +kernel
theorem dL_does_72 : decode cL_does 72 = .ok (.iload_n 2, 1) := by decide +kernel
theorem dL_does_73 : decode cL_does 73 = .ok (.iload_n 3, 1) := by decide +kernel
theorem dL_does_74 : decode cL_does 74 = .ok (.iload 4, 2) := by decide +kernel
theorem dL_does_76 : decode cL_does 76 = .ok (.invokevirtual 26, 3) := by decide +kernel
theorem dL_does_79 : decode cL_does 79 = .ok (.goto 174, 3) := by decide +kernel
theorem dL_does_82 : decode cL_does 82 = .ok (.iload_n 1, 1) := by decide +kernel
theorem dL_does_83 : decode cL_does 83 = .ok (.iconst 5, 1) := by decide +kernel
theorem dL_does_84 : decode cL_does 84 = .ok (.if_icmp .ne 16, 3) := by decide +kernel
theorem dL_does_87 : decode cL_does 87 = .ok (.aload_n 0, 1) := by decide +kernel
theorem dL_does_88 : decode cL_does 88 = .ok (.iload_n 2, 1) := by decide +kernel
theorem dL_does_89 : decode cL_does 89 = .ok (.iload_n 3, 1) := by decide +kernel
theorem dL_does_90 : decode cL_does 90 = .ok (.iload 4, 2) := by decide +kernel
theorem dL_does_92 : decode cL_does 92 = .ok (.iload 5, 2) := by decide +kernel
theorem dL_does_94 : decode cL_does 94 = .ok (.invokevirtual 29, 3) := by decide +kernel
theorem dL_does_97 : decode cL_does 97 = .ok (.goto 156, 3) := by decide +kernel
theorem dL_does_100 : decode cL_does 100 = .ok (.iload_n 1, 1) := by decide +kernel
theorem dL_does_101 : decode cL_does 101 = .ok (.bipush 6, 2) := by decide +kernel
theorem dL_does_103 : decode cL_does 103 = .ok (.if_icmp .ne 19, 3) := by decide +kernel
theorem dL_does_106 : decode cL_does 106 = .ok (.aload_n 0, 1) := by decide +kernel
theorem dL_does_107 : decode cL_does 107 = .ok (.iload_n 2, 1) := by decide +kernel
theorem dL_does_108 : decode cL_does 108 = .ok (.invokevirtual 32, 3) := by decide +kernel
theorem dL_does_111 : decode cL_does 111 = .ok (.ifCond .eq 7, 3) := by decide +kernel
theorem dL_does_114 : decode cL_does 114 = .ok (.iconst 1, 1) := by decide +kernel
theorem dL_does_115 : decode cL_does 115 = .ok (.goto 138, 3) := by decide +kernel
theorem dL_does_118 : decode cL_does 118 = .ok (.iconst 0, 1) := by decide +kernel
theorem dL_does_119 : decode cL_does 119 = .ok (.goto 134, 3) := by decide +kernel
theorem dL_does_122 : decode cL_does 122 = .ok (.iload_n 1, 1) := by decide +kernel
theorem dL_does_123 : decode cL_does 123 = .ok (.bipush 7, 2) := by decide +kernel
theorem dL_does_125 : decode cL_does 125 = .ok (.if_icmp .ne 12, 3) := by decide +kernel
theorem dL_does_128 : decode cL_does 128 = .ok (.aload_n 0, 1) := by decide +kernel
theorem dL_does_129 : decode cL_does 129 = .ok (.iload_n 2, 1) := by decide +kernel
theorem dL_does_130 : decode cL_does 130 = .ok (.iload_n 3, 1) := by decide +kernel
theorem dL_does_131 : decode cL_does 131 = .ok (.invokevirtual 36, 3) := by decide +kernel
theorem dL_does_134 : decode cL_does 134 = .ok (.goto 119, 3) := by decide +kernel
theorem dL_does_137 : decode cL_does 137 = .ok (.iload_n 1, 1) := by decide +kernel
theorem dL_does_138 : decode cL_does 138 = .ok (.bipush 8, 2) := by decide +kernel
theorem dL_does_140 : decode cL_does 140 = .ok (.if_icmp .ne 11, 3) := by decide +kernel
theorem dL_does_143 : decode cL_does 143 = .ok (.aload_n 0, 1) := by decide +kernel
theorem dL_does_144 : decode cL_does 144 = .ok (.iload_n 2, 1) := by decide +kernel
theorem dL_does_145 : decode cL_does 145 = .ok (.invokevirtual 40, 3) := by decide +kernel
theorem dL_does_148 : decode cL_does 148 = .ok (.goto 105, 3) := by decide +kernel
theorem dL_does_151 : decode cL_does 151 = .ok (.iload_n 1, 1) := by decide +kernel
theorem dL_does_152 : decode cL_does 152 = .ok (.bipush 9, 2) := by decide +kernel
theorem dL_does_154 : decode cL_does 154 = .ok (.if_icmp .ne 10, 3) := by decide +kernel
theorem dL_does_157 : decode cL_does 157 = .ok (.aload_n 0, 1) := by decide +kernel
theorem dL_does_158 : decode cL_does 158 = .ok (.invokevirtual 43, 3) := by decide +kernel
theorem dL_does_161 : decode cL_does 161 = .ok (.goto 92, 3) := by decide +kernel
theorem dL_does_164 : decode cL_does 164 = .ok (.iload_n 1, 1) := by decide +kernel
theorem dL_does_165 : decode cL_does 165 = .ok (.bipush 10, 2) := by decide +kernel
theorem dL_does_167 : decode cL_does 167 = .ok (.if_icmp .ne 11, 3) := by decide +kernel
theorem dL_does_170 : decode cL_does 170 = .ok (.aload_n 0, 1) := by decide +kernel
theorem dL_does_171 : decode cL_does 171 = .ok (.iload_n 2, 1) := by decide +kernel
theorem dL_does_172 : decode cL_does 172 = .ok (.invokevirtual 47, 3) := by decide +kernel
theorem dL_does_175 : decode cL_does 175 = .ok (.goto 78, 3) := by decide +kernel
theorem dL_does_178 : decode cL_does 178 = .ok (.iload_n 1, 1) := by decide +kernel
theorem dL_does_179 : decode cL_does 179 = .ok (.bipush 11, 2) := by decide +kernel
theorem dL_does_181 : decode cL_does 181 = .ok (.if_icmp .ne 12, 3) := by decide +kernel
theorem dL_does_184 : decode cL_does 184 = .ok (.aload_n 0, 1) := by decide +kernel
theorem dL_does_185 : decode cL_does 185 = .ok (.iload_n 2, 1) := by decide +kernel
theorem dL_does_186 : decode cL_does 186 = .ok (.iload_n 3, 1) := by decide +kernel
theorem dL_does_187 : decode cL_does 187 = .ok (.invokevirtual 50, 3) := by decide +kernel
theorem dL_does_190 : decode cL_does 190 = .ok (.goto 63, 3) := by decide +kernel
theorem dL_does_193 : decode cL_does 193 = .ok (.iload_n 1, 1) := by decide +kernel
theorem dL_does_194 : decode cL_does 194 = .ok (.bipush 12, 2) := by decide +kernel
theorem dL_does_196 : decode cL_does 196 = .ok (.if_icmp .ne 11, 3) := by decide +kernel
theorem dL_does_199 : decode cL_does 199 = .ok (.aload_n 0, 1) := by decide +kernel
theorem dL_does_200 : decode cL_does 200 = .ok (.iload_n 2, 1) := by decide +kernel
theorem dL_does_201 : decode cL_does 201 = .ok (.invokevirtual 53, 3) := by decide +kernel
theorem dL_does_204 : decode cL_does 204 = .ok (.goto 49, 3) := by decide +kernel
theorem dL_does_207 : decode cL_does 207 = .ok (.iload_n 1, 1) := by decide +kernel
theorem dL_does_208 : decode cL_does 208 = .ok (.bipush 13, 2) := by decide +kernel
theorem dL_does_210 : decode cL_does 210 = .ok (.if_icmp .ne 14, 3) := by decide +kernel
theorem dL_does_213 : decode cL_does 213 = .ok (.aload_n 0, 1) := by decide +kernel
theorem dL_does_214 : decode cL_does 214 = .ok (.iload_n 2, 1) := by decide +kernel
theorem dL_does_215 : decode cL_does 215 = .ok (.iload_n 3, 1) := by decide +kernel
theorem dL_does_216 : decode cL_does 216 = .ok (.iload 4, 2) := by decide +kernel
theorem dL_does_218 : decode cL_does 218 = .ok (.invokevirtual 56, 3) := by decide +kernel
theorem dL_does_221 : decode cL_does 221 = .ok (.goto 32, 3) := by decide +kernel
theorem dL_does_224 : decode cL_does 224 = .ok (.iload_n 1, 1) := by decide +kernel
theorem dL_does_225 : decode cL_does 225 = .ok (.bipush 14, 2) := by decide +kernel
theorem dL_does_227 : decode cL_does 227 = .ok (.if_icmp .ne 20, 3) := by decide +kernel
theorem dL_does_230 : decode cL_does 230 = .ok (.aload_n 0, 1) := by decide +kernel
theorem dL_does_231 : decode cL_does 231 = .ok (.iload_n 2, 1) := by decide +kernel
theorem dL_does_232 : decode cL_does 232 = .ok (.iload_n 3, 1) := by decide +kernel
theorem dL_does_233 : decode cL_does 233 = .ok (.invokevirtual 59, 3) := by decide +kernel
theorem dL_does_236 : decode cL_does 236 = .ok (.ifCond .eq 7, 3) := by decide +kernel
theorem dL_does_239 : decode cL_does 239 = .ok (.iconst 1, 1) := by decide +kernel
theorem dL_does_240 : decode cL_does 240 = .ok (.goto 13, 3) := by decide +kernel
theorem dL_does_243 : decode cL_does 243 = .ok (.iconst 0, 1) := by decide +kernel
theorem dL_does_244 : decode cL_does 244 = .ok (.goto 9, 3) := by decide +kernel
theorem dL_does_247 : decode cL_does 247 = .ok (.aload_n 0, 1) := by decide +kernel
theorem dL_does_248 : decode cL_does 248 = .ok (.iload_n 2, 1) := by decide +kernel
theorem dL_does_249 : decode cL_does 249 = .ok (.iload_n 3, 1) := by decide +kernel
theorem dL_does_250 : decode cL_does 250 = .ok (.invokevirtual 63, 3) := by decide +kernel
theorem dL_does_253 : decode cL_does 253 = .ok (.ireturn, 1) := by decide +kernel
theorem dL_does_254 : decode cL_does 254 = .ok (.astore 7, 2) := by decide +kernel
theorem dL_does_256 : decode cL_does 256 = .ok (.ldc 68, 2) := by decide +kernel
theorem dL_does_258 : decode cL_does 258 = .ok (.ireturn, 1) := by decide +kernel
theorem dL_does_259 : decode cL_does 259 = .ok (.astore 7, 2) := by decide +kernel
theorem dL_does_261 : decode cL_does 261 = .ok (.ldc 71, 2) := by decide +kernel
theorem dL_does_263 : decode cL_does 263 = .ok (.ireturn, 1) := by decide +kernel
theorem dL_does_264 : decode cL_does 264 = .ok (.astore 7, 2) := by decide +kernel
theorem dL_does_266 : decode cL_does 266 = .ok (.ldc 74, 2) := by decide +kernel
theorem dL_does_268 : decode cL_does 268 = .ok (.ireturn, 1) := by decide +kernel
theorem dL_symbol_0 : decode cL_symbol 0 = .ok (.aload_n 0, 1) := by decide +kernel
theorem dL_symbol_1 : decode cL_symbol 1 = .ok (.iload_n 1, 1) := by decide +kernel
theorem dL_symbol_2 : decode cL_symbol 2 = .ok (.iaload, 1) := by decide +kernel
theorem dL_symbol_3 : decode cL_symbol 3 = .ok (.iload_n 2, 1) := by decide +kernel
theorem dL_symbol_4 : decode cL_symbol 4 = .ok (.ifCond .ne 8, 3) := by decide +kernel
theorem dL_symbol_7 : decode cL_symbol 7 = .ok (.bipush 10, 2) := by decide +kernel
theorem dL_symbol_9 : decode cL_symbol 9 = .ok (.goto 16, 3) := by decide +kernel
theorem dL_symbol_12 : decode cL_symbol 12 = .ok (.iload_n 2, 1) := by decide +kernel
theorem dL_symbol_13 : decode cL_symbol 13 = .ok (.iconst 1, 1) := by decide +kernel
theorem dL_symbol_14 : decode cL_symbol 14 = .ok (.if_icmp .ne 8, 3) := by decide +kernel
theorem dL_symbol_17 : decode cL_symbol 17 = .ok (.bipush 110, 2) := by decide +kernel
theorem dL_symbol_19 : decode cL_symbol 19 = .ok (.goto 6, 3) := by decide +kernel
theorem dL_symbol_22 : decode cL_symbol 22 = .ok (.sipush 1210, 3) := by decide +kernel
theorem dL_symbol_25 : decode cL_symbol 25 = .ok (.idiv, 1) := by decide +kernel
theorem dL_symbol_26 : decode cL_symbol 26 = .ok (.bipush 11, 2) := by decide +kernel
theorem dL_symbol_28 : decode cL_symbol 28 = .ok (.irem, 1) := by decide +kernel
theorem dL_symbol_29 : decode cL_symbol 29 = .ok (.iconst 1, 1) := by decide +kernel
theorem dL_symbol_30 : decode cL_symbol 30 = .ok (.isub, 1) := by decide +kernel
theorem dL_symbol_31 : decode cL_symbol 31 = .ok (.ireturn, 1) := by decide +kernel
theorem dL_children_0 : decode cL_children 0 = .ok (.iconst 0, 1) := by decide +kernel
theorem dL_children_1 : decode cL_children 1 = .ok (.istore_n 2, 1) := by decide +kernel
theorem dL_children_2 : decode cL_children 2 = .ok (.iconst 0, 1) := by decide +kernel
theorem dL_children_3 : decode cL_children 3 = .ok (.istore_n 3, 1) := by decide +kernel
theorem dL_children_4 : decode cL_children 4 = .ok (.iload_n 3, 1) := by decide +kernel
theorem dL_children_5 : decode cL_children 5 = .ok (.iconst 3, 1) := by decide +kernel
theorem dL_children_6 : decode cL_children 6 = .ok (.if_icmp .ge 36, 3) := by decide +kernel
theorem dL_children_9 : decode cL_children 9 = .ok (.iload_n 2, 1) := by decide +kernel
theorem dL_children_10 : decode cL_children 10 = .ok (.aload_n 0, 1) := by decide +kernel
theorem dL_children_11 : decode cL_children 11 = .ok (.iload_n 1, 1) := by decide +kernel
theorem dL_children_12 : decode cL_children 12 = .ok (.iload_n 3, 1) := by decide +kernel
theorem dL_children_13 : decode cL_children 13 = .ok (.invokestatic 75, 3) := by decide +kernel
theorem dL_children_16 : decode cL_children 16 = .ok (.ifCond .lt 17, 3) := by decide +kernel
theorem dL_children_19 : decode cL_children 19 = .ok (.aload_n 0, 1) := by decide +kernel
theorem dL_children_20 : decode cL_children 20 = .ok (.iload_n 1, 1) := by decide +kernel
theorem dL_children_21 : decode cL_children 21 = .ok (.iload_n 3, 1) := by decide +kernel
theorem dL_children_22 : decode cL_children 22 = .ok (.invokestatic 75, 3) := by decide +kernel
theorem dL_children_25 : decode cL_children 25 = .ok (.iconst 4, 1) := by decide +kernel
theorem dL_children_26 : decode cL_children 26 = .ok (.if_icmp .ge 7, 3) := by decide +kernel
theorem dL_children_29 : decode cL_children 29 = .ok (.iconst 1, 1) := by decide +kernel
theorem dL_children_30 : decode cL_children 30 = .ok (.goto 4, 3) := by decide +kernel
theorem dL_children_33 : decode cL_children 33 = .ok (.iconst 0, 1) := by decide +kernel
theorem dL_children_34 : decode cL_children 34 = .ok (.iadd, 1) := by decide +kernel
theorem dL_children_35 : decode cL_children 35 = .ok (.istore_n 2, 1) := by decide +kernel
theorem dL_children_36 : decode cL_children 36 = .ok (.iinc 3 1, 3) := by decide +kernel
theorem dL_children_39 : decode cL_children 39 = .ok (.goto (-35), 3) := by decide +kernel
theorem dL_children_42 : decode cL_children 42 = .ok (.iload_n 2, 1) := by decide +kernel
theorem dL_children_43 : decode cL_children 43 = .ok (.ireturn, 1) := by decide +kernel
theorem dL_childOf_0 : decode cL_childOf 0 = .ok (.iload_n 2, 1) := by decide +kernel
theorem dL_childOf_1 : decode cL_childOf 1 = .ok (.istore_n 3, 1) := by decide +kernel
theorem dL_childOf_2 : decode cL_childOf 2 = .ok (.iconst 0, 1) := by decide +kernel
theorem dL_childOf_3 : decode cL_childOf 3 = .ok (.istore 4, 2) := by decide +kernel
theorem dL_childOf_5 : decode cL_childOf 5 = .ok (.iload 4, 2) := by decide +kernel
theorem dL_childOf_7 : decode cL_childOf 7 = .ok (.iconst 3, 1) := by decide +kernel
theorem dL_childOf_8 : decode cL_childOf 8 = .ok (.if_icmp .ge 39, 3) := by decide +kernel
theorem dL_childOf_11 : decode cL_childOf 11 = .ok (.aload_n 0, 1) := by decide +kernel
theorem dL_childOf_12 : decode cL_childOf 12 = .ok (.iload_n 1, 1) := by decide +kernel
theorem dL_childOf_13 : decode cL_childOf 13 = .ok (.iload 4, 2) := by decide +kernel
theorem dL_childOf_15 : decode cL_childOf 15 = .ok (.invokestatic 75, 3) := by decide +kernel
theorem dL_childOf_18 : decode cL_childOf 18 = .ok (.istore 5, 2) := by decide +kernel
theorem dL_childOf_20 : decode cL_childOf 20 = .ok (.iload 5, 2) := by decide +kernel
theorem dL_childOf_22 : decode cL_childOf 22 = .ok (.ifCond .lt 19, 3) := by decide +kernel
theorem dL_childOf_25 : decode cL_childOf 25 = .ok (.iload 5, 2) := by decide +kernel
theorem dL_childOf_27 : decode cL_childOf 27 = .ok (.iconst 4, 1) := by decide +kernel
theorem dL_childOf_28 : decode cL_childOf 28 = .ok (.if_icmp .ge 13, 3) := by decide +kernel
theorem dL_childOf_31 : decode cL_childOf 31 = .ok (.iload_n 3, 1) := by decide +kernel
theorem dL_childOf_32 : decode cL_childOf 32 = .ok (.ifCond .ne 6, 3) := by decide +kernel
theorem dL_childOf_35 : decode cL_childOf 35 = .ok (.iload 5, 2) := by decide +kernel
theorem dL_childOf_37 : decode cL_childOf 37 = .ok (.ireturn, 1) := by decide +kernel
theorem dL_childOf_38 : decode cL_childOf 38 = .ok (.iinc 3 (-1), 3) := by decide +kernel
theorem dL_childOf_41 : decode cL_childOf 41 = .ok (.iinc 4 1, 3) := by decide +kernel
theorem dL_childOf_44 : decode cL_childOf 44 = .ok (.goto (-39), 3) := by decide +kernel
theorem dL_childOf_47 : decode cL_childOf 47 = .ok (.iconst (-1), 1) := by decide +kernel
theorem dL_childOf_48 : decode cL_childOf 48 = .ok (.ireturn, 1) := by decide +kernel
theorem dL_isTree_0 : decode cL_isTree 0 = .ok (.aload_n 2, 1) := by decide +kernel
theorem dL_isTree_1 : decode cL_isTree 1 = .ok (.iconst 4, 1) := by decide +kernel
theorem dL_isTree_2 : decode cL_isTree 2 = .ok (.iaload, 1) := by decide +kernel
theorem dL_isTree_3 : decode cL_isTree 3 = .ok (.ifCond .ne 33, 3) := by decide +kernel
theorem dL_isTree_6 : decode cL_isTree 6 = .ok (.aload_n 0, 1) := by decide +kernel
theorem dL_isTree_7 : decode cL_isTree 7 = .ok (.invokevirtual 81, 3) := by decide +kernel
theorem dL_isTree_10 : decode cL_isTree 10 = .ok (.iconst (-1), 1) := by decide +kernel
theorem dL_isTree_11 : decode cL_isTree 11 = .ok (.if_icmp .ne 23, 3) := by decide +kernel
theorem dL_isTree_14 : decode cL_isTree 14 = .ok (.aload_n 0, 1) := by decide +kernel
theorem dL_isTree_15 : decode cL_isTree 15 = .ok (.bipush 12, 2) := by decide +kernel
theorem dL_isTree_17 : decode cL_isTree 17 = .ok (.iconst 0, 1) := by decide +kernel
theorem dL_isTree_18 : decode cL_isTree 18 = .ok (.iconst 0, 1) := by decide +kernel
theorem dL_isTree_19 : decode cL_isTree 19 = .ok (.iconst 0, 1) := by decide +kernel
theorem dL_isTree_20 : decode cL_isTree 20 = .ok (.iconst 0, 1) := by decide +kernel
theorem dL_isTree_21 : decode cL_isTree 21 = .ok (.iconst 0, 1) := by decide +kernel
theorem dL_isTree_22 : decode cL_isTree 22 = .ok (.invokestatic 84, 3) := by decide +kernel
theorem dL_isTree_25 : decode cL_isTree 25 = .ok (.ldc 68, 2) := by decide +kernel
theorem dL_isTree_27 : decode cL_isTree 27 = .ok (.if_icmp .ne 7, 3) := by decide +kernel
theorem dL_isTree_30 : decode cL_isTree 30 = .ok (.iconst 1, 1) := by decide +kernel
theorem dL_isTree_31 : decode cL_isTree 31 = .ok (.goto 4, 3) := by decide +kernel
theorem dL_isTree_34 : decode cL_isTree 34 = .ok (.iconst 0, 1) := by decide +kernel
theorem dL_isTree_35 : decode cL_isTree 35 = .ok (.ireturn, 1) := by decide +kernel
theorem dL_isTree_36 : decode cL_isTree 36 = .ok (.aload_n 0, 1) := by decide +kernel
theorem dL_isTree_37 : decode cL_isTree 37 = .ok (.invokevirtual 81, 3) := by decide +kernel
theorem dL_isTree_40 : decode cL_isTree 40 = .ok (.ifCond .lt 25, 3) := by decide +kernel
theorem dL_isTree_43 : decode cL_isTree 43 = .ok (.aload_n 0, 1) := by decide +kernel
theorem dL_isTree_44 : decode cL_isTree 44 = .ok (.bipush 12, 2) := by decide +kernel
theorem dL_isTree_46 : decode cL_isTree 46 = .ok (.aload_n 2, 1) := by decide +kernel
theorem dL_isTree_47 : decode cL_isTree 47 = .ok (.iconst 4, 1) := by decide +kernel
theorem dL_isTree_48 : decode cL_isTree 48 = .ok (.iaload, 1) := by decide +kernel
theorem dL_isTree_49 : decode cL_isTree 49 = .ok (.iconst 0, 1) := by decide +kernel
theorem dL_isTree_50 : decode cL_isTree 50 = .ok (.iconst 0, 1) := by decide +kernel
theorem dL_isTree_51 : decode cL_isTree 51 = .ok (.iconst 0, 1) := by decide +kernel
theorem dL_isTree_52 : decode cL_isTree 52 = .ok (.iconst 0, 1) := by decide +kernel
theorem dL_isTree_53 : decode cL_isTree 53 = .ok (.invokestatic 84, 3) := by decide +kernel
theorem dL_isTree_56 : decode cL_isTree 56 = .ok (.ldc 68, 2) := by decide +kernel
theorem dL_isTree_58 : decode cL_isTree 58 = .ok (.if_icmp .ne 7, 3) := by decide +kernel
theorem dL_isTree_61 : decode cL_isTree 61 = .ok (.iconst 1, 1) := by decide +kernel
theorem dL_isTree_62 : decode cL_isTree 62 = .ok (.goto 4, 3) := by decide +kernel
theorem dL_isTree_65 : decode cL_isTree 65 = .ok (.iconst 0, 1) := by decide +kernel
theorem dL_isTree_66 : decode cL_isTree 66 = .ok (.istore 4, 2) := by decide +kernel
theorem dL_isTree_68 : decode cL_isTree 68 = .ok (.iconst 0, 1) := by decide +kernel
theorem dL_isTree_69 : decode cL_isTree 69 = .ok (.istore 5, 2) := by decide +kernel
theorem dL_isTree_71 : decode cL_isTree 71 = .ok (.iload 5, 2) := by decide +kernel
theorem dL_isTree_73 : decode cL_isTree 73 = .ok (.aload_n 2, 1) := by decide +kernel
theorem dL_isTree_74 : decode cL_isTree 74 = .ok (.iconst 4, 1) := by decide +kernel
theorem dL_isTree_75 : decode cL_isTree 75 = .ok (.iaload, 1) := by decide +kernel
theorem dL_isTree_76 : decode cL_isTree 76 = .ok (.if_icmp .ge 14, 3) := by decide +kernel
theorem dL_isTree_79 : decode cL_isTree 79 = .ok (.aload_n 3, 1) := by decide +kernel
theorem dL_isTree_80 : decode cL_isTree 80 = .ok (.iload 5, 2) := by decide +kernel
theorem dL_isTree_82 : decode cL_isTree 82 = .ok (.iconst 0, 1) := by decide +kernel
theorem dL_isTree_83 : decode cL_isTree 83 = .ok (.iastore, 1) := by decide +kernel
theorem dL_isTree_84 : decode cL_isTree 84 = .ok (.iinc 5 1, 3) := by decide +kernel
theorem dL_isTree_87 : decode cL_isTree 87 = .ok (.goto (-16), 3) := by decide +kernel
theorem dL_isTree_90 : decode cL_isTree 90 = .ok (.iconst (-1), 1) := by decide +kernel
theorem dL_isTree_91 : decode cL_isTree 91 = .ok (.istore 5, 2) := by decide +kernel
theorem dL_isTree_93 : decode cL_isTree 93 = .ok (.iconst 0, 1) := by decide +kernel
theorem dL_isTree_94 : decode cL_isTree 94 = .ok (.istore 6, 2) := by decide +kernel
theorem dL_isTree_96 : decode cL_isTree 96 = .ok (.iload 6, 2) := by decide +kernel
theorem dL_isTree_98 : decode cL_isTree 98 = .ok (.aload_n 2, 1) := by decide +kernel
theorem dL_isTree_99 : decode cL_isTree 99 = .ok (.iconst 4, 1) := by decide +kernel
theorem dL_isTree_100 : decode cL_isTree 100 = .ok (.iaload, 1) := by decide +kernel
theorem dL_isTree_101 : decode cL_isTree 101 = .ok (.if_icmp .ge 220, 3) := by decide +kernel
theorem dL_isTree_104 : decode cL_isTree 104 = .ok (.iload 4, 2) := by decide +kernel
theorem dL_isTree_106 : decode cL_isTree 106 = .ok (.ifCond .eq 215, 3) := by decide +kernel
theorem dL_isTree_109 : decode cL_isTree 109 = .ok (.aload_n 0, 1) := by decide +kernel
theorem dL_isTree_110 : decode cL_isTree 110 = .ok (.iload 6, 2) := by decide +kernel
theorem dL_isTree_112 : decode cL_isTree 112 = .ok (.invokevirtual 53, 3) := by decide +kernel
theorem dL_isTree_115 : decode cL_isTree 115 = .ok (.istore 7, 2) := by decide +kernel
theorem dL_isTree_117 : decode cL_isTree 117 = .ok (.iload 7, 2) := by decide +kernel
theorem dL_isTree_119 : decode cL_isTree 119 = .ok (.sipush 1000, 3) := by decide +kernel
theorem dL_isTree_122 : decode cL_isTree 122 = .ok (.idiv, 1) := by decide +kernel
theorem dL_isTree_123 : decode cL_isTree 123 = .ok (.iconst 1, 1) := by decide +kernel
theorem dL_isTree_124 : decode cL_isTree 124 = .ok (.isub, 1) := by decide +kernel
theorem dL_isTree_125 : decode cL_isTree 125 = .ok (.istore 8, 2) := by decide +kernel
theorem dL_isTree_127 : decode cL_isTree 127 = .ok (.iload 7, 2) := by decide +kernel
theorem dL_isTree_129 : decode cL_isTree 129 = .ok (.bipush 10, 2) := by decide +kernel
theorem dL_isTree_131 : decode cL_isTree 131 = .ok (.idiv, 1) := by decide +kernel
theorem dL_isTree_132 : decode cL_isTree 132 = .ok (.bipush 100, 2) := by decide +kernel
theorem dL_isTree_134 : decode cL_isTree 134 = .ok (.irem, 1) := by decide +kernel
theorem dL_isTree_135 : decode cL_isTree 135 = .ok (.istore 9, 2) := by decide +kernel
theorem dL_isTree_137 : decode cL_isTree 137 = .ok (.iload 9, 2) := by decide +kernel
theorem dL_isTree_139 : decode cL_isTree 139 = .ok (.aload_n 2, 1) := by decide +kernel
theorem dL_isTree_140 : decode cL_isTree 140 = .ok (.iconst 0, 1) := by decide +kernel
theorem dL_isTree_141 : decode cL_isTree 141 = .ok (.iaload, 1) := by decide +kernel
theorem dL_isTree_142 : decode cL_isTree 142 = .ok (.if_icmp .ge 57, 3) := by decide +kernel
theorem dL_isTree_145 : decode cL_isTree 145 = .ok (.iload 7, 2) := by decide +kernel
theorem dL_isTree_147 : decode cL_isTree 147 = .ok (.bipush 10, 2) := by decide +kernel
theorem dL_isTree_149 : decode cL_isTree 149 = .ok (.irem, 1) := by decide +kernel
theorem dL_isTree_150 : decode cL_isTree 150 = .ok (.aload_n 1, 1) := by decide +kernel
theorem dL_isTree_151 : decode cL_isTree 151 = .ok (.iload 9, 2) := by decide +kernel
theorem dL_isTree_153 : decode cL_isTree 153 = .ok (.invokestatic 88, 3) := by decide +kernel
theorem dL_isTree_156 : decode cL_isTree 156 = .ok (.if_icmp .ne 43, 3) := by decide +kernel
theorem dL_isTree_159 : decode cL_isTree 159 = .ok (.iload 6, 2) := by decide +kernel
theorem dL_isTree_161 : decode cL_isTree 161 = .ok (.ifCond .ne 22, 3) := by decide +kernel
theorem dL_isTree_164 : decode cL_isTree 164 = .ok (.iload 8, 2) := by decide +kernel
theorem dL_isTree_166 : decode cL_isTree 166 = .ok (.iconst (-1), 1) := by decide +kernel
theorem dL_isTree_167 : decode cL_isTree 167 = .ok (.if_icmp .ne 32, 3) := by decide +kernel
theorem dL_isTree_170 : decode cL_isTree 170 = .ok (.aload_n 1, 1) := by decide +kernel
theorem dL_isTree_171 : decode cL_isTree 171 = .ok (.iload 9, 2) := by decide +kernel
theorem dL_isTree_173 : decode cL_isTree 173 = .ok (.iaload, 1) := by decide +kernel
theorem dL_isTree_174 : decode cL_isTree 174 = .ok (.bipush 10, 2) := by decide +kernel
theorem dL_isTree_176 : decode cL_isTree 176 = .ok (.irem, 1) := by decide +kernel
theorem dL_isTree_177 : decode cL_isTree 177 = .ok (.ifCond .ne 22, 3) := by decide +kernel
theorem dL_isTree_180 : decode cL_isTree 180 = .ok (.goto 15, 3) := by decide +kernel
theorem dL_isTree_183 : decode cL_isTree 183 = .ok (.iload 8, 2) := by decide +kernel
theorem dL_isTree_185 : decode cL_isTree 185 = .ok (.ifCond .lt 14, 3) := by decide +kernel
theorem dL_isTree_188 : decode cL_isTree 188 = .ok (.iload 8, 2) := by decide +kernel
theorem dL_isTree_190 : decode cL_isTree 190 = .ok (.iload 6, 2) := by decide +kernel
theorem dL_isTree_192 : decode cL_isTree 192 = .ok (.if_icmp .ge 7, 3) := by decide +kernel
theorem dL_isTree_195 : decode cL_isTree 195 = .ok (.iconst 1, 1) := by decide +kernel
theorem dL_isTree_196 : decode cL_isTree 196 = .ok (.goto 4, 3) := by decide +kernel
theorem dL_isTree_199 : decode cL_isTree 199 = .ok (.iconst 0, 1) := by decide +kernel
theorem dL_isTree_200 : decode cL_isTree 200 = .ok (.istore 4, 2) := by decide +kernel
theorem dL_isTree_202 : decode cL_isTree 202 = .ok (.iload 4, 2) := by decide +kernel
theorem dL_isTree_204 : decode cL_isTree 204 = .ok (.ifCond .eq 107, 3) := by decide +kernel
theorem dL_isTree_207 : decode cL_isTree 207 = .ok (.iload 6, 2) := by decide +kernel
theorem dL_isTree_209 : decode cL_isTree 209 = .ok (.ifCond .le 102, 3) := by decide +kernel
theorem dL_isTree_212 : decode cL_isTree 212 = .ok (.iload 5, 2) := by decide +kernel
theorem dL_isTree_214 : decode cL_isTree 214 = .ok (.ifCond .lt 36, 3) := by decide +kernel
theorem dL_isTree_217 : decode cL_isTree 217 = .ok (.aload_n 3, 1) := by decide +kernel
theorem dL_isTree_218 : decode cL_isTree 218 = .ok (.iload 5, 2) := by decide +kernel
theorem dL_isTree_220 : decode cL_isTree 220 = .ok (.iaload, 1) := by decide +kernel
theorem dL_isTree_221 : decode cL_isTree 221 = .ok (.aload_n 0, 1) := by decide +kernel
theorem dL_isTree_222 : decode cL_isTree 222 = .ok (.iload 5, 2) := by decide +kernel
theorem dL_isTree_224 : decode cL_isTree 224 = .ok (.invokevirtual 53, 3) := by decide +kernel
theorem dL_isTree_227 : decode cL_isTree 227 = .ok (.bipush 10, 2) := by decide +kernel
theorem dL_isTree_229 : decode cL_isTree 229 = .ok (.irem, 1) := by decide +kernel
theorem dL_isTree_230 : decode cL_isTree 230 = .ok (.if_icmp .ne 20, 3) := by decide +kernel
theorem dL_isTree_233 : decode cL_isTree 233 = .ok (.aload_n 0, 1) := by decide +kernel
theorem dL_isTree_234 : decode cL_isTree 234 = .ok (.iload 5, 2) := by decide +kernel
theorem dL_isTree_236 : decode cL_isTree 236 = .ok (.invokevirtual 53, 3) := by decide +kernel
theorem dL_isTree_239 : decode cL_isTree 239 = .ok (.sipush 1000, 3) := by decide +kernel
theorem dL_isTree_242 : decode cL_isTree 242 = .ok (.idiv, 1) := by decide +kernel
theorem dL_isTree_243 : decode cL_isTree 243 = .ok (.iconst 1, 1) := by decide +kernel
theorem dL_isTree_244 : decode cL_isTree 244 = .ok (.isub, 1) := by decide +kernel
theorem dL_isTree_245 : decode cL_isTree 245 = .ok (.istore 5, 2) := by decide +kernel
theorem dL_isTree_247 : decode cL_isTree 247 = .ok (.goto (-35), 3) := by decide +kernel
theorem dL_isTree_250 : decode cL_isTree 250 = .ok (.iload 8, 2) := by decide +kernel
theorem dL_isTree_252 : decode cL_isTree 252 = .ok (.iload 5, 2) := by decide +kernel
theorem dL_isTree_254 : decode cL_isTree 254 = .ok (.if_icmp .ne 37, 3) := by decide +kernel
theorem dL_isTree_257 : decode cL_isTree 257 = .ok (.aload_n 1, 1) := by decide +kernel
theorem dL_isTree_258 : decode cL_isTree 258 = .ok (.aload_n 0, 1) := by decide +kernel
theorem dL_isTree_259 : decode cL_isTree 259 = .ok (.iload 8, 2) := by decide +kernel
theorem dL_isTree_261 : decode cL_isTree 261 = .ok (.invokevirtual 53, 3) := by decide +kernel
theorem dL_isTree_264 : decode cL_isTree 264 = .ok (.bipush 10, 2) := by decide +kernel
theorem dL_isTree_266 : decode cL_isTree 266 = .ok (.idiv, 1) := by decide +kernel
theorem dL_isTree_267 : decode cL_isTree 267 = .ok (.bipush 100, 2) := by decide +kernel
theorem dL_isTree_269 : decode cL_isTree 269 = .ok (.irem, 1) := by decide +kernel
theorem dL_isTree_270 : decode cL_isTree 270 = .ok (.aload_n 3, 1) := by decide +kernel
theorem dL_isTree_271 : decode cL_isTree 271 = .ok (.iload 8, 2) := by decide +kernel
theorem dL_isTree_273 : decode cL_isTree 273 = .ok (.iaload, 1) := by decide +kernel
theorem dL_isTree_274 : decode cL_isTree 274 = .ok (.invokestatic 92, 3) := by decide +kernel
theorem dL_isTree_277 : decode cL_isTree 277 = .ok (.aload_n 1, 1) := by decide +kernel
theorem dL_isTree_278 : decode cL_isTree 278 = .ok (.iload 9, 2) := by decide +kernel
theorem dL_isTree_280 : decode cL_isTree 280 = .ok (.iaload, 1) := by decide +kernel
theorem dL_isTree_281 : decode cL_isTree 281 = .ok (.bipush 10, 2) := by decide +kernel
theorem dL_isTree_283 : decode cL_isTree 283 = .ok (.irem, 1) := by decide +kernel
theorem dL_isTree_284 : decode cL_isTree 284 = .ok (.if_icmp .ne 7, 3) := by decide +kernel
theorem dL_isTree_287 : decode cL_isTree 287 = .ok (.iconst 1, 1) := by decide +kernel
theorem dL_isTree_288 : decode cL_isTree 288 = .ok (.goto 4, 3) := by decide +kernel
theorem dL_isTree_291 : decode cL_isTree 291 = .ok (.iconst 0, 1) := by decide +kernel
theorem dL_isTree_292 : decode cL_isTree 292 = .ok (.istore 4, 2) := by decide +kernel
theorem dL_isTree_294 : decode cL_isTree 294 = .ok (.aload_n 3, 1) := by decide +kernel
theorem dL_isTree_295 : decode cL_isTree 295 = .ok (.iload 8, 2) := by decide +kernel
theorem dL_isTree_297 : decode cL_isTree 297 = .ok (.dup2, 1) := by decide +kernel
theorem dL_isTree_298 : decode cL_isTree 298 = .ok (.iaload, 1) := by decide +kernel
theorem dL_isTree_299 : decode cL_isTree 299 = .ok (.iload 4, 2) := by decide +kernel
theorem dL_isTree_301 : decode cL_isTree 301 = .ok (.ifCond .eq 7, 3) := by decide +kernel
theorem dL_isTree_304 : decode cL_isTree 304 = .ok (.iconst 1, 1) := by decide +kernel
theorem dL_isTree_305 : decode cL_isTree 305 = .ok (.goto 4, 3) := by decide +kernel
theorem dL_isTree_308 : decode cL_isTree 308 = .ok (.iconst 0, 1) := by decide +kernel
theorem dL_isTree_309 : decode cL_isTree 309 = .ok (.iadd, 1) := by decide +kernel
theorem dL_isTree_310 : decode cL_isTree 310 = .ok (.iastore, 1) := by decide +kernel
theorem dL_isTree_311 : decode cL_isTree 311 = .ok (.iload 6, 2) := by decide +kernel
theorem dL_isTree_313 : decode cL_isTree 313 = .ok (.istore 5, 2) := by decide +kernel
theorem dL_isTree_315 : decode cL_isTree 315 = .ok (.iinc 6 1, 3) := by decide +kernel
theorem dL_isTree_318 : decode cL_isTree 318 = .ok (.goto (-222), 3) := by decide +kernel
theorem dL_isTree_321 : decode cL_isTree 321 = .ok (.iconst 0, 1) := by decide +kernel
theorem dL_isTree_322 : decode cL_isTree 322 = .ok (.istore 6, 2) := by decide +kernel
theorem dL_isTree_324 : decode cL_isTree 324 = .ok (.iload 6, 2) := by decide +kernel
theorem dL_isTree_326 : decode cL_isTree 326 = .ok (.aload_n 2, 1) := by decide +kernel
theorem dL_isTree_327 : decode cL_isTree 327 = .ok (.iconst 4, 1) := by decide +kernel
theorem dL_isTree_328 : decode cL_isTree 328 = .ok (.iaload, 1) := by decide +kernel
theorem dL_isTree_329 : decode cL_isTree 329 = .ok (.if_icmp .ge 37, 3) := by decide +kernel
theorem dL_isTree_332 : decode cL_isTree 332 = .ok (.iload 4, 2) := by decide +kernel
theorem dL_isTree_334 : decode cL_isTree 334 = .ok (.ifCond .eq 32, 3) := by decide +kernel
theorem dL_isTree_337 : decode cL_isTree 337 = .ok (.aload_n 3, 1) := by decide +kernel
theorem dL_isTree_338 : decode cL_isTree 338 = .ok (.iload 6, 2) := by decide +kernel
theorem dL_isTree_340 : decode cL_isTree 340 = .ok (.iaload, 1) := by decide +kernel
theorem dL_isTree_341 : decode cL_isTree 341 = .ok (.aload_n 0, 1) := by decide +kernel
theorem dL_isTree_342 : decode cL_isTree 342 = .ok (.iload 6, 2) := by decide +kernel
theorem dL_isTree_344 : decode cL_isTree 344 = .ok (.invokevirtual 53, 3) := by decide +kernel
theorem dL_isTree_347 : decode cL_isTree 347 = .ok (.bipush 10, 2) := by decide +kernel
theorem dL_isTree_349 : decode cL_isTree 349 = .ok (.irem, 1) := by decide +kernel
theorem dL_isTree_350 : decode cL_isTree 350 = .ok (.if_icmp .ne 7, 3) := by decide +kernel
theorem dL_isTree_353 : decode cL_isTree 353 = .ok (.iconst 1, 1) := by decide +kernel
theorem dL_isTree_354 : decode cL_isTree 354 = .ok (.goto 4, 3) := by decide +kernel
theorem dL_isTree_357 : decode cL_isTree 357 = .ok (.iconst 0, 1) := by decide +kernel
theorem dL_isTree_358 : decode cL_isTree 358 = .ok (.istore 4, 2) := by decide +kernel
theorem dL_isTree_360 : decode cL_isTree 360 = .ok (.iinc 6 1, 3) := by decide +kernel
theorem dL_isTree_363 : decode cL_isTree 363 = .ok (.goto (-39), 3) := by decide +kernel
theorem dL_isTree_366 : decode cL_isTree 366 = .ok (.iload 4, 2) := by decide +kernel
theorem dL_isTree_368 : decode cL_isTree 368 = .ok (.ireturn, 1) := by decide +kernel
theorem dL_isTold_0 : decode cL_isTold 0 = .ok (.iload_n 3, 1) := by decide +kernel
theorem dL_isTold_1 : decode cL_isTold 1 = .ok (.aload_n 2, 1) := by decide +kernel
theorem dL_isTold_2 : decode cL_isTold 2 = .ok (.iconst 4, 1) := by decide +kernel
theorem dL_isTold_3 : decode cL_isTold 3 = .ok (.iaload, 1) := by decide +kernel
theorem dL_isTold_4 : decode cL_isTold 4 = .ok (.if_icmp .ge 11, 3) := by decide +kernel
theorem dL_isTold_7 : decode cL_isTold 7 = .ok (.iload 4, 2) := by decide +kernel
theorem dL_isTold_9 : decode cL_isTold 9 = .ok (.aload_n 2, 1) := by decide +kernel
theorem dL_isTold_10 : decode cL_isTold 10 = .ok (.iconst 1, 1) := by decide +kernel
theorem dL_isTold_11 : decode cL_isTold 11 = .ok (.iaload, 1) := by decide +kernel
theorem dL_isTold_12 : decode cL_isTold 12 = .ok (.if_icmp .lt 77, 3) := by decide +kernel
theorem dL_isTold_15 : decode cL_isTold 15 = .ok (.aload_n 0, 1) := by decide +kernel
theorem dL_isTold_16 : decode cL_isTold 16 = .ok (.bipush 11, 2) := by decide +kernel
theorem dL_isTold_18 : decode cL_isTold 18 = .ok (.iload_n 3, 1) := by decide +kernel
theorem dL_isTold_19 : decode cL_isTold 19 = .ok (.iload 4, 2) := by decide +kernel
theorem dL_isTold_21 : decode cL_isTold 21 = .ok (.iconst 0, 1) := by decide +kernel
theorem dL_isTold_22 : decode cL_isTold 22 = .ok (.iconst 0, 1) := by decide +kernel
theorem dL_isTold_23 : decode cL_isTold 23 = .ok (.iconst 0, 1) := by decide +kernel
theorem dL_isTold_24 : decode cL_isTold 24 = .ok (.invokestatic 84, 3) := by decide +kernel
theorem dL_isTold_27 : decode cL_isTold 27 = .ok (.ldc 68, 2) := by decide +kernel
theorem dL_isTold_29 : decode cL_isTold 29 = .ok (.if_icmp .ne 58, 3) := by decide +kernel
theorem dL_isTold_32 : decode cL_isTold 32 = .ok (.aload_n 0, 1) := by decide +kernel
theorem dL_isTold_33 : decode cL_isTold 33 = .ok (.bipush 15, 2) := by decide +kernel
theorem dL_isTold_35 : decode cL_isTold 35 = .ok (.iload_n 3, 1) := by decide +kernel
theorem dL_isTold_36 : decode cL_isTold 36 = .ok (.iload 4, 2) := by decide +kernel
theorem dL_isTold_38 : decode cL_isTold 38 = .ok (.iconst 0, 1) := by decide +kernel
theorem dL_isTold_39 : decode cL_isTold 39 = .ok (.iconst 0, 1) := by decide +kernel
theorem dL_isTold_40 : decode cL_isTold 40 = .ok (.iconst 0, 1) := by decide +kernel
theorem dL_isTold_41 : decode cL_isTold 41 = .ok (.invokestatic 84, 3) := by decide +kernel
theorem dL_isTold_44 : decode cL_isTold 44 = .ok (.ldc 68, 2) := by decide +kernel
theorem dL_isTold_46 : decode cL_isTold 46 = .ok (.if_icmp .ne 41, 3) := by decide +kernel
theorem dL_isTold_49 : decode cL_isTold 49 = .ok (.aload_n 0, 1) := by decide +kernel
theorem dL_isTold_50 : decode cL_isTold 50 = .ok (.bipush 13, 2) := by decide +kernel
theorem dL_isTold_52 : decode cL_isTold 52 = .ok (.iload_n 3, 1) := by decide +kernel
theorem dL_isTold_53 : decode cL_isTold 53 = .ok (.iload 4, 2) := by decide +kernel
theorem dL_isTold_55 : decode cL_isTold 55 = .ok (.iconst 0, 1) := by decide +kernel
theorem dL_isTold_56 : decode cL_isTold 56 = .ok (.iconst 0, 1) := by decide +kernel
theorem dL_isTold_57 : decode cL_isTold 57 = .ok (.iconst 0, 1) := by decide +kernel
theorem dL_isTold_58 : decode cL_isTold 58 = .ok (.invokestatic 84, 3) := by decide +kernel
theorem dL_isTold_61 : decode cL_isTold 61 = .ok (.ldc 68, 2) := by decide +kernel
theorem dL_isTold_63 : decode cL_isTold 63 = .ok (.if_icmp .ne 24, 3) := by decide +kernel
theorem dL_isTold_66 : decode cL_isTold 66 = .ok (.aload_n 0, 1) := by decide +kernel
theorem dL_isTold_67 : decode cL_isTold 67 = .ok (.bipush 14, 2) := by decide +kernel
theorem dL_isTold_69 : decode cL_isTold 69 = .ok (.iload_n 3, 1) := by decide +kernel
theorem dL_isTold_70 : decode cL_isTold 70 = .ok (.iload 4, 2) := by decide +kernel
theorem dL_isTold_72 : decode cL_isTold 72 = .ok (.iconst 0, 1) := by decide +kernel
theorem dL_isTold_73 : decode cL_isTold 73 = .ok (.iconst 0, 1) := by decide +kernel
theorem dL_isTold_74 : decode cL_isTold 74 = .ok (.iconst 0, 1) := by decide +kernel
theorem dL_isTold_75 : decode cL_isTold 75 = .ok (.invokestatic 84, 3) := by decide +kernel
theorem dL_isTold_78 : decode cL_isTold 78 = .ok (.ldc 68, 2) := by decide +kernel
theorem dL_isTold_80 : decode cL_isTold 80 = .ok (.if_icmp .ne 7, 3) := by decide +kernel
theorem dL_isTold_83 : decode cL_isTold 83 = .ok (.iconst 1, 1) := by decide +kernel
theorem dL_isTold_84 : decode cL_isTold 84 = .ok (.goto 4, 3) := by decide +kernel
theorem dL_isTold_87 : decode cL_isTold 87 = .ok (.iconst 0, 1) := by decide +kernel
theorem dL_isTold_88 : decode cL_isTold 88 = .ok (.ireturn, 1) := by decide +kernel
theorem dL_isTold_89 : decode cL_isTold 89 = .ok (.aload_n 0, 1) := by decide +kernel
theorem dL_isTold_90 : decode cL_isTold 90 = .ok (.iload_n 3, 1) := by decide +kernel
theorem dL_isTold_91 : decode cL_isTold 91 = .ok (.iload 4, 2) := by decide +kernel
theorem dL_isTold_93 : decode cL_isTold 93 = .ok (.invokevirtual 59, 3) := by decide +kernel
theorem dL_isTold_96 : decode cL_isTold 96 = .ok (.istore 5, 2) := by decide +kernel
theorem dL_isTold_98 : decode cL_isTold 98 = .ok (.aload_n 0, 1) := by decide +kernel
theorem dL_isTold_99 : decode cL_isTold 99 = .ok (.iload_n 3, 1) := by decide +kernel
theorem dL_isTold_100 : decode cL_isTold 100 = .ok (.iload 4, 2) := by decide +kernel
theorem dL_isTold_102 : decode cL_isTold 102 = .ok (.invokevirtual 63, 3) := by decide +kernel
theorem dL_isTold_105 : decode cL_isTold 105 = .ok (.istore 6, 2) := by decide +kernel
theorem dL_isTold_107 : decode cL_isTold 107 = .ok (.aload_n 0, 1) := by decide +kernel
theorem dL_isTold_108 : decode cL_isTold 108 = .ok (.invokevirtual 95, 3) := by decide +kernel
theorem dL_isTold_111 : decode cL_isTold 111 = .ok (.aload_n 2, 1) := by decide +kernel
theorem dL_isTold_112 : decode cL_isTold 112 = .ok (.bipush 6, 2) := by decide +kernel
theorem dL_isTold_114 : decode cL_isTold 114 = .ok (.iaload, 1) := by decide +kernel
theorem dL_isTold_115 : decode cL_isTold 115 = .ok (.if_icmp .ne 19, 3) := by decide +kernel
theorem dL_isTold_118 : decode cL_isTold 118 = .ok (.aload_n 0, 1) := by decide +kernel
theorem dL_isTold_119 : decode cL_isTold 119 = .ok (.iload_n 3, 1) := by decide +kernel
theorem dL_isTold_120 : decode cL_isTold 120 = .ok (.iload 4, 2) := by decide +kernel
theorem dL_isTold_122 : decode cL_isTold 122 = .ok (.invokevirtual 59, 3) := by decide +kernel
theorem dL_isTold_125 : decode cL_isTold 125 = .ok (.iload 5, 2) := by decide +kernel
theorem dL_isTold_127 : decode cL_isTold 127 = .ok (.if_icmp .ne 7, 3) := by decide +kernel
theorem dL_isTold_130 : decode cL_isTold 130 = .ok (.iconst 1, 1) := by decide +kernel
theorem dL_isTold_131 : decode cL_isTold 131 = .ok (.goto 4, 3) := by decide +kernel
theorem dL_isTold_134 : decode cL_isTold 134 = .ok (.iconst 0, 1) := by decide +kernel
theorem dL_isTold_135 : decode cL_isTold 135 = .ok (.istore 7, 2) := by decide +kernel
theorem dL_isTold_137 : decode cL_isTold 137 = .ok (.iload 7, 2) := by decide +kernel
theorem dL_isTold_139 : decode cL_isTold 139 = .ok (.ifCond .eq 42, 3) := by decide +kernel
theorem dL_isTold_142 : decode cL_isTold 142 = .ok (.aload_n 0, 1) := by decide +kernel
theorem dL_isTold_143 : decode cL_isTold 143 = .ok (.iload_n 3, 1) := by decide +kernel
theorem dL_isTold_144 : decode cL_isTold 144 = .ok (.iload 4, 2) := by decide +kernel
theorem dL_isTold_146 : decode cL_isTold 146 = .ok (.invokevirtual 50, 3) := by decide +kernel
theorem dL_isTold_149 : decode cL_isTold 149 = .ok (.iload 6, 2) := by decide +kernel
theorem dL_isTold_151 : decode cL_isTold 151 = .ok (.if_icmp .ne 30, 3) := by decide +kernel
theorem dL_isTold_154 : decode cL_isTold 154 = .ok (.aload_n 0, 1) := by decide +kernel
theorem dL_isTold_155 : decode cL_isTold 155 = .ok (.iload_n 3, 1) := by decide +kernel
theorem dL_isTold_156 : decode cL_isTold 156 = .ok (.iload 4, 2) := by decide +kernel
theorem dL_isTold_158 : decode cL_isTold 158 = .ok (.invokevirtual 59, 3) := by decide +kernel
theorem dL_isTold_161 : decode cL_isTold 161 = .ok (.aload_n 1, 1) := by decide +kernel
theorem dL_isTold_162 : decode cL_isTold 162 = .ok (.iload 4, 2) := by decide +kernel
theorem dL_isTold_164 : decode cL_isTold 164 = .ok (.iaload, 1) := by decide +kernel
theorem dL_isTold_165 : decode cL_isTold 165 = .ok (.iconst 3, 1) := by decide +kernel
theorem dL_isTold_166 : decode cL_isTold 166 = .ok (.if_icmp .ge 7, 3) := by decide +kernel
theorem dL_isTold_169 : decode cL_isTold 169 = .ok (.iconst 1, 1) := by decide +kernel
theorem dL_isTold_170 : decode cL_isTold 170 = .ok (.goto 4, 3) := by decide +kernel
theorem dL_isTold_173 : decode cL_isTold 173 = .ok (.iconst 0, 1) := by decide +kernel
theorem dL_isTold_174 : decode cL_isTold 174 = .ok (.if_icmp .ne 7, 3) := by decide +kernel
theorem dL_isTold_177 : decode cL_isTold 177 = .ok (.iconst 1, 1) := by decide +kernel
theorem dL_isTold_178 : decode cL_isTold 178 = .ok (.goto 4, 3) := by decide +kernel
theorem dL_isTold_181 : decode cL_isTold 181 = .ok (.iconst 0, 1) := by decide +kernel
theorem dL_isTold_182 : decode cL_isTold 182 = .ok (.istore 7, 2) := by decide +kernel
theorem dL_isTold_184 : decode cL_isTold 184 = .ok (.iload 7, 2) := by decide +kernel
theorem dL_isTold_186 : decode cL_isTold 186 = .ok (.ifCond .eq 45, 3) := by decide +kernel
theorem dL_isTold_189 : decode cL_isTold 189 = .ok (.iload 5, 2) := by decide +kernel
theorem dL_isTold_191 : decode cL_isTold 191 = .ok (.ifCond .ne 11, 3) := by decide +kernel
theorem dL_isTold_194 : decode cL_isTold 194 = .ok (.aload_n 1, 1) := by decide +kernel
theorem dL_isTold_195 : decode cL_isTold 195 = .ok (.iload 4, 2) := by decide +kernel
theorem dL_isTold_197 : decode cL_isTold 197 = .ok (.iaload, 1) := by decide +kernel
theorem dL_isTold_198 : decode cL_isTold 198 = .ok (.iconst 3, 1) := by decide +kernel
theorem dL_isTold_199 : decode cL_isTold 199 = .ok (.if_icmp .ne 17, 3) := by decide +kernel
theorem dL_isTold_202 : decode cL_isTold 202 = .ok (.aload_n 0, 1) := by decide +kernel
theorem dL_isTold_203 : decode cL_isTold 203 = .ok (.invokevirtual 95, 3) := by decide +kernel
theorem dL_isTold_206 : decode cL_isTold 206 = .ok (.aload_n 2, 1) := by decide +kernel
theorem dL_isTold_207 : decode cL_isTold 207 = .ok (.bipush 6, 2) := by decide +kernel
theorem dL_isTold_209 : decode cL_isTold 209 = .ok (.iaload, 1) := by decide +kernel
theorem dL_isTold_210 : decode cL_isTold 210 = .ok (.if_icmp .ne 21, 3) := by decide +kernel
theorem dL_isTold_213 : decode cL_isTold 213 = .ok (.goto 14, 3) := by decide +kernel
theorem dL_isTold_216 : decode cL_isTold 216 = .ok (.aload_n 0, 1) := by decide +kernel
theorem dL_isTold_217 : decode cL_isTold 217 = .ok (.invokevirtual 95, 3) := by decide +kernel
theorem dL_isTold_220 : decode cL_isTold 220 = .ok (.aload_n 2, 1) := by decide +kernel
theorem dL_isTold_221 : decode cL_isTold 221 = .ok (.bipush 6, 2) := by decide +kernel
theorem dL_isTold_223 : decode cL_isTold 223 = .ok (.iaload, 1) := by decide +kernel
theorem dL_isTold_224 : decode cL_isTold 224 = .ok (.if_icmp .le 7, 3) := by decide +kernel
theorem dL_isTold_227 : decode cL_isTold 227 = .ok (.iconst 1, 1) := by decide +kernel
theorem dL_isTold_228 : decode cL_isTold 228 = .ok (.goto 4, 3) := by decide +kernel
theorem dL_isTold_231 : decode cL_isTold 231 = .ok (.iconst 0, 1) := by decide +kernel
theorem dL_isTold_232 : decode cL_isTold 232 = .ok (.istore 7, 2) := by decide +kernel
theorem dL_isTold_234 : decode cL_isTold 234 = .ok (.aload_n 2, 1) := by decide +kernel
theorem dL_isTold_235 : decode cL_isTold 235 = .ok (.bipush 6, 2) := by decide +kernel
theorem dL_isTold_237 : decode cL_isTold 237 = .ok (.aload_n 0, 1) := by decide +kernel
theorem dL_isTold_238 : decode cL_isTold 238 = .ok (.invokevirtual 95, 3) := by decide +kernel
theorem dL_isTold_241 : decode cL_isTold 241 = .ok (.iastore, 1) := by decide +kernel
theorem dL_isTold_242 : decode cL_isTold 242 = .ok (.iload 6, 2) := by decide +kernel
theorem dL_isTold_244 : decode cL_isTold 244 = .ok (.bipush (-3), 2) := by decide +kernel
theorem dL_isTold_246 : decode cL_isTold 246 = .ok (.if_icmp .lt 19, 3) := by decide +kernel
theorem dL_isTold_249 : decode cL_isTold 249 = .ok (.iload 6, 2) := by decide +kernel
theorem dL_isTold_251 : decode cL_isTold 251 = .ok (.sipush 1000, 3) := by decide +kernel
theorem dL_isTold_254 : decode cL_isTold 254 = .ok (.aload_n 2, 1) := by decide +kernel
theorem dL_isTold_255 : decode cL_isTold 255 = .ok (.iconst 4, 1) := by decide +kernel
theorem dL_isTold_256 : decode cL_isTold 256 = .ok (.iaload, 1) := by decide +kernel
theorem dL_isTold_257 : decode cL_isTold 257 = .ok (.iadd, 1) := by decide +kernel
theorem dL_isTold_258 : decode cL_isTold 258 = .ok (.if_icmp .ge 7, 3) := by decide +kernel
theorem dL_isTold_261 : decode cL_isTold 261 = .ok (.iconst 1, 1) := by decide +kernel
theorem dL_isTold_262 : decode cL_isTold 262 = .ok (.goto 4, 3) := by decide +kernel
theorem dL_isTold_265 : decode cL_isTold 265 = .ok (.iconst 0, 1) := by decide +kernel
theorem dL_isTold_266 : decode cL_isTold 266 = .ok (.istore 8, 2) := by decide +kernel
theorem dL_isTold_268 : decode cL_isTold 268 = .ok (.iload 7, 2) := by decide +kernel
theorem dL_isTold_270 : decode cL_isTold 270 = .ok (.ifCond .eq 51, 3) := by decide +kernel
theorem dL_isTold_273 : decode cL_isTold 273 = .ok (.iload 8, 2) := by decide +kernel
theorem dL_isTold_275 : decode cL_isTold 275 = .ok (.ifCond .eq 46, 3) := by decide +kernel
theorem dL_isTold_278 : decode cL_isTold 278 = .ok (.aload_n 0, 1) := by decide +kernel
theorem dL_isTold_279 : decode cL_isTold 279 = .ok (.iload_n 3, 1) := by decide +kernel
theorem dL_isTold_280 : decode cL_isTold 280 = .ok (.iload 4, 2) := by decide +kernel
theorem dL_isTold_282 : decode cL_isTold 282 = .ok (.invokevirtual 50, 3) := by decide +kernel
theorem dL_isTold_285 : decode cL_isTold 285 = .ok (.iload 6, 2) := by decide +kernel
theorem dL_isTold_287 : decode cL_isTold 287 = .ok (.if_icmp .ne 34, 3) := by decide +kernel
theorem dL_isTold_290 : decode cL_isTold 290 = .ok (.aload_n 0, 1) := by decide +kernel
theorem dL_isTold_291 : decode cL_isTold 291 = .ok (.invokevirtual 95, 3) := by decide +kernel
theorem dL_isTold_294 : decode cL_isTold 294 = .ok (.aload_n 2, 1) := by decide +kernel
theorem dL_isTold_295 : decode cL_isTold 295 = .ok (.bipush 6, 2) := by decide +kernel
theorem dL_isTold_297 : decode cL_isTold 297 = .ok (.iaload, 1) := by decide +kernel
theorem dL_isTold_298 : decode cL_isTold 298 = .ok (.if_icmp .ne 23, 3) := by decide +kernel
theorem dL_isTold_301 : decode cL_isTold 301 = .ok (.aload_n 1, 1) := by decide +kernel
theorem dL_isTold_302 : decode cL_isTold 302 = .ok (.iload 4, 2) := by decide +kernel
theorem dL_isTold_304 : decode cL_isTold 304 = .ok (.iaload, 1) := by decide +kernel
theorem dL_isTold_305 : decode cL_isTold 305 = .ok (.iconst 3, 1) := by decide +kernel
theorem dL_isTold_306 : decode cL_isTold 306 = .ok (.if_icmp .ne 11, 3) := by decide +kernel
theorem dL_isTold_309 : decode cL_isTold 309 = .ok (.iload 6, 2) := by decide +kernel
theorem dL_isTold_311 : decode cL_isTold 311 = .ok (.sipush 1000, 3) := by decide +kernel
theorem dL_isTold_314 : decode cL_isTold 314 = .ok (.if_icmp .ge 7, 3) := by decide +kernel
theorem dL_isTold_317 : decode cL_isTold 317 = .ok (.iconst 1, 1) := by decide +kernel
theorem dL_isTold_318 : decode cL_isTold 318 = .ok (.goto 4, 3) := by decide +kernel
theorem dL_isTold_321 : decode cL_isTold 321 = .ok (.iconst 0, 1) := by decide +kernel
theorem dL_isTold_322 : decode cL_isTold 322 = .ok (.ireturn, 1) := by decide +kernel
theorem dL_areReads_0 : decode cL_areReads 0 = .ok (.iconst 1, 1) := by decide +kernel
theorem dL_areReads_1 : decode cL_areReads 1 = .ok (.istore 5, 2) := by decide +kernel
theorem dL_areReads_3 : decode cL_areReads 3 = .ok (.aload_n 0, 1) := by decide +kernel
theorem dL_areReads_4 : decode cL_areReads 4 = .ok (.iload_n 3, 1) := by decide +kernel
theorem dL_areReads_5 : decode cL_areReads 5 = .ok (.iload 4, 2) := by decide +kernel
theorem dL_areReads_7 : decode cL_areReads 7 = .ok (.invokevirtual 59, 3) := by decide +kernel
theorem dL_areReads_10 : decode cL_areReads 10 = .ok (.istore 6, 2) := by decide +kernel
theorem dL_areReads_12 : decode cL_areReads 12 = .ok (.iconst 4, 1) := by decide +kernel
theorem dL_areReads_13 : decode cL_areReads 13 = .ok (.newarray .int, 2) := by decide +kernel
theorem dL_areReads_15 : decode cL_areReads 15 = .ok (.astore 7, 2) := by decide +kernel
theorem dL_areReads_17 : decode cL_areReads 17 = .ok (.iconst 0, 1) := by decide +kernel
theorem dL_areReads_18 : decode cL_areReads 18 = .ok (.istore 8, 2) := by decide +kernel
theorem dL_areReads_20 : decode cL_areReads 20 = .ok (.aload_n 0, 1) := by decide +kernel
theorem dL_areReads_21 : decode cL_areReads 21 = .ok (.bipush 13, 2) := by decide +kernel
theorem dL_areReads_23 : decode cL_areReads 23 = .ok (.iload_n 3, 1) := by decide +kernel
theorem dL_areReads_24 : decode cL_areReads 24 = .ok (.iload 4, 2) := by decide +kernel
theorem dL_areReads_26 : decode cL_areReads 26 = .ok (.iconst 0, 1) := by decide +kernel
theorem dL_areReads_27 : decode cL_areReads 27 = .ok (.iconst 0, 1) := by decide +kernel
theorem dL_areReads_28 : decode cL_areReads 28 = .ok (.iconst 0, 1) := by decide +kernel
theorem dL_areReads_29 : decode cL_areReads 29 = .ok (.invokestatic 84, 3) := by decide +kernel
theorem dL_areReads_32 : decode cL_areReads 32 = .ok (.istore 9, 2) := by decide +kernel
theorem dL_areReads_34 : decode cL_areReads 34 = .ok (.iload 9, 2) := by decide +kernel
theorem dL_areReads_36 : decode cL_areReads 36 = .ok (.ifCond .lt 146, 3) := by decide +kernel
theorem dL_areReads_39 : decode cL_areReads 39 = .ok (.iload 5, 2) := by decide +kernel
theorem dL_areReads_41 : decode cL_areReads 41 = .ok (.ifCond .eq 141, 3) := by decide +kernel
theorem dL_areReads_44 : decode cL_areReads 44 = .ok (.iload 9, 2) := by decide +kernel
theorem dL_areReads_46 : decode cL_areReads 46 = .ok (.bipush 10, 2) := by decide +kernel
theorem dL_areReads_48 : decode cL_areReads 48 = .ok (.idiv, 1) := by decide +kernel
theorem dL_areReads_49 : decode cL_areReads 49 = .ok (.aload_n 2, 1) := by decide +kernel
theorem dL_areReads_50 : decode cL_areReads 50 = .ok (.iconst 4, 1) := by decide +kernel
theorem dL_areReads_51 : decode cL_areReads 51 = .ok (.iaload, 1) := by decide +kernel
theorem dL_areReads_52 : decode cL_areReads 52 = .ok (.if_icmp .ge 51, 3) := by decide +kernel
theorem dL_areReads_55 : decode cL_areReads 55 = .ok (.iload 9, 2) := by decide +kernel
theorem dL_areReads_57 : decode cL_areReads 57 = .ok (.bipush 10, 2) := by decide +kernel
theorem dL_areReads_59 : decode cL_areReads 59 = .ok (.irem, 1) := by decide +kernel
theorem dL_areReads_60 : decode cL_areReads 60 = .ok (.aload_n 2, 1) := by decide +kernel
theorem dL_areReads_61 : decode cL_areReads 61 = .ok (.iconst 1, 1) := by decide +kernel
theorem dL_areReads_62 : decode cL_areReads 62 = .ok (.iaload, 1) := by decide +kernel
theorem dL_areReads_63 : decode cL_areReads 63 = .ok (.if_icmp .ge 40, 3) := by decide +kernel
theorem dL_areReads_66 : decode cL_areReads 66 = .ok (.iload 6, 2) := by decide +kernel
theorem dL_areReads_68 : decode cL_areReads 68 = .ok (.ifCond .eq 31, 3) := by decide +kernel
theorem dL_areReads_71 : decode cL_areReads 71 = .ok (.aload_n 1, 1) := by decide +kernel
theorem dL_areReads_72 : decode cL_areReads 72 = .ok (.iload 9, 2) := by decide +kernel
theorem dL_areReads_74 : decode cL_areReads 74 = .ok (.bipush 10, 2) := by decide +kernel
theorem dL_areReads_76 : decode cL_areReads 76 = .ok (.irem, 1) := by decide +kernel
theorem dL_areReads_77 : decode cL_areReads 77 = .ok (.iaload, 1) := by decide +kernel
theorem dL_areReads_78 : decode cL_areReads 78 = .ok (.iconst 3, 1) := by decide +kernel
theorem dL_areReads_79 : decode cL_areReads 79 = .ok (.if_icmp .eq 20, 3) := by decide +kernel
theorem dL_areReads_82 : decode cL_areReads 82 = .ok (.aload_n 0, 1) := by decide +kernel
theorem dL_areReads_83 : decode cL_areReads 83 = .ok (.iload 9, 2) := by decide +kernel
theorem dL_areReads_85 : decode cL_areReads 85 = .ok (.bipush 10, 2) := by decide +kernel
theorem dL_areReads_87 : decode cL_areReads 87 = .ok (.idiv, 1) := by decide +kernel
theorem dL_areReads_88 : decode cL_areReads 88 = .ok (.iload 9, 2) := by decide +kernel
theorem dL_areReads_90 : decode cL_areReads 90 = .ok (.bipush 10, 2) := by decide +kernel
theorem dL_areReads_92 : decode cL_areReads 92 = .ok (.irem, 1) := by decide +kernel
theorem dL_areReads_93 : decode cL_areReads 93 = .ok (.invokevirtual 59, 3) := by decide +kernel
theorem dL_areReads_96 : decode cL_areReads 96 = .ok (.ifCond .eq 7, 3) := by decide +kernel
theorem dL_areReads_99 : decode cL_areReads 99 = .ok (.iconst 1, 1) := by decide +kernel
theorem dL_areReads_100 : decode cL_areReads 100 = .ok (.goto 4, 3) := by decide +kernel
theorem dL_areReads_103 : decode cL_areReads 103 = .ok (.iconst 0, 1) := by decide +kernel
theorem dL_areReads_104 : decode cL_areReads 104 = .ok (.istore 5, 2) := by decide +kernel
theorem dL_areReads_106 : decode cL_areReads 106 = .ok (.iconst 0, 1) := by decide +kernel
theorem dL_areReads_107 : decode cL_areReads 107 = .ok (.istore 10, 2) := by decide +kernel
theorem dL_areReads_109 : decode cL_areReads 109 = .ok (.iload 10, 2) := by decide +kernel
theorem dL_areReads_111 : decode cL_areReads 111 = .ok (.iload 8, 2) := by decide +kernel
theorem dL_areReads_113 : decode cL_areReads 113 = .ok (.if_icmp .ge 31, 3) := by decide +kernel
theorem dL_areReads_116 : decode cL_areReads 116 = .ok (.iload 5, 2) := by decide +kernel
theorem dL_areReads_118 : decode cL_areReads 118 = .ok (.ifCond .eq 26, 3) := by decide +kernel
theorem dL_areReads_121 : decode cL_areReads 121 = .ok (.aload 7, 2) := by decide +kernel
theorem dL_areReads_123 : decode cL_areReads 123 = .ok (.iload 10, 2) := by decide +kernel
theorem dL_areReads_125 : decode cL_areReads 125 = .ok (.iaload, 1) := by decide +kernel
theorem dL_areReads_126 : decode cL_areReads 126 = .ok (.iload 9, 2) := by decide +kernel
theorem dL_areReads_128 : decode cL_areReads 128 = .ok (.if_icmp .eq 7, 3) := by decide +kernel
theorem dL_areReads_131 : decode cL_areReads 131 = .ok (.iconst 1, 1) := by decide +kernel
theorem dL_areReads_132 : decode cL_areReads 132 = .ok (.goto 4, 3) := by decide +kernel
theorem dL_areReads_135 : decode cL_areReads 135 = .ok (.iconst 0, 1) := by decide +kernel
theorem dL_areReads_136 : decode cL_areReads 136 = .ok (.istore 5, 2) := by decide +kernel
theorem dL_areReads_138 : decode cL_areReads 138 = .ok (.iinc 10 1, 3) := by decide +kernel
theorem dL_areReads_141 : decode cL_areReads 141 = .ok (.goto (-32), 3) := by decide +kernel
theorem dL_areReads_144 : decode cL_areReads 144 = .ok (.aload 7, 2) := by decide +kernel
theorem dL_areReads_146 : decode cL_areReads 146 = .ok (.iload 8, 2) := by decide +kernel
theorem dL_areReads_148 : decode cL_areReads 148 = .ok (.iload 9, 2) := by decide +kernel
theorem dL_areReads_150 : decode cL_areReads 150 = .ok (.iastore, 1) := by decide +kernel
theorem dL_areReads_151 : decode cL_areReads 151 = .ok (.iinc 8 1, 3) := by decide +kernel
theorem dL_areReads_154 : decode cL_areReads 154 = .ok (.iload 8, 2) := by decide +kernel
theorem dL_areReads_156 : decode cL_areReads 156 = .ok (.iconst 3, 1) := by decide +kernel
theorem dL_areReads_157 : decode cL_areReads 157 = .ok (.if_icmp .le 7, 3) := by decide +kernel
theorem dL_areReads_160 : decode cL_areReads 160 = .ok (.iconst (-1), 1) := by decide +kernel
theorem dL_areReads_161 : decode cL_areReads 161 = .ok (.goto 16, 3) := by decide +kernel
theorem dL_areReads_164 : decode cL_areReads 164 = .ok (.aload_n 0, 1) := by decide +kernel
theorem dL_areReads_165 : decode cL_areReads 165 = .ok (.bipush 13, 2) := by decide +kernel
theorem dL_areReads_167 : decode cL_areReads 167 = .ok (.iload_n 3, 1) := by decide +kernel
theorem dL_areReads_168 : decode cL_areReads 168 = .ok (.iload 4, 2) := by decide +kernel
theorem dL_areReads_170 : decode cL_areReads 170 = .ok (.iload 8, 2) := by decide +kernel
theorem dL_areReads_172 : decode cL_areReads 172 = .ok (.iconst 0, 1) := by decide +kernel
theorem dL_areReads_173 : decode cL_areReads 173 = .ok (.iconst 0, 1) := by decide +kernel
theorem dL_areReads_174 : decode cL_areReads 174 = .ok (.invokestatic 84, 3) := by decide +kernel
theorem dL_areReads_177 : decode cL_areReads 177 = .ok (.istore 9, 2) := by decide +kernel
theorem dL_areReads_179 : decode cL_areReads 179 = .ok (.goto (-145), 3) := by decide +kernel
theorem dL_areReads_182 : decode cL_areReads 182 = .ok (.iload 5, 2) := by decide +kernel
theorem dL_areReads_184 : decode cL_areReads 184 = .ok (.ifCond .eq 35, 3) := by decide +kernel
theorem dL_areReads_187 : decode cL_areReads 187 = .ok (.aload_n 0, 1) := by decide +kernel
theorem dL_areReads_188 : decode cL_areReads 188 = .ok (.invokevirtual 95, 3) := by decide +kernel
theorem dL_areReads_191 : decode cL_areReads 191 = .ok (.aload_n 2, 1) := by decide +kernel
theorem dL_areReads_192 : decode cL_areReads 192 = .ok (.bipush 6, 2) := by decide +kernel
theorem dL_areReads_194 : decode cL_areReads 194 = .ok (.iaload, 1) := by decide +kernel
theorem dL_areReads_195 : decode cL_areReads 195 = .ok (.if_icmp .ne 24, 3) := by decide +kernel
theorem dL_areReads_198 : decode cL_areReads 198 = .ok (.aload_n 0, 1) := by decide +kernel
theorem dL_areReads_199 : decode cL_areReads 199 = .ok (.bipush 13, 2) := by decide +kernel
theorem dL_areReads_201 : decode cL_areReads 201 = .ok (.iload_n 3, 1) := by decide +kernel
theorem dL_areReads_202 : decode cL_areReads 202 = .ok (.iload 4, 2) := by decide +kernel
theorem dL_areReads_204 : decode cL_areReads 204 = .ok (.iconst (-1), 1) := by decide +kernel
theorem dL_areReads_205 : decode cL_areReads 205 = .ok (.iconst 0, 1) := by decide +kernel
theorem dL_areReads_206 : decode cL_areReads 206 = .ok (.iconst 0, 1) := by decide +kernel
theorem dL_areReads_207 : decode cL_areReads 207 = .ok (.invokestatic 84, 3) := by decide +kernel
theorem dL_areReads_210 : decode cL_areReads 210 = .ok (.ldc 68, 2) := by decide +kernel
theorem dL_areReads_212 : decode cL_areReads 212 = .ok (.if_icmp .ne 7, 3) := by decide +kernel
theorem dL_areReads_215 : decode cL_areReads 215 = .ok (.iconst 1, 1) := by decide +kernel
theorem dL_areReads_216 : decode cL_areReads 216 = .ok (.goto 4, 3) := by decide +kernel
theorem dL_areReads_219 : decode cL_areReads 219 = .ok (.iconst 0, 1) := by decide +kernel
theorem dL_areReads_220 : decode cL_areReads 220 = .ok (.ireturn, 1) := by decide +kernel
theorem dL_conflicts_0 : decode cL_conflicts 0 = .ok (.iconst 0, 1) := by decide +kernel
theorem dL_conflicts_1 : decode cL_conflicts 1 = .ok (.istore_n 2, 1) := by decide +kernel
theorem dL_conflicts_2 : decode cL_conflicts 2 = .ok (.iconst 0, 1) := by decide +kernel
theorem dL_conflicts_3 : decode cL_conflicts 3 = .ok (.istore_n 3, 1) := by decide +kernel
theorem dL_conflicts_4 : decode cL_conflicts 4 = .ok (.iload_n 3, 1) := by decide +kernel
theorem dL_conflicts_5 : decode cL_conflicts 5 = .ok (.aload_n 1, 1) := by decide +kernel
theorem dL_conflicts_6 : decode cL_conflicts 6 = .ok (.iconst 2, 1) := by decide +kernel
theorem dL_conflicts_7 : decode cL_conflicts 7 = .ok (.iaload, 1) := by decide +kernel
theorem dL_conflicts_8 : decode cL_conflicts 8 = .ok (.if_icmp .ge 136, 3) := by decide +kernel
theorem dL_conflicts_11 : decode cL_conflicts 11 = .ok (.iconst 0, 1) := by decide +kernel
theorem dL_conflicts_12 : decode cL_conflicts 12 = .ok (.istore 4, 2) := by decide +kernel
theorem dL_conflicts_14 : decode cL_conflicts 14 = .ok (.iconst 0, 1) := by decide +kernel
theorem dL_conflicts_15 : decode cL_conflicts 15 = .ok (.istore 5, 2) := by decide +kernel
theorem dL_conflicts_17 : decode cL_conflicts 17 = .ok (.iload 5, 2) := by decide +kernel
theorem dL_conflicts_19 : decode cL_conflicts 19 = .ok (.aload_n 1, 1) := by decide +kernel
theorem dL_conflicts_20 : decode cL_conflicts 20 = .ok (.iconst 2, 1) := by decide +kernel
theorem dL_conflicts_21 : decode cL_conflicts 21 = .ok (.iaload, 1) := by decide +kernel
theorem dL_conflicts_22 : decode cL_conflicts 22 = .ok (.if_icmp .ge 103, 3) := by decide +kernel
theorem dL_conflicts_25 : decode cL_conflicts 25 = .ok (.aload_n 1, 1) := by decide +kernel
theorem dL_conflicts_26 : decode cL_conflicts 26 = .ok (.iconst 5, 1) := by decide +kernel
theorem dL_conflicts_27 : decode cL_conflicts 27 = .ok (.iaload, 1) := by decide +kernel
theorem dL_conflicts_28 : decode cL_conflicts 28 = .ok (.aload_n 0, 1) := by decide +kernel
theorem dL_conflicts_29 : decode cL_conflicts 29 = .ok (.iload_n 3, 1) := by decide +kernel
theorem dL_conflicts_30 : decode cL_conflicts 30 = .ok (.iaload, 1) := by decide +kernel
theorem dL_conflicts_31 : decode cL_conflicts 31 = .ok (.sipush 2000, 3) := by decide +kernel
theorem dL_conflicts_34 : decode cL_conflicts 34 = .ok (.idiv, 1) := by decide +kernel
theorem dL_conflicts_35 : decode cL_conflicts 35 = .ok (.ishr, 1) := by decide +kernel
theorem dL_conflicts_36 : decode cL_conflicts 36 = .ok (.iconst 1, 1) := by decide +kernel
theorem dL_conflicts_37 : decode cL_conflicts 37 = .ok (.iand, 1) := by decide +kernel
theorem dL_conflicts_38 : decode cL_conflicts 38 = .ok (.ifCond .ne 24, 3) := by decide +kernel
theorem dL_conflicts_41 : decode cL_conflicts 41 = .ok (.aload_n 1, 1) := by decide +kernel
theorem dL_conflicts_42 : decode cL_conflicts 42 = .ok (.iconst 5, 1) := by decide +kernel
theorem dL_conflicts_43 : decode cL_conflicts 43 = .ok (.iaload, 1) := by decide +kernel
theorem dL_conflicts_44 : decode cL_conflicts 44 = .ok (.aload_n 0, 1) := by decide +kernel
theorem dL_conflicts_45 : decode cL_conflicts 45 = .ok (.iload 5, 2) := by decide +kernel
theorem dL_conflicts_47 : decode cL_conflicts 47 = .ok (.iaload, 1) := by decide +kernel
theorem dL_conflicts_48 : decode cL_conflicts 48 = .ok (.sipush 2000, 3) := by decide +kernel
theorem dL_conflicts_51 : decode cL_conflicts 51 = .ok (.idiv, 1) := by decide +kernel
theorem dL_conflicts_52 : decode cL_conflicts 52 = .ok (.ishr, 1) := by decide +kernel
theorem dL_conflicts_53 : decode cL_conflicts 53 = .ok (.iconst 1, 1) := by decide +kernel
theorem dL_conflicts_54 : decode cL_conflicts 54 = .ok (.iand, 1) := by decide +kernel
theorem dL_conflicts_55 : decode cL_conflicts 55 = .ok (.ifCond .ne 7, 3) := by decide +kernel
theorem dL_conflicts_58 : decode cL_conflicts 58 = .ok (.iconst 1, 1) := by decide +kernel
theorem dL_conflicts_59 : decode cL_conflicts 59 = .ok (.goto 4, 3) := by decide +kernel
theorem dL_conflicts_62 : decode cL_conflicts 62 = .ok (.iconst 0, 1) := by decide +kernel
theorem dL_conflicts_63 : decode cL_conflicts 63 = .ok (.istore 6, 2) := by decide +kernel
theorem dL_conflicts_65 : decode cL_conflicts 65 = .ok (.iload 4, 2) := by decide +kernel
theorem dL_conflicts_67 : decode cL_conflicts 67 = .ok (.ifCond .ne 45, 3) := by decide +kernel
theorem dL_conflicts_70 : decode cL_conflicts 70 = .ok (.iload_n 3, 1) := by decide +kernel
theorem dL_conflicts_71 : decode cL_conflicts 71 = .ok (.iload 5, 2) := by decide +kernel
theorem dL_conflicts_73 : decode cL_conflicts 73 = .ok (.if_icmp .eq 43, 3) := by decide +kernel
theorem dL_conflicts_76 : decode cL_conflicts 76 = .ok (.iload 6, 2) := by decide +kernel
theorem dL_conflicts_78 : decode cL_conflicts 78 = .ok (.ifCond .eq 38, 3) := by decide +kernel
theorem dL_conflicts_81 : decode cL_conflicts 81 = .ok (.aload_n 0, 1) := by decide +kernel
theorem dL_conflicts_82 : decode cL_conflicts 82 = .ok (.iload_n 3, 1) := by decide +kernel
theorem dL_conflicts_83 : decode cL_conflicts 83 = .ok (.iaload, 1) := by decide +kernel
theorem dL_conflicts_84 : decode cL_conflicts 84 = .ok (.sipush 200, 3) := by decide +kernel
theorem dL_conflicts_87 : decode cL_conflicts 87 = .ok (.idiv, 1) := by decide +kernel
theorem dL_conflicts_88 : decode cL_conflicts 88 = .ok (.bipush 10, 2) := by decide +kernel
theorem dL_conflicts_90 : decode cL_conflicts 90 = .ok (.irem, 1) := by decide +kernel
theorem dL_conflicts_91 : decode cL_conflicts 91 = .ok (.ifCond .le 25, 3) := by decide +kernel
theorem dL_conflicts_94 : decode cL_conflicts 94 = .ok (.aload_n 0, 1) := by decide +kernel
theorem dL_conflicts_95 : decode cL_conflicts 95 = .ok (.iload_n 3, 1) := by decide +kernel
theorem dL_conflicts_96 : decode cL_conflicts 96 = .ok (.iaload, 1) := by decide +kernel
theorem dL_conflicts_97 : decode cL_conflicts 97 = .ok (.sipush 2000, 3) := by decide +kernel
theorem dL_conflicts_100 : decode cL_conflicts 100 = .ok (.irem, 1) := by decide +kernel
theorem dL_conflicts_101 : decode cL_conflicts 101 = .ok (.aload_n 0, 1) := by decide +kernel
theorem dL_conflicts_102 : decode cL_conflicts 102 = .ok (.iload 5, 2) := by decide +kernel
theorem dL_conflicts_104 : decode cL_conflicts 104 = .ok (.iaload, 1) := by decide +kernel
theorem dL_conflicts_105 : decode cL_conflicts 105 = .ok (.sipush 2000, 3) := by decide +kernel
theorem dL_conflicts_108 : decode cL_conflicts 108 = .ok (.irem, 1) := by decide +kernel
theorem dL_conflicts_109 : decode cL_conflicts 109 = .ok (.if_icmp .ne 7, 3) := by decide +kernel
theorem dL_conflicts_112 : decode cL_conflicts 112 = .ok (.iconst 1, 1) := by decide +kernel
theorem dL_conflicts_113 : decode cL_conflicts 113 = .ok (.goto 4, 3) := by decide +kernel
theorem dL_conflicts_116 : decode cL_conflicts 116 = .ok (.iconst 0, 1) := by decide +kernel
theorem dL_conflicts_117 : decode cL_conflicts 117 = .ok (.istore 4, 2) := by decide +kernel
theorem dL_conflicts_119 : decode cL_conflicts 119 = .ok (.iinc 5 1, 3) := by decide +kernel
theorem dL_conflicts_122 : decode cL_conflicts 122 = .ok (.goto (-105), 3) := by decide +kernel
theorem dL_conflicts_125 : decode cL_conflicts 125 = .ok (.iload_n 2, 1) := by decide +kernel
theorem dL_conflicts_126 : decode cL_conflicts 126 = .ok (.iload 4, 2) := by decide +kernel
theorem dL_conflicts_128 : decode cL_conflicts 128 = .ok (.ifCond .eq 7, 3) := by decide +kernel
theorem dL_conflicts_131 : decode cL_conflicts 131 = .ok (.iconst 1, 1) := by decide +kernel
theorem dL_conflicts_132 : decode cL_conflicts 132 = .ok (.goto 4, 3) := by decide +kernel
theorem dL_conflicts_135 : decode cL_conflicts 135 = .ok (.iconst 0, 1) := by decide +kernel
theorem dL_conflicts_136 : decode cL_conflicts 136 = .ok (.iadd, 1) := by decide +kernel
theorem dL_conflicts_137 : decode cL_conflicts 137 = .ok (.istore_n 2, 1) := by decide +kernel
theorem dL_conflicts_138 : decode cL_conflicts 138 = .ok (.iinc 3 1, 3) := by decide +kernel
theorem dL_conflicts_141 : decode cL_conflicts 141 = .ok (.goto (-137), 3) := by decide +kernel
theorem dL_conflicts_144 : decode cL_conflicts 144 = .ok (.iload_n 2, 1) := by decide +kernel
theorem dL_conflicts_145 : decode cL_conflicts 145 = .ok (.ireturn, 1) := by decide +kernel
theorem dL_isProduction_0 : decode cL_isProduction 0 = .ok (.iload_n 3, 1) := by decide +kernel
theorem dL_isProduction_1 : decode cL_isProduction 1 = .ok (.bipush 11, 2) := by decide +kernel
theorem dL_isProduction_3 : decode cL_isProduction 3 = .ok (.irem, 1) := by decide +kernel
theorem dL_isProduction_4 : decode cL_isProduction 4 = .ok (.iconst 1, 1) := by decide +kernel
theorem dL_isProduction_5 : decode cL_isProduction 5 = .ok (.isub, 1) := by decide +kernel
theorem dL_isProduction_6 : decode cL_isProduction 6 = .ok (.istore 5, 2) := by decide +kernel
theorem dL_isProduction_8 : decode cL_isProduction 8 = .ok (.iload 5, 2) := by decide +kernel
theorem dL_isProduction_10 : decode cL_isProduction 10 = .ok (.ifCond .ge 7, 3) := by decide +kernel
theorem dL_isProduction_13 : decode cL_isProduction 13 = .ok (.iconst (-1), 1) := by decide +kernel
theorem dL_isProduction_14 : decode cL_isProduction 14 = .ok (.goto 12, 3) := by decide +kernel
theorem dL_isProduction_17 : decode cL_isProduction 17 = .ok (.iload_n 3, 1) := by decide +kernel
theorem dL_isProduction_18 : decode cL_isProduction 18 = .ok (.bipush 11, 2) := by decide +kernel
theorem dL_isProduction_20 : decode cL_isProduction 20 = .ok (.idiv, 1) := by decide +kernel
theorem dL_isProduction_21 : decode cL_isProduction 21 = .ok (.bipush 11, 2) := by decide +kernel
theorem dL_isProduction_23 : decode cL_isProduction 23 = .ok (.irem, 1) := by decide +kernel
theorem dL_isProduction_24 : decode cL_isProduction 24 = .ok (.iconst 1, 1) := by decide +kernel
theorem dL_isProduction_25 : decode cL_isProduction 25 = .ok (.isub, 1) := by decide +kernel
theorem dL_isProduction_26 : decode cL_isProduction 26 = .ok (.istore 6, 2) := by decide +kernel
theorem dL_isProduction_28 : decode cL_isProduction 28 = .ok (.iload 6, 2) := by decide +kernel
theorem dL_isProduction_30 : decode cL_isProduction 30 = .ok (.ifCond .ge 7, 3) := by decide +kernel
theorem dL_isProduction_33 : decode cL_isProduction 33 = .ok (.iconst (-1), 1) := by decide +kernel
theorem dL_isProduction_34 : decode cL_isProduction 34 = .ok (.goto 12, 3) := by decide +kernel
theorem dL_isProduction_37 : decode cL_isProduction 37 = .ok (.iload_n 3, 1) := by decide +kernel
theorem dL_isProduction_38 : decode cL_isProduction 38 = .ok (.bipush 121, 2) := by decide +kernel
theorem dL_isProduction_40 : decode cL_isProduction 40 = .ok (.idiv, 1) := by decide +kernel
theorem dL_isProduction_41 : decode cL_isProduction 41 = .ok (.bipush 11, 2) := by decide +kernel
theorem dL_isProduction_43 : decode cL_isProduction 43 = .ok (.irem, 1) := by decide +kernel
theorem dL_isProduction_44 : decode cL_isProduction 44 = .ok (.iconst 1, 1) := by decide +kernel
theorem dL_isProduction_45 : decode cL_isProduction 45 = .ok (.isub, 1) := by decide +kernel
theorem dL_isProduction_46 : decode cL_isProduction 46 = .ok (.istore 7, 2) := by decide +kernel
theorem dL_isProduction_48 : decode cL_isProduction 48 = .ok (.iload 4, 2) := by decide +kernel
theorem dL_isProduction_50 : decode cL_isProduction 50 = .ok (.iconst 3, 1) := by decide +kernel
theorem dL_isProduction_51 : decode cL_isProduction 51 = .ok (.irem, 1) := by decide +kernel
theorem dL_isProduction_52 : decode cL_isProduction 52 = .ok (.istore 8, 2) := by decide +kernel
theorem dL_isProduction_54 : decode cL_isProduction 54 = .ok (.aload_n 0, 1) := by decide +kernel
theorem dL_isProduction_55 : decode cL_isProduction 55 = .ok (.iconst 0, 1) := by decide +kernel
theorem dL_isProduction_56 : decode cL_isProduction 56 = .ok (.iload 8, 2) := by decide +kernel
theorem dL_isProduction_58 : decode cL_isProduction 58 = .ok (.iload 5, 2) := by decide +kernel
theorem dL_isProduction_60 : decode cL_isProduction 60 = .ok (.iload 6, 2) := by decide +kernel
theorem dL_isProduction_62 : decode cL_isProduction 62 = .ok (.iload 7, 2) := by decide +kernel
theorem dL_isProduction_64 : decode cL_isProduction 64 = .ok (.iconst 0, 1) := by decide +kernel
theorem dL_isProduction_65 : decode cL_isProduction 65 = .ok (.invokestatic 84, 3) := by decide +kernel
theorem dL_isProduction_68 : decode cL_isProduction 68 = .ok (.istore 9, 2) := by decide +kernel
theorem dL_isProduction_70 : decode cL_isProduction 70 = .ok (.aload_n 2, 1) := by decide +kernel
theorem dL_isProduction_71 : decode cL_isProduction 71 = .ok (.iconst 0, 1) := by decide +kernel
theorem dL_isProduction_72 : decode cL_isProduction 72 = .ok (.iaload, 1) := by decide +kernel
theorem dL_isProduction_73 : decode cL_isProduction 73 = .ok (.bipush 10, 2) := by decide +kernel
theorem dL_isProduction_75 : decode cL_isProduction 75 = .ok (.if_icmp .ne 16, 3) := by decide +kernel
theorem dL_isProduction_78 : decode cL_isProduction 78 = .ok (.iload 9, 2) := by decide +kernel
theorem dL_isProduction_80 : decode cL_isProduction 80 = .ok (.ldc 74, 2) := by decide +kernel
theorem dL_isProduction_82 : decode cL_isProduction 82 = .ok (.if_icmp .ne 7, 3) := by decide +kernel
theorem dL_isProduction_85 : decode cL_isProduction 85 = .ok (.iconst 1, 1) := by decide +kernel
theorem dL_isProduction_86 : decode cL_isProduction 86 = .ok (.goto 4, 3) := by decide +kernel
theorem dL_isProduction_89 : decode cL_isProduction 89 = .ok (.iconst 0, 1) := by decide +kernel
theorem dL_isProduction_90 : decode cL_isProduction 90 = .ok (.ireturn, 1) := by decide +kernel
theorem dL_isProduction_91 : decode cL_isProduction 91 = .ok (.aload_n 1, 1) := by decide +kernel
theorem dL_isProduction_92 : decode cL_isProduction 92 = .ok (.aload_n 2, 1) := by decide +kernel
theorem dL_isProduction_93 : decode cL_isProduction 93 = .ok (.iconst 0, 1) := by decide +kernel
theorem dL_isProduction_94 : decode cL_isProduction 94 = .ok (.iaload, 1) := by decide +kernel
theorem dL_isProduction_95 : decode cL_isProduction 95 = .ok (.iload 8, 2) := by decide +kernel
theorem dL_isProduction_97 : decode cL_isProduction 97 = .ok (.bipush 10, 2) := by decide +kernel
theorem dL_isProduction_99 : decode cL_isProduction 99 = .ok (.iload 5, 2) := by decide +kernel
theorem dL_isProduction_101 : decode cL_isProduction 101 = .ok (.iconst 1, 1) := by decide +kernel
theorem dL_isProduction_102 : decode cL_isProduction 102 = .ok (.iadd, 1) := by decide +kernel
theorem dL_isProduction_103 : decode cL_isProduction 103 = .ok (.imul, 1) := by decide +kernel
theorem dL_isProduction_104 : decode cL_isProduction 104 = .ok (.iadd, 1) := by decide +kernel
theorem dL_isProduction_105 : decode cL_isProduction 105 = .ok (.bipush 110, 2) := by decide +kernel
theorem dL_isProduction_107 : decode cL_isProduction 107 = .ok (.iload 6, 2) := by decide +kernel
theorem dL_isProduction_109 : decode cL_isProduction 109 = .ok (.iconst 1, 1) := by decide +kernel
theorem dL_isProduction_110 : decode cL_isProduction 110 = .ok (.iadd, 1) := by decide +kernel
theorem dL_isProduction_111 : decode cL_isProduction 111 = .ok (.imul, 1) := by decide +kernel
theorem dL_isProduction_112 : decode cL_isProduction 112 = .ok (.iadd, 1) := by decide +kernel
theorem dL_isProduction_113 : decode cL_isProduction 113 = .ok (.sipush 1210, 3) := by decide +kernel
theorem dL_isProduction_116 : decode cL_isProduction 116 = .ok (.iload 7, 2) := by decide +kernel
theorem dL_isProduction_118 : decode cL_isProduction 118 = .ok (.iconst 1, 1) := by decide +kernel
theorem dL_isProduction_119 : decode cL_isProduction 119 = .ok (.iadd, 1) := by decide +kernel
theorem dL_isProduction_120 : decode cL_isProduction 120 = .ok (.imul, 1) := by decide +kernel
theorem dL_isProduction_121 : decode cL_isProduction 121 = .ok (.iadd, 1) := by decide +kernel
theorem dL_isProduction_122 : decode cL_isProduction 122 = .ok (.iastore, 1) := by decide +kernel
theorem dL_isProduction_123 : decode cL_isProduction 123 = .ok (.aload_n 2, 1) := by decide +kernel
theorem dL_isProduction_124 : decode cL_isProduction 124 = .ok (.iconst 0, 1) := by decide +kernel
theorem dL_isProduction_125 : decode cL_isProduction 125 = .ok (.dup2, 1) := by decide +kernel
theorem dL_isProduction_126 : decode cL_isProduction 126 = .ok (.iaload, 1) := by decide +kernel
theorem dL_isProduction_127 : decode cL_isProduction 127 = .ok (.iconst 1, 1) := by decide +kernel
theorem dL_isProduction_128 : decode cL_isProduction 128 = .ok (.iadd, 1) := by decide +kernel
theorem dL_isProduction_129 : decode cL_isProduction 129 = .ok (.iastore, 1) := by decide +kernel
theorem dL_isProduction_130 : decode cL_isProduction 130 = .ok (.iload 9, 2) := by decide +kernel
theorem dL_isProduction_132 : decode cL_isProduction 132 = .ok (.aload_n 2, 1) := by decide +kernel
theorem dL_isProduction_133 : decode cL_isProduction 133 = .ok (.iconst 0, 1) := by decide +kernel
theorem dL_isProduction_134 : decode cL_isProduction 134 = .ok (.iaload, 1) := by decide +kernel
theorem dL_isProduction_135 : decode cL_isProduction 135 = .ok (.iconst 1, 1) := by decide +kernel
theorem dL_isProduction_136 : decode cL_isProduction 136 = .ok (.isub, 1) := by decide +kernel
theorem dL_isProduction_137 : decode cL_isProduction 137 = .ok (.if_icmp .ne 7, 3) := by decide +kernel
theorem dL_isProduction_140 : decode cL_isProduction 140 = .ok (.iconst 1, 1) := by decide +kernel
theorem dL_isProduction_141 : decode cL_isProduction 141 = .ok (.goto 4, 3) := by decide +kernel
theorem dL_isProduction_144 : decode cL_isProduction 144 = .ok (.iconst 0, 1) := by decide +kernel
theorem dL_isProduction_145 : decode cL_isProduction 145 = .ok (.ireturn, 1) := by decide +kernel
theorem dL_isEquation_0 : decode cL_isEquation 0 = .ok (.aload 4, 2) := by decide +kernel
theorem dL_isEquation_2 : decode cL_isEquation 2 = .ok (.iconst 1, 1) := by decide +kernel
theorem dL_isEquation_3 : decode cL_isEquation 3 = .ok (.iaload, 1) := by decide +kernel
theorem dL_isEquation_4 : decode cL_isEquation 4 = .ok (.ifCond .eq 10, 3) := by decide +kernel
theorem dL_isEquation_7 : decode cL_isEquation 7 = .ok (.aload 4, 2) := by decide +kernel
theorem dL_isEquation_9 : decode cL_isEquation 9 = .ok (.iconst 0, 1) := by decide +kernel
theorem dL_isEquation_10 : decode cL_isEquation 10 = .ok (.iaload, 1) := by decide +kernel
theorem dL_isEquation_11 : decode cL_isEquation 11 = .ok (.ifCond .ne 24, 3) := by decide +kernel
theorem dL_isEquation_14 : decode cL_isEquation 14 = .ok (.aload_n 0, 1) := by decide +kernel
theorem dL_isEquation_15 : decode cL_isEquation 15 = .ok (.iconst 5, 1) := by decide +kernel
theorem dL_isEquation_16 : decode cL_isEquation 16 = .ok (.iconst 0, 1) := by decide +kernel
theorem dL_isEquation_17 : decode cL_isEquation 17 = .ok (.iconst 0, 1) := by decide +kernel
theorem dL_isEquation_18 : decode cL_isEquation 18 = .ok (.iconst (-1), 1) := by decide +kernel
theorem dL_isEquation_19 : decode cL_isEquation 19 = .ok (.iconst 0, 1) := by decide +kernel
theorem dL_isEquation_20 : decode cL_isEquation 20 = .ok (.iconst 0, 1) := by decide +kernel
theorem dL_isEquation_21 : decode cL_isEquation 21 = .ok (.invokestatic 84, 3) := by decide +kernel
theorem dL_isEquation_24 : decode cL_isEquation 24 = .ok (.ldc 68, 2) := by decide +kernel
theorem dL_isEquation_26 : decode cL_isEquation 26 = .ok (.if_icmp .ne 7, 3) := by decide +kernel
theorem dL_isEquation_29 : decode cL_isEquation 29 = .ok (.iconst 1, 1) := by decide +kernel
theorem dL_isEquation_30 : decode cL_isEquation 30 = .ok (.goto 4, 3) := by decide +kernel
theorem dL_isEquation_33 : decode cL_isEquation 33 = .ok (.iconst 0, 1) := by decide +kernel
theorem dL_isEquation_34 : decode cL_isEquation 34 = .ok (.ireturn, 1) := by decide +kernel
theorem dL_isEquation_35 : decode cL_isEquation 35 = .ok (.aload 5, 2) := by decide +kernel
theorem dL_isEquation_37 : decode cL_isEquation 37 = .ok (.iload 6, 2) := by decide +kernel
theorem dL_isEquation_39 : decode cL_isEquation 39 = .ok (.aload 4, 2) := by decide +kernel
theorem dL_isEquation_41 : decode cL_isEquation 41 = .ok (.iconst 1, 1) := by decide +kernel
theorem dL_isEquation_42 : decode cL_isEquation 42 = .ok (.iaload, 1) := by decide +kernel
theorem dL_isEquation_43 : decode cL_isEquation 43 = .ok (.invokestatic 98, 3) := by decide +kernel
theorem dL_isEquation_46 : decode cL_isEquation 46 = .ok (.istore 7, 2) := by decide +kernel
theorem dL_isEquation_48 : decode cL_isEquation 48 = .ok (.aload_n 3, 1) := by decide +kernel
theorem dL_isEquation_49 : decode cL_isEquation 49 = .ok (.iload 7, 2) := by decide +kernel
theorem dL_isEquation_51 : decode cL_isEquation 51 = .ok (.iaload, 1) := by decide +kernel
theorem dL_isEquation_52 : decode cL_isEquation 52 = .ok (.iconst 2, 1) := by decide +kernel
theorem dL_isEquation_53 : decode cL_isEquation 53 = .ok (.if_icmp .ne 7, 3) := by decide +kernel
theorem dL_isEquation_56 : decode cL_isEquation 56 = .ok (.iconst 2, 1) := by decide +kernel
theorem dL_isEquation_57 : decode cL_isEquation 57 = .ok (.goto 4, 3) := by decide +kernel
theorem dL_isEquation_60 : decode cL_isEquation 60 = .ok (.iconst 1, 1) := by decide +kernel
theorem dL_isEquation_61 : decode cL_isEquation 61 = .ok (.istore 8, 2) := by decide +kernel
theorem dL_isEquation_63 : decode cL_isEquation 63 = .ok (.aload_n 0, 1) := by decide +kernel
theorem dL_isEquation_64 : decode cL_isEquation 64 = .ok (.invokevirtual 101, 3) := by decide +kernel
theorem dL_isEquation_67 : decode cL_isEquation 67 = .ok (.ifCond .lt 7, 3) := by decide +kernel
theorem dL_isEquation_70 : decode cL_isEquation 70 = .ok (.iconst 1, 1) := by decide +kernel
theorem dL_isEquation_71 : decode cL_isEquation 71 = .ok (.goto 4, 3) := by decide +kernel
theorem dL_isEquation_74 : decode cL_isEquation 74 = .ok (.iconst 0, 1) := by decide +kernel
theorem dL_isEquation_75 : decode cL_isEquation 75 = .ok (.istore 9, 2) := by decide +kernel
theorem dL_isEquation_77 : decode cL_isEquation 77 = .ok (.iconst 0, 1) := by decide +kernel
theorem dL_isEquation_78 : decode cL_isEquation 78 = .ok (.istore 10, 2) := by decide +kernel
theorem dL_isEquation_80 : decode cL_isEquation 80 = .ok (.iconst 0, 1) := by decide +kernel
theorem dL_isEquation_81 : decode cL_isEquation 81 = .ok (.istore 11, 2) := by decide +kernel
theorem dL_isEquation_83 : decode cL_isEquation 83 = .ok (.iload 11, 2) := by decide +kernel
theorem dL_isEquation_85 : decode cL_isEquation 85 = .ok (.bipush 8, 2) := by decide +kernel
theorem dL_isEquation_87 : decode cL_isEquation 87 = .ok (.if_icmp .ge 370, 3) := by decide +kernel
theorem dL_isEquation_90 : decode cL_isEquation 90 = .ok (.iload 9, 2) := by decide +kernel
theorem dL_isEquation_92 : decode cL_isEquation 92 = .ok (.ifCond .eq 365, 3) := by decide +kernel
theorem dL_isEquation_95 : decode cL_isEquation 95 = .ok (.aload 5, 2) := by decide +kernel
theorem dL_isEquation_97 : decode cL_isEquation 97 = .ok (.iload 6, 2) := by decide +kernel
theorem dL_isEquation_99 : decode cL_isEquation 99 = .ok (.iconst 2, 1) := by decide +kernel
theorem dL_isEquation_100 : decode cL_isEquation 100 = .ok (.iload 11, 2) := by decide +kernel
theorem dL_isEquation_102 : decode cL_isEquation 102 = .ok (.imul, 1) := by decide +kernel
theorem dL_isEquation_103 : decode cL_isEquation 103 = .ok (.iadd, 1) := by decide +kernel
theorem dL_isEquation_104 : decode cL_isEquation 104 = .ok (.iconst 1, 1) := by decide +kernel
theorem dL_isEquation_105 : decode cL_isEquation 105 = .ok (.iadd, 1) := by decide +kernel
theorem dL_isEquation_106 : decode cL_isEquation 106 = .ok (.bipush 20, 2) := by decide +kernel
theorem dL_isEquation_108 : decode cL_isEquation 108 = .ok (.invokestatic 98, 3) := by decide +kernel
theorem dL_isEquation_111 : decode cL_isEquation 111 = .ok (.istore 12, 2) := by decide +kernel
theorem dL_isEquation_113 : decode cL_isEquation 113 = .ok (.iload 10, 2) := by decide +kernel
theorem dL_isEquation_115 : decode cL_isEquation 115 = .ok (.iload 8, 2) := by decide +kernel
theorem dL_isEquation_117 : decode cL_isEquation 117 = .ok (.if_icmp .le 56, 3) := by decide +kernel
theorem dL_isEquation_120 : decode cL_isEquation 120 = .ok (.iload 12, 2) := by decide +kernel
theorem dL_isEquation_122 : decode cL_isEquation 122 = .ok (.bipush 12, 2) := by decide +kernel
theorem dL_isEquation_124 : decode cL_isEquation 124 = .ok (.if_icmp .lt 18, 3) := by decide +kernel
theorem dL_isEquation_127 : decode cL_isEquation 127 = .ok (.iload 11, 2) := by decide +kernel
theorem dL_isEquation_129 : decode cL_isEquation 129 = .ok (.bipush 8, 2) := by decide +kernel
theorem dL_isEquation_131 : decode cL_isEquation 131 = .ok (.iload 10, 2) := by decide +kernel
theorem dL_isEquation_133 : decode cL_isEquation 133 = .ok (.isub, 1) := by decide +kernel
theorem dL_isEquation_134 : decode cL_isEquation 134 = .ok (.iload 8, 2) := by decide +kernel
theorem dL_isEquation_136 : decode cL_isEquation 136 = .ok (.iadd, 1) := by decide +kernel
theorem dL_isEquation_137 : decode cL_isEquation 137 = .ok (.iconst 2, 1) := by decide +kernel
theorem dL_isEquation_138 : decode cL_isEquation 138 = .ok (.isub, 1) := by decide +kernel
theorem dL_isEquation_139 : decode cL_isEquation 139 = .ok (.if_icmp .le 34, 3) := by decide +kernel
theorem dL_isEquation_142 : decode cL_isEquation 142 = .ok (.iload 10, 2) := by decide +kernel
theorem dL_isEquation_144 : decode cL_isEquation 144 = .ok (.iload 8, 2) := by decide +kernel
theorem dL_isEquation_146 : decode cL_isEquation 146 = .ok (.iconst 1, 1) := by decide +kernel
theorem dL_isEquation_147 : decode cL_isEquation 147 = .ok (.iadd, 1) := by decide +kernel
theorem dL_isEquation_148 : decode cL_isEquation 148 = .ok (.if_icmp .le 15, 3) := by decide +kernel
theorem dL_isEquation_151 : decode cL_isEquation 151 = .ok (.iload 12, 2) := by decide +kernel
theorem dL_isEquation_153 : decode cL_isEquation 153 = .ok (.iconst 3, 1) := by decide +kernel
theorem dL_isEquation_154 : decode cL_isEquation 154 = .ok (.irem, 1) := by decide +kernel
theorem dL_isEquation_155 : decode cL_isEquation 155 = .ok (.ifCond .ne 8, 3) := by decide +kernel
theorem dL_isEquation_158 : decode cL_isEquation 158 = .ok (.bipush 13, 2) := by decide +kernel
theorem dL_isEquation_160 : decode cL_isEquation 160 = .ok (.goto 80, 3) := by decide +kernel
theorem dL_isEquation_163 : decode cL_isEquation 163 = .ok (.bipush 8, 2) := by decide +kernel
theorem dL_isEquation_165 : decode cL_isEquation 165 = .ok (.iload 12, 2) := by decide +kernel
theorem dL_isEquation_167 : decode cL_isEquation 167 = .ok (.iconst 5, 1) := by decide +kernel
theorem dL_isEquation_168 : decode cL_isEquation 168 = .ok (.irem, 1) := by decide +kernel
theorem dL_isEquation_169 : decode cL_isEquation 169 = .ok (.iadd, 1) := by decide +kernel
theorem dL_isEquation_170 : decode cL_isEquation 170 = .ok (.goto 70, 3) := by decide +kernel
theorem dL_isEquation_173 : decode cL_isEquation 173 = .ok (.iload 10, 2) := by decide +kernel
theorem dL_isEquation_175 : decode cL_isEquation 175 = .ok (.ifCond .le 15, 3) := by decide +kernel
theorem dL_isEquation_178 : decode cL_isEquation 178 = .ok (.iload 12, 2) := by decide +kernel
theorem dL_isEquation_180 : decode cL_isEquation 180 = .ok (.bipush 19, 2) := by decide +kernel
theorem dL_isEquation_182 : decode cL_isEquation 182 = .ok (.if_icmp .ne 8, 3) := by decide +kernel
theorem dL_isEquation_185 : decode cL_isEquation 185 = .ok (.bipush 7, 2) := by decide +kernel
theorem dL_isEquation_187 : decode cL_isEquation 187 = .ok (.goto 53, 3) := by decide +kernel
theorem dL_isEquation_190 : decode cL_isEquation 190 = .ok (.iload 11, 2) := by decide +kernel
theorem dL_isEquation_192 : decode cL_isEquation 192 = .ok (.iload 10, 2) := by decide +kernel
theorem dL_isEquation_194 : decode cL_isEquation 194 = .ok (.iadd, 1) := by decide +kernel
theorem dL_isEquation_195 : decode cL_isEquation 195 = .ok (.iload 8, 2) := by decide +kernel
theorem dL_isEquation_197 : decode cL_isEquation 197 = .ok (.isub, 1) := by decide +kernel
theorem dL_isEquation_198 : decode cL_isEquation 198 = .ok (.bipush 7, 2) := by decide +kernel
theorem dL_isEquation_200 : decode cL_isEquation 200 = .ok (.if_icmp .ge 39, 3) := by decide +kernel
theorem dL_isEquation_203 : decode cL_isEquation 203 = .ok (.iload 10, 2) := by decide +kernel
theorem dL_isEquation_205 : decode cL_isEquation 205 = .ok (.iload 8, 2) := by decide +kernel
theorem dL_isEquation_207 : decode cL_isEquation 207 = .ok (.if_icmp .lt 9, 3) := by decide +kernel
theorem dL_isEquation_210 : decode cL_isEquation 210 = .ok (.iload 12, 2) := by decide +kernel
theorem dL_isEquation_212 : decode cL_isEquation 212 = .ok (.iconst 5, 1) := by decide +kernel
theorem dL_isEquation_213 : decode cL_isEquation 213 = .ok (.if_icmp .le 26, 3) := by decide +kernel
theorem dL_isEquation_216 : decode cL_isEquation 216 = .ok (.iload 12, 2) := by decide +kernel
theorem dL_isEquation_218 : decode cL_isEquation 218 = .ok (.bipush 8, 2) := by decide +kernel
theorem dL_isEquation_220 : decode cL_isEquation 220 = .ok (.irem, 1) := by decide +kernel
theorem dL_isEquation_221 : decode cL_isEquation 221 = .ok (.bipush 7, 2) := by decide +kernel
theorem dL_isEquation_223 : decode cL_isEquation 223 = .ok (.if_icmp .ne 8, 3) := by decide +kernel
theorem dL_isEquation_226 : decode cL_isEquation 226 = .ok (.bipush 14, 2) := by decide +kernel
theorem dL_isEquation_228 : decode cL_isEquation 228 = .ok (.goto 12, 3) := by decide +kernel
theorem dL_isEquation_231 : decode cL_isEquation 231 = .ok (.iload 12, 2) := by decide +kernel
theorem dL_isEquation_233 : decode cL_isEquation 233 = .ok (.bipush 8, 2) := by decide +kernel
theorem dL_isEquation_235 : decode cL_isEquation 235 = .ok (.irem, 1) := by decide +kernel
theorem dL_isEquation_236 : decode cL_isEquation 236 = .ok (.goto 4, 3) := by decide +kernel
theorem dL_isEquation_239 : decode cL_isEquation 239 = .ok (.iconst (-1), 1) := by decide +kernel
theorem dL_isEquation_240 : decode cL_isEquation 240 = .ok (.istore 13, 2) := by decide +kernel
theorem dL_isEquation_242 : decode cL_isEquation 242 = .ok (.iload 13, 2) := by decide +kernel
theorem dL_isEquation_244 : decode cL_isEquation 244 = .ok (.ifCond .ne 23, 3) := by decide +kernel
theorem dL_isEquation_247 : decode cL_isEquation 247 = .ok (.aload 5, 2) := by decide +kernel
theorem dL_isEquation_249 : decode cL_isEquation 249 = .ok (.iload 6, 2) := by decide +kernel
theorem dL_isEquation_251 : decode cL_isEquation 251 = .ok (.iconst 2, 1) := by decide +kernel
theorem dL_isEquation_252 : decode cL_isEquation 252 = .ok (.iload 11, 2) := by decide +kernel
theorem dL_isEquation_254 : decode cL_isEquation 254 = .ok (.imul, 1) := by decide +kernel
theorem dL_isEquation_255 : decode cL_isEquation 255 = .ok (.iadd, 1) := by decide +kernel
theorem dL_isEquation_256 : decode cL_isEquation 256 = .ok (.iconst 2, 1) := by decide +kernel
theorem dL_isEquation_257 : decode cL_isEquation 257 = .ok (.iadd, 1) := by decide +kernel
theorem dL_isEquation_258 : decode cL_isEquation 258 = .ok (.sipush 1000, 3) := by decide +kernel
theorem dL_isEquation_261 : decode cL_isEquation 261 = .ok (.invokestatic 98, 3) := by decide +kernel
theorem dL_isEquation_264 : decode cL_isEquation 264 = .ok (.goto 74, 3) := by decide +kernel
theorem dL_isEquation_267 : decode cL_isEquation 267 = .ok (.iload 13, 2) := by decide +kernel
theorem dL_isEquation_269 : decode cL_isEquation 269 = .ok (.iconst 1, 1) := by decide +kernel
theorem dL_isEquation_270 : decode cL_isEquation 270 = .ok (.if_icmp .eq 16, 3) := by decide +kernel
theorem dL_isEquation_273 : decode cL_isEquation 273 = .ok (.iload 13, 2) := by decide +kernel
theorem dL_isEquation_275 : decode cL_isEquation 275 = .ok (.iconst 2, 1) := by decide +kernel
theorem dL_isEquation_276 : decode cL_isEquation 276 = .ok (.if_icmp .eq 10, 3) := by decide +kernel
theorem dL_isEquation_279 : decode cL_isEquation 279 = .ok (.iload 13, 2) := by decide +kernel
theorem dL_isEquation_281 : decode cL_isEquation 281 = .ok (.bipush 7, 2) := by decide +kernel
theorem dL_isEquation_283 : decode cL_isEquation 283 = .ok (.if_icmp .ne 24, 3) := by decide +kernel
theorem dL_isEquation_286 : decode cL_isEquation 286 = .ok (.aload 5, 2) := by decide +kernel
theorem dL_isEquation_288 : decode cL_isEquation 288 = .ok (.iload 6, 2) := by decide +kernel
theorem dL_isEquation_290 : decode cL_isEquation 290 = .ok (.iconst 2, 1) := by decide +kernel
theorem dL_isEquation_291 : decode cL_isEquation 291 = .ok (.iload 11, 2) := by decide +kernel
theorem dL_isEquation_293 : decode cL_isEquation 293 = .ok (.imul, 1) := by decide +kernel
theorem dL_isEquation_294 : decode cL_isEquation 294 = .ok (.iadd, 1) := by decide +kernel
theorem dL_isEquation_295 : decode cL_isEquation 295 = .ok (.iconst 2, 1) := by decide +kernel
theorem dL_isEquation_296 : decode cL_isEquation 296 = .ok (.iadd, 1) := by decide +kernel
theorem dL_isEquation_297 : decode cL_isEquation 297 = .ok (.aload 4, 2) := by decide +kernel
theorem dL_isEquation_299 : decode cL_isEquation 299 = .ok (.iconst 1, 1) := by decide +kernel
theorem dL_isEquation_300 : decode cL_isEquation 300 = .ok (.iaload, 1) := by decide +kernel
theorem dL_isEquation_301 : decode cL_isEquation 301 = .ok (.invokestatic 98, 3) := by decide +kernel
theorem dL_isEquation_304 : decode cL_isEquation 304 = .ok (.goto 34, 3) := by decide +kernel
theorem dL_isEquation_307 : decode cL_isEquation 307 = .ok (.iload 13, 2) := by decide +kernel
theorem dL_isEquation_309 : decode cL_isEquation 309 = .ok (.iconst 3, 1) := by decide +kernel
theorem dL_isEquation_310 : decode cL_isEquation 310 = .ok (.if_icmp .eq 9, 3) := by decide +kernel
theorem dL_isEquation_313 : decode cL_isEquation 313 = .ok (.iload 13, 2) := by decide +kernel
theorem dL_isEquation_315 : decode cL_isEquation 315 = .ok (.iconst 4, 1) := by decide +kernel
theorem dL_isEquation_316 : decode cL_isEquation 316 = .ok (.if_icmp .ne 21, 3) := by decide +kernel
theorem dL_isEquation_319 : decode cL_isEquation 319 = .ok (.aload 5, 2) := by decide +kernel
theorem dL_isEquation_321 : decode cL_isEquation 321 = .ok (.iload 6, 2) := by decide +kernel
theorem dL_isEquation_323 : decode cL_isEquation 323 = .ok (.iconst 2, 1) := by decide +kernel
theorem dL_isEquation_324 : decode cL_isEquation 324 = .ok (.iload 11, 2) := by decide +kernel
theorem dL_isEquation_326 : decode cL_isEquation 326 = .ok (.imul, 1) := by decide +kernel
theorem dL_isEquation_327 : decode cL_isEquation 327 = .ok (.iadd, 1) := by decide +kernel
theorem dL_isEquation_328 : decode cL_isEquation 328 = .ok (.iconst 2, 1) := by decide +kernel
theorem dL_isEquation_329 : decode cL_isEquation 329 = .ok (.iadd, 1) := by decide +kernel
theorem dL_isEquation_330 : decode cL_isEquation 330 = .ok (.iconst 3, 1) := by decide +kernel
theorem dL_isEquation_331 : decode cL_isEquation 331 = .ok (.invokestatic 98, 3) := by decide +kernel
theorem dL_isEquation_334 : decode cL_isEquation 334 = .ok (.goto 4, 3) := by decide +kernel
theorem dL_isEquation_337 : decode cL_isEquation 337 = .ok (.iconst 0, 1) := by decide +kernel
theorem dL_isEquation_338 : decode cL_isEquation 338 = .ok (.istore 14, 2) := by decide +kernel
theorem dL_isEquation_340 : decode cL_isEquation 340 = .ok (.iload 13, 2) := by decide +kernel
theorem dL_isEquation_342 : decode cL_isEquation 342 = .ok (.iconst 2, 1) := by decide +kernel
theorem dL_isEquation_343 : decode cL_isEquation 343 = .ok (.if_icmp .eq 10, 3) := by decide +kernel
theorem dL_isEquation_346 : decode cL_isEquation 346 = .ok (.iload 13, 2) := by decide +kernel
theorem dL_isEquation_348 : decode cL_isEquation 348 = .ok (.bipush 6, 2) := by decide +kernel
theorem dL_isEquation_350 : decode cL_isEquation 350 = .ok (.if_icmp .ne 21, 3) := by decide +kernel
theorem dL_isEquation_353 : decode cL_isEquation 353 = .ok (.aload 5, 2) := by decide +kernel
theorem dL_isEquation_355 : decode cL_isEquation 355 = .ok (.iload 6, 2) := by decide +kernel
theorem dL_isEquation_357 : decode cL_isEquation 357 = .ok (.iconst 2, 1) := by decide +kernel
theorem dL_isEquation_358 : decode cL_isEquation 358 = .ok (.iload 11, 2) := by decide +kernel
theorem dL_isEquation_360 : decode cL_isEquation 360 = .ok (.imul, 1) := by decide +kernel
theorem dL_isEquation_361 : decode cL_isEquation 361 = .ok (.iadd, 1) := by decide +kernel
theorem dL_isEquation_362 : decode cL_isEquation 362 = .ok (.iconst 2, 1) := by decide +kernel
theorem dL_isEquation_363 : decode cL_isEquation 363 = .ok (.iadd, 1) := by decide +kernel
theorem dL_isEquation_364 : decode cL_isEquation 364 = .ok (.iconst 3, 1) := by decide +kernel
theorem dL_isEquation_365 : decode cL_isEquation 365 = .ok (.invokestatic 98, 3) := by decide +kernel
theorem dL_isEquation_368 : decode cL_isEquation 368 = .ok (.goto 4, 3) := by decide +kernel
theorem dL_isEquation_371 : decode cL_isEquation 371 = .ok (.iconst 0, 1) := by decide +kernel
theorem dL_isEquation_372 : decode cL_isEquation 372 = .ok (.istore 15, 2) := by decide +kernel
theorem dL_isEquation_374 : decode cL_isEquation 374 = .ok (.iload 13, 2) := by decide +kernel
theorem dL_isEquation_376 : decode cL_isEquation 376 = .ok (.ifCond .lt 75, 3) := by decide +kernel
theorem dL_isEquation_379 : decode cL_isEquation 379 = .ok (.iload 10, 2) := by decide +kernel
theorem dL_isEquation_381 : decode cL_isEquation 381 = .ok (.iload 13, 2) := by decide +kernel
theorem dL_isEquation_383 : decode cL_isEquation 383 = .ok (.bipush 7, 2) := by decide +kernel
theorem dL_isEquation_385 : decode cL_isEquation 385 = .ok (.if_icmp .lt 10, 3) := by decide +kernel
theorem dL_isEquation_388 : decode cL_isEquation 388 = .ok (.iload 13, 2) := by decide +kernel
theorem dL_isEquation_390 : decode cL_isEquation 390 = .ok (.bipush 14, 2) := by decide +kernel
theorem dL_isEquation_392 : decode cL_isEquation 392 = .ok (.if_icmp .ne 7, 3) := by decide +kernel
theorem dL_isEquation_395 : decode cL_isEquation 395 = .ok (.iconst 1, 1) := by decide +kernel
theorem dL_isEquation_396 : decode cL_isEquation 396 = .ok (.goto 27, 3) := by decide +kernel
theorem dL_isEquation_399 : decode cL_isEquation 399 = .ok (.iload 13, 2) := by decide +kernel
theorem dL_isEquation_401 : decode cL_isEquation 401 = .ok (.bipush 7, 2) := by decide +kernel
theorem dL_isEquation_403 : decode cL_isEquation 403 = .ok (.if_icmp .ne 7, 3) := by decide +kernel
theorem dL_isEquation_406 : decode cL_isEquation 406 = .ok (.iconst 0, 1) := by decide +kernel
theorem dL_isEquation_407 : decode cL_isEquation 407 = .ok (.goto 16, 3) := by decide +kernel
theorem dL_isEquation_410 : decode cL_isEquation 410 = .ok (.iload 13, 2) := by decide +kernel
theorem dL_isEquation_412 : decode cL_isEquation 412 = .ok (.bipush 13, 2) := by decide +kernel
theorem dL_isEquation_414 : decode cL_isEquation 414 = .ok (.if_icmp .ne 8, 3) := by decide +kernel
theorem dL_isEquation_417 : decode cL_isEquation 417 = .ok (.bipush (-2), 2) := by decide +kernel
theorem dL_isEquation_419 : decode cL_isEquation 419 = .ok (.goto 4, 3) := by decide +kernel
theorem dL_isEquation_422 : decode cL_isEquation 422 = .ok (.iconst (-1), 1) := by decide +kernel
theorem dL_isEquation_423 : decode cL_isEquation 423 = .ok (.iadd, 1) := by decide +kernel
theorem dL_isEquation_424 : decode cL_isEquation 424 = .ok (.istore 10, 2) := by decide +kernel
theorem dL_isEquation_426 : decode cL_isEquation 426 = .ok (.aload_n 0, 1) := by decide +kernel
theorem dL_isEquation_427 : decode cL_isEquation 427 = .ok (.iconst 4, 1) := by decide +kernel
theorem dL_isEquation_428 : decode cL_isEquation 428 = .ok (.iload 13, 2) := by decide +kernel
theorem dL_isEquation_430 : decode cL_isEquation 430 = .ok (.iload 14, 2) := by decide +kernel
theorem dL_isEquation_432 : decode cL_isEquation 432 = .ok (.iload 15, 2) := by decide +kernel
theorem dL_isEquation_434 : decode cL_isEquation 434 = .ok (.iconst 0, 1) := by decide +kernel
theorem dL_isEquation_435 : decode cL_isEquation 435 = .ok (.iconst 0, 1) := by decide +kernel
theorem dL_isEquation_436 : decode cL_isEquation 436 = .ok (.invokestatic 84, 3) := by decide +kernel
theorem dL_isEquation_439 : decode cL_isEquation 439 = .ok (.iload 10, 2) := by decide +kernel
theorem dL_isEquation_441 : decode cL_isEquation 441 = .ok (.if_icmp .ne 7, 3) := by decide +kernel
theorem dL_isEquation_444 : decode cL_isEquation 444 = .ok (.iconst 1, 1) := by decide +kernel
theorem dL_isEquation_445 : decode cL_isEquation 445 = .ok (.goto 4, 3) := by decide +kernel
theorem dL_isEquation_448 : decode cL_isEquation 448 = .ok (.iconst 0, 1) := by decide +kernel
theorem dL_isEquation_449 : decode cL_isEquation 449 = .ok (.istore 9, 2) := by decide +kernel
theorem dL_isEquation_451 : decode cL_isEquation 451 = .ok (.iinc 11 1, 3) := by decide +kernel
theorem dL_isEquation_454 : decode cL_isEquation 454 = .ok (.goto (-371), 3) := by decide +kernel
theorem dL_isEquation_457 : decode cL_isEquation 457 = .ok (.aload 5, 2) := by decide +kernel
theorem dL_isEquation_459 : decode cL_isEquation 459 = .ok (.iload 6, 2) := by decide +kernel
theorem dL_isEquation_461 : decode cL_isEquation 461 = .ok (.bipush 17, 2) := by decide +kernel
theorem dL_isEquation_463 : decode cL_isEquation 463 = .ok (.iadd, 1) := by decide +kernel
theorem dL_isEquation_464 : decode cL_isEquation 464 = .ok (.aload 4, 2) := by decide +kernel
theorem dL_isEquation_466 : decode cL_isEquation 466 = .ok (.iconst 0, 1) := by decide +kernel
theorem dL_isEquation_467 : decode cL_isEquation 467 = .ok (.iaload, 1) := by decide +kernel
theorem dL_isEquation_468 : decode cL_isEquation 468 = .ok (.invokestatic 98, 3) := by decide +kernel
theorem dL_isEquation_471 : decode cL_isEquation 471 = .ok (.istore 11, 2) := by decide +kernel
theorem dL_isEquation_473 : decode cL_isEquation 473 = .ok (.aload_n 3, 1) := by decide +kernel
theorem dL_isEquation_474 : decode cL_isEquation 474 = .ok (.iload 7, 2) := by decide +kernel
theorem dL_isEquation_476 : decode cL_isEquation 476 = .ok (.iaload, 1) := by decide +kernel
theorem dL_isEquation_477 : decode cL_isEquation 477 = .ok (.iconst 2, 1) := by decide +kernel
theorem dL_isEquation_478 : decode cL_isEquation 478 = .ok (.if_icmp .ne 8, 3) := by decide +kernel
theorem dL_isEquation_481 : decode cL_isEquation 481 = .ok (.bipush (-2), 2) := by decide +kernel
theorem dL_isEquation_483 : decode cL_isEquation 483 = .ok (.goto 26, 3) := by decide +kernel
theorem dL_isEquation_486 : decode cL_isEquation 486 = .ok (.aload_n 3, 1) := by decide +kernel
theorem dL_isEquation_487 : decode cL_isEquation 487 = .ok (.iload 7, 2) := by decide +kernel
theorem dL_isEquation_489 : decode cL_isEquation 489 = .ok (.iaload, 1) := by decide +kernel
theorem dL_isEquation_490 : decode cL_isEquation 490 = .ok (.iconst 1, 1) := by decide +kernel
theorem dL_isEquation_491 : decode cL_isEquation 491 = .ok (.if_icmp .ne 17, 3) := by decide +kernel
theorem dL_isEquation_494 : decode cL_isEquation 494 = .ok (.aload 5, 2) := by decide +kernel
theorem dL_isEquation_496 : decode cL_isEquation 496 = .ok (.iload 6, 2) := by decide +kernel
theorem dL_isEquation_498 : decode cL_isEquation 498 = .ok (.bipush 18, 2) := by decide +kernel
theorem dL_isEquation_500 : decode cL_isEquation 500 = .ok (.iadd, 1) := by decide +kernel
theorem dL_isEquation_501 : decode cL_isEquation 501 = .ok (.iconst 3, 1) := by decide +kernel
theorem dL_isEquation_502 : decode cL_isEquation 502 = .ok (.invokestatic 98, 3) := by decide +kernel
theorem dL_isEquation_505 : decode cL_isEquation 505 = .ok (.goto 4, 3) := by decide +kernel
theorem dL_isEquation_508 : decode cL_isEquation 508 = .ok (.iconst (-1), 1) := by decide +kernel
theorem dL_isEquation_509 : decode cL_isEquation 509 = .ok (.istore 12, 2) := by decide +kernel
theorem dL_isEquation_511 : decode cL_isEquation 511 = .ok (.aload 5, 2) := by decide +kernel
theorem dL_isEquation_513 : decode cL_isEquation 513 = .ok (.iload 6, 2) := by decide +kernel
theorem dL_isEquation_515 : decode cL_isEquation 515 = .ok (.bipush 19, 2) := by decide +kernel
theorem dL_isEquation_517 : decode cL_isEquation 517 = .ok (.iadd, 1) := by decide +kernel
theorem dL_isEquation_518 : decode cL_isEquation 518 = .ok (.iconst 4, 1) := by decide +kernel
theorem dL_isEquation_519 : decode cL_isEquation 519 = .ok (.invokestatic 98, 3) := by decide +kernel
theorem dL_isEquation_522 : decode cL_isEquation 522 = .ok (.istore 13, 2) := by decide +kernel
theorem dL_isEquation_524 : decode cL_isEquation 524 = .ok (.iload 12, 2) := by decide +kernel
theorem dL_isEquation_526 : decode cL_isEquation 526 = .ok (.aload_n 1, 1) := by decide +kernel
theorem dL_isEquation_527 : decode cL_isEquation 527 = .ok (.iload 11, 2) := by decide +kernel
theorem dL_isEquation_529 : decode cL_isEquation 529 = .ok (.invokestatic 88, 3) := by decide +kernel
theorem dL_isEquation_532 : decode cL_isEquation 532 = .ok (.if_icmp .ge 7, 3) := by decide +kernel
theorem dL_isEquation_535 : decode cL_isEquation 535 = .ok (.iconst 1, 1) := by decide +kernel
theorem dL_isEquation_536 : decode cL_isEquation 536 = .ok (.goto 4, 3) := by decide +kernel
theorem dL_isEquation_539 : decode cL_isEquation 539 = .ok (.iconst 0, 1) := by decide +kernel
theorem dL_isEquation_540 : decode cL_isEquation 540 = .ok (.istore 14, 2) := by decide +kernel
theorem dL_isEquation_542 : decode cL_isEquation 542 = .ok (.aload_n 0, 1) := by decide +kernel
theorem dL_isEquation_543 : decode cL_isEquation 543 = .ok (.iconst 5, 1) := by decide +kernel
theorem dL_isEquation_544 : decode cL_isEquation 544 = .ok (.iload 11, 2) := by decide +kernel
theorem dL_isEquation_546 : decode cL_isEquation 546 = .ok (.iload 7, 2) := by decide +kernel
theorem dL_isEquation_548 : decode cL_isEquation 548 = .ok (.iload 12, 2) := by decide +kernel
theorem dL_isEquation_550 : decode cL_isEquation 550 = .ok (.iload 13, 2) := by decide +kernel
theorem dL_isEquation_552 : decode cL_isEquation 552 = .ok (.iconst 0, 1) := by decide +kernel
theorem dL_isEquation_553 : decode cL_isEquation 553 = .ok (.invokestatic 84, 3) := by decide +kernel
theorem dL_isEquation_556 : decode cL_isEquation 556 = .ok (.istore 15, 2) := by decide +kernel
theorem dL_isEquation_558 : decode cL_isEquation 558 = .ok (.iload 14, 2) := by decide +kernel
theorem dL_isEquation_560 : decode cL_isEquation 560 = .ok (.ifCond .ne 8, 3) := by decide +kernel
theorem dL_isEquation_563 : decode cL_isEquation 563 = .ok (.ldc 68, 2) := by decide +kernel
theorem dL_isEquation_565 : decode cL_isEquation 565 = .ok (.goto 28, 3) := by decide +kernel
theorem dL_isEquation_568 : decode cL_isEquation 568 = .ok (.iload 10, 2) := by decide +kernel
theorem dL_isEquation_570 : decode cL_isEquation 570 = .ok (.iload 8, 2) := by decide +kernel
theorem dL_isEquation_572 : decode cL_isEquation 572 = .ok (.if_icmp .ne 12, 3) := by decide +kernel
theorem dL_isEquation_575 : decode cL_isEquation 575 = .ok (.aload 4, 2) := by decide +kernel
theorem dL_isEquation_577 : decode cL_isEquation 577 = .ok (.iconst 2, 1) := by decide +kernel
theorem dL_isEquation_578 : decode cL_isEquation 578 = .ok (.iaload, 1) := by decide +kernel
theorem dL_isEquation_579 : decode cL_isEquation 579 = .ok (.bipush 30, 2) := by decide +kernel
theorem dL_isEquation_581 : decode cL_isEquation 581 = .ok (.if_icmp .ne 8, 3) := by decide +kernel
theorem dL_isEquation_584 : decode cL_isEquation 584 = .ok (.ldc 74, 2) := by decide +kernel
theorem dL_isEquation_586 : decode cL_isEquation 586 = .ok (.goto 7, 3) := by decide +kernel
theorem dL_isEquation_589 : decode cL_isEquation 589 = .ok (.aload 4, 2) := by decide +kernel
theorem dL_isEquation_591 : decode cL_isEquation 591 = .ok (.iconst 2, 1) := by decide +kernel
theorem dL_isEquation_592 : decode cL_isEquation 592 = .ok (.iaload, 1) := by decide +kernel
theorem dL_isEquation_593 : decode cL_isEquation 593 = .ok (.istore 16, 2) := by decide +kernel
theorem dL_isEquation_595 : decode cL_isEquation 595 = .ok (.iload 16, 2) := by decide +kernel
theorem dL_isEquation_597 : decode cL_isEquation 597 = .ok (.ifCond .lt 41, 3) := by decide +kernel
theorem dL_isEquation_600 : decode cL_isEquation 600 = .ok (.aload_n 2, 1) := by decide +kernel
theorem dL_isEquation_601 : decode cL_isEquation 601 = .ok (.aload 4, 2) := by decide +kernel
theorem dL_isEquation_603 : decode cL_isEquation 603 = .ok (.iconst 2, 1) := by decide +kernel
theorem dL_isEquation_604 : decode cL_isEquation 604 = .ok (.iaload, 1) := by decide +kernel
theorem dL_isEquation_605 : decode cL_isEquation 605 = .ok (.iload 11, 2) := by decide +kernel
theorem dL_isEquation_607 : decode cL_isEquation 607 = .ok (.bipush 20, 2) := by decide +kernel
theorem dL_isEquation_609 : decode cL_isEquation 609 = .ok (.iload 7, 2) := by decide +kernel
theorem dL_isEquation_611 : decode cL_isEquation 611 = .ok (.imul, 1) := by decide +kernel
theorem dL_isEquation_612 : decode cL_isEquation 612 = .ok (.iadd, 1) := by decide +kernel
theorem dL_isEquation_613 : decode cL_isEquation 613 = .ok (.sipush 200, 3) := by decide +kernel
theorem dL_isEquation_616 : decode cL_isEquation 616 = .ok (.iload 12, 2) := by decide +kernel
theorem dL_isEquation_618 : decode cL_isEquation 618 = .ok (.iconst 2, 1) := by decide +kernel
theorem dL_isEquation_619 : decode cL_isEquation 619 = .ok (.iadd, 1) := by decide +kernel
theorem dL_isEquation_620 : decode cL_isEquation 620 = .ok (.imul, 1) := by decide +kernel
theorem dL_isEquation_621 : decode cL_isEquation 621 = .ok (.iadd, 1) := by decide +kernel
theorem dL_isEquation_622 : decode cL_isEquation 622 = .ok (.sipush 2000, 3) := by decide +kernel
theorem dL_isEquation_625 : decode cL_isEquation 625 = .ok (.iload 13, 2) := by decide +kernel
theorem dL_isEquation_627 : decode cL_isEquation 627 = .ok (.imul, 1) := by decide +kernel
theorem dL_isEquation_628 : decode cL_isEquation 628 = .ok (.iadd, 1) := by decide +kernel
theorem dL_isEquation_629 : decode cL_isEquation 629 = .ok (.iastore, 1) := by decide +kernel
theorem dL_isEquation_630 : decode cL_isEquation 630 = .ok (.aload 4, 2) := by decide +kernel
theorem dL_isEquation_632 : decode cL_isEquation 632 = .ok (.iconst 2, 1) := by decide +kernel
theorem dL_isEquation_633 : decode cL_isEquation 633 = .ok (.dup2, 1) := by decide +kernel
theorem dL_isEquation_634 : decode cL_isEquation 634 = .ok (.iaload, 1) := by decide +kernel
theorem dL_isEquation_635 : decode cL_isEquation 635 = .ok (.iconst 1, 1) := by decide +kernel
theorem dL_isEquation_636 : decode cL_isEquation 636 = .ok (.iadd, 1) := by decide +kernel
theorem dL_isEquation_637 : decode cL_isEquation 637 = .ok (.iastore, 1) := by decide +kernel
theorem dL_isEquation_638 : decode cL_isEquation 638 = .ok (.iload 9, 2) := by decide +kernel
theorem dL_isEquation_640 : decode cL_isEquation 640 = .ok (.ifCond .eq 56, 3) := by decide +kernel
theorem dL_isEquation_643 : decode cL_isEquation 643 = .ok (.iload 15, 2) := by decide +kernel
theorem dL_isEquation_645 : decode cL_isEquation 645 = .ok (.iload 16, 2) := by decide +kernel
theorem dL_isEquation_647 : decode cL_isEquation 647 = .ok (.if_icmp .ne 49, 3) := by decide +kernel
theorem dL_isEquation_650 : decode cL_isEquation 650 = .ok (.aload_n 0, 1) := by decide +kernel
theorem dL_isEquation_651 : decode cL_isEquation 651 = .ok (.iconst 5, 1) := by decide +kernel
theorem dL_isEquation_652 : decode cL_isEquation 652 = .ok (.iload 11, 2) := by decide +kernel
theorem dL_isEquation_654 : decode cL_isEquation 654 = .ok (.iload 7, 2) := by decide +kernel
theorem dL_isEquation_656 : decode cL_isEquation 656 = .ok (.aload_n 3, 1) := by decide +kernel
theorem dL_isEquation_657 : decode cL_isEquation 657 = .ok (.iload 7, 2) := by decide +kernel
theorem dL_isEquation_659 : decode cL_isEquation 659 = .ok (.iaload, 1) := by decide +kernel
theorem dL_isEquation_660 : decode cL_isEquation 660 = .ok (.iconst 1, 1) := by decide +kernel
theorem dL_isEquation_661 : decode cL_isEquation 661 = .ok (.if_icmp .ne 7, 3) := by decide +kernel
theorem dL_isEquation_664 : decode cL_isEquation 664 = .ok (.iconst (-1), 1) := by decide +kernel
theorem dL_isEquation_665 : decode cL_isEquation 665 = .ok (.goto 17, 3) := by decide +kernel
theorem dL_isEquation_668 : decode cL_isEquation 668 = .ok (.aload_n 3, 1) := by decide +kernel
theorem dL_isEquation_669 : decode cL_isEquation 669 = .ok (.iload 7, 2) := by decide +kernel
theorem dL_isEquation_671 : decode cL_isEquation 671 = .ok (.iaload, 1) := by decide +kernel
theorem dL_isEquation_672 : decode cL_isEquation 672 = .ok (.iconst 2, 1) := by decide +kernel
theorem dL_isEquation_673 : decode cL_isEquation 673 = .ok (.if_icmp .ne 7, 3) := by decide +kernel
theorem dL_isEquation_676 : decode cL_isEquation 676 = .ok (.iconst (-1), 1) := by decide +kernel
theorem dL_isEquation_677 : decode cL_isEquation 677 = .ok (.goto 5, 3) := by decide +kernel
theorem dL_isEquation_680 : decode cL_isEquation 680 = .ok (.bipush (-2), 2) := by decide +kernel
theorem dL_isEquation_682 : decode cL_isEquation 682 = .ok (.iconst 0, 1) := by decide +kernel
theorem dL_isEquation_683 : decode cL_isEquation 683 = .ok (.iconst 0, 1) := by decide +kernel
theorem dL_isEquation_684 : decode cL_isEquation 684 = .ok (.invokestatic 84, 3) := by decide +kernel
theorem dL_isEquation_687 : decode cL_isEquation 687 = .ok (.ldc 71, 2) := by decide +kernel
theorem dL_isEquation_689 : decode cL_isEquation 689 = .ok (.if_icmp .ne 7, 3) := by decide +kernel
theorem dL_isEquation_692 : decode cL_isEquation 692 = .ok (.iconst 1, 1) := by decide +kernel
theorem dL_isEquation_693 : decode cL_isEquation 693 = .ok (.goto 4, 3) := by decide +kernel
theorem dL_isEquation_696 : decode cL_isEquation 696 = .ok (.iconst 0, 1) := by decide +kernel
theorem dL_isEquation_697 : decode cL_isEquation 697 = .ok (.ireturn, 1) := by decide +kernel
theorem dL_isRead_0 : decode cL_isRead 0 = .ok (.iload_n 2, 1) := by decide +kernel
theorem dL_isRead_1 : decode cL_isRead 1 = .ok (.bipush 100, 2) := by decide +kernel
theorem dL_isRead_3 : decode cL_isRead 3 = .ok (.idiv, 1) := by decide +kernel
theorem dL_isRead_4 : decode cL_isRead 4 = .ok (.istore 4, 2) := by decide +kernel
theorem dL_isRead_6 : decode cL_isRead 6 = .ok (.iload_n 2, 1) := by decide +kernel
theorem dL_isRead_7 : decode cL_isRead 7 = .ok (.bipush 100, 2) := by decide +kernel
theorem dL_isRead_9 : decode cL_isRead 9 = .ok (.irem, 1) := by decide +kernel
theorem dL_isRead_10 : decode cL_isRead 10 = .ok (.istore 5, 2) := by decide +kernel
theorem dL_isRead_12 : decode cL_isRead 12 = .ok (.iload 4, 2) := by decide +kernel
theorem dL_isRead_14 : decode cL_isRead 14 = .ok (.bipush 30, 2) := by decide +kernel
theorem dL_isRead_16 : decode cL_isRead 16 = .ok (.if_icmp .gt 41, 3) := by decide +kernel
theorem dL_isRead_19 : decode cL_isRead 19 = .ok (.iload 5, 2) := by decide +kernel
theorem dL_isRead_21 : decode cL_isRead 21 = .ok (.iload 4, 2) := by decide +kernel
theorem dL_isRead_23 : decode cL_isRead 23 = .ok (.if_icmp .gt 34, 3) := by decide +kernel
theorem dL_isRead_26 : decode cL_isRead 26 = .ok (.iload 5, 2) := by decide +kernel
theorem dL_isRead_28 : decode cL_isRead 28 = .ok (.aload_n 1, 1) := by decide +kernel
theorem dL_isRead_29 : decode cL_isRead 29 = .ok (.iconst 4, 1) := by decide +kernel
theorem dL_isRead_30 : decode cL_isRead 30 = .ok (.iaload, 1) := by decide +kernel
theorem dL_isRead_31 : decode cL_isRead 31 = .ok (.if_icmp .gt 26, 3) := by decide +kernel
theorem dL_isRead_34 : decode cL_isRead 34 = .ok (.iload_n 3, 1) := by decide +kernel
theorem dL_isRead_35 : decode cL_isRead 35 = .ok (.ifCond .eq 18, 3) := by decide +kernel
theorem dL_isRead_38 : decode cL_isRead 38 = .ok (.iload 4, 2) := by decide +kernel
theorem dL_isRead_40 : decode cL_isRead 40 = .ok (.aload_n 1, 1) := by decide +kernel
theorem dL_isRead_41 : decode cL_isRead 41 = .ok (.iconst 4, 1) := by decide +kernel
theorem dL_isRead_42 : decode cL_isRead 42 = .ok (.iaload, 1) := by decide +kernel
theorem dL_isRead_43 : decode cL_isRead 43 = .ok (.if_icmp .ne 14, 3) := by decide +kernel
theorem dL_isRead_46 : decode cL_isRead 46 = .ok (.iload 5, 2) := by decide +kernel
theorem dL_isRead_48 : decode cL_isRead 48 = .ok (.iload 4, 2) := by decide +kernel
theorem dL_isRead_50 : decode cL_isRead 50 = .ok (.if_icmp .ne 7, 3) := by decide +kernel
theorem dL_isRead_53 : decode cL_isRead 53 = .ok (.iconst 1, 1) := by decide +kernel
theorem dL_isRead_54 : decode cL_isRead 54 = .ok (.goto 4, 3) := by decide +kernel
theorem dL_isRead_57 : decode cL_isRead 57 = .ok (.iconst 0, 1) := by decide +kernel
theorem dL_isRead_58 : decode cL_isRead 58 = .ok (.istore 6, 2) := by decide +kernel
theorem dL_isRead_60 : decode cL_isRead 60 = .ok (.aload_n 1, 1) := by decide +kernel
theorem dL_isRead_61 : decode cL_isRead 61 = .ok (.iconst 4, 1) := by decide +kernel
theorem dL_isRead_62 : decode cL_isRead 62 = .ok (.iload 4, 2) := by decide +kernel
theorem dL_isRead_64 : decode cL_isRead 64 = .ok (.iastore, 1) := by decide +kernel
theorem dL_isRead_65 : decode cL_isRead 65 = .ok (.iload 6, 2) := by decide +kernel
theorem dL_isRead_67 : decode cL_isRead 67 = .ok (.ifCond .eq 18, 3) := by decide +kernel
theorem dL_isRead_70 : decode cL_isRead 70 = .ok (.aload_n 0, 1) := by decide +kernel
theorem dL_isRead_71 : decode cL_isRead 71 = .ok (.invokevirtual 95, 3) := by decide +kernel
theorem dL_isRead_74 : decode cL_isRead 74 = .ok (.aload_n 1, 1) := by decide +kernel
theorem dL_isRead_75 : decode cL_isRead 75 = .ok (.bipush 6, 2) := by decide +kernel
theorem dL_isRead_77 : decode cL_isRead 77 = .ok (.iaload, 1) := by decide +kernel
theorem dL_isRead_78 : decode cL_isRead 78 = .ok (.if_icmp .ne 7, 3) := by decide +kernel
theorem dL_isRead_81 : decode cL_isRead 81 = .ok (.iconst 1, 1) := by decide +kernel
theorem dL_isRead_82 : decode cL_isRead 82 = .ok (.goto 4, 3) := by decide +kernel
theorem dL_isRead_85 : decode cL_isRead 85 = .ok (.iconst 0, 1) := by decide +kernel
theorem dL_isRead_86 : decode cL_isRead 86 = .ok (.ireturn, 1) := by decide +kernel
theorem dL_isChanged_0 : decode cL_isChanged 0 = .ok (.iload_n 2, 1) := by decide +kernel
theorem dL_isChanged_1 : decode cL_isChanged 1 = .ok (.iconst 3, 1) := by decide +kernel
theorem dL_isChanged_2 : decode cL_isChanged 2 = .ok (.if_icmp .ge 141, 3) := by decide +kernel
theorem dL_isChanged_5 : decode cL_isChanged 5 = .ok (.iload_n 3, 1) := by decide +kernel
theorem dL_isChanged_6 : decode cL_isChanged 6 = .ok (.bipush 14, 2) := by decide +kernel
theorem dL_isChanged_8 : decode cL_isChanged 8 = .ok (.irem, 1) := by decide +kernel
theorem dL_isChanged_9 : decode cL_isChanged 9 = .ok (.istore 5, 2) := by decide +kernel
theorem dL_isChanged_11 : decode cL_isChanged 11 = .ok (.iload 4, 2) := by decide +kernel
theorem dL_isChanged_13 : decode cL_isChanged 13 = .ok (.bipush 30, 2) := by decide +kernel
theorem dL_isChanged_15 : decode cL_isChanged 15 = .ok (.irem, 1) := by decide +kernel
theorem dL_isChanged_16 : decode cL_isChanged 16 = .ok (.ifCond .ne 8, 3) := by decide +kernel
theorem dL_isChanged_19 : decode cL_isChanged 19 = .ok (.bipush 103, 2) := by decide +kernel
theorem dL_isChanged_21 : decode cL_isChanged 21 = .ok (.goto 11, 3) := by decide +kernel
theorem dL_isChanged_24 : decode cL_isChanged 24 = .ok (.bipush 97, 2) := by decide +kernel
theorem dL_isChanged_26 : decode cL_isChanged 26 = .ok (.iload 4, 2) := by decide +kernel
theorem dL_isChanged_28 : decode cL_isChanged 28 = .ok (.bipush 6, 2) := by decide +kernel
theorem dL_isChanged_30 : decode cL_isChanged 30 = .ok (.irem, 1) := by decide +kernel
theorem dL_isChanged_31 : decode cL_isChanged 31 = .ok (.iadd, 1) := by decide +kernel
theorem dL_isChanged_32 : decode cL_isChanged 32 = .ok (.istore 6, 2) := by decide +kernel
theorem dL_isChanged_34 : decode cL_isChanged 34 = .ok (.aload_n 0, 1) := by decide +kernel
theorem dL_isChanged_35 : decode cL_isChanged 35 = .ok (.bipush 7, 2) := by decide +kernel
theorem dL_isChanged_37 : decode cL_isChanged 37 = .ok (.iload 5, 2) := by decide +kernel
theorem dL_isChanged_39 : decode cL_isChanged 39 = .ok (.iload 6, 2) := by decide +kernel
theorem dL_isChanged_41 : decode cL_isChanged 41 = .ok (.iconst 0, 1) := by decide +kernel
theorem dL_isChanged_42 : decode cL_isChanged 42 = .ok (.iconst 0, 1) := by decide +kernel
theorem dL_isChanged_43 : decode cL_isChanged 43 = .ok (.iconst 0, 1) := by decide +kernel
theorem dL_isChanged_44 : decode cL_isChanged 44 = .ok (.invokestatic 84, 3) := by decide +kernel
theorem dL_isChanged_47 : decode cL_isChanged 47 = .ok (.istore 7, 2) := by decide +kernel
theorem dL_isChanged_49 : decode cL_isChanged 49 = .ok (.iload 5, 2) := by decide +kernel
theorem dL_isChanged_51 : decode cL_isChanged 51 = .ok (.aload_n 1, 1) := by decide +kernel
theorem dL_isChanged_52 : decode cL_isChanged 52 = .ok (.iconst 3, 1) := by decide +kernel
theorem dL_isChanged_53 : decode cL_isChanged 53 = .ok (.iaload, 1) := by decide +kernel
theorem dL_isChanged_54 : decode cL_isChanged 54 = .ok (.if_icmp .le 8, 3) := by decide +kernel
theorem dL_isChanged_57 : decode cL_isChanged 57 = .ok (.ldc 68, 2) := by decide +kernel
theorem dL_isChanged_59 : decode cL_isChanged 59 = .ok (.goto 35, 3) := by decide +kernel
theorem dL_isChanged_62 : decode cL_isChanged 62 = .ok (.iload 6, 2) := by decide +kernel
theorem dL_isChanged_64 : decode cL_isChanged 64 = .ok (.bipush 102, 2) := by decide +kernel
theorem dL_isChanged_66 : decode cL_isChanged 66 = .ok (.if_icmp .le 8, 3) := by decide +kernel
theorem dL_isChanged_69 : decode cL_isChanged 69 = .ok (.ldc 71, 2) := by decide +kernel
theorem dL_isChanged_71 : decode cL_isChanged 71 = .ok (.goto 23, 3) := by decide +kernel
theorem dL_isChanged_74 : decode cL_isChanged 74 = .ok (.aload_n 1, 1) := by decide +kernel
theorem dL_isChanged_75 : decode cL_isChanged 75 = .ok (.iconst 3, 1) := by decide +kernel
theorem dL_isChanged_76 : decode cL_isChanged 76 = .ok (.iaload, 1) := by decide +kernel
theorem dL_isChanged_77 : decode cL_isChanged 77 = .ok (.bipush 12, 2) := by decide +kernel
theorem dL_isChanged_79 : decode cL_isChanged 79 = .ok (.if_icmp .eq 9, 3) := by decide +kernel
theorem dL_isChanged_82 : decode cL_isChanged 82 = .ok (.aload_n 1, 1) := by decide +kernel
theorem dL_isChanged_83 : decode cL_isChanged 83 = .ok (.iconst 0, 1) := by decide +kernel
theorem dL_isChanged_84 : decode cL_isChanged 84 = .ok (.iaload, 1) := by decide +kernel
theorem dL_isChanged_85 : decode cL_isChanged 85 = .ok (.ifCond .ne 8, 3) := by decide +kernel
theorem dL_isChanged_88 : decode cL_isChanged 88 = .ok (.ldc 74, 2) := by decide +kernel
theorem dL_isChanged_90 : decode cL_isChanged 90 = .ok (.goto 4, 3) := by decide +kernel
theorem dL_isChanged_93 : decode cL_isChanged 93 = .ok (.iconst 0, 1) := by decide +kernel
theorem dL_isChanged_94 : decode cL_isChanged 94 = .ok (.istore 8, 2) := by decide +kernel
theorem dL_isChanged_96 : decode cL_isChanged 96 = .ok (.iload 8, 2) := by decide +kernel
theorem dL_isChanged_98 : decode cL_isChanged 98 = .ok (.ifCond .ge 16, 3) := by decide +kernel
theorem dL_isChanged_101 : decode cL_isChanged 101 = .ok (.iload 7, 2) := by decide +kernel
theorem dL_isChanged_103 : decode cL_isChanged 103 = .ok (.iload 8, 2) := by decide +kernel
theorem dL_isChanged_105 : decode cL_isChanged 105 = .ok (.if_icmp .ne 7, 3) := by decide +kernel
theorem dL_isChanged_108 : decode cL_isChanged 108 = .ok (.iconst 1, 1) := by decide +kernel
theorem dL_isChanged_109 : decode cL_isChanged 109 = .ok (.goto 4, 3) := by decide +kernel
theorem dL_isChanged_112 : decode cL_isChanged 112 = .ok (.iconst 0, 1) := by decide +kernel
theorem dL_isChanged_113 : decode cL_isChanged 113 = .ok (.ireturn, 1) := by decide +kernel
theorem dL_isChanged_114 : decode cL_isChanged 114 = .ok (.aload_n 1, 1) := by decide +kernel
theorem dL_isChanged_115 : decode cL_isChanged 115 = .ok (.iconst 3, 1) := by decide +kernel
theorem dL_isChanged_116 : decode cL_isChanged 116 = .ok (.dup2, 1) := by decide +kernel
theorem dL_isChanged_117 : decode cL_isChanged 117 = .ok (.iaload, 1) := by decide +kernel
theorem dL_isChanged_118 : decode cL_isChanged 118 = .ok (.iconst 1, 1) := by decide +kernel
theorem dL_isChanged_119 : decode cL_isChanged 119 = .ok (.iadd, 1) := by decide +kernel
theorem dL_isChanged_120 : decode cL_isChanged 120 = .ok (.iastore, 1) := by decide +kernel
theorem dL_isChanged_121 : decode cL_isChanged 121 = .ok (.iload 7, 2) := by decide +kernel
theorem dL_isChanged_123 : decode cL_isChanged 123 = .ok (.ifCond .lt 18, 3) := by decide +kernel
theorem dL_isChanged_126 : decode cL_isChanged 126 = .ok (.aload_n 0, 1) := by decide +kernel
theorem dL_isChanged_127 : decode cL_isChanged 127 = .ok (.aload_n 1, 1) := by decide +kernel
theorem dL_isChanged_128 : decode cL_isChanged 128 = .ok (.iload 7, 2) := by decide +kernel
theorem dL_isChanged_130 : decode cL_isChanged 130 = .ok (.iconst 0, 1) := by decide +kernel
theorem dL_isChanged_131 : decode cL_isChanged 131 = .ok (.invokestatic 104, 3) := by decide +kernel
theorem dL_isChanged_134 : decode cL_isChanged 134 = .ok (.ifCond .eq 7, 3) := by decide +kernel
theorem dL_isChanged_137 : decode cL_isChanged 137 = .ok (.iconst 1, 1) := by decide +kernel
theorem dL_isChanged_138 : decode cL_isChanged 138 = .ok (.goto 4, 3) := by decide +kernel
theorem dL_isChanged_141 : decode cL_isChanged 141 = .ok (.iconst 0, 1) := by decide +kernel
theorem dL_isChanged_142 : decode cL_isChanged 142 = .ok (.ireturn, 1) := by decide +kernel
theorem dL_isChanged_143 : decode cL_isChanged 143 = .ok (.iload_n 2, 1) := by decide +kernel
theorem dL_isChanged_144 : decode cL_isChanged 144 = .ok (.iconst 3, 1) := by decide +kernel
theorem dL_isChanged_145 : decode cL_isChanged 145 = .ok (.if_icmp .ne 95, 3) := by decide +kernel
theorem dL_isChanged_148 : decode cL_isChanged 148 = .ok (.aload_n 0, 1) := by decide +kernel
theorem dL_isChanged_149 : decode cL_isChanged 149 = .ok (.bipush 8, 2) := by decide +kernel
theorem dL_isChanged_151 : decode cL_isChanged 151 = .ok (.iload_n 3, 1) := by decide +kernel
theorem dL_isChanged_152 : decode cL_isChanged 152 = .ok (.bipush 13, 2) := by decide +kernel
theorem dL_isChanged_154 : decode cL_isChanged 154 = .ok (.irem, 1) := by decide +kernel
theorem dL_isChanged_155 : decode cL_isChanged 155 = .ok (.iconst 0, 1) := by decide +kernel
theorem dL_isChanged_156 : decode cL_isChanged 156 = .ok (.iconst 0, 1) := by decide +kernel
theorem dL_isChanged_157 : decode cL_isChanged 157 = .ok (.iconst 0, 1) := by decide +kernel
theorem dL_isChanged_158 : decode cL_isChanged 158 = .ok (.iconst 0, 1) := by decide +kernel
theorem dL_isChanged_159 : decode cL_isChanged 159 = .ok (.invokestatic 84, 3) := by decide +kernel
theorem dL_isChanged_162 : decode cL_isChanged 162 = .ok (.istore 5, 2) := by decide +kernel
theorem dL_isChanged_164 : decode cL_isChanged 164 = .ok (.iload_n 3, 1) := by decide +kernel
theorem dL_isChanged_165 : decode cL_isChanged 165 = .ok (.bipush 13, 2) := by decide +kernel
theorem dL_isChanged_167 : decode cL_isChanged 167 = .ok (.irem, 1) := by decide +kernel
theorem dL_isChanged_168 : decode cL_isChanged 168 = .ok (.aload_n 1, 1) := by decide +kernel
theorem dL_isChanged_169 : decode cL_isChanged 169 = .ok (.iconst 3, 1) := by decide +kernel
theorem dL_isChanged_170 : decode cL_isChanged 170 = .ok (.iaload, 1) := by decide +kernel
theorem dL_isChanged_171 : decode cL_isChanged 171 = .ok (.if_icmp .lt 8, 3) := by decide +kernel
theorem dL_isChanged_174 : decode cL_isChanged 174 = .ok (.ldc 68, 2) := by decide +kernel
theorem dL_isChanged_176 : decode cL_isChanged 176 = .ok (.goto 15, 3) := by decide +kernel
theorem dL_isChanged_179 : decode cL_isChanged 179 = .ok (.aload_n 1, 1) := by decide +kernel
theorem dL_isChanged_180 : decode cL_isChanged 180 = .ok (.iconst 0, 1) := by decide +kernel
theorem dL_isChanged_181 : decode cL_isChanged 181 = .ok (.iaload, 1) := by decide +kernel
theorem dL_isChanged_182 : decode cL_isChanged 182 = .ok (.ifCond .ne 8, 3) := by decide +kernel
theorem dL_isChanged_185 : decode cL_isChanged 185 = .ok (.ldc 74, 2) := by decide +kernel
theorem dL_isChanged_187 : decode cL_isChanged 187 = .ok (.goto 4, 3) := by decide +kernel
theorem dL_isChanged_190 : decode cL_isChanged 190 = .ok (.iconst 0, 1) := by decide +kernel
theorem dL_isChanged_191 : decode cL_isChanged 191 = .ok (.istore 6, 2) := by decide +kernel
theorem dL_isChanged_193 : decode cL_isChanged 193 = .ok (.iload 6, 2) := by decide +kernel
theorem dL_isChanged_195 : decode cL_isChanged 195 = .ok (.ifCond .ge 16, 3) := by decide +kernel
theorem dL_isChanged_198 : decode cL_isChanged 198 = .ok (.iload 5, 2) := by decide +kernel
theorem dL_isChanged_200 : decode cL_isChanged 200 = .ok (.iload 6, 2) := by decide +kernel
theorem dL_isChanged_202 : decode cL_isChanged 202 = .ok (.if_icmp .ne 7, 3) := by decide +kernel
theorem dL_isChanged_205 : decode cL_isChanged 205 = .ok (.iconst 1, 1) := by decide +kernel
theorem dL_isChanged_206 : decode cL_isChanged 206 = .ok (.goto 4, 3) := by decide +kernel
theorem dL_isChanged_209 : decode cL_isChanged 209 = .ok (.iconst 0, 1) := by decide +kernel
theorem dL_isChanged_210 : decode cL_isChanged 210 = .ok (.ireturn, 1) := by decide +kernel
theorem dL_isChanged_211 : decode cL_isChanged 211 = .ok (.aload_n 1, 1) := by decide +kernel
theorem dL_isChanged_212 : decode cL_isChanged 212 = .ok (.iconst 3, 1) := by decide +kernel
theorem dL_isChanged_213 : decode cL_isChanged 213 = .ok (.dup2, 1) := by decide +kernel
theorem dL_isChanged_214 : decode cL_isChanged 214 = .ok (.iaload, 1) := by decide +kernel
theorem dL_isChanged_215 : decode cL_isChanged 215 = .ok (.iconst 1, 1) := by decide +kernel
theorem dL_isChanged_216 : decode cL_isChanged 216 = .ok (.isub, 1) := by decide +kernel
theorem dL_isChanged_217 : decode cL_isChanged 217 = .ok (.iastore, 1) := by decide +kernel
theorem dL_isChanged_218 : decode cL_isChanged 218 = .ok (.iload 5, 2) := by decide +kernel
theorem dL_isChanged_220 : decode cL_isChanged 220 = .ok (.ifCond .lt 18, 3) := by decide +kernel
theorem dL_isChanged_223 : decode cL_isChanged 223 = .ok (.aload_n 0, 1) := by decide +kernel
theorem dL_isChanged_224 : decode cL_isChanged 224 = .ok (.aload_n 1, 1) := by decide +kernel
theorem dL_isChanged_225 : decode cL_isChanged 225 = .ok (.iload 5, 2) := by decide +kernel
theorem dL_isChanged_227 : decode cL_isChanged 227 = .ok (.iconst 0, 1) := by decide +kernel
theorem dL_isChanged_228 : decode cL_isChanged 228 = .ok (.invokestatic 104, 3) := by decide +kernel
theorem dL_isChanged_231 : decode cL_isChanged 231 = .ok (.ifCond .eq 7, 3) := by decide +kernel
theorem dL_isChanged_234 : decode cL_isChanged 234 = .ok (.iconst 1, 1) := by decide +kernel
theorem dL_isChanged_235 : decode cL_isChanged 235 = .ok (.goto 4, 3) := by decide +kernel
theorem dL_isChanged_238 : decode cL_isChanged 238 = .ok (.iconst 0, 1) := by decide +kernel
theorem dL_isChanged_239 : decode cL_isChanged 239 = .ok (.ireturn, 1) := by decide +kernel
theorem dL_isChanged_240 : decode cL_isChanged 240 = .ok (.aload_n 0, 1) := by decide +kernel
theorem dL_isChanged_241 : decode cL_isChanged 241 = .ok (.bipush 9, 2) := by decide +kernel
theorem dL_isChanged_243 : decode cL_isChanged 243 = .ok (.iconst 0, 1) := by decide +kernel
theorem dL_isChanged_244 : decode cL_isChanged 244 = .ok (.iconst 0, 1) := by decide +kernel
theorem dL_isChanged_245 : decode cL_isChanged 245 = .ok (.iconst 0, 1) := by decide +kernel
theorem dL_isChanged_246 : decode cL_isChanged 246 = .ok (.iconst 0, 1) := by decide +kernel
theorem dL_isChanged_247 : decode cL_isChanged 247 = .ok (.iconst 0, 1) := by decide +kernel
theorem dL_isChanged_248 : decode cL_isChanged 248 = .ok (.invokestatic 84, 3) := by decide +kernel
theorem dL_isChanged_251 : decode cL_isChanged 251 = .ok (.istore 5, 2) := by decide +kernel
theorem dL_isChanged_253 : decode cL_isChanged 253 = .ok (.aload_n 1, 1) := by decide +kernel
theorem dL_isChanged_254 : decode cL_isChanged 254 = .ok (.iconst 0, 1) := by decide +kernel
theorem dL_isChanged_255 : decode cL_isChanged 255 = .ok (.iaload, 1) := by decide +kernel
theorem dL_isChanged_256 : decode cL_isChanged 256 = .ok (.ifCond .ne 16, 3) := by decide +kernel
theorem dL_isChanged_259 : decode cL_isChanged 259 = .ok (.iload 5, 2) := by decide +kernel
theorem dL_isChanged_261 : decode cL_isChanged 261 = .ok (.ldc 74, 2) := by decide +kernel
theorem dL_isChanged_263 : decode cL_isChanged 263 = .ok (.if_icmp .ne 7, 3) := by decide +kernel
theorem dL_isChanged_266 : decode cL_isChanged 266 = .ok (.iconst 1, 1) := by decide +kernel
theorem dL_isChanged_267 : decode cL_isChanged 267 = .ok (.goto 4, 3) := by decide +kernel
theorem dL_isChanged_270 : decode cL_isChanged 270 = .ok (.iconst 0, 1) := by decide +kernel
theorem dL_isChanged_271 : decode cL_isChanged 271 = .ok (.ireturn, 1) := by decide +kernel
theorem dL_isChanged_272 : decode cL_isChanged 272 = .ok (.iload 5, 2) := by decide +kernel
theorem dL_isChanged_274 : decode cL_isChanged 274 = .ok (.ifCond .lt 18, 3) := by decide +kernel
theorem dL_isChanged_277 : decode cL_isChanged 277 = .ok (.aload_n 0, 1) := by decide +kernel
theorem dL_isChanged_278 : decode cL_isChanged 278 = .ok (.aload_n 1, 1) := by decide +kernel
theorem dL_isChanged_279 : decode cL_isChanged 279 = .ok (.iload 5, 2) := by decide +kernel
theorem dL_isChanged_281 : decode cL_isChanged 281 = .ok (.iconst 0, 1) := by decide +kernel
theorem dL_isChanged_282 : decode cL_isChanged 282 = .ok (.invokestatic 104, 3) := by decide +kernel
theorem dL_isChanged_285 : decode cL_isChanged 285 = .ok (.ifCond .eq 7, 3) := by decide +kernel
theorem dL_isChanged_288 : decode cL_isChanged 288 = .ok (.iconst 1, 1) := by decide +kernel
theorem dL_isChanged_289 : decode cL_isChanged 289 = .ok (.goto 4, 3) := by decide +kernel
theorem dL_isChanged_292 : decode cL_isChanged 292 = .ok (.iconst 0, 1) := by decide +kernel
theorem dL_isChanged_293 : decode cL_isChanged 293 = .ok (.istore 6, 2) := by decide +kernel
theorem dL_isChanged_295 : decode cL_isChanged 295 = .ok (.aload_n 0, 1) := by decide +kernel
theorem dL_isChanged_296 : decode cL_isChanged 296 = .ok (.bipush 9, 2) := by decide +kernel
theorem dL_isChanged_298 : decode cL_isChanged 298 = .ok (.iconst 0, 1) := by decide +kernel
theorem dL_isChanged_299 : decode cL_isChanged 299 = .ok (.iconst 0, 1) := by decide +kernel
theorem dL_isChanged_300 : decode cL_isChanged 300 = .ok (.iconst 0, 1) := by decide +kernel
theorem dL_isChanged_301 : decode cL_isChanged 301 = .ok (.iconst 0, 1) := by decide +kernel
theorem dL_isChanged_302 : decode cL_isChanged 302 = .ok (.iconst 0, 1) := by decide +kernel
theorem dL_isChanged_303 : decode cL_isChanged 303 = .ok (.invokestatic 84, 3) := by decide +kernel
theorem dL_isChanged_306 : decode cL_isChanged 306 = .ok (.istore 7, 2) := by decide +kernel
theorem dL_isChanged_308 : decode cL_isChanged 308 = .ok (.iload 6, 2) := by decide +kernel
theorem dL_isChanged_310 : decode cL_isChanged 310 = .ok (.ifCond .eq 18, 3) := by decide +kernel
theorem dL_isChanged_313 : decode cL_isChanged 313 = .ok (.aload_n 0, 1) := by decide +kernel
theorem dL_isChanged_314 : decode cL_isChanged 314 = .ok (.aload_n 1, 1) := by decide +kernel
theorem dL_isChanged_315 : decode cL_isChanged 315 = .ok (.iload 7, 2) := by decide +kernel
theorem dL_isChanged_317 : decode cL_isChanged 317 = .ok (.iconst 1, 1) := by decide +kernel
theorem dL_isChanged_318 : decode cL_isChanged 318 = .ok (.invokestatic 104, 3) := by decide +kernel
theorem dL_isChanged_321 : decode cL_isChanged 321 = .ok (.ifCond .eq 7, 3) := by decide +kernel
theorem dL_isChanged_324 : decode cL_isChanged 324 = .ok (.iconst 1, 1) := by decide +kernel
theorem dL_isChanged_325 : decode cL_isChanged 325 = .ok (.goto 4, 3) := by decide +kernel
theorem dL_isChanged_328 : decode cL_isChanged 328 = .ok (.iconst 0, 1) := by decide +kernel
theorem dL_isChanged_329 : decode cL_isChanged 329 = .ok (.ireturn, 1) := by decide +kernel
theorem dL_isRewritten_0 : decode cL_isRewritten 0 = .ok (.aload_n 0, 1) := by decide +kernel
theorem dL_isRewritten_1 : decode cL_isRewritten 1 = .ok (.bipush 10, 2) := by decide +kernel
theorem dL_isRewritten_3 : decode cL_isRewritten 3 = .ok (.iload_n 3, 1) := by decide +kernel
theorem dL_isRewritten_4 : decode cL_isRewritten 4 = .ok (.iconst 0, 1) := by decide +kernel
theorem dL_isRewritten_5 : decode cL_isRewritten 5 = .ok (.iconst 0, 1) := by decide +kernel
theorem dL_isRewritten_6 : decode cL_isRewritten 6 = .ok (.iconst 0, 1) := by decide +kernel
theorem dL_isRewritten_7 : decode cL_isRewritten 7 = .ok (.iconst 0, 1) := by decide +kernel
theorem dL_isRewritten_8 : decode cL_isRewritten 8 = .ok (.invokestatic 84, 3) := by decide +kernel
theorem dL_isRewritten_11 : decode cL_isRewritten 11 = .ok (.istore 4, 2) := by decide +kernel
theorem dL_isRewritten_13 : decode cL_isRewritten 13 = .ok (.iload_n 3, 1) := by decide +kernel
theorem dL_isRewritten_14 : decode cL_isRewritten 14 = .ok (.aload_n 2, 1) := by decide +kernel
theorem dL_isRewritten_15 : decode cL_isRewritten 15 = .ok (.iconst 4, 1) := by decide +kernel
theorem dL_isRewritten_16 : decode cL_isRewritten 16 = .ok (.iaload, 1) := by decide +kernel
theorem dL_isRewritten_17 : decode cL_isRewritten 17 = .ok (.if_icmp .lt 16, 3) := by decide +kernel
theorem dL_isRewritten_20 : decode cL_isRewritten 20 = .ok (.iload 4, 2) := by decide +kernel
theorem dL_isRewritten_22 : decode cL_isRewritten 22 = .ok (.ldc 68, 2) := by decide +kernel
theorem dL_isRewritten_24 : decode cL_isRewritten 24 = .ok (.if_icmp .ne 7, 3) := by decide +kernel
theorem dL_isRewritten_27 : decode cL_isRewritten 27 = .ok (.iconst 1, 1) := by decide +kernel
theorem dL_isRewritten_28 : decode cL_isRewritten 28 = .ok (.goto 4, 3) := by decide +kernel
theorem dL_isRewritten_31 : decode cL_isRewritten 31 = .ok (.iconst 0, 1) := by decide +kernel
theorem dL_isRewritten_32 : decode cL_isRewritten 32 = .ok (.ireturn, 1) := by decide +kernel
theorem dL_isRewritten_33 : decode cL_isRewritten 33 = .ok (.aload_n 0, 1) := by decide +kernel
theorem dL_isRewritten_34 : decode cL_isRewritten 34 = .ok (.iload_n 3, 1) := by decide +kernel
theorem dL_isRewritten_35 : decode cL_isRewritten 35 = .ok (.invokevirtual 53, 3) := by decide +kernel
theorem dL_isRewritten_38 : decode cL_isRewritten 38 = .ok (.bipush 10, 2) := by decide +kernel
theorem dL_isRewritten_40 : decode cL_isRewritten 40 = .ok (.idiv, 1) := by decide +kernel
theorem dL_isRewritten_41 : decode cL_isRewritten 41 = .ok (.bipush 100, 2) := by decide +kernel
theorem dL_isRewritten_43 : decode cL_isRewritten 43 = .ok (.irem, 1) := by decide +kernel
theorem dL_isRewritten_44 : decode cL_isRewritten 44 = .ok (.istore 5, 2) := by decide +kernel
theorem dL_isRewritten_46 : decode cL_isRewritten 46 = .ok (.iload 4, 2) := by decide +kernel
theorem dL_isRewritten_48 : decode cL_isRewritten 48 = .ok (.ifCond .lt 47, 3) := by decide +kernel
theorem dL_isRewritten_51 : decode cL_isRewritten 51 = .ok (.iload 4, 2) := by decide +kernel
theorem dL_isRewritten_53 : decode cL_isRewritten 53 = .ok (.aload_n 2, 1) := by decide +kernel
theorem dL_isRewritten_54 : decode cL_isRewritten 54 = .ok (.iconst 0, 1) := by decide +kernel
theorem dL_isRewritten_55 : decode cL_isRewritten 55 = .ok (.iaload, 1) := by decide +kernel
theorem dL_isRewritten_56 : decode cL_isRewritten 56 = .ok (.if_icmp .ge 39, 3) := by decide +kernel
theorem dL_isRewritten_59 : decode cL_isRewritten 59 = .ok (.aload_n 1, 1) := by decide +kernel
theorem dL_isRewritten_60 : decode cL_isRewritten 60 = .ok (.iload 4, 2) := by decide +kernel
theorem dL_isRewritten_62 : decode cL_isRewritten 62 = .ok (.iaload, 1) := by decide +kernel
theorem dL_isRewritten_63 : decode cL_isRewritten 63 = .ok (.bipush 10, 2) := by decide +kernel
theorem dL_isRewritten_65 : decode cL_isRewritten 65 = .ok (.irem, 1) := by decide +kernel
theorem dL_isRewritten_66 : decode cL_isRewritten 66 = .ok (.aload_n 1, 1) := by decide +kernel
theorem dL_isRewritten_67 : decode cL_isRewritten 67 = .ok (.iload 5, 2) := by decide +kernel
theorem dL_isRewritten_69 : decode cL_isRewritten 69 = .ok (.iaload, 1) := by decide +kernel
theorem dL_isRewritten_70 : decode cL_isRewritten 70 = .ok (.bipush 10, 2) := by decide +kernel
theorem dL_isRewritten_72 : decode cL_isRewritten 72 = .ok (.irem, 1) := by decide +kernel
theorem dL_isRewritten_73 : decode cL_isRewritten 73 = .ok (.if_icmp .ne 22, 3) := by decide +kernel
theorem dL_isRewritten_76 : decode cL_isRewritten 76 = .ok (.aload_n 1, 1) := by decide +kernel
theorem dL_isRewritten_77 : decode cL_isRewritten 77 = .ok (.iload 4, 2) := by decide +kernel
theorem dL_isRewritten_79 : decode cL_isRewritten 79 = .ok (.invokestatic 88, 3) := by decide +kernel
theorem dL_isRewritten_82 : decode cL_isRewritten 82 = .ok (.aload_n 1, 1) := by decide +kernel
theorem dL_isRewritten_83 : decode cL_isRewritten 83 = .ok (.iload 5, 2) := by decide +kernel
theorem dL_isRewritten_85 : decode cL_isRewritten 85 = .ok (.invokestatic 88, 3) := by decide +kernel
theorem dL_isRewritten_88 : decode cL_isRewritten 88 = .ok (.if_icmp .ne 7, 3) := by decide +kernel
theorem dL_isRewritten_91 : decode cL_isRewritten 91 = .ok (.iconst 1, 1) := by decide +kernel
theorem dL_isRewritten_92 : decode cL_isRewritten 92 = .ok (.goto 4, 3) := by decide +kernel
theorem dL_isRewritten_95 : decode cL_isRewritten 95 = .ok (.iconst 0, 1) := by decide +kernel
theorem dL_isRewritten_96 : decode cL_isRewritten 96 = .ok (.istore 6, 2) := by decide +kernel
theorem dL_isRewritten_98 : decode cL_isRewritten 98 = .ok (.aload_n 2, 1) := by decide +kernel
theorem dL_isRewritten_99 : decode cL_isRewritten 99 = .ok (.bipush 6, 2) := by decide +kernel
theorem dL_isRewritten_101 : decode cL_isRewritten 101 = .ok (.aload_n 0, 1) := by decide +kernel
theorem dL_isRewritten_102 : decode cL_isRewritten 102 = .ok (.invokevirtual 95, 3) := by decide +kernel
theorem dL_isRewritten_105 : decode cL_isRewritten 105 = .ok (.iastore, 1) := by decide +kernel
theorem dL_isRewritten_106 : decode cL_isRewritten 106 = .ok (.iload 6, 2) := by decide +kernel
theorem dL_isRewritten_108 : decode cL_isRewritten 108 = .ok (.ireturn, 1) := by decide +kernel
theorem dL_isLaw_0 : decode cL_isLaw 0 = .ok (.aload_n 1, 1) := by decide +kernel
theorem dL_isLaw_1 : decode cL_isLaw 1 = .ok (.iload_n 2, 1) := by decide +kernel
theorem dL_isLaw_2 : decode cL_isLaw 2 = .ok (.bipush 40, 2) := by decide +kernel
theorem dL_isLaw_4 : decode cL_isLaw 4 = .ok (.invokestatic 98, 3) := by decide +kernel
theorem dL_isLaw_7 : decode cL_isLaw 7 = .ok (.istore 8, 2) := by decide +kernel
theorem dL_isLaw_9 : decode cL_isLaw 9 = .ok (.aload_n 1, 1) := by decide +kernel
theorem dL_isLaw_10 : decode cL_isLaw 10 = .ok (.iload_n 2, 1) := by decide +kernel
theorem dL_isLaw_11 : decode cL_isLaw 11 = .ok (.iconst 1, 1) := by decide +kernel
theorem dL_isLaw_12 : decode cL_isLaw 12 = .ok (.iadd, 1) := by decide +kernel
theorem dL_isLaw_13 : decode cL_isLaw 13 = .ok (.ldc 108, 2) := by decide +kernel
theorem dL_isLaw_15 : decode cL_isLaw 15 = .ok (.invokestatic 98, 3) := by decide +kernel
theorem dL_isLaw_18 : decode cL_isLaw 18 = .ok (.istore 9, 2) := by decide +kernel
theorem dL_isLaw_20 : decode cL_isLaw 20 = .ok (.aload_n 1, 1) := by decide +kernel
theorem dL_isLaw_21 : decode cL_isLaw 21 = .ok (.iload_n 2, 1) := by decide +kernel
theorem dL_isLaw_22 : decode cL_isLaw 22 = .ok (.iconst 2, 1) := by decide +kernel
theorem dL_isLaw_23 : decode cL_isLaw 23 = .ok (.iadd, 1) := by decide +kernel
theorem dL_isLaw_24 : decode cL_isLaw 24 = .ok (.ldc 109, 2) := by decide +kernel
theorem dL_isLaw_26 : decode cL_isLaw 26 = .ok (.invokestatic 98, 3) := by decide +kernel
theorem dL_isLaw_29 : decode cL_isLaw 29 = .ok (.istore 10, 2) := by decide +kernel
theorem dL_isLaw_31 : decode cL_isLaw 31 = .ok (.iload 8, 2) := by decide +kernel
theorem dL_isLaw_33 : decode cL_isLaw 33 = .ok (.iconst 5, 1) := by decide +kernel
theorem dL_isLaw_34 : decode cL_isLaw 34 = .ok (.if_icmp .ge 15, 3) := by decide +kernel
theorem dL_isLaw_37 : decode cL_isLaw 37 = .ok (.aload_n 0, 1) := by decide +kernel
theorem dL_isLaw_38 : decode cL_isLaw 38 = .ok (.aload_n 3, 1) := by decide +kernel
theorem dL_isLaw_39 : decode cL_isLaw 39 = .ok (.aload 6, 2) := by decide +kernel
theorem dL_isLaw_41 : decode cL_isLaw 41 = .ok (.iload 9, 2) := by decide +kernel
theorem dL_isLaw_43 : decode cL_isLaw 43 = .ok (.iload 10, 2) := by decide +kernel
theorem dL_isLaw_45 : decode cL_isLaw 45 = .ok (.invokestatic 110, 3) := by decide +kernel
theorem dL_isLaw_48 : decode cL_isLaw 48 = .ok (.ireturn, 1) := by decide +kernel
theorem dL_isLaw_49 : decode cL_isLaw 49 = .ok (.iload 8, 2) := by decide +kernel
theorem dL_isLaw_51 : decode cL_isLaw 51 = .ok (.bipush 12, 2) := by decide +kernel
theorem dL_isLaw_53 : decode cL_isLaw 53 = .ok (.if_icmp .ge 19, 3) := by decide +kernel
theorem dL_isLaw_56 : decode cL_isLaw 56 = .ok (.aload_n 0, 1) := by decide +kernel
theorem dL_isLaw_57 : decode cL_isLaw 57 = .ok (.aload_n 3, 1) := by decide +kernel
theorem dL_isLaw_58 : decode cL_isLaw 58 = .ok (.aload 4, 2) := by decide +kernel
theorem dL_isLaw_60 : decode cL_isLaw 60 = .ok (.aload 5, 2) := by decide +kernel
theorem dL_isLaw_62 : decode cL_isLaw 62 = .ok (.aload 6, 2) := by decide +kernel
theorem dL_isLaw_64 : decode cL_isLaw 64 = .ok (.aload_n 1, 1) := by decide +kernel
theorem dL_isLaw_65 : decode cL_isLaw 65 = .ok (.iload_n 2, 1) := by decide +kernel
theorem dL_isLaw_66 : decode cL_isLaw 66 = .ok (.iconst 1, 1) := by decide +kernel
theorem dL_isLaw_67 : decode cL_isLaw 67 = .ok (.iadd, 1) := by decide +kernel
theorem dL_isLaw_68 : decode cL_isLaw 68 = .ok (.invokestatic 114, 3) := by decide +kernel
theorem dL_isLaw_71 : decode cL_isLaw 71 = .ok (.ireturn, 1) := by decide +kernel
theorem dL_isLaw_72 : decode cL_isLaw 72 = .ok (.iload 8, 2) := by decide +kernel
theorem dL_isLaw_74 : decode cL_isLaw 74 = .ok (.bipush 14, 2) := by decide +kernel
theorem dL_isLaw_76 : decode cL_isLaw 76 = .ok (.if_icmp .ge 88, 3) := by decide +kernel
theorem dL_isLaw_79 : decode cL_isLaw 79 = .ok (.aload_n 0, 1) := by decide +kernel
theorem dL_isLaw_80 : decode cL_isLaw 80 = .ok (.iconst 3, 1) := by decide +kernel
theorem dL_isLaw_81 : decode cL_isLaw 81 = .ok (.iload 9, 2) := by decide +kernel
theorem dL_isLaw_83 : decode cL_isLaw 83 = .ok (.iconst 5, 1) := by decide +kernel
theorem dL_isLaw_84 : decode cL_isLaw 84 = .ok (.irem, 1) := by decide +kernel
theorem dL_isLaw_85 : decode cL_isLaw 85 = .ok (.iconst 0, 1) := by decide +kernel
theorem dL_isLaw_86 : decode cL_isLaw 86 = .ok (.iconst 0, 1) := by decide +kernel
theorem dL_isLaw_87 : decode cL_isLaw 87 = .ok (.iconst 0, 1) := by decide +kernel
theorem dL_isLaw_88 : decode cL_isLaw 88 = .ok (.iconst 0, 1) := by decide +kernel
theorem dL_isLaw_89 : decode cL_isLaw 89 = .ok (.invokestatic 84, 3) := by decide +kernel
theorem dL_isLaw_92 : decode cL_isLaw 92 = .ok (.istore 11, 2) := by decide +kernel
theorem dL_isLaw_94 : decode cL_isLaw 94 = .ok (.iload 9, 2) := by decide +kernel
theorem dL_isLaw_96 : decode cL_isLaw 96 = .ok (.iconst 5, 1) := by decide +kernel
theorem dL_isLaw_97 : decode cL_isLaw 97 = .ok (.irem, 1) := by decide +kernel
theorem dL_isLaw_98 : decode cL_isLaw 98 = .ok (.iconst 4, 1) := by decide +kernel
theorem dL_isLaw_99 : decode cL_isLaw 99 = .ok (.if_icmp .ne 8, 3) := by decide +kernel
theorem dL_isLaw_102 : decode cL_isLaw 102 = .ok (.ldc 71, 2) := by decide +kernel
theorem dL_isLaw_104 : decode cL_isLaw 104 = .ok (.goto 21, 3) := by decide +kernel
theorem dL_isLaw_107 : decode cL_isLaw 107 = .ok (.aload 6, 2) := by decide +kernel
theorem dL_isLaw_109 : decode cL_isLaw 109 = .ok (.iconst 1, 1) := by decide +kernel
theorem dL_isLaw_110 : decode cL_isLaw 110 = .ok (.iaload, 1) := by decide +kernel
theorem dL_isLaw_111 : decode cL_isLaw 111 = .ok (.bipush 6, 2) := by decide +kernel
theorem dL_isLaw_113 : decode cL_isLaw 113 = .ok (.if_icmp .ne 8, 3) := by decide +kernel
theorem dL_isLaw_116 : decode cL_isLaw 116 = .ok (.ldc 74, 2) := by decide +kernel
theorem dL_isLaw_118 : decode cL_isLaw 118 = .ok (.goto 7, 3) := by decide +kernel
theorem dL_isLaw_121 : decode cL_isLaw 121 = .ok (.aload 6, 2) := by decide +kernel
theorem dL_isLaw_123 : decode cL_isLaw 123 = .ok (.iconst 1, 1) := by decide +kernel
theorem dL_isLaw_124 : decode cL_isLaw 124 = .ok (.iaload, 1) := by decide +kernel
theorem dL_isLaw_125 : decode cL_isLaw 125 = .ok (.istore 12, 2) := by decide +kernel
theorem dL_isLaw_127 : decode cL_isLaw 127 = .ok (.iload 12, 2) := by decide +kernel
theorem dL_isLaw_129 : decode cL_isLaw 129 = .ok (.ifCond .lt 22, 3) := by decide +kernel
theorem dL_isLaw_132 : decode cL_isLaw 132 = .ok (.aload 5, 2) := by decide +kernel
theorem dL_isLaw_134 : decode cL_isLaw 134 = .ok (.aload 6, 2) := by decide +kernel
theorem dL_isLaw_136 : decode cL_isLaw 136 = .ok (.iconst 1, 1) := by decide +kernel
theorem dL_isLaw_137 : decode cL_isLaw 137 = .ok (.iaload, 1) := by decide +kernel
theorem dL_isLaw_138 : decode cL_isLaw 138 = .ok (.iload 9, 2) := by decide +kernel
theorem dL_isLaw_140 : decode cL_isLaw 140 = .ok (.iconst 5, 1) := by decide +kernel
theorem dL_isLaw_141 : decode cL_isLaw 141 = .ok (.irem, 1) := by decide +kernel
theorem dL_isLaw_142 : decode cL_isLaw 142 = .ok (.iastore, 1) := by decide +kernel
theorem dL_isLaw_143 : decode cL_isLaw 143 = .ok (.aload 6, 2) := by decide +kernel
theorem dL_isLaw_145 : decode cL_isLaw 145 = .ok (.iconst 1, 1) := by decide +kernel
theorem dL_isLaw_146 : decode cL_isLaw 146 = .ok (.dup2, 1) := by decide +kernel
theorem dL_isLaw_147 : decode cL_isLaw 147 = .ok (.iaload, 1) := by decide +kernel
theorem dL_isLaw_148 : decode cL_isLaw 148 = .ok (.iconst 1, 1) := by decide +kernel
theorem dL_isLaw_149 : decode cL_isLaw 149 = .ok (.iadd, 1) := by decide +kernel
theorem dL_isLaw_150 : decode cL_isLaw 150 = .ok (.iastore, 1) := by decide +kernel
theorem dL_isLaw_151 : decode cL_isLaw 151 = .ok (.iload 11, 2) := by decide +kernel
theorem dL_isLaw_153 : decode cL_isLaw 153 = .ok (.iload 12, 2) := by decide +kernel
theorem dL_isLaw_155 : decode cL_isLaw 155 = .ok (.if_icmp .ne 7, 3) := by decide +kernel
theorem dL_isLaw_158 : decode cL_isLaw 158 = .ok (.iconst 1, 1) := by decide +kernel
theorem dL_isLaw_159 : decode cL_isLaw 159 = .ok (.goto 4, 3) := by decide +kernel
theorem dL_isLaw_162 : decode cL_isLaw 162 = .ok (.iconst 0, 1) := by decide +kernel
theorem dL_isLaw_163 : decode cL_isLaw 163 = .ok (.ireturn, 1) := by decide +kernel
theorem dL_isLaw_164 : decode cL_isLaw 164 = .ok (.iload 8, 2) := by decide +kernel
theorem dL_isLaw_166 : decode cL_isLaw 166 = .ok (.bipush 14, 2) := by decide +kernel
theorem dL_isLaw_168 : decode cL_isLaw 168 = .ok (.if_icmp .ne 68, 3) := by decide +kernel
theorem dL_isLaw_171 : decode cL_isLaw 171 = .ok (.aload 6, 2) := by decide +kernel
theorem dL_isLaw_173 : decode cL_isLaw 173 = .ok (.iconst 5, 1) := by decide +kernel
theorem dL_isLaw_174 : decode cL_isLaw 174 = .ok (.dup2, 1) := by decide +kernel
theorem dL_isLaw_175 : decode cL_isLaw 175 = .ok (.iaload, 1) := by decide +kernel
theorem dL_isLaw_176 : decode cL_isLaw 176 = .ok (.iconst 1, 1) := by decide +kernel
theorem dL_isLaw_177 : decode cL_isLaw 177 = .ok (.iload 9, 2) := by decide +kernel
theorem dL_isLaw_179 : decode cL_isLaw 179 = .ok (.iconst 4, 1) := by decide +kernel
theorem dL_isLaw_180 : decode cL_isLaw 180 = .ok (.irem, 1) := by decide +kernel
theorem dL_isLaw_181 : decode cL_isLaw 181 = .ok (.ishl, 1) := by decide +kernel
theorem dL_isLaw_182 : decode cL_isLaw 182 = .ok (.ixor, 1) := by decide +kernel
theorem dL_isLaw_183 : decode cL_isLaw 183 = .ok (.iastore, 1) := by decide +kernel
theorem dL_isLaw_184 : decode cL_isLaw 184 = .ok (.aload_n 0, 1) := by decide +kernel
theorem dL_isLaw_185 : decode cL_isLaw 185 = .ok (.bipush 6, 2) := by decide +kernel
theorem dL_isLaw_187 : decode cL_isLaw 187 = .ok (.iload 9, 2) := by decide +kernel
theorem dL_isLaw_189 : decode cL_isLaw 189 = .ok (.iconst 4, 1) := by decide +kernel
theorem dL_isLaw_190 : decode cL_isLaw 190 = .ok (.irem, 1) := by decide +kernel
theorem dL_isLaw_191 : decode cL_isLaw 191 = .ok (.iconst 0, 1) := by decide +kernel
theorem dL_isLaw_192 : decode cL_isLaw 192 = .ok (.iconst 0, 1) := by decide +kernel
theorem dL_isLaw_193 : decode cL_isLaw 193 = .ok (.iconst 0, 1) := by decide +kernel
theorem dL_isLaw_194 : decode cL_isLaw 194 = .ok (.iconst 0, 1) := by decide +kernel
theorem dL_isLaw_195 : decode cL_isLaw 195 = .ok (.invokestatic 84, 3) := by decide +kernel
theorem dL_isLaw_198 : decode cL_isLaw 198 = .ok (.iconst 1, 1) := by decide +kernel
theorem dL_isLaw_199 : decode cL_isLaw 199 = .ok (.aload 6, 2) := by decide +kernel
theorem dL_isLaw_201 : decode cL_isLaw 201 = .ok (.iconst 5, 1) := by decide +kernel
theorem dL_isLaw_202 : decode cL_isLaw 202 = .ok (.iaload, 1) := by decide +kernel
theorem dL_isLaw_203 : decode cL_isLaw 203 = .ok (.iload 9, 2) := by decide +kernel
theorem dL_isLaw_205 : decode cL_isLaw 205 = .ok (.iconst 4, 1) := by decide +kernel
theorem dL_isLaw_206 : decode cL_isLaw 206 = .ok (.irem, 1) := by decide +kernel
theorem dL_isLaw_207 : decode cL_isLaw 207 = .ok (.ishr, 1) := by decide +kernel
theorem dL_isLaw_208 : decode cL_isLaw 208 = .ok (.iconst 1, 1) := by decide +kernel
theorem dL_isLaw_209 : decode cL_isLaw 209 = .ok (.iand, 1) := by decide +kernel
theorem dL_isLaw_210 : decode cL_isLaw 210 = .ok (.isub, 1) := by decide +kernel
theorem dL_isLaw_211 : decode cL_isLaw 211 = .ok (.if_icmp .ne 23, 3) := by decide +kernel
theorem dL_isLaw_214 : decode cL_isLaw 214 = .ok (.aload_n 0, 1) := by decide +kernel
theorem dL_isLaw_215 : decode cL_isLaw 215 = .ok (.bipush 6, 2) := by decide +kernel
theorem dL_isLaw_217 : decode cL_isLaw 217 = .ok (.iconst 4, 1) := by decide +kernel
theorem dL_isLaw_218 : decode cL_isLaw 218 = .ok (.iconst 0, 1) := by decide +kernel
theorem dL_isLaw_219 : decode cL_isLaw 219 = .ok (.iconst 0, 1) := by decide +kernel
theorem dL_isLaw_220 : decode cL_isLaw 220 = .ok (.iconst 0, 1) := by decide +kernel
theorem dL_isLaw_221 : decode cL_isLaw 221 = .ok (.iconst 0, 1) := by decide +kernel
theorem dL_isLaw_222 : decode cL_isLaw 222 = .ok (.invokestatic 84, 3) := by decide +kernel
theorem dL_isLaw_225 : decode cL_isLaw 225 = .ok (.ldc 68, 2) := by decide +kernel
theorem dL_isLaw_227 : decode cL_isLaw 227 = .ok (.if_icmp .ne 7, 3) := by decide +kernel
theorem dL_isLaw_230 : decode cL_isLaw 230 = .ok (.iconst 1, 1) := by decide +kernel
theorem dL_isLaw_231 : decode cL_isLaw 231 = .ok (.goto 4, 3) := by decide +kernel
theorem dL_isLaw_234 : decode cL_isLaw 234 = .ok (.iconst 0, 1) := by decide +kernel
theorem dL_isLaw_235 : decode cL_isLaw 235 = .ok (.ireturn, 1) := by decide +kernel
theorem dL_isLaw_236 : decode cL_isLaw 236 = .ok (.iload 8, 2) := by decide +kernel
theorem dL_isLaw_238 : decode cL_isLaw 238 = .ok (.bipush 15, 2) := by decide +kernel
theorem dL_isLaw_240 : decode cL_isLaw 240 = .ok (.if_icmp .ne 57, 3) := by decide +kernel
theorem dL_isLaw_243 : decode cL_isLaw 243 = .ok (.aload_n 0, 1) := by decide +kernel
theorem dL_isLaw_244 : decode cL_isLaw 244 = .ok (.iconst 1, 1) := by decide +kernel
theorem dL_isLaw_245 : decode cL_isLaw 245 = .ok (.iload 9, 2) := by decide +kernel
theorem dL_isLaw_247 : decode cL_isLaw 247 = .ok (.bipush 10, 2) := by decide +kernel
theorem dL_isLaw_249 : decode cL_isLaw 249 = .ok (.irem, 1) := by decide +kernel
theorem dL_isLaw_250 : decode cL_isLaw 250 = .ok (.iload 10, 2) := by decide +kernel
theorem dL_isLaw_252 : decode cL_isLaw 252 = .ok (.bipush 11, 2) := by decide +kernel
theorem dL_isLaw_254 : decode cL_isLaw 254 = .ok (.irem, 1) := by decide +kernel
theorem dL_isLaw_255 : decode cL_isLaw 255 = .ok (.iconst 1, 1) := by decide +kernel
theorem dL_isLaw_256 : decode cL_isLaw 256 = .ok (.isub, 1) := by decide +kernel
theorem dL_isLaw_257 : decode cL_isLaw 257 = .ok (.iload 10, 2) := by decide +kernel
theorem dL_isLaw_259 : decode cL_isLaw 259 = .ok (.bipush 11, 2) := by decide +kernel
theorem dL_isLaw_261 : decode cL_isLaw 261 = .ok (.idiv, 1) := by decide +kernel
theorem dL_isLaw_262 : decode cL_isLaw 262 = .ok (.iconst 3, 1) := by decide +kernel
theorem dL_isLaw_263 : decode cL_isLaw 263 = .ok (.irem, 1) := by decide +kernel
theorem dL_isLaw_264 : decode cL_isLaw 264 = .ok (.iconst 0, 1) := by decide +kernel
theorem dL_isLaw_265 : decode cL_isLaw 265 = .ok (.iconst 0, 1) := by decide +kernel
theorem dL_isLaw_266 : decode cL_isLaw 266 = .ok (.invokestatic 84, 3) := by decide +kernel
theorem dL_isLaw_269 : decode cL_isLaw 269 = .ok (.istore 11, 2) := by decide +kernel
theorem dL_isLaw_271 : decode cL_isLaw 271 = .ok (.iload 11, 2) := by decide +kernel
theorem dL_isLaw_273 : decode cL_isLaw 273 = .ok (.iconst (-1), 1) := by decide +kernel
theorem dL_isLaw_274 : decode cL_isLaw 274 = .ok (.if_icmp .ge 17, 3) := by decide +kernel
theorem dL_isLaw_277 : decode cL_isLaw 277 = .ok (.iload 11, 2) := by decide +kernel
theorem dL_isLaw_279 : decode cL_isLaw 279 = .ok (.ldc 68, 2) := by decide +kernel
theorem dL_isLaw_281 : decode cL_isLaw 281 = .ok (.if_icmp .eq 10, 3) := by decide +kernel
theorem dL_isLaw_284 : decode cL_isLaw 284 = .ok (.iload 11, 2) := by decide +kernel
theorem dL_isLaw_286 : decode cL_isLaw 286 = .ok (.ldc 71, 2) := by decide +kernel
theorem dL_isLaw_288 : decode cL_isLaw 288 = .ok (.if_icmp .ne 7, 3) := by decide +kernel
theorem dL_isLaw_291 : decode cL_isLaw 291 = .ok (.iconst 1, 1) := by decide +kernel
theorem dL_isLaw_292 : decode cL_isLaw 292 = .ok (.goto 4, 3) := by decide +kernel
theorem dL_isLaw_295 : decode cL_isLaw 295 = .ok (.iconst 0, 1) := by decide +kernel
theorem dL_isLaw_296 : decode cL_isLaw 296 = .ok (.ireturn, 1) := by decide +kernel
theorem dL_isLaw_297 : decode cL_isLaw 297 = .ok (.iload 8, 2) := by decide +kernel
theorem dL_isLaw_299 : decode cL_isLaw 299 = .ok (.bipush 16, 2) := by decide +kernel
theorem dL_isLaw_301 : decode cL_isLaw 301 = .ok (.if_icmp .ne 156, 3) := by decide +kernel
theorem dL_isLaw_304 : decode cL_isLaw 304 = .ok (.iload 9, 2) := by decide +kernel
theorem dL_isLaw_306 : decode cL_isLaw 306 = .ok (.bipush 10, 2) := by decide +kernel
theorem dL_isLaw_308 : decode cL_isLaw 308 = .ok (.irem, 1) := by decide +kernel
theorem dL_isLaw_309 : decode cL_isLaw 309 = .ok (.istore 11, 2) := by decide +kernel
theorem dL_isLaw_311 : decode cL_isLaw 311 = .ok (.iload 10, 2) := by decide +kernel
theorem dL_isLaw_313 : decode cL_isLaw 313 = .ok (.bipush 10, 2) := by decide +kernel
theorem dL_isLaw_315 : decode cL_isLaw 315 = .ok (.irem, 1) := by decide +kernel
theorem dL_isLaw_316 : decode cL_isLaw 316 = .ok (.istore 12, 2) := by decide +kernel
theorem dL_isLaw_318 : decode cL_isLaw 318 = .ok (.aload_n 0, 1) := by decide +kernel
theorem dL_isLaw_319 : decode cL_isLaw 319 = .ok (.iconst 2, 1) := by decide +kernel
theorem dL_isLaw_320 : decode cL_isLaw 320 = .ok (.iload 11, 2) := by decide +kernel
theorem dL_isLaw_322 : decode cL_isLaw 322 = .ok (.iload 9, 2) := by decide +kernel
theorem dL_isLaw_324 : decode cL_isLaw 324 = .ok (.bipush 10, 2) := by decide +kernel
theorem dL_isLaw_326 : decode cL_isLaw 326 = .ok (.idiv, 1) := by decide +kernel
theorem dL_isLaw_327 : decode cL_isLaw 327 = .ok (.bipush 6, 2) := by decide +kernel
theorem dL_isLaw_329 : decode cL_isLaw 329 = .ok (.irem, 1) := by decide +kernel
theorem dL_isLaw_330 : decode cL_isLaw 330 = .ok (.iload 12, 2) := by decide +kernel
theorem dL_isLaw_332 : decode cL_isLaw 332 = .ok (.iconst 0, 1) := by decide +kernel
theorem dL_isLaw_333 : decode cL_isLaw 333 = .ok (.iconst 0, 1) := by decide +kernel
theorem dL_isLaw_334 : decode cL_isLaw 334 = .ok (.invokestatic 84, 3) := by decide +kernel
theorem dL_isLaw_337 : decode cL_isLaw 337 = .ok (.istore 13, 2) := by decide +kernel
theorem dL_isLaw_339 : decode cL_isLaw 339 = .ok (.iload 11, 2) := by decide +kernel
theorem dL_isLaw_341 : decode cL_isLaw 341 = .ok (.aload 6, 2) := by decide +kernel
theorem dL_isLaw_343 : decode cL_isLaw 343 = .ok (.iconst 0, 1) := by decide +kernel
theorem dL_isLaw_344 : decode cL_isLaw 344 = .ok (.iaload, 1) := by decide +kernel
theorem dL_isLaw_345 : decode cL_isLaw 345 = .ok (.if_icmp .ge 31, 3) := by decide +kernel
theorem dL_isLaw_348 : decode cL_isLaw 348 = .ok (.iload 12, 2) := by decide +kernel
theorem dL_isLaw_350 : decode cL_isLaw 350 = .ok (.aload 6, 2) := by decide +kernel
theorem dL_isLaw_352 : decode cL_isLaw 352 = .ok (.iconst 0, 1) := by decide +kernel
theorem dL_isLaw_353 : decode cL_isLaw 353 = .ok (.iaload, 1) := by decide +kernel
theorem dL_isLaw_354 : decode cL_isLaw 354 = .ok (.if_icmp .ge 22, 3) := by decide +kernel
theorem dL_isLaw_357 : decode cL_isLaw 357 = .ok (.iload 9, 2) := by decide +kernel
theorem dL_isLaw_359 : decode cL_isLaw 359 = .ok (.bipush 10, 2) := by decide +kernel
theorem dL_isLaw_361 : decode cL_isLaw 361 = .ok (.idiv, 1) := by decide +kernel
theorem dL_isLaw_362 : decode cL_isLaw 362 = .ok (.bipush 6, 2) := by decide +kernel
theorem dL_isLaw_364 : decode cL_isLaw 364 = .ok (.irem, 1) := by decide +kernel
theorem dL_isLaw_365 : decode cL_isLaw 365 = .ok (.aload 6, 2) := by decide +kernel
theorem dL_isLaw_367 : decode cL_isLaw 367 = .ok (.iconst 1, 1) := by decide +kernel
theorem dL_isLaw_368 : decode cL_isLaw 368 = .ok (.iaload, 1) := by decide +kernel
theorem dL_isLaw_369 : decode cL_isLaw 369 = .ok (.if_icmp .ge 7, 3) := by decide +kernel
theorem dL_isLaw_372 : decode cL_isLaw 372 = .ok (.iconst 1, 1) := by decide +kernel
theorem dL_isLaw_373 : decode cL_isLaw 373 = .ok (.goto 4, 3) := by decide +kernel
theorem dL_isLaw_376 : decode cL_isLaw 376 = .ok (.iconst 0, 1) := by decide +kernel
theorem dL_isLaw_377 : decode cL_isLaw 377 = .ok (.istore 14, 2) := by decide +kernel
theorem dL_isLaw_379 : decode cL_isLaw 379 = .ok (.iload 14, 2) := by decide +kernel
theorem dL_isLaw_381 : decode cL_isLaw 381 = .ok (.ifCond .ne 18, 3) := by decide +kernel
theorem dL_isLaw_384 : decode cL_isLaw 384 = .ok (.iload 13, 2) := by decide +kernel
theorem dL_isLaw_386 : decode cL_isLaw 386 = .ok (.ldc 68, 2) := by decide +kernel
theorem dL_isLaw_388 : decode cL_isLaw 388 = .ok (.if_icmp .ne 7, 3) := by decide +kernel
theorem dL_isLaw_391 : decode cL_isLaw 391 = .ok (.iconst 1, 1) := by decide +kernel
theorem dL_isLaw_392 : decode cL_isLaw 392 = .ok (.goto 64, 3) := by decide +kernel
theorem dL_isLaw_395 : decode cL_isLaw 395 = .ok (.iconst 0, 1) := by decide +kernel
theorem dL_isLaw_396 : decode cL_isLaw 396 = .ok (.goto 60, 3) := by decide +kernel
theorem dL_isLaw_399 : decode cL_isLaw 399 = .ok (.iload 13, 2) := by decide +kernel
theorem dL_isLaw_401 : decode cL_isLaw 401 = .ok (.ldc 71, 2) := by decide +kernel
theorem dL_isLaw_403 : decode cL_isLaw 403 = .ok (.if_icmp .eq 48, 3) := by decide +kernel
theorem dL_isLaw_406 : decode cL_isLaw 406 = .ok (.iload 11, 2) := by decide +kernel
theorem dL_isLaw_408 : decode cL_isLaw 408 = .ok (.iload 12, 2) := by decide +kernel
theorem dL_isLaw_410 : decode cL_isLaw 410 = .ok (.if_icmp .eq 45, 3) := by decide +kernel
theorem dL_isLaw_413 : decode cL_isLaw 413 = .ok (.aload_n 3, 1) := by decide +kernel
theorem dL_isLaw_414 : decode cL_isLaw 414 = .ok (.iload 11, 2) := by decide +kernel
theorem dL_isLaw_416 : decode cL_isLaw 416 = .ok (.iaload, 1) := by decide +kernel
theorem dL_isLaw_417 : decode cL_isLaw 417 = .ok (.bipush 10, 2) := by decide +kernel
theorem dL_isLaw_419 : decode cL_isLaw 419 = .ok (.irem, 1) := by decide +kernel
theorem dL_isLaw_420 : decode cL_isLaw 420 = .ok (.aload_n 3, 1) := by decide +kernel
theorem dL_isLaw_421 : decode cL_isLaw 421 = .ok (.iload 12, 2) := by decide +kernel
theorem dL_isLaw_423 : decode cL_isLaw 423 = .ok (.iaload, 1) := by decide +kernel
theorem dL_isLaw_424 : decode cL_isLaw 424 = .ok (.bipush 10, 2) := by decide +kernel
theorem dL_isLaw_426 : decode cL_isLaw 426 = .ok (.irem, 1) := by decide +kernel
theorem dL_isLaw_427 : decode cL_isLaw 427 = .ok (.if_icmp .ne 28, 3) := by decide +kernel
theorem dL_isLaw_430 : decode cL_isLaw 430 = .ok (.aload_n 3, 1) := by decide +kernel
theorem dL_isLaw_431 : decode cL_isLaw 431 = .ok (.iload 11, 2) := by decide +kernel
theorem dL_isLaw_433 : decode cL_isLaw 433 = .ok (.invokestatic 88, 3) := by decide +kernel
theorem dL_isLaw_436 : decode cL_isLaw 436 = .ok (.aload_n 3, 1) := by decide +kernel
theorem dL_isLaw_437 : decode cL_isLaw 437 = .ok (.iload 12, 2) := by decide +kernel
theorem dL_isLaw_439 : decode cL_isLaw 439 = .ok (.invokestatic 88, 3) := by decide +kernel
theorem dL_isLaw_442 : decode cL_isLaw 442 = .ok (.if_icmp .ne 13, 3) := by decide +kernel
theorem dL_isLaw_445 : decode cL_isLaw 445 = .ok (.iload 13, 2) := by decide +kernel
theorem dL_isLaw_447 : decode cL_isLaw 447 = .ok (.iconst (-1), 1) := by decide +kernel
theorem dL_isLaw_448 : decode cL_isLaw 448 = .ok (.if_icmp .lt 7, 3) := by decide +kernel
theorem dL_isLaw_451 : decode cL_isLaw 451 = .ok (.iconst 1, 1) := by decide +kernel
theorem dL_isLaw_452 : decode cL_isLaw 452 = .ok (.goto 4, 3) := by decide +kernel
theorem dL_isLaw_455 : decode cL_isLaw 455 = .ok (.iconst 0, 1) := by decide +kernel
theorem dL_isLaw_456 : decode cL_isLaw 456 = .ok (.ireturn, 1) := by decide +kernel
theorem dL_isLaw_457 : decode cL_isLaw 457 = .ok (.iload 8, 2) := by decide +kernel
theorem dL_isLaw_459 : decode cL_isLaw 459 = .ok (.bipush 27, 2) := by decide +kernel
theorem dL_isLaw_461 : decode cL_isLaw 461 = .ok (.if_icmp .ge 21, 3) := by decide +kernel
theorem dL_isLaw_464 : decode cL_isLaw 464 = .ok (.aload_n 0, 1) := by decide +kernel
theorem dL_isLaw_465 : decode cL_isLaw 465 = .ok (.aload 6, 2) := by decide +kernel
theorem dL_isLaw_467 : decode cL_isLaw 467 = .ok (.iload 8, 2) := by decide +kernel
theorem dL_isLaw_469 : decode cL_isLaw 469 = .ok (.bipush 17, 2) := by decide +kernel
theorem dL_isLaw_471 : decode cL_isLaw 471 = .ok (.isub, 1) := by decide +kernel
theorem dL_isLaw_472 : decode cL_isLaw 472 = .ok (.iconst 2, 1) := by decide +kernel
theorem dL_isLaw_473 : decode cL_isLaw 473 = .ok (.idiv, 1) := by decide +kernel
theorem dL_isLaw_474 : decode cL_isLaw 474 = .ok (.iload 9, 2) := by decide +kernel
theorem dL_isLaw_476 : decode cL_isLaw 476 = .ok (.iload 10, 2) := by decide +kernel
theorem dL_isLaw_478 : decode cL_isLaw 478 = .ok (.invokestatic 118, 3) := by decide +kernel
theorem dL_isLaw_481 : decode cL_isLaw 481 = .ok (.ireturn, 1) := by decide +kernel
theorem dL_isLaw_482 : decode cL_isLaw 482 = .ok (.iload 8, 2) := by decide +kernel
theorem dL_isLaw_484 : decode cL_isLaw 484 = .ok (.bipush 30, 2) := by decide +kernel
theorem dL_isLaw_486 : decode cL_isLaw 486 = .ok (.if_icmp .ge 16, 3) := by decide +kernel
theorem dL_isLaw_489 : decode cL_isLaw 489 = .ok (.aload_n 0, 1) := by decide +kernel
theorem dL_isLaw_490 : decode cL_isLaw 490 = .ok (.aload_n 3, 1) := by decide +kernel
theorem dL_isLaw_491 : decode cL_isLaw 491 = .ok (.aload 6, 2) := by decide +kernel
theorem dL_isLaw_493 : decode cL_isLaw 493 = .ok (.iload 9, 2) := by decide +kernel
theorem dL_isLaw_495 : decode cL_isLaw 495 = .ok (.bipush 31, 2) := by decide +kernel
theorem dL_isLaw_497 : decode cL_isLaw 497 = .ok (.irem, 1) := by decide +kernel
theorem dL_isLaw_498 : decode cL_isLaw 498 = .ok (.invokestatic 122, 3) := by decide +kernel
theorem dL_isLaw_501 : decode cL_isLaw 501 = .ok (.ireturn, 1) := by decide +kernel
theorem dL_isLaw_502 : decode cL_isLaw 502 = .ok (.aload 6, 2) := by decide +kernel
theorem dL_isLaw_504 : decode cL_isLaw 504 = .ok (.iconst 4, 1) := by decide +kernel
theorem dL_isLaw_505 : decode cL_isLaw 505 = .ok (.iaload, 1) := by decide +kernel
theorem dL_isLaw_506 : decode cL_isLaw 506 = .ok (.ifCond .le 21, 3) := by decide +kernel
theorem dL_isLaw_509 : decode cL_isLaw 509 = .ok (.iload 9, 2) := by decide +kernel
theorem dL_isLaw_511 : decode cL_isLaw 511 = .ok (.bipush 10, 2) := by decide +kernel
theorem dL_isLaw_513 : decode cL_isLaw 513 = .ok (.irem, 1) := by decide +kernel
theorem dL_isLaw_514 : decode cL_isLaw 514 = .ok (.ifCond .le 13, 3) := by decide +kernel
theorem dL_isLaw_517 : decode cL_isLaw 517 = .ok (.iload 9, 2) := by decide +kernel
theorem dL_isLaw_519 : decode cL_isLaw 519 = .ok (.aload 6, 2) := by decide +kernel
theorem dL_isLaw_521 : decode cL_isLaw 521 = .ok (.iconst 4, 1) := by decide +kernel
theorem dL_isLaw_522 : decode cL_isLaw 522 = .ok (.iaload, 1) := by decide +kernel
theorem dL_isLaw_523 : decode cL_isLaw 523 = .ok (.irem, 1) := by decide +kernel
theorem dL_isLaw_524 : decode cL_isLaw 524 = .ok (.goto 8, 3) := by decide +kernel
theorem dL_isLaw_527 : decode cL_isLaw 527 = .ok (.iload 9, 2) := by decide +kernel
theorem dL_isLaw_529 : decode cL_isLaw 529 = .ok (.bipush 31, 2) := by decide +kernel
theorem dL_isLaw_531 : decode cL_isLaw 531 = .ok (.irem, 1) := by decide +kernel
theorem dL_isLaw_532 : decode cL_isLaw 532 = .ok (.istore 11, 2) := by decide +kernel
theorem dL_isLaw_534 : decode cL_isLaw 534 = .ok (.iload 11, 2) := by decide +kernel
theorem dL_isLaw_536 : decode cL_isLaw 536 = .ok (.aload 6, 2) := by decide +kernel
theorem dL_isLaw_538 : decode cL_isLaw 538 = .ok (.iconst 4, 1) := by decide +kernel
theorem dL_isLaw_539 : decode cL_isLaw 539 = .ok (.iaload, 1) := by decide +kernel
theorem dL_isLaw_540 : decode cL_isLaw 540 = .ok (.if_icmp .ge 19, 3) := by decide +kernel
theorem dL_isLaw_543 : decode cL_isLaw 543 = .ok (.iload 10, 2) := by decide +kernel
theorem dL_isLaw_545 : decode cL_isLaw 545 = .ok (.bipush 6, 2) := by decide +kernel
theorem dL_isLaw_547 : decode cL_isLaw 547 = .ok (.irem, 1) := by decide +kernel
theorem dL_isLaw_548 : decode cL_isLaw 548 = .ok (.aload 6, 2) := by decide +kernel
theorem dL_isLaw_550 : decode cL_isLaw 550 = .ok (.iconst 1, 1) := by decide +kernel
theorem dL_isLaw_551 : decode cL_isLaw 551 = .ok (.iaload, 1) := by decide +kernel
theorem dL_isLaw_552 : decode cL_isLaw 552 = .ok (.if_icmp .ge 7, 3) := by decide +kernel
theorem dL_isLaw_555 : decode cL_isLaw 555 = .ok (.iconst 1, 1) := by decide +kernel
theorem dL_isLaw_556 : decode cL_isLaw 556 = .ok (.goto 4, 3) := by decide +kernel
theorem dL_isLaw_559 : decode cL_isLaw 559 = .ok (.iconst 0, 1) := by decide +kernel
theorem dL_isLaw_560 : decode cL_isLaw 560 = .ok (.istore 12, 2) := by decide +kernel
theorem dL_isLaw_562 : decode cL_isLaw 562 = .ok (.iload 12, 2) := by decide +kernel
theorem dL_isLaw_564 : decode cL_isLaw 564 = .ok (.ifCond .eq 13, 3) := by decide +kernel
theorem dL_isLaw_567 : decode cL_isLaw 567 = .ok (.aload 6, 2) := by decide +kernel
theorem dL_isLaw_569 : decode cL_isLaw 569 = .ok (.bipush 9, 2) := by decide +kernel
theorem dL_isLaw_571 : decode cL_isLaw 571 = .ok (.iaload, 1) := by decide +kernel
theorem dL_isLaw_572 : decode cL_isLaw 572 = .ok (.bipush 15, 2) := by decide +kernel
theorem dL_isLaw_574 : decode cL_isLaw 574 = .ok (.if_icmp .gt 21, 3) := by decide +kernel
theorem dL_isLaw_577 : decode cL_isLaw 577 = .ok (.aload_n 0, 1) := by decide +kernel
theorem dL_isLaw_578 : decode cL_isLaw 578 = .ok (.aload 5, 2) := by decide +kernel
theorem dL_isLaw_580 : decode cL_isLaw 580 = .ok (.aload 6, 2) := by decide +kernel
theorem dL_isLaw_582 : decode cL_isLaw 582 = .ok (.iload 11, 2) := by decide +kernel
theorem dL_isLaw_584 : decode cL_isLaw 584 = .ok (.iload 10, 2) := by decide +kernel
theorem dL_isLaw_586 : decode cL_isLaw 586 = .ok (.bipush 6, 2) := by decide +kernel
theorem dL_isLaw_588 : decode cL_isLaw 588 = .ok (.irem, 1) := by decide +kernel
theorem dL_isLaw_589 : decode cL_isLaw 589 = .ok (.invokestatic 126, 3) := by decide +kernel
theorem dL_isLaw_592 : decode cL_isLaw 592 = .ok (.ifCond .eq 7, 3) := by decide +kernel
theorem dL_isLaw_595 : decode cL_isLaw 595 = .ok (.iconst 1, 1) := by decide +kernel
theorem dL_isLaw_596 : decode cL_isLaw 596 = .ok (.goto 4, 3) := by decide +kernel
theorem dL_isLaw_599 : decode cL_isLaw 599 = .ok (.iconst 0, 1) := by decide +kernel
theorem dL_isLaw_600 : decode cL_isLaw 600 = .ok (.istore 13, 2) := by decide +kernel
theorem dL_isLaw_602 : decode cL_isLaw 602 = .ok (.aload 6, 2) := by decide +kernel
theorem dL_isLaw_604 : decode cL_isLaw 604 = .ok (.bipush 9, 2) := by decide +kernel
theorem dL_isLaw_606 : decode cL_isLaw 606 = .ok (.dup2, 1) := by decide +kernel
theorem dL_isLaw_607 : decode cL_isLaw 607 = .ok (.iaload, 1) := by decide +kernel
theorem dL_isLaw_608 : decode cL_isLaw 608 = .ok (.iload 12, 2) := by decide +kernel
theorem dL_isLaw_610 : decode cL_isLaw 610 = .ok (.ifCond .eq 7, 3) := by decide +kernel
theorem dL_isLaw_613 : decode cL_isLaw 613 = .ok (.iconst 1, 1) := by decide +kernel
theorem dL_isLaw_614 : decode cL_isLaw 614 = .ok (.goto 4, 3) := by decide +kernel
theorem dL_isLaw_617 : decode cL_isLaw 617 = .ok (.iconst 0, 1) := by decide +kernel
theorem dL_isLaw_618 : decode cL_isLaw 618 = .ok (.iadd, 1) := by decide +kernel
theorem dL_isLaw_619 : decode cL_isLaw 619 = .ok (.iastore, 1) := by decide +kernel
theorem dL_isLaw_620 : decode cL_isLaw 620 = .ok (.aload 6, 2) := by decide +kernel
theorem dL_isLaw_622 : decode cL_isLaw 622 = .ok (.iconst 4, 1) := by decide +kernel
theorem dL_isLaw_623 : decode cL_isLaw 623 = .ok (.iaload, 1) := by decide +kernel
theorem dL_isLaw_624 : decode cL_isLaw 624 = .ok (.ifCond .le 31, 3) := by decide +kernel
theorem dL_isLaw_627 : decode cL_isLaw 627 = .ok (.aload 6, 2) := by decide +kernel
theorem dL_isLaw_629 : decode cL_isLaw 629 = .ok (.iconst 1, 1) := by decide +kernel
theorem dL_isLaw_630 : decode cL_isLaw 630 = .ok (.iaload, 1) := by decide +kernel
theorem dL_isLaw_631 : decode cL_isLaw 631 = .ok (.ifCond .le 24, 3) := by decide +kernel
theorem dL_isLaw_634 : decode cL_isLaw 634 = .ok (.iload 9, 2) := by decide +kernel
theorem dL_isLaw_636 : decode cL_isLaw 636 = .ok (.iconst 2, 1) := by decide +kernel
theorem dL_isLaw_637 : decode cL_isLaw 637 = .ok (.irem, 1) := by decide +kernel
theorem dL_isLaw_638 : decode cL_isLaw 638 = .ok (.iconst 1, 1) := by decide +kernel
theorem dL_isLaw_639 : decode cL_isLaw 639 = .ok (.if_icmp .ne 16, 3) := by decide +kernel
theorem dL_isLaw_642 : decode cL_isLaw 642 = .ok (.aload 6, 2) := by decide +kernel
theorem dL_isLaw_644 : decode cL_isLaw 644 = .ok (.bipush 10, 2) := by decide +kernel
theorem dL_isLaw_646 : decode cL_isLaw 646 = .ok (.iaload, 1) := by decide +kernel
theorem dL_isLaw_647 : decode cL_isLaw 647 = .ok (.iconst 5, 1) := by decide +kernel
theorem dL_isLaw_648 : decode cL_isLaw 648 = .ok (.if_icmp .ge 7, 3) := by decide +kernel
theorem dL_isLaw_651 : decode cL_isLaw 651 = .ok (.iconst 1, 1) := by decide +kernel
theorem dL_isLaw_652 : decode cL_isLaw 652 = .ok (.goto 4, 3) := by decide +kernel
theorem dL_isLaw_655 : decode cL_isLaw 655 = .ok (.iconst 0, 1) := by decide +kernel
theorem dL_isLaw_656 : decode cL_isLaw 656 = .ok (.istore 14, 2) := by decide +kernel
theorem dL_isLaw_658 : decode cL_isLaw 658 = .ok (.aload 6, 2) := by decide +kernel
theorem dL_isLaw_660 : decode cL_isLaw 660 = .ok (.bipush 10, 2) := by decide +kernel
theorem dL_isLaw_662 : decode cL_isLaw 662 = .ok (.dup2, 1) := by decide +kernel
theorem dL_isLaw_663 : decode cL_isLaw 663 = .ok (.iaload, 1) := by decide +kernel
theorem dL_isLaw_664 : decode cL_isLaw 664 = .ok (.iload 14, 2) := by decide +kernel
theorem dL_isLaw_666 : decode cL_isLaw 666 = .ok (.ifCond .eq 7, 3) := by decide +kernel
theorem dL_isLaw_669 : decode cL_isLaw 669 = .ok (.iconst 1, 1) := by decide +kernel
theorem dL_isLaw_670 : decode cL_isLaw 670 = .ok (.goto 4, 3) := by decide +kernel
theorem dL_isLaw_673 : decode cL_isLaw 673 = .ok (.iconst 0, 1) := by decide +kernel
theorem dL_isLaw_674 : decode cL_isLaw 674 = .ok (.iadd, 1) := by decide +kernel
theorem dL_isLaw_675 : decode cL_isLaw 675 = .ok (.iastore, 1) := by decide +kernel
theorem dL_isLaw_676 : decode cL_isLaw 676 = .ok (.iload 13, 2) := by decide +kernel
theorem dL_isLaw_678 : decode cL_isLaw 678 = .ok (.ifCond .eq 37, 3) := by decide +kernel
theorem dL_isLaw_681 : decode cL_isLaw 681 = .ok (.iload 14, 2) := by decide +kernel
theorem dL_isLaw_683 : decode cL_isLaw 683 = .ok (.ifCond .eq 28, 3) := by decide +kernel
theorem dL_isLaw_686 : decode cL_isLaw 686 = .ok (.aload_n 0, 1) := by decide +kernel
theorem dL_isLaw_687 : decode cL_isLaw 687 = .ok (.aload 5, 2) := by decide +kernel
theorem dL_isLaw_689 : decode cL_isLaw 689 = .ok (.aload 6, 2) := by decide +kernel
theorem dL_isLaw_691 : decode cL_isLaw 691 = .ok (.iload 9, 2) := by decide +kernel
theorem dL_isLaw_693 : decode cL_isLaw 693 = .ok (.aload 6, 2) := by decide +kernel
theorem dL_isLaw_695 : decode cL_isLaw 695 = .ok (.iconst 4, 1) := by decide +kernel
theorem dL_isLaw_696 : decode cL_isLaw 696 = .ok (.iaload, 1) := by decide +kernel
theorem dL_isLaw_697 : decode cL_isLaw 697 = .ok (.irem, 1) := by decide +kernel
theorem dL_isLaw_698 : decode cL_isLaw 698 = .ok (.iload 10, 2) := by decide +kernel
theorem dL_isLaw_700 : decode cL_isLaw 700 = .ok (.aload 6, 2) := by decide +kernel
theorem dL_isLaw_702 : decode cL_isLaw 702 = .ok (.iconst 1, 1) := by decide +kernel
theorem dL_isLaw_703 : decode cL_isLaw 703 = .ok (.iaload, 1) := by decide +kernel
theorem dL_isLaw_704 : decode cL_isLaw 704 = .ok (.irem, 1) := by decide +kernel
theorem dL_isLaw_705 : decode cL_isLaw 705 = .ok (.invokestatic 129, 3) := by decide +kernel
theorem dL_isLaw_708 : decode cL_isLaw 708 = .ok (.ifCond .eq 7, 3) := by decide +kernel
theorem dL_isLaw_711 : decode cL_isLaw 711 = .ok (.iconst 1, 1) := by decide +kernel
theorem dL_isLaw_712 : decode cL_isLaw 712 = .ok (.goto 4, 3) := by decide +kernel
theorem dL_isLaw_715 : decode cL_isLaw 715 = .ok (.iconst 0, 1) := by decide +kernel
theorem dL_isLaw_716 : decode cL_isLaw 716 = .ok (.ireturn, 1) := by decide +kernel
theorem dL_law_0 : decode cL_law 0 = .ok (.new 9, 3) := by decide +kernel
theorem dL_law_3 : decode cL_law 3 = .ok (.dup, 1) := by decide +kernel
theorem dL_law_4 : decode cL_law 4 = .ok (.invokespecial 132, 3) := by decide +kernel
theorem dL_law_7 : decode cL_law 7 = .ok (.astore_n 1, 1) := by decide +kernel
theorem dL_law_8 : decode cL_law 8 = .ok (.bipush 10, 2) := by decide +kernel
theorem dL_law_10 : decode cL_law 10 = .ok (.newarray .int, 2) := by decide +kernel
theorem dL_law_12 : decode cL_law 12 = .ok (.astore_n 2, 1) := by decide +kernel
theorem dL_law_13 : decode cL_law 13 = .ok (.bipush 30, 2) := by decide +kernel
theorem dL_law_15 : decode cL_law 15 = .ok (.newarray .int, 2) := by decide +kernel
theorem dL_law_17 : decode cL_law 17 = .ok (.astore_n 3, 1) := by decide +kernel
theorem dL_law_18 : decode cL_law 18 = .ok (.bipush 6, 2) := by decide +kernel
theorem dL_law_20 : decode cL_law 20 = .ok (.newarray .int, 2) := by decide +kernel
theorem dL_law_22 : decode cL_law 22 = .ok (.astore 4, 2) := by decide +kernel
theorem dL_law_24 : decode cL_law 24 = .ok (.bipush 11, 2) := by decide +kernel
theorem dL_law_26 : decode cL_law 26 = .ok (.newarray .int, 2) := by decide +kernel
theorem dL_law_28 : decode cL_law 28 = .ok (.astore 5, 2) := by decide +kernel
theorem dL_law_30 : decode cL_law 30 = .ok (.bipush 30, 2) := by decide +kernel
theorem dL_law_32 : decode cL_law 32 = .ok (.newarray .int, 2) := by decide +kernel
theorem dL_law_34 : decode cL_law 34 = .ok (.astore 6, 2) := by decide +kernel
theorem dL_law_36 : decode cL_law 36 = .ok (.aload_n 1, 1) := by decide +kernel
theorem dL_law_37 : decode cL_law 37 = .ok (.bipush 9, 2) := by decide +kernel
theorem dL_law_39 : decode cL_law 39 = .ok (.iconst 0, 1) := by decide +kernel
theorem dL_law_40 : decode cL_law 40 = .ok (.iconst 0, 1) := by decide +kernel
theorem dL_law_41 : decode cL_law 41 = .ok (.iconst 0, 1) := by decide +kernel
theorem dL_law_42 : decode cL_law 42 = .ok (.iconst 0, 1) := by decide +kernel
theorem dL_law_43 : decode cL_law 43 = .ok (.iconst 0, 1) := by decide +kernel
theorem dL_law_44 : decode cL_law 44 = .ok (.invokestatic 84, 3) := by decide +kernel
theorem dL_law_47 : decode cL_law 47 = .ok (.ldc 74, 2) := by decide +kernel
theorem dL_law_49 : decode cL_law 49 = .ok (.if_icmp .ne 83, 3) := by decide +kernel
theorem dL_law_52 : decode cL_law 52 = .ok (.aload_n 1, 1) := by decide +kernel
theorem dL_law_53 : decode cL_law 53 = .ok (.iconst 0, 1) := by decide +kernel
theorem dL_law_54 : decode cL_law 54 = .ok (.iconst 4, 1) := by decide +kernel
theorem dL_law_55 : decode cL_law 55 = .ok (.iconst (-1), 1) := by decide +kernel
theorem dL_law_56 : decode cL_law 56 = .ok (.iconst (-1), 1) := by decide +kernel
theorem dL_law_57 : decode cL_law 57 = .ok (.iconst (-1), 1) := by decide +kernel
theorem dL_law_58 : decode cL_law 58 = .ok (.iconst 0, 1) := by decide +kernel
theorem dL_law_59 : decode cL_law 59 = .ok (.invokestatic 84, 3) := by decide +kernel
theorem dL_law_62 : decode cL_law 62 = .ok (.ldc 68, 2) := by decide +kernel
theorem dL_law_64 : decode cL_law 64 = .ok (.if_icmp .ne 68, 3) := by decide +kernel
theorem dL_law_67 : decode cL_law 67 = .ok (.aload_n 1, 1) := by decide +kernel
theorem dL_law_68 : decode cL_law 68 = .ok (.iconst 0, 1) := by decide +kernel
theorem dL_law_69 : decode cL_law 69 = .ok (.iconst 0, 1) := by decide +kernel
theorem dL_law_70 : decode cL_law 70 = .ok (.iconst (-1), 1) := by decide +kernel
theorem dL_law_71 : decode cL_law 71 = .ok (.iconst 2, 1) := by decide +kernel
theorem dL_law_72 : decode cL_law 72 = .ok (.iconst (-1), 1) := by decide +kernel
theorem dL_law_73 : decode cL_law 73 = .ok (.iconst 0, 1) := by decide +kernel
theorem dL_law_74 : decode cL_law 74 = .ok (.invokestatic 84, 3) := by decide +kernel
theorem dL_law_77 : decode cL_law 77 = .ok (.ldc 71, 2) := by decide +kernel
theorem dL_law_79 : decode cL_law 79 = .ok (.if_icmp .ne 53, 3) := by decide +kernel
theorem dL_law_82 : decode cL_law 82 = .ok (.aload_n 1, 1) := by decide +kernel
theorem dL_law_83 : decode cL_law 83 = .ok (.invokevirtual 133, 3) := by decide +kernel
theorem dL_law_86 : decode cL_law 86 = .ok (.iconst (-1), 1) := by decide +kernel
theorem dL_law_87 : decode cL_law 87 = .ok (.if_icmp .ne 45, 3) := by decide +kernel
theorem dL_law_90 : decode cL_law 90 = .ok (.aload_n 1, 1) := by decide +kernel
theorem dL_law_91 : decode cL_law 91 = .ok (.invokevirtual 101, 3) := by decide +kernel
theorem dL_law_94 : decode cL_law 94 = .ok (.ifCond .ne 38, 3) := by decide +kernel
theorem dL_law_97 : decode cL_law 97 = .ok (.aload_n 1, 1) := by decide +kernel
theorem dL_law_98 : decode cL_law 98 = .ok (.iconst 4, 1) := by decide +kernel
theorem dL_law_99 : decode cL_law 99 = .ok (.bipush 8, 2) := by decide +kernel
theorem dL_law_101 : decode cL_law 101 = .ok (.iconst 0, 1) := by decide +kernel
theorem dL_law_102 : decode cL_law 102 = .ok (.iconst 0, 1) := by decide +kernel
theorem dL_law_103 : decode cL_law 103 = .ok (.iconst 0, 1) := by decide +kernel
theorem dL_law_104 : decode cL_law 104 = .ok (.iconst 0, 1) := by decide +kernel
theorem dL_law_105 : decode cL_law 105 = .ok (.invokestatic 84, 3) := by decide +kernel
theorem dL_law_108 : decode cL_law 108 = .ok (.ldc 74, 2) := by decide +kernel
theorem dL_law_110 : decode cL_law 110 = .ok (.if_icmp .ne 22, 3) := by decide +kernel
theorem dL_law_113 : decode cL_law 113 = .ok (.aload_n 1, 1) := by decide +kernel
theorem dL_law_114 : decode cL_law 114 = .ok (.iconst 4, 1) := by decide +kernel
theorem dL_law_115 : decode cL_law 115 = .ok (.iconst 1, 1) := by decide +kernel
theorem dL_law_116 : decode cL_law 116 = .ok (.iconst 0, 1) := by decide +kernel
theorem dL_law_117 : decode cL_law 117 = .ok (.iconst 0, 1) := by decide +kernel
theorem dL_law_118 : decode cL_law 118 = .ok (.iconst 0, 1) := by decide +kernel
theorem dL_law_119 : decode cL_law 119 = .ok (.iconst 0, 1) := by decide +kernel
theorem dL_law_120 : decode cL_law 120 = .ok (.invokestatic 84, 3) := by decide +kernel
theorem dL_law_123 : decode cL_law 123 = .ok (.ldc 68, 2) := by decide +kernel
theorem dL_law_125 : decode cL_law 125 = .ok (.if_icmp .ne 7, 3) := by decide +kernel
theorem dL_law_128 : decode cL_law 128 = .ok (.iconst 1, 1) := by decide +kernel
theorem dL_law_129 : decode cL_law 129 = .ok (.goto 4, 3) := by decide +kernel
theorem dL_law_132 : decode cL_law 132 = .ok (.iconst 0, 1) := by decide +kernel
theorem dL_law_133 : decode cL_law 133 = .ok (.istore 7, 2) := by decide +kernel
theorem dL_law_135 : decode cL_law 135 = .ok (.iconst 0, 1) := by decide +kernel
theorem dL_law_136 : decode cL_law 136 = .ok (.istore 8, 2) := by decide +kernel
theorem dL_law_138 : decode cL_law 138 = .ok (.iload 8, 2) := by decide +kernel
theorem dL_law_140 : decode cL_law 140 = .ok (.iconst 3, 1) := by decide +kernel
theorem dL_law_141 : decode cL_law 141 = .ok (.if_icmp .ge 97, 3) := by decide +kernel
theorem dL_law_144 : decode cL_law 144 = .ok (.iload 7, 2) := by decide +kernel
theorem dL_law_146 : decode cL_law 146 = .ok (.ifCond .eq 92, 3) := by decide +kernel
theorem dL_law_149 : decode cL_law 149 = .ok (.aload_n 1, 1) := by decide +kernel
theorem dL_law_150 : decode cL_law 150 = .ok (.aload_n 2, 1) := by decide +kernel
theorem dL_law_151 : decode cL_law 151 = .ok (.aload 5, 2) := by decide +kernel
theorem dL_law_153 : decode cL_law 153 = .ok (.aload_n 0, 1) := by decide +kernel
theorem dL_law_154 : decode cL_law 154 = .ok (.iload 8, 2) := by decide +kernel
theorem dL_law_156 : decode cL_law 156 = .ok (.sipush 1331, 3) := by decide +kernel
theorem dL_law_159 : decode cL_law 159 = .ok (.invokestatic 98, 3) := by decide +kernel
theorem dL_law_162 : decode cL_law 162 = .ok (.aload_n 0, 1) := by decide +kernel
theorem dL_law_163 : decode cL_law 163 = .ok (.iload 8, 2) := by decide +kernel
theorem dL_law_165 : decode cL_law 165 = .ok (.iconst 3, 1) := by decide +kernel
theorem dL_law_166 : decode cL_law 166 = .ok (.iadd, 1) := by decide +kernel
theorem dL_law_167 : decode cL_law 167 = .ok (.ldc 109, 2) := by decide +kernel
theorem dL_law_169 : decode cL_law 169 = .ok (.invokestatic 98, 3) := by decide +kernel
theorem dL_law_172 : decode cL_law 172 = .ok (.invokestatic 110, 3) := by decide +kernel
theorem dL_law_175 : decode cL_law 175 = .ok (.ifCond .eq 31, 3) := by decide +kernel
theorem dL_law_178 : decode cL_law 178 = .ok (.aload_n 1, 1) := by decide +kernel
theorem dL_law_179 : decode cL_law 179 = .ok (.iconst 3, 1) := by decide +kernel
theorem dL_law_180 : decode cL_law 180 = .ok (.aload_n 0, 1) := by decide +kernel
theorem dL_law_181 : decode cL_law 181 = .ok (.iload 8, 2) := by decide +kernel
theorem dL_law_183 : decode cL_law 183 = .ok (.bipush 6, 2) := by decide +kernel
theorem dL_law_185 : decode cL_law 185 = .ok (.iadd, 1) := by decide +kernel
theorem dL_law_186 : decode cL_law 186 = .ok (.iconst 4, 1) := by decide +kernel
theorem dL_law_187 : decode cL_law 187 = .ok (.invokestatic 98, 3) := by decide +kernel
theorem dL_law_190 : decode cL_law 190 = .ok (.iconst 0, 1) := by decide +kernel
theorem dL_law_191 : decode cL_law 191 = .ok (.iconst 0, 1) := by decide +kernel
theorem dL_law_192 : decode cL_law 192 = .ok (.iconst 0, 1) := by decide +kernel
theorem dL_law_193 : decode cL_law 193 = .ok (.iconst 0, 1) := by decide +kernel
theorem dL_law_194 : decode cL_law 194 = .ok (.invokestatic 84, 3) := by decide +kernel
theorem dL_law_197 : decode cL_law 197 = .ok (.iload 8, 2) := by decide +kernel
theorem dL_law_199 : decode cL_law 199 = .ok (.if_icmp .ne 7, 3) := by decide +kernel
theorem dL_law_202 : decode cL_law 202 = .ok (.iconst 1, 1) := by decide +kernel
theorem dL_law_203 : decode cL_law 203 = .ok (.goto 4, 3) := by decide +kernel
theorem dL_law_206 : decode cL_law 206 = .ok (.iconst 0, 1) := by decide +kernel
theorem dL_law_207 : decode cL_law 207 = .ok (.istore 7, 2) := by decide +kernel
theorem dL_law_209 : decode cL_law 209 = .ok (.aload 4, 2) := by decide +kernel
theorem dL_law_211 : decode cL_law 211 = .ok (.iload 8, 2) := by decide +kernel
theorem dL_law_213 : decode cL_law 213 = .ok (.aload_n 0, 1) := by decide +kernel
theorem dL_law_214 : decode cL_law 214 = .ok (.iload 8, 2) := by decide +kernel
theorem dL_law_216 : decode cL_law 216 = .ok (.bipush 6, 2) := by decide +kernel
theorem dL_law_218 : decode cL_law 218 = .ok (.iadd, 1) := by decide +kernel
theorem dL_law_219 : decode cL_law 219 = .ok (.iconst 4, 1) := by decide +kernel
theorem dL_law_220 : decode cL_law 220 = .ok (.invokestatic 98, 3) := by decide +kernel
theorem dL_law_223 : decode cL_law 223 = .ok (.iastore, 1) := by decide +kernel
theorem dL_law_224 : decode cL_law 224 = .ok (.aload 5, 2) := by decide +kernel
theorem dL_law_226 : decode cL_law 226 = .ok (.iconst 1, 1) := by decide +kernel
theorem dL_law_227 : decode cL_law 227 = .ok (.dup2, 1) := by decide +kernel
theorem dL_law_228 : decode cL_law 228 = .ok (.iaload, 1) := by decide +kernel
theorem dL_law_229 : decode cL_law 229 = .ok (.iconst 1, 1) := by decide +kernel
theorem dL_law_230 : decode cL_law 230 = .ok (.iadd, 1) := by decide +kernel
theorem dL_law_231 : decode cL_law 231 = .ok (.iastore, 1) := by decide +kernel
theorem dL_law_232 : decode cL_law 232 = .ok (.iinc 8 1, 3) := by decide +kernel
theorem dL_law_235 : decode cL_law 235 = .ok (.goto (-97), 3) := by decide +kernel
theorem dL_law_238 : decode cL_law 238 = .ok (.iconst 0, 1) := by decide +kernel
theorem dL_law_239 : decode cL_law 239 = .ok (.istore 8, 2) := by decide +kernel
theorem dL_law_241 : decode cL_law 241 = .ok (.iload 8, 2) := by decide +kernel
theorem dL_law_243 : decode cL_law 243 = .ok (.bipush 60, 2) := by decide +kernel
theorem dL_law_245 : decode cL_law 245 = .ok (.if_icmp .ge 131, 3) := by decide +kernel
theorem dL_law_248 : decode cL_law 248 = .ok (.iload 7, 2) := by decide +kernel
theorem dL_law_250 : decode cL_law 250 = .ok (.ifCond .eq 126, 3) := by decide +kernel
theorem dL_law_253 : decode cL_law 253 = .ok (.aload_n 1, 1) := by decide +kernel
theorem dL_law_254 : decode cL_law 254 = .ok (.aload_n 0, 1) := by decide +kernel
theorem dL_law_255 : decode cL_law 255 = .ok (.bipush 21, 2) := by decide +kernel
theorem dL_law_257 : decode cL_law 257 = .ok (.iload 8, 2) := by decide +kernel
theorem dL_law_259 : decode cL_law 259 = .ok (.imul, 1) := by decide +kernel
theorem dL_law_260 : decode cL_law 260 = .ok (.bipush 9, 2) := by decide +kernel
theorem dL_law_262 : decode cL_law 262 = .ok (.iadd, 1) := by decide +kernel
theorem dL_law_263 : decode cL_law 263 = .ok (.aload_n 2, 1) := by decide +kernel
theorem dL_law_264 : decode cL_law 264 = .ok (.aload_n 3, 1) := by decide +kernel
theorem dL_law_265 : decode cL_law 265 = .ok (.aload 4, 2) := by decide +kernel
theorem dL_law_267 : decode cL_law 267 = .ok (.aload 5, 2) := by decide +kernel
theorem dL_law_269 : decode cL_law 269 = .ok (.aload 6, 2) := by decide +kernel
theorem dL_law_271 : decode cL_law 271 = .ok (.invokestatic 136, 3) := by decide +kernel
theorem dL_law_274 : decode cL_law 274 = .ok (.ifCond .eq 39, 3) := by decide +kernel
theorem dL_law_277 : decode cL_law 277 = .ok (.aload_n 1, 1) := by decide +kernel
theorem dL_law_278 : decode cL_law 278 = .ok (.invokevirtual 140, 3) := by decide +kernel
theorem dL_law_281 : decode cL_law 281 = .ok (.aload_n 3, 1) := by decide +kernel
theorem dL_law_282 : decode cL_law 282 = .ok (.aload 5, 2) := by decide +kernel
theorem dL_law_284 : decode cL_law 284 = .ok (.invokestatic 143, 3) := by decide +kernel
theorem dL_law_287 : decode cL_law 287 = .ok (.if_icmp .ne 26, 3) := by decide +kernel
theorem dL_law_290 : decode cL_law 290 = .ok (.iload 8, 2) := by decide +kernel
theorem dL_law_292 : decode cL_law 292 = .ok (.iconst 2, 1) := by decide +kernel
theorem dL_law_293 : decode cL_law 293 = .ok (.irem, 1) := by decide +kernel
theorem dL_law_294 : decode cL_law 294 = .ok (.ifCond .gt 15, 3) := by decide +kernel
theorem dL_law_297 : decode cL_law 297 = .ok (.aload_n 1, 1) := by decide +kernel
theorem dL_law_298 : decode cL_law 298 = .ok (.aload_n 2, 1) := by decide +kernel
theorem dL_law_299 : decode cL_law 299 = .ok (.aload 5, 2) := by decide +kernel
theorem dL_law_301 : decode cL_law 301 = .ok (.aload 6, 2) := by decide +kernel
theorem dL_law_303 : decode cL_law 303 = .ok (.invokestatic 146, 3) := by decide +kernel
theorem dL_law_306 : decode cL_law 306 = .ok (.ifCond .eq 7, 3) := by decide +kernel
theorem dL_law_309 : decode cL_law 309 = .ok (.iconst 1, 1) := by decide +kernel
theorem dL_law_310 : decode cL_law 310 = .ok (.goto 4, 3) := by decide +kernel
theorem dL_law_313 : decode cL_law 313 = .ok (.iconst 0, 1) := by decide +kernel
theorem dL_law_314 : decode cL_law 314 = .ok (.istore 7, 2) := by decide +kernel
theorem dL_law_316 : decode cL_law 316 = .ok (.iload 7, 2) := by decide +kernel
theorem dL_law_318 : decode cL_law 318 = .ok (.ifCond .eq 10, 3) := by decide +kernel
theorem dL_law_321 : decode cL_law 321 = .ok (.aload_n 1, 1) := by decide +kernel
theorem dL_law_322 : decode cL_law 322 = .ok (.invokevirtual 133, 3) := by decide +kernel
theorem dL_law_325 : decode cL_law 325 = .ok (.goto 4, 3) := by decide +kernel
theorem dL_law_328 : decode cL_law 328 = .ok (.iconst 0, 1) := by decide +kernel
theorem dL_law_329 : decode cL_law 329 = .ok (.istore 9, 2) := by decide +kernel
theorem dL_law_331 : decode cL_law 331 = .ok (.iload 7, 2) := by decide +kernel
theorem dL_law_333 : decode cL_law 333 = .ok (.ifCond .eq 34, 3) := by decide +kernel
theorem dL_law_336 : decode cL_law 336 = .ok (.iload 9, 2) := by decide +kernel
theorem dL_law_338 : decode cL_law 338 = .ok (.iconst (-1), 1) := by decide +kernel
theorem dL_law_339 : decode cL_law 339 = .ok (.if_icmp .lt 28, 3) := by decide +kernel
theorem dL_law_342 : decode cL_law 342 = .ok (.iload 9, 2) := by decide +kernel
theorem dL_law_344 : decode cL_law 344 = .ok (.aload 5, 2) := by decide +kernel
theorem dL_law_346 : decode cL_law 346 = .ok (.iconst 0, 1) := by decide +kernel
theorem dL_law_347 : decode cL_law 347 = .ok (.iaload, 1) := by decide +kernel
theorem dL_law_348 : decode cL_law 348 = .ok (.if_icmp .ge 19, 3) := by decide +kernel
theorem dL_law_351 : decode cL_law 351 = .ok (.aload_n 1, 1) := by decide +kernel
theorem dL_law_352 : decode cL_law 352 = .ok (.invokevirtual 95, 3) := by decide +kernel
theorem dL_law_355 : decode cL_law 355 = .ok (.aload 5, 2) := by decide +kernel
theorem dL_law_357 : decode cL_law 357 = .ok (.bipush 6, 2) := by decide +kernel
theorem dL_law_359 : decode cL_law 359 = .ok (.iaload, 1) := by decide +kernel
theorem dL_law_360 : decode cL_law 360 = .ok (.if_icmp .ne 7, 3) := by decide +kernel
theorem dL_law_363 : decode cL_law 363 = .ok (.iconst 1, 1) := by decide +kernel
theorem dL_law_364 : decode cL_law 364 = .ok (.goto 4, 3) := by decide +kernel
theorem dL_law_367 : decode cL_law 367 = .ok (.iconst 0, 1) := by decide +kernel
theorem dL_law_368 : decode cL_law 368 = .ok (.istore 7, 2) := by decide +kernel
theorem dL_law_370 : decode cL_law 370 = .ok (.iinc 8 1, 3) := by decide +kernel
theorem dL_law_373 : decode cL_law 373 = .ok (.goto (-132), 3) := by decide +kernel
theorem dL_law_376 : decode cL_law 376 = .ok (.iload 7, 2) := by decide +kernel
theorem dL_law_378 : decode cL_law 378 = .ok (.ireturn, 1) := by decide +kernel
