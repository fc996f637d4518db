theorem dX9_init_0 : decode cX9_init 0 = .ok (.aload_n 0, 1) := by decide +kernel
theorem dX9_init_1 : decode cX9_init 1 = .ok (.invokespecial 1, 3) := by decide +kernel
theorem dX9_init_4 : decode cX9_init 4 = .ok (.aload_n 0, 1) := by decide +kernel
theorem dX9_init_5 : decode cX9_init 5 = .ok (.bipush 24, 2) := by decide +kernel
theorem dX9_init_7 : decode cX9_init 7 = .ok (.newarray .int, 2) := by decide +kernel
theorem dX9_init_9 : decode cX9_init 9 = .ok (.putfield 7, 3) := by decide +kernel
theorem dX9_init_12 : decode cX9_init 12 = .ok (.aload_n 0, 1) := by decide +kernel
theorem dX9_init_13 : decode cX9_init 13 = .ok (.bipush 24, 2) := by decide +kernel
theorem dX9_init_15 : decode cX9_init 15 = .ok (.newarray .int, 2) := by decide +kernel
theorem dX9_init_17 : decode cX9_init 17 = .ok (.putfield 13, 3) := by decide +kernel
theorem dX9_init_20 : decode cX9_init 20 = .ok (.aload_n 0, 1) := by decide +kernel
theorem dX9_init_21 : decode cX9_init 21 = .ok (.bipush 24, 2) := by decide +kernel
theorem dX9_init_23 : decode cX9_init 23 = .ok (.newarray .int, 2) := by decide +kernel
theorem dX9_init_25 : decode cX9_init 25 = .ok (.putfield 16, 3) := by decide +kernel
theorem dX9_init_28 : decode cX9_init 28 = .ok (.aload_n 0, 1) := by decide +kernel
theorem dX9_init_29 : decode cX9_init 29 = .ok (.iconst 5, 1) := by decide +kernel
theorem dX9_init_30 : decode cX9_init 30 = .ok (.putfield 19, 3) := by decide +kernel
theorem dX9_init_33 : decode cX9_init 33 = .ok (.aload_n 0, 1) := by decide +kernel
theorem dX9_init_34 : decode cX9_init 34 = .ok (.bipush 10, 2) := by decide +kernel
theorem dX9_init_36 : decode cX9_init 36 = .ok (.newarray .int, 2) := by decide +kernel
theorem dX9_init_38 : decode cX9_init 38 = .ok (.putfield 23, 3) := by decide +kernel
theorem dX9_init_41 : decode cX9_init 41 = .ok (.aload_n 0, 1) := by decide +kernel
theorem dX9_init_42 : decode cX9_init 42 = .ok (.bipush 10, 2) := by decide +kernel
theorem dX9_init_44 : decode cX9_init 44 = .ok (.newarray .boolean, 2) := by decide +kernel
theorem dX9_init_46 : decode cX9_init 46 = .ok (.putfield 26, 3) := by decide +kernel
theorem dX9_init_49 : decode cX9_init 49 = .ok (.aload_n 0, 1) := by decide +kernel
theorem dX9_init_50 : decode cX9_init 50 = .ok (.bipush 10, 2) := by decide +kernel
theorem dX9_init_52 : decode cX9_init 52 = .ok (.newarray .int, 2) := by decide +kernel
theorem dX9_init_54 : decode cX9_init 54 = .ok (.putfield 30, 3) := by decide +kernel
theorem dX9_init_57 : decode cX9_init 57 = .ok (.aload_n 0, 1) := by decide +kernel
theorem dX9_init_58 : decode cX9_init 58 = .ok (.sipush 384, 3) := by decide +kernel
theorem dX9_init_61 : decode cX9_init 61 = .ok (.newarray .int, 2) := by decide +kernel
theorem dX9_init_63 : decode cX9_init 63 = .ok (.putfield 33, 3) := by decide +kernel
theorem dX9_init_66 : decode cX9_init 66 = .ok (.aload_n 0, 1) := by decide +kernel
theorem dX9_init_67 : decode cX9_init 67 = .ok (.bipush 16, 2) := by decide +kernel
theorem dX9_init_69 : decode cX9_init 69 = .ok (.newarray .int, 2) := by decide +kernel
theorem dX9_init_71 : decode cX9_init 71 = .ok (.putfield 36, 3) := by decide +kernel
theorem dX9_init_74 : decode cX9_init 74 = .ok (.aload_n 0, 1) := by decide +kernel
theorem dX9_init_75 : decode cX9_init 75 = .ok (.bipush 24, 2) := by decide +kernel
theorem dX9_init_77 : decode cX9_init 77 = .ok (.newarray .int, 2) := by decide +kernel
theorem dX9_init_79 : decode cX9_init 79 = .ok (.putfield 39, 3) := by decide +kernel
theorem dX9_init_82 : decode cX9_init 82 = .ok (.aload_n 0, 1) := by decide +kernel
theorem dX9_init_83 : decode cX9_init 83 = .ok (.bipush 24, 2) := by decide +kernel
theorem dX9_init_85 : decode cX9_init 85 = .ok (.newarray .boolean, 2) := by decide +kernel
theorem dX9_init_87 : decode cX9_init 87 = .ok (.putfield 42, 3) := by decide +kernel
theorem dX9_init_90 : decode cX9_init 90 = .ok (.aload_n 0, 1) := by decide +kernel
theorem dX9_init_91 : decode cX9_init 91 = .ok (.bipush 24, 2) := by decide +kernel
theorem dX9_init_93 : decode cX9_init 93 = .ok (.newarray .int, 2) := by decide +kernel
theorem dX9_init_95 : decode cX9_init 95 = .ok (.putfield 45, 3) := by decide +kernel
theorem dX9_init_98 : decode cX9_init 98 = .ok (.aload_n 0, 1) := by decide +kernel
theorem dX9_init_99 : decode cX9_init 99 = .ok (.bipush 24, 2) := by decide +kernel
theorem dX9_init_101 : decode cX9_init 101 = .ok (.newarray .int, 2) := by decide +kernel
theorem dX9_init_103 : decode cX9_init 103 = .ok (.putfield 48, 3) := by decide +kernel
theorem dX9_init_106 : decode cX9_init 106 = .ok (.aload_n 0, 1) := by decide +kernel
theorem dX9_init_107 : decode cX9_init 107 = .ok (.bipush 120, 2) := by decide +kernel
theorem dX9_init_109 : decode cX9_init 109 = .ok (.newarray .int, 2) := by decide +kernel
theorem dX9_init_111 : decode cX9_init 111 = .ok (.putfield 51, 3) := by decide +kernel
theorem dX9_init_114 : decode cX9_init 114 = .ok (.aload_n 0, 1) := by decide +kernel
theorem dX9_init_115 : decode cX9_init 115 = .ok (.bipush 24, 2) := by decide +kernel
theorem dX9_init_117 : decode cX9_init 117 = .ok (.newarray .int, 2) := by decide +kernel
theorem dX9_init_119 : decode cX9_init 119 = .ok (.putfield 54, 3) := by decide +kernel
theorem dX9_init_122 : decode cX9_init 122 = .ok (.aload_n 0, 1) := by decide +kernel
theorem dX9_init_123 : decode cX9_init 123 = .ok (.bipush 24, 2) := by decide +kernel
theorem dX9_init_125 : decode cX9_init 125 = .ok (.newarray .int, 2) := by decide +kernel
theorem dX9_init_127 : decode cX9_init 127 = .ok (.putfield 57, 3) := by decide +kernel
theorem dX9_init_130 : decode cX9_init 130 = .ok (.aload_n 0, 1) := by decide +kernel
theorem dX9_init_131 : decode cX9_init 131 = .ok (.bipush 6, 2) := by decide +kernel
theorem dX9_init_133 : decode cX9_init 133 = .ok (.newarray .int, 2) := by decide +kernel
theorem dX9_init_135 : decode cX9_init 135 = .ok (.putfield 60, 3) := by decide +kernel
theorem dX9_init_138 : decode cX9_init 138 = .ok (.aload_n 0, 1) := by decide +kernel
theorem dX9_init_139 : decode cX9_init 139 = .ok (.bipush 24, 2) := by decide +kernel
theorem dX9_init_141 : decode cX9_init 141 = .ok (.newarray .int, 2) := by decide +kernel
theorem dX9_init_143 : decode cX9_init 143 = .ok (.putfield 63, 3) := by decide +kernel
theorem dX9_init_146 : decode cX9_init 146 = .ok (.aload_n 0, 1) := by decide +kernel
theorem dX9_init_147 : decode cX9_init 147 = .ok (.bipush 6, 2) := by decide +kernel
theorem dX9_init_149 : decode cX9_init 149 = .ok (.newarray .int, 2) := by decide +kernel
theorem dX9_init_151 : decode cX9_init 151 = .ok (.putfield 66, 3) := by decide +kernel
theorem dX9_init_154 : decode cX9_init 154 = .ok (.aload_n 0, 1) := by decide +kernel
theorem dX9_init_155 : decode cX9_init 155 = .ok (.bipush 6, 2) := by decide +kernel
theorem dX9_init_157 : decode cX9_init 157 = .ok (.newarray .int, 2) := by decide +kernel
theorem dX9_init_159 : decode cX9_init 159 = .ok (.dup, 1) := by decide +kernel
theorem dX9_init_160 : decode cX9_init 160 = .ok (.iconst 0, 1) := by decide +kernel
theorem dX9_init_161 : decode cX9_init 161 = .ok (.iconst 3, 1) := by decide +kernel
theorem dX9_init_162 : decode cX9_init 162 = .ok (.iastore, 1) := by decide +kernel
theorem dX9_init_163 : decode cX9_init 163 = .ok (.dup, 1) := by decide +kernel
theorem dX9_init_164 : decode cX9_init 164 = .ok (.iconst 1, 1) := by decide +kernel
theorem dX9_init_165 : decode cX9_init 165 = .ok (.iconst 4, 1) := by decide +kernel
theorem dX9_init_166 : decode cX9_init 166 = .ok (.iastore, 1) := by decide +kernel
theorem dX9_init_167 : decode cX9_init 167 = .ok (.dup, 1) := by decide +kernel
theorem dX9_init_168 : decode cX9_init 168 = .ok (.iconst 2, 1) := by decide +kernel
theorem dX9_init_169 : decode cX9_init 169 = .ok (.iconst 2, 1) := by decide +kernel
theorem dX9_init_170 : decode cX9_init 170 = .ok (.iastore, 1) := by decide +kernel
theorem dX9_init_171 : decode cX9_init 171 = .ok (.dup, 1) := by decide +kernel
theorem dX9_init_172 : decode cX9_init 172 = .ok (.iconst 3, 1) := by decide +kernel
theorem dX9_init_173 : decode cX9_init 173 = .ok (.iconst 5, 1) := by decide +kernel
theorem dX9_init_174 : decode cX9_init 174 = .ok (.iastore, 1) := by decide +kernel
theorem dX9_init_175 : decode cX9_init 175 = .ok (.dup, 1) := by decide +kernel
theorem dX9_init_176 : decode cX9_init 176 = .ok (.iconst 4, 1) := by decide +kernel
theorem dX9_init_177 : decode cX9_init 177 = .ok (.iconst 1, 1) := by decide +kernel
theorem dX9_init_178 : decode cX9_init 178 = .ok (.iastore, 1) := by decide +kernel
theorem dX9_init_179 : decode cX9_init 179 = .ok (.dup, 1) := by decide +kernel
theorem dX9_init_180 : decode cX9_init 180 = .ok (.iconst 5, 1) := by decide +kernel
theorem dX9_init_181 : decode cX9_init 181 = .ok (.bipush 6, 2) := by decide +kernel
theorem dX9_init_183 : decode cX9_init 183 = .ok (.iastore, 1) := by decide +kernel
theorem dX9_init_184 : decode cX9_init 184 = .ok (.putfield 69, 3) := by decide +kernel
theorem dX9_init_187 : decode cX9_init 187 = .ok (.aload_n 0, 1) := by decide +kernel
theorem dX9_init_188 : decode cX9_init 188 = .ok (.bipush 24, 2) := by decide +kernel
theorem dX9_init_190 : decode cX9_init 190 = .ok (.newarray .int, 2) := by decide +kernel
theorem dX9_init_192 : decode cX9_init 192 = .ok (.putfield 72, 3) := by decide +kernel
theorem dX9_init_195 : decode cX9_init 195 = .ok (.aload_n 0, 1) := by decide +kernel
theorem dX9_init_196 : decode cX9_init 196 = .ok (.bipush 24, 2) := by decide +kernel
theorem dX9_init_198 : decode cX9_init 198 = .ok (.newarray .int, 2) := by decide +kernel
theorem dX9_init_200 : decode cX9_init 200 = .ok (.putfield 75, 3) := by decide +kernel
theorem dX9_init_203 : decode cX9_init 203 = .ok (.aload_n 0, 1) := by decide +kernel
theorem dX9_init_204 : decode cX9_init 204 = .ok (.bipush 24, 2) := by decide +kernel
theorem dX9_init_206 : decode cX9_init 206 = .ok (.newarray .int, 2) := by decide +kernel
theorem dX9_init_208 : decode cX9_init 208 = .ok (.putfield 78, 3) := by decide +kernel
theorem dX9_init_211 : decode cX9_init 211 = .ok (.iconst 0, 1) := by decide +kernel
theorem dX9_init_212 : decode cX9_init 212 = .ok (.istore_n 1, 1) := by decide +kernel
theorem dX9_init_213 : decode cX9_init 213 = .ok (.iload_n 1, 1) := by decide +kernel
theorem dX9_init_214 : decode cX9_init 214 = .ok (.bipush 24, 2) := by decide +kernel
theorem dX9_init_216 : decode cX9_init 216 = .ok (.if_icmp .ge 16, 3) := by decide +kernel
theorem dX9_init_219 : decode cX9_init 219 = .ok (.aload_n 0, 1) := by decide +kernel
theorem dX9_init_220 : decode cX9_init 220 = .ok (.getfield 72, 3) := by decide +kernel
theorem dX9_init_223 : decode cX9_init 223 = .ok (.iload_n 1, 1) := by decide +kernel
theorem dX9_init_224 : decode cX9_init 224 = .ok (.iconst (-1), 1) := by decide +kernel
theorem dX9_init_225 : decode cX9_init 225 = .ok (.iastore, 1) := by decide +kernel
theorem dX9_init_226 : decode cX9_init 226 = .ok (.iinc 1 1, 3) := by decide +kernel
theorem dX9_init_229 : decode cX9_init 229 = .ok (.goto (-16), 3) := by decide +kernel
theorem dX9_init_232 : decode cX9_init 232 = .ok (.return_, 1) := by decide +kernel
theorem dX9_thrown_0 : decode cX9_thrown 0 = .ok (.aload_n 0, 1) := by decide +kernel
theorem dX9_thrown_1 : decode cX9_thrown 1 = .ok (.getfield 81, 3) := by decide +kernel
theorem dX9_thrown_4 : decode cX9_thrown 4 = .ok (.ireturn, 1) := by decide +kernel
theorem dX9_holds_0 : decode cX9_holds 0 = .ok (.aload_n 0, 1) := by decide +kernel
theorem dX9_holds_1 : decode cX9_holds 1 = .ok (.iload_n 1, 1) := by decide +kernel
theorem dX9_holds_2 : decode cX9_holds 2 = .ok (.putfield 81, 3) := by decide +kernel
theorem dX9_holds_5 : decode cX9_holds 5 = .ok (.iload_n 1, 1) := by decide +kernel
theorem dX9_holds_6 : decode cX9_holds 6 = .ok (.ifCond .ne 7, 3) := by decide +kernel
theorem dX9_holds_9 : decode cX9_holds 9 = .ok (.iconst 1, 1) := by decide +kernel
theorem dX9_holds_10 : decode cX9_holds 10 = .ok (.goto 4, 3) := by decide +kernel
theorem dX9_holds_13 : decode cX9_holds 13 = .ok (.iconst 0, 1) := by decide +kernel
theorem dX9_holds_14 : decode cX9_holds 14 = .ok (.ireturn, 1) := by decide +kernel
theorem dX9_isIn_0 : decode cX9_isIn 0 = .ok (.iload_n 0, 1) := by decide +kernel
theorem dX9_isIn_1 : decode cX9_isIn 1 = .ok (.iload_n 1, 1) := by decide +kernel
theorem dX9_isIn_2 : decode cX9_isIn 2 = .ok (.if_icmp .lt 12, 3) := by decide +kernel
theorem dX9_isIn_5 : decode cX9_isIn 5 = .ok (.iload_n 0, 1) := by decide +kernel
theorem dX9_isIn_6 : decode cX9_isIn 6 = .ok (.iload_n 2, 1) := by decide +kernel
theorem dX9_isIn_7 : decode cX9_isIn 7 = .ok (.if_icmp .gt 7, 3) := by decide +kernel
theorem dX9_isIn_10 : decode cX9_isIn 10 = .ok (.iconst 1, 1) := by decide +kernel
theorem dX9_isIn_11 : decode cX9_isIn 11 = .ok (.goto 4, 3) := by decide +kernel
theorem dX9_isIn_14 : decode cX9_isIn 14 = .ok (.iconst 0, 1) := by decide +kernel
theorem dX9_isIn_15 : decode cX9_isIn 15 = .ok (.ireturn, 1) := by decide +kernel
set_option maxRecDepth 20000 in
theorem ggX9_isCrew_X9_isIn : GoodIn wsX9_isCrew wsX9_isIn := goodIn_r _ [5] (by decide +kernel) (by decide +kernel)
set_option maxRecDepth 20000 in
theorem gX9_isCrew_X9_isIn : GoodIn wsX9_isCrew (va_wsS RX9 87 yX9_isIn wsX9_isIn) := goodIn_app (goodIn_of _ (by decide +kernel)) ggX9_isCrew_X9_isIn
theorem dX9_isCrew_0 : decode cX9_isCrew 0 = .ok (.iload_n 1, 1) := by decide +kernel
theorem dX9_isCrew_1 : decode cX9_isCrew 1 = .ok (.iconst 0, 1) := by decide +kernel
theorem dX9_isCrew_2 : decode cX9_isCrew 2 = .ok (.aload_n 0, 1) := by decide +kernel
theorem dX9_isCrew_3 : decode cX9_isCrew 3 = .ok (.getfield 84, 3) := by decide +kernel
theorem dX9_isCrew_6 : decode cX9_isCrew 6 = .ok (.iconst 1, 1) := by decide +kernel
theorem dX9_isCrew_7 : decode cX9_isCrew 7 = .ok (.isub, 1) := by decide +kernel
theorem dX9_isCrew_8 : decode cX9_isCrew 8 = .ok (.invokestatic 87, 3) := by decide +kernel
theorem dX9_isCrew_11 : decode cX9_isCrew 11 = .ok (.ireturn, 1) := by decide +kernel
theorem dX9_adds_0 : decode cX9_adds 0 = .ok (.aload_n 0, 1) := by decide +kernel
theorem dX9_adds_1 : decode cX9_adds 1 = .ok (.getfield 7, 3) := by decide +kernel
theorem dX9_adds_4 : decode cX9_adds 4 = .ok (.aload_n 0, 1) := by decide +kernel
theorem dX9_adds_5 : decode cX9_adds 5 = .ok (.getfield 84, 3) := by decide +kernel
theorem dX9_adds_8 : decode cX9_adds 8 = .ok (.iload_n 1, 1) := by decide +kernel
theorem dX9_adds_9 : decode cX9_adds 9 = .ok (.iastore, 1) := by decide +kernel
theorem dX9_adds_10 : decode cX9_adds 10 = .ok (.aload_n 0, 1) := by decide +kernel
theorem dX9_adds_11 : decode cX9_adds 11 = .ok (.getfield 13, 3) := by decide +kernel
theorem dX9_adds_14 : decode cX9_adds 14 = .ok (.aload_n 0, 1) := by decide +kernel
theorem dX9_adds_15 : decode cX9_adds 15 = .ok (.getfield 84, 3) := by decide +kernel
theorem dX9_adds_18 : decode cX9_adds 18 = .ok (.iload_n 2, 1) := by decide +kernel
theorem dX9_adds_19 : decode cX9_adds 19 = .ok (.iastore, 1) := by decide +kernel
theorem dX9_adds_20 : decode cX9_adds 20 = .ok (.aload_n 0, 1) := by decide +kernel
theorem dX9_adds_21 : decode cX9_adds 21 = .ok (.dup, 1) := by decide +kernel
theorem dX9_adds_22 : decode cX9_adds 22 = .ok (.getfield 84, 3) := by decide +kernel
theorem dX9_adds_25 : decode cX9_adds 25 = .ok (.iconst 1, 1) := by decide +kernel
theorem dX9_adds_26 : decode cX9_adds 26 = .ok (.iadd, 1) := by decide +kernel
theorem dX9_adds_27 : decode cX9_adds 27 = .ok (.putfield 84, 3) := by decide +kernel
theorem dX9_adds_30 : decode cX9_adds 30 = .ok (.aload_n 0, 1) := by decide +kernel
theorem dX9_adds_31 : decode cX9_adds 31 = .ok (.getfield 84, 3) := by decide +kernel
theorem dX9_adds_34 : decode cX9_adds 34 = .ok (.iconst 1, 1) := by decide +kernel
theorem dX9_adds_35 : decode cX9_adds 35 = .ok (.isub, 1) := by decide +kernel
theorem dX9_adds_36 : decode cX9_adds 36 = .ok (.ireturn, 1) := by decide +kernel
set_option maxRecDepth 20000 in
theorem ggX9_crew_X9_isIn : GoodIn wsX9_crew wsX9_isIn := goodIn_r _ [5] (by decide +kernel) (by decide +kernel)
set_option maxRecDepth 20000 in
theorem gX9_crew_X9_isIn : GoodIn wsX9_crew (va_wsS RX9 87 yX9_isIn wsX9_isIn) := goodIn_app (goodIn_of _ (by decide +kernel)) ggX9_crew_X9_isIn
set_option maxRecDepth 20000 in
theorem ggX9_crew_X9_holds : GoodIn wsX9_crew wsX9_holds := goodIn_r _ [9, 10, 17, 18, 19, 20, 21, 22, 23, 24, 25, 26, 27, 28, 29, 30, 31, 32, 33, 34, 35, 36, 37, 38, 39, 40, 41, 42, 43, 44, 45, 46, 47, 48, 49, 50, 51, 52] (by decide +kernel) (by decide +kernel)
set_option maxRecDepth 20000 in
theorem gX9_crew_X9_holds : GoodIn wsX9_crew (wsV RX9 91 RX9 yX9_holds wsX9_holds) := goodIn_app (goodIn_of _ (by decide +kernel)) ggX9_crew_X9_holds
set_option maxRecDepth 20000 in
theorem ggX9_crew_X9_adds : GoodIn wsX9_crew wsX9_adds := goodIn_r _ [14, 15, 1, 16, 17, 18, 19, 20, 21, 22, 23, 24, 25, 26, 27, 28, 29, 30, 31, 32, 33, 34, 35, 36, 37, 38, 39, 40, 41, 42, 43, 44, 45, 46, 47, 48, 49, 50, 51, 52] (by decide +kernel) (by decide +kernel)
set_option maxRecDepth 20000 in
theorem gX9_crew_X9_adds : GoodIn wsX9_crew (wsV RX9 95 RX9 yX9_adds wsX9_adds) := goodIn_app (goodIn_of _ (by decide +kernel)) ggX9_crew_X9_adds
theorem dX9_crew_0 : decode cX9_crew 0 = .ok (.aload_n 0, 1) := by decide +kernel
theorem dX9_crew_1 : decode cX9_crew 1 = .ok (.iload_n 1, 1) := by decide +kernel
theorem dX9_crew_2 : decode cX9_crew 2 = .ok (.iconst 0, 1) := by decide +kernel
theorem dX9_crew_3 : decode cX9_crew 3 = .ok (.iconst 3, 1) := by decide +kernel
theorem dX9_crew_4 : decode cX9_crew 4 = .ok (.invokestatic 87, 3) := by decide +kernel
theorem dX9_crew_7 : decode cX9_crew 7 = .ok (.ifCond .eq 14, 3) := by decide +kernel
theorem dX9_crew_10 : decode cX9_crew 10 = .ok (.iload_n 2, 1) := by decide +kernel
theorem dX9_crew_11 : decode cX9_crew 11 = .ok (.bipush 15, 2) := by decide +kernel
theorem dX9_crew_13 : decode cX9_crew 13 = .ok (.bipush 80, 2) := by decide +kernel
theorem dX9_crew_15 : decode cX9_crew 15 = .ok (.invokestatic 87, 3) := by decide +kernel
theorem dX9_crew_18 : decode cX9_crew 18 = .ok (.ifCond .ne 7, 3) := by decide +kernel
theorem dX9_crew_21 : decode cX9_crew 21 = .ok (.iconst 1, 1) := by decide +kernel
theorem dX9_crew_22 : decode cX9_crew 22 = .ok (.goto 17, 3) := by decide +kernel
theorem dX9_crew_25 : decode cX9_crew 25 = .ok (.aload_n 0, 1) := by decide +kernel
theorem dX9_crew_26 : decode cX9_crew 26 = .ok (.getfield 84, 3) := by decide +kernel
theorem dX9_crew_29 : decode cX9_crew 29 = .ok (.bipush 24, 2) := by decide +kernel
theorem dX9_crew_31 : decode cX9_crew 31 = .ok (.if_icmp .ne 7, 3) := by decide +kernel
theorem dX9_crew_34 : decode cX9_crew 34 = .ok (.iconst 2, 1) := by decide +kernel
theorem dX9_crew_35 : decode cX9_crew 35 = .ok (.goto 4, 3) := by decide +kernel
theorem dX9_crew_38 : decode cX9_crew 38 = .ok (.iconst 0, 1) := by decide +kernel
theorem dX9_crew_39 : decode cX9_crew 39 = .ok (.invokevirtual 91, 3) := by decide +kernel
theorem dX9_crew_42 : decode cX9_crew 42 = .ok (.ifCond .eq 12, 3) := by decide +kernel
theorem dX9_crew_45 : decode cX9_crew 45 = .ok (.aload_n 0, 1) := by decide +kernel
theorem dX9_crew_46 : decode cX9_crew 46 = .ok (.iload_n 1, 1) := by decide +kernel
theorem dX9_crew_47 : decode cX9_crew 47 = .ok (.iload_n 2, 1) := by decide +kernel
theorem dX9_crew_48 : decode cX9_crew 48 = .ok (.invokevirtual 95, 3) := by decide +kernel
theorem dX9_crew_51 : decode cX9_crew 51 = .ok (.goto 4, 3) := by decide +kernel
theorem dX9_crew_54 : decode cX9_crew 54 = .ok (.iconst 0, 1) := by decide +kernel
theorem dX9_crew_55 : decode cX9_crew 55 = .ok (.ireturn, 1) := by decide +kernel
theorem dX9_placeOf_0 : decode cX9_placeOf 0 = .ok (.iconst 0, 1) := by decide +kernel
theorem dX9_placeOf_1 : decode cX9_placeOf 1 = .ok (.istore_n 2, 1) := by decide +kernel
theorem dX9_placeOf_2 : decode cX9_placeOf 2 = .ok (.iload_n 2, 1) := by decide +kernel
theorem dX9_placeOf_3 : decode cX9_placeOf 3 = .ok (.aload_n 0, 1) := by decide +kernel
theorem dX9_placeOf_4 : decode cX9_placeOf 4 = .ok (.getfield 99, 3) := by decide +kernel
theorem dX9_placeOf_7 : decode cX9_placeOf 7 = .ok (.if_icmp .ge 21, 3) := by decide +kernel
theorem dX9_placeOf_10 : decode cX9_placeOf 10 = .ok (.aload_n 0, 1) := by decide +kernel
theorem dX9_placeOf_11 : decode cX9_placeOf 11 = .ok (.getfield 16, 3) := by decide +kernel
theorem dX9_placeOf_14 : decode cX9_placeOf 14 = .ok (.iload_n 2, 1) := by decide +kernel
theorem dX9_placeOf_15 : decode cX9_placeOf 15 = .ok (.iaload, 1) := by decide +kernel
theorem dX9_placeOf_16 : decode cX9_placeOf 16 = .ok (.iload_n 1, 1) := by decide +kernel
theorem dX9_placeOf_17 : decode cX9_placeOf 17 = .ok (.if_icmp .ne 5, 3) := by decide +kernel
theorem dX9_placeOf_20 : decode cX9_placeOf 20 = .ok (.iload_n 2, 1) := by decide +kernel
theorem dX9_placeOf_21 : decode cX9_placeOf 21 = .ok (.ireturn, 1) := by decide +kernel
theorem dX9_placeOf_22 : decode cX9_placeOf 22 = .ok (.iinc 2 1, 3) := by decide +kernel
theorem dX9_placeOf_25 : decode cX9_placeOf 25 = .ok (.goto (-23), 3) := by decide +kernel
theorem dX9_placeOf_28 : decode cX9_placeOf 28 = .ok (.iconst (-1), 1) := by decide +kernel
theorem dX9_placeOf_29 : decode cX9_placeOf 29 = .ok (.ireturn, 1) := by decide +kernel
set_option maxRecDepth 20000 in
theorem ggX9_enter_X9_isCrew : GoodIn wsX9_enter wsX9_isCrew := goodIn_r _ [9, 10, 11, 12, 8, 13, 23, 24, 25, 26, 27, 28, 29, 30, 31, 32, 33, 34, 35, 36, 37, 38, 39, 40, 41, 42, 43, 44, 45, 46, 47, 48, 49, 50, 51, 52, 53, 54, 55, 56, 57, 58] (by decide +kernel) (by decide +kernel)
set_option maxRecDepth 20000 in
theorem gX9_enter_X9_isCrew : GoodIn wsX9_enter (wsV RX9 102 RX9 yX9_isCrew wsX9_isCrew) := goodIn_app (goodIn_of _ (by decide +kernel)) ggX9_enter_X9_isCrew
set_option maxRecDepth 20000 in
theorem ggX9_enter_X9_placeOf : GoodIn wsX9_enter wsX9_placeOf := goodIn_r _ [17, 3, 2, 23, 24, 25, 26, 27, 28, 29, 30, 31, 32, 33, 34, 35, 36, 37, 38, 39, 40, 41, 42, 43, 44, 45, 46, 47, 48, 49, 50, 51, 52, 53, 54, 55, 56, 57, 58] (by decide +kernel) (by decide +kernel)
set_option maxRecDepth 20000 in
theorem gX9_enter_X9_placeOf : GoodIn wsX9_enter (wsV RX9 109 RX9 yX9_placeOf wsX9_placeOf) := goodIn_app (goodIn_of _ (by decide +kernel)) ggX9_enter_X9_placeOf
set_option maxRecDepth 20000 in
theorem ggX9_enter_X9_holds : GoodIn wsX9_enter wsX9_holds := goodIn_r _ [21, 22, 23, 24, 25, 26, 27, 28, 29, 30, 31, 32, 33, 34, 35, 36, 37, 38, 39, 40, 41, 42, 43, 44, 45, 46, 47, 48, 49, 50, 51, 52, 53, 54, 55, 56, 57, 58] (by decide +kernel) (by decide +kernel)
set_option maxRecDepth 20000 in
theorem gX9_enter_X9_holds : GoodIn wsX9_enter (wsV RX9 91 RX9 yX9_holds wsX9_holds) := goodIn_app (goodIn_of _ (by decide +kernel)) ggX9_enter_X9_holds
theorem dX9_enter_0 : decode cX9_enter 0 = .ok (.aload_n 0, 1) := by decide +kernel
theorem dX9_enter_1 : decode cX9_enter 1 = .ok (.iload_n 1, 1) := by decide +kernel
theorem dX9_enter_2 : decode cX9_enter 2 = .ok (.invokevirtual 102, 3) := by decide +kernel
theorem dX9_enter_5 : decode cX9_enter 5 = .ok (.istore_n 2, 1) := by decide +kernel
theorem dX9_enter_6 : decode cX9_enter 6 = .ok (.aload_n 0, 1) := by decide +kernel
theorem dX9_enter_7 : decode cX9_enter 7 = .ok (.iload_n 2, 1) := by decide +kernel
theorem dX9_enter_8 : decode cX9_enter 8 = .ok (.ifCond .ne 7, 3) := by decide +kernel
theorem dX9_enter_11 : decode cX9_enter 11 = .ok (.iconst 1, 1) := by decide +kernel
theorem dX9_enter_12 : decode cX9_enter 12 = .ok (.goto 24, 3) := by decide +kernel
theorem dX9_enter_15 : decode cX9_enter 15 = .ok (.aload_n 0, 1) := by decide +kernel
theorem dX9_enter_16 : decode cX9_enter 16 = .ok (.getfield 105, 3) := by decide +kernel
theorem dX9_enter_19 : decode cX9_enter 19 = .ok (.ifCond .ne 12, 3) := by decide +kernel
theorem dX9_enter_22 : decode cX9_enter 22 = .ok (.aload_n 0, 1) := by decide +kernel
theorem dX9_enter_23 : decode cX9_enter 23 = .ok (.iload_n 1, 1) := by decide +kernel
theorem dX9_enter_24 : decode cX9_enter 24 = .ok (.invokevirtual 109, 3) := by decide +kernel
theorem dX9_enter_27 : decode cX9_enter 27 = .ok (.iconst (-1), 1) := by decide +kernel
theorem dX9_enter_28 : decode cX9_enter 28 = .ok (.if_icmp .eq 7, 3) := by decide +kernel
theorem dX9_enter_31 : decode cX9_enter 31 = .ok (.iconst 2, 1) := by decide +kernel
theorem dX9_enter_32 : decode cX9_enter 32 = .ok (.goto 4, 3) := by decide +kernel
theorem dX9_enter_35 : decode cX9_enter 35 = .ok (.iconst 0, 1) := by decide +kernel
theorem dX9_enter_36 : decode cX9_enter 36 = .ok (.invokevirtual 91, 3) := by decide +kernel
theorem dX9_enter_39 : decode cX9_enter 39 = .ok (.ifCond .ne 5, 3) := by decide +kernel
theorem dX9_enter_42 : decode cX9_enter 42 = .ok (.iconst 0, 1) := by decide +kernel
theorem dX9_enter_43 : decode cX9_enter 43 = .ok (.ireturn, 1) := by decide +kernel
theorem dX9_enter_44 : decode cX9_enter 44 = .ok (.aload_n 0, 1) := by decide +kernel
theorem dX9_enter_45 : decode cX9_enter 45 = .ok (.getfield 16, 3) := by decide +kernel
theorem dX9_enter_48 : decode cX9_enter 48 = .ok (.aload_n 0, 1) := by decide +kernel
theorem dX9_enter_49 : decode cX9_enter 49 = .ok (.getfield 99, 3) := by decide +kernel
theorem dX9_enter_52 : decode cX9_enter 52 = .ok (.iload_n 1, 1) := by decide +kernel
theorem dX9_enter_53 : decode cX9_enter 53 = .ok (.iastore, 1) := by decide +kernel
theorem dX9_enter_54 : decode cX9_enter 54 = .ok (.aload_n 0, 1) := by decide +kernel
theorem dX9_enter_55 : decode cX9_enter 55 = .ok (.getfield 42, 3) := by decide +kernel
theorem dX9_enter_58 : decode cX9_enter 58 = .ok (.iload_n 1, 1) := by decide +kernel
theorem dX9_enter_59 : decode cX9_enter 59 = .ok (.iconst 0, 1) := by decide +kernel
theorem dX9_enter_60 : decode cX9_enter 60 = .ok (.bastore, 1) := by decide +kernel
theorem dX9_enter_61 : decode cX9_enter 61 = .ok (.aload_n 0, 1) := by decide +kernel
theorem dX9_enter_62 : decode cX9_enter 62 = .ok (.dup, 1) := by decide +kernel
theorem dX9_enter_63 : decode cX9_enter 63 = .ok (.getfield 99, 3) := by decide +kernel
theorem dX9_enter_66 : decode cX9_enter 66 = .ok (.iconst 1, 1) := by decide +kernel
theorem dX9_enter_67 : decode cX9_enter 67 = .ok (.iadd, 1) := by decide +kernel
theorem dX9_enter_68 : decode cX9_enter 68 = .ok (.putfield 99, 3) := by decide +kernel
theorem dX9_enter_71 : decode cX9_enter 71 = .ok (.aload_n 0, 1) := by decide +kernel
theorem dX9_enter_72 : decode cX9_enter 72 = .ok (.getfield 99, 3) := by decide +kernel
theorem dX9_enter_75 : decode cX9_enter 75 = .ok (.iconst 1, 1) := by decide +kernel
theorem dX9_enter_76 : decode cX9_enter 76 = .ok (.isub, 1) := by decide +kernel
theorem dX9_enter_77 : decode cX9_enter 77 = .ok (.ireturn, 1) := by decide +kernel
set_option maxRecDepth 20000 in
theorem ggX9_lapse_X9_isCrew : GoodIn wsX9_lapse wsX9_isCrew := goodIn_r _ [9, 10, 11, 12, 8, 13, 23, 24, 25, 26, 27, 28, 29, 30, 31, 32, 33, 34, 35, 36, 37, 38, 39, 40, 41, 42, 43, 44, 45, 46, 47, 48, 49, 50, 51, 52, 53, 54, 55, 56, 57, 58] (by decide +kernel) (by decide +kernel)
set_option maxRecDepth 20000 in
theorem gX9_lapse_X9_isCrew : GoodIn wsX9_lapse (wsV RX9 102 RX9 yX9_isCrew wsX9_isCrew) := goodIn_app (goodIn_of _ (by decide +kernel)) ggX9_lapse_X9_isCrew
set_option maxRecDepth 20000 in
theorem ggX9_lapse_X9_placeOf : GoodIn wsX9_lapse wsX9_placeOf := goodIn_r _ [17, 2, 3, 23, 24, 25, 26, 27, 28, 29, 30, 31, 32, 33, 34, 35, 36, 37, 38, 39, 40, 41, 42, 43, 44, 45, 46, 47, 48, 49, 50, 51, 52, 53, 54, 55, 56, 57, 58] (by decide +kernel) (by decide +kernel)
set_option maxRecDepth 20000 in
theorem gX9_lapse_X9_placeOf : GoodIn wsX9_lapse (wsV RX9 109 RX9 yX9_placeOf wsX9_placeOf) := goodIn_app (goodIn_of _ (by decide +kernel)) ggX9_lapse_X9_placeOf
set_option maxRecDepth 20000 in
theorem ggX9_lapse_X9_holds : GoodIn wsX9_lapse wsX9_holds := goodIn_r _ [21, 22, 23, 24, 25, 26, 27, 28, 29, 30, 31, 32, 33, 34, 35, 36, 37, 38, 39, 40, 41, 42, 43, 44, 45, 46, 47, 48, 49, 50, 51, 52, 53, 54, 55, 56, 57, 58] (by decide +kernel) (by decide +kernel)
set_option maxRecDepth 20000 in
theorem gX9_lapse_X9_holds : GoodIn wsX9_lapse (wsV RX9 91 RX9 yX9_holds wsX9_holds) := goodIn_app (goodIn_of _ (by decide +kernel)) ggX9_lapse_X9_holds
theorem dX9_lapse_0 : decode cX9_lapse 0 = .ok (.aload_n 0, 1) := by decide +kernel
theorem dX9_lapse_1 : decode cX9_lapse 1 = .ok (.iload_n 1, 1) := by decide +kernel
theorem dX9_lapse_2 : decode cX9_lapse 2 = .ok (.invokevirtual 102, 3) := by decide +kernel
theorem dX9_lapse_5 : decode cX9_lapse 5 = .ok (.istore_n 2, 1) := by decide +kernel
theorem dX9_lapse_6 : decode cX9_lapse 6 = .ok (.aload_n 0, 1) := by decide +kernel
theorem dX9_lapse_7 : decode cX9_lapse 7 = .ok (.iload_n 2, 1) := by decide +kernel
theorem dX9_lapse_8 : decode cX9_lapse 8 = .ok (.ifCond .ne 7, 3) := by decide +kernel
theorem dX9_lapse_11 : decode cX9_lapse 11 = .ok (.iconst 1, 1) := by decide +kernel
theorem dX9_lapse_12 : decode cX9_lapse 12 = .ok (.goto 24, 3) := by decide +kernel
theorem dX9_lapse_15 : decode cX9_lapse 15 = .ok (.aload_n 0, 1) := by decide +kernel
theorem dX9_lapse_16 : decode cX9_lapse 16 = .ok (.getfield 105, 3) := by decide +kernel
theorem dX9_lapse_19 : decode cX9_lapse 19 = .ok (.ifCond .ne 12, 3) := by decide +kernel
theorem dX9_lapse_22 : decode cX9_lapse 22 = .ok (.aload_n 0, 1) := by decide +kernel
theorem dX9_lapse_23 : decode cX9_lapse 23 = .ok (.iload_n 1, 1) := by decide +kernel
theorem dX9_lapse_24 : decode cX9_lapse 24 = .ok (.invokevirtual 109, 3) := by decide +kernel
theorem dX9_lapse_27 : decode cX9_lapse 27 = .ok (.iconst (-1), 1) := by decide +kernel
theorem dX9_lapse_28 : decode cX9_lapse 28 = .ok (.if_icmp .ne 7, 3) := by decide +kernel
theorem dX9_lapse_31 : decode cX9_lapse 31 = .ok (.iconst 2, 1) := by decide +kernel
theorem dX9_lapse_32 : decode cX9_lapse 32 = .ok (.goto 4, 3) := by decide +kernel
theorem dX9_lapse_35 : decode cX9_lapse 35 = .ok (.iconst 0, 1) := by decide +kernel
theorem dX9_lapse_36 : decode cX9_lapse 36 = .ok (.invokevirtual 91, 3) := by decide +kernel
theorem dX9_lapse_39 : decode cX9_lapse 39 = .ok (.ifCond .ne 5, 3) := by decide +kernel
theorem dX9_lapse_42 : decode cX9_lapse 42 = .ok (.iconst 0, 1) := by decide +kernel
theorem dX9_lapse_43 : decode cX9_lapse 43 = .ok (.ireturn, 1) := by decide +kernel
theorem dX9_lapse_44 : decode cX9_lapse 44 = .ok (.aload_n 0, 1) := by decide +kernel
theorem dX9_lapse_45 : decode cX9_lapse 45 = .ok (.iload_n 1, 1) := by decide +kernel
theorem dX9_lapse_46 : decode cX9_lapse 46 = .ok (.invokevirtual 109, 3) := by decide +kernel
theorem dX9_lapse_49 : decode cX9_lapse 49 = .ok (.istore_n 3, 1) := by decide +kernel
theorem dX9_lapse_50 : decode cX9_lapse 50 = .ok (.aload_n 0, 1) := by decide +kernel
theorem dX9_lapse_51 : decode cX9_lapse 51 = .ok (.dup, 1) := by decide +kernel
theorem dX9_lapse_52 : decode cX9_lapse 52 = .ok (.getfield 99, 3) := by decide +kernel
theorem dX9_lapse_55 : decode cX9_lapse 55 = .ok (.iconst 1, 1) := by decide +kernel
theorem dX9_lapse_56 : decode cX9_lapse 56 = .ok (.isub, 1) := by decide +kernel
theorem dX9_lapse_57 : decode cX9_lapse 57 = .ok (.putfield 99, 3) := by decide +kernel
theorem dX9_lapse_60 : decode cX9_lapse 60 = .ok (.iload_n 3, 1) := by decide +kernel
theorem dX9_lapse_61 : decode cX9_lapse 61 = .ok (.istore 4, 2) := by decide +kernel
theorem dX9_lapse_63 : decode cX9_lapse 63 = .ok (.iload 4, 2) := by decide +kernel
theorem dX9_lapse_65 : decode cX9_lapse 65 = .ok (.aload_n 0, 1) := by decide +kernel
theorem dX9_lapse_66 : decode cX9_lapse 66 = .ok (.getfield 99, 3) := by decide +kernel
theorem dX9_lapse_69 : decode cX9_lapse 69 = .ok (.if_icmp .ge 25, 3) := by decide +kernel
theorem dX9_lapse_72 : decode cX9_lapse 72 = .ok (.aload_n 0, 1) := by decide +kernel
theorem dX9_lapse_73 : decode cX9_lapse 73 = .ok (.getfield 16, 3) := by decide +kernel
theorem dX9_lapse_76 : decode cX9_lapse 76 = .ok (.iload 4, 2) := by decide +kernel
theorem dX9_lapse_78 : decode cX9_lapse 78 = .ok (.aload_n 0, 1) := by decide +kernel
theorem dX9_lapse_79 : decode cX9_lapse 79 = .ok (.getfield 16, 3) := by decide +kernel
theorem dX9_lapse_82 : decode cX9_lapse 82 = .ok (.iload 4, 2) := by decide +kernel
theorem dX9_lapse_84 : decode cX9_lapse 84 = .ok (.iconst 1, 1) := by decide +kernel
theorem dX9_lapse_85 : decode cX9_lapse 85 = .ok (.iadd, 1) := by decide +kernel
theorem dX9_lapse_86 : decode cX9_lapse 86 = .ok (.iaload, 1) := by decide +kernel
theorem dX9_lapse_87 : decode cX9_lapse 87 = .ok (.iastore, 1) := by decide +kernel
theorem dX9_lapse_88 : decode cX9_lapse 88 = .ok (.iinc 4 1, 3) := by decide +kernel
theorem dX9_lapse_91 : decode cX9_lapse 91 = .ok (.goto (-28), 3) := by decide +kernel
theorem dX9_lapse_94 : decode cX9_lapse 94 = .ok (.aload_n 0, 1) := by decide +kernel
theorem dX9_lapse_95 : decode cX9_lapse 95 = .ok (.getfield 42, 3) := by decide +kernel
theorem dX9_lapse_98 : decode cX9_lapse 98 = .ok (.iload_n 1, 1) := by decide +kernel
theorem dX9_lapse_99 : decode cX9_lapse 99 = .ok (.iconst 0, 1) := by decide +kernel
theorem dX9_lapse_100 : decode cX9_lapse 100 = .ok (.bastore, 1) := by decide +kernel
theorem dX9_lapse_101 : decode cX9_lapse 101 = .ok (.iload_n 3, 1) := by decide +kernel
theorem dX9_lapse_102 : decode cX9_lapse 102 = .ok (.ireturn, 1) := by decide +kernel
set_option maxRecDepth 20000 in
theorem ggX9_division_X9_isIn : GoodIn wsX9_division wsX9_isIn := goodIn_r _ [6] (by decide +kernel) (by decide +kernel)
set_option maxRecDepth 20000 in
theorem gX9_division_X9_isIn : GoodIn wsX9_division (va_wsS RX9 87 yX9_isIn wsX9_isIn) := goodIn_app (goodIn_of _ (by decide +kernel)) ggX9_division_X9_isIn
set_option maxRecDepth 20000 in
theorem ggX9_division_X9_holds : GoodIn wsX9_division wsX9_holds := goodIn_r _ [10, 11, 12, 13, 14, 15, 16, 17, 18, 19, 20, 21, 22, 23, 24, 25, 26, 27, 28, 29, 30, 31, 32, 33, 34, 35, 36, 37, 38, 39, 40, 41, 42, 43, 44, 45, 46, 47] (by decide +kernel) (by decide +kernel)
set_option maxRecDepth 20000 in
theorem gX9_division_X9_holds : GoodIn wsX9_division (wsV RX9 91 RX9 yX9_holds wsX9_holds) := goodIn_app (goodIn_of _ (by decide +kernel)) ggX9_division_X9_holds
theorem dX9_division_0 : decode cX9_division 0 = .ok (.aload_n 0, 1) := by decide +kernel
theorem dX9_division_1 : decode cX9_division 1 = .ok (.iload_n 1, 1) := by decide +kernel
theorem dX9_division_2 : decode cX9_division 2 = .ok (.iconst 3, 1) := by decide +kernel
theorem dX9_division_3 : decode cX9_division 3 = .ok (.bipush 8, 2) := by decide +kernel
theorem dX9_division_5 : decode cX9_division 5 = .ok (.invokestatic 87, 3) := by decide +kernel
theorem dX9_division_8 : decode cX9_division 8 = .ok (.ifCond .ne 7, 3) := by decide +kernel
theorem dX9_division_11 : decode cX9_division 11 = .ok (.iconst 1, 1) := by decide +kernel
theorem dX9_division_12 : decode cX9_division 12 = .ok (.goto 15, 3) := by decide +kernel
theorem dX9_division_15 : decode cX9_division 15 = .ok (.aload_n 0, 1) := by decide +kernel
theorem dX9_division_16 : decode cX9_division 16 = .ok (.getfield 105, 3) := by decide +kernel
theorem dX9_division_19 : decode cX9_division 19 = .ok (.ifCond .eq 7, 3) := by decide +kernel
theorem dX9_division_22 : decode cX9_division 22 = .ok (.iconst 2, 1) := by decide +kernel
theorem dX9_division_23 : decode cX9_division 23 = .ok (.goto 4, 3) := by decide +kernel
theorem dX9_division_26 : decode cX9_division 26 = .ok (.iconst 0, 1) := by decide +kernel
theorem dX9_division_27 : decode cX9_division 27 = .ok (.invokevirtual 91, 3) := by decide +kernel
theorem dX9_division_30 : decode cX9_division 30 = .ok (.ifCond .ne 5, 3) := by decide +kernel
theorem dX9_division_33 : decode cX9_division 33 = .ok (.iconst 0, 1) := by decide +kernel
theorem dX9_division_34 : decode cX9_division 34 = .ok (.ireturn, 1) := by decide +kernel
theorem dX9_division_35 : decode cX9_division 35 = .ok (.aload_n 0, 1) := by decide +kernel
theorem dX9_division_36 : decode cX9_division 36 = .ok (.getfield 19, 3) := by decide +kernel
theorem dX9_division_39 : decode cX9_division 39 = .ok (.istore_n 2, 1) := by decide +kernel
theorem dX9_division_40 : decode cX9_division 40 = .ok (.aload_n 0, 1) := by decide +kernel
theorem dX9_division_41 : decode cX9_division 41 = .ok (.iload_n 1, 1) := by decide +kernel
theorem dX9_division_42 : decode cX9_division 42 = .ok (.putfield 19, 3) := by decide +kernel
theorem dX9_division_45 : decode cX9_division 45 = .ok (.iload_n 2, 1) := by decide +kernel
theorem dX9_division_46 : decode cX9_division 46 = .ok (.ireturn, 1) := by decide +kernel
theorem dX9_divisions_0 : decode cX9_divisions 0 = .ok (.aload_n 0, 1) := by decide +kernel
theorem dX9_divisions_1 : decode cX9_divisions 1 = .ok (.getfield 99, 3) := by decide +kernel
theorem dX9_divisions_4 : decode cX9_divisions 4 = .ok (.aload_n 0, 1) := by decide +kernel
theorem dX9_divisions_5 : decode cX9_divisions 5 = .ok (.getfield 19, 3) := by decide +kernel
theorem dX9_divisions_8 : decode cX9_divisions 8 = .ok (.if_icmp .ge 7, 3) := by decide +kernel
theorem dX9_divisions_11 : decode cX9_divisions 11 = .ok (.iconst 1, 1) := by decide +kernel
theorem dX9_divisions_12 : decode cX9_divisions 12 = .ok (.goto 31, 3) := by decide +kernel
theorem dX9_divisions_15 : decode cX9_divisions 15 = .ok (.aload_n 0, 1) := by decide +kernel
theorem dX9_divisions_16 : decode cX9_divisions 16 = .ok (.getfield 99, 3) := by decide +kernel
theorem dX9_divisions_19 : decode cX9_divisions 19 = .ok (.aload_n 0, 1) := by decide +kernel
theorem dX9_divisions_20 : decode cX9_divisions 20 = .ok (.getfield 19, 3) := by decide +kernel
theorem dX9_divisions_23 : decode cX9_divisions 23 = .ok (.idiv, 1) := by decide +kernel
theorem dX9_divisions_24 : decode cX9_divisions 24 = .ok (.aload_n 0, 1) := by decide +kernel
theorem dX9_divisions_25 : decode cX9_divisions 25 = .ok (.getfield 99, 3) := by decide +kernel
theorem dX9_divisions_28 : decode cX9_divisions 28 = .ok (.aload_n 0, 1) := by decide +kernel
theorem dX9_divisions_29 : decode cX9_divisions 29 = .ok (.getfield 19, 3) := by decide +kernel
theorem dX9_divisions_32 : decode cX9_divisions 32 = .ok (.irem, 1) := by decide +kernel
theorem dX9_divisions_33 : decode cX9_divisions 33 = .ok (.iconst 1, 1) := by decide +kernel
theorem dX9_divisions_34 : decode cX9_divisions 34 = .ok (.if_icmp .le 7, 3) := by decide +kernel
theorem dX9_divisions_37 : decode cX9_divisions 37 = .ok (.iconst 1, 1) := by decide +kernel
theorem dX9_divisions_38 : decode cX9_divisions 38 = .ok (.goto 4, 3) := by decide +kernel
theorem dX9_divisions_41 : decode cX9_divisions 41 = .ok (.iconst 0, 1) := by decide +kernel
theorem dX9_divisions_42 : decode cX9_divisions 42 = .ok (.iadd, 1) := by decide +kernel
theorem dX9_divisions_43 : decode cX9_divisions 43 = .ok (.ireturn, 1) := by decide +kernel
set_option maxRecDepth 20000 in
theorem ggX9_rowsOut_X9_divisions : GoodIn wsX9_rowsOut wsX9_divisions := goodIn_r _ [13, 2, 3, 14, 15, 16, 17, 18, 19, 20, 21, 22, 23, 24, 25, 26, 27, 28, 29, 30, 31, 32, 33, 34, 35, 36, 37, 38, 39, 40, 41, 42, 43, 44, 45, 46, 47, 48, 49] (by decide +kernel) (by decide +kernel)
set_option maxRecDepth 20000 in
theorem gX9_rowsOut_X9_divisions : GoodIn wsX9_rowsOut (wsV RX9 113 RX9 yX9_divisions wsX9_divisions) := goodIn_app (goodIn_of _ (by decide +kernel)) ggX9_rowsOut_X9_divisions
theorem dX9_rowsOut_0 : decode cX9_rowsOut 0 = .ok (.aload_n 0, 1) := by decide +kernel
theorem dX9_rowsOut_1 : decode cX9_rowsOut 1 = .ok (.invokevirtual 113, 3) := by decide +kernel
theorem dX9_rowsOut_4 : decode cX9_rowsOut 4 = .ok (.iconst 1, 1) := by decide +kernel
theorem dX9_rowsOut_5 : decode cX9_rowsOut 5 = .ok (.isub, 1) := by decide +kernel
theorem dX9_rowsOut_6 : decode cX9_rowsOut 6 = .ok (.istore_n 1, 1) := by decide +kernel
theorem dX9_rowsOut_7 : decode cX9_rowsOut 7 = .ok (.aload_n 0, 1) := by decide +kernel
theorem dX9_rowsOut_8 : decode cX9_rowsOut 8 = .ok (.getfield 117, 3) := by decide +kernel
theorem dX9_rowsOut_11 : decode cX9_rowsOut 11 = .ok (.iload_n 1, 1) := by decide +kernel
theorem dX9_rowsOut_12 : decode cX9_rowsOut 12 = .ok (.if_icmp .ne 10, 3) := by decide +kernel
theorem dX9_rowsOut_15 : decode cX9_rowsOut 15 = .ok (.aload_n 0, 1) := by decide +kernel
theorem dX9_rowsOut_16 : decode cX9_rowsOut 16 = .ok (.getfield 99, 3) := by decide +kernel
theorem dX9_rowsOut_19 : decode cX9_rowsOut 19 = .ok (.goto 16, 3) := by decide +kernel
theorem dX9_rowsOut_22 : decode cX9_rowsOut 22 = .ok (.aload_n 0, 1) := by decide +kernel
theorem dX9_rowsOut_23 : decode cX9_rowsOut 23 = .ok (.getfield 19, 3) := by decide +kernel
theorem dX9_rowsOut_26 : decode cX9_rowsOut 26 = .ok (.aload_n 0, 1) := by decide +kernel
theorem dX9_rowsOut_27 : decode cX9_rowsOut 27 = .ok (.getfield 117, 3) := by decide +kernel
theorem dX9_rowsOut_30 : decode cX9_rowsOut 30 = .ok (.iconst 1, 1) := by decide +kernel
theorem dX9_rowsOut_31 : decode cX9_rowsOut 31 = .ok (.iadd, 1) := by decide +kernel
theorem dX9_rowsOut_32 : decode cX9_rowsOut 32 = .ok (.imul, 1) := by decide +kernel
theorem dX9_rowsOut_33 : decode cX9_rowsOut 33 = .ok (.iconst 1, 1) := by decide +kernel
theorem dX9_rowsOut_34 : decode cX9_rowsOut 34 = .ok (.iadd, 1) := by decide +kernel
theorem dX9_rowsOut_35 : decode cX9_rowsOut 35 = .ok (.istore_n 2, 1) := by decide +kernel
theorem dX9_rowsOut_36 : decode cX9_rowsOut 36 = .ok (.aload_n 0, 1) := by decide +kernel
theorem dX9_rowsOut_37 : decode cX9_rowsOut 37 = .ok (.iconst 0, 1) := by decide +kernel
theorem dX9_rowsOut_38 : decode cX9_rowsOut 38 = .ok (.putfield 120, 3) := by decide +kernel
theorem dX9_rowsOut_41 : decode cX9_rowsOut 41 = .ok (.aload_n 0, 1) := by decide +kernel
theorem dX9_rowsOut_42 : decode cX9_rowsOut 42 = .ok (.getfield 19, 3) := by decide +kernel
theorem dX9_rowsOut_45 : decode cX9_rowsOut 45 = .ok (.aload_n 0, 1) := by decide +kernel
theorem dX9_rowsOut_46 : decode cX9_rowsOut 46 = .ok (.getfield 117, 3) := by decide +kernel
theorem dX9_rowsOut_49 : decode cX9_rowsOut 49 = .ok (.imul, 1) := by decide +kernel
theorem dX9_rowsOut_50 : decode cX9_rowsOut 50 = .ok (.istore_n 3, 1) := by decide +kernel
theorem dX9_rowsOut_51 : decode cX9_rowsOut 51 = .ok (.iload_n 3, 1) := by decide +kernel
theorem dX9_rowsOut_52 : decode cX9_rowsOut 52 = .ok (.iload_n 2, 1) := by decide +kernel
theorem dX9_rowsOut_53 : decode cX9_rowsOut 53 = .ok (.if_icmp .ge 54, 3) := by decide +kernel
theorem dX9_rowsOut_56 : decode cX9_rowsOut 56 = .ok (.aload_n 0, 1) := by decide +kernel
theorem dX9_rowsOut_57 : decode cX9_rowsOut 57 = .ok (.getfield 23, 3) := by decide +kernel
theorem dX9_rowsOut_60 : decode cX9_rowsOut 60 = .ok (.aload_n 0, 1) := by decide +kernel
theorem dX9_rowsOut_61 : decode cX9_rowsOut 61 = .ok (.getfield 120, 3) := by decide +kernel
theorem dX9_rowsOut_64 : decode cX9_rowsOut 64 = .ok (.aload_n 0, 1) := by decide +kernel
theorem dX9_rowsOut_65 : decode cX9_rowsOut 65 = .ok (.getfield 16, 3) := by decide +kernel
theorem dX9_rowsOut_68 : decode cX9_rowsOut 68 = .ok (.iload_n 3, 1) := by decide +kernel
theorem dX9_rowsOut_69 : decode cX9_rowsOut 69 = .ok (.iaload, 1) := by decide +kernel
theorem dX9_rowsOut_70 : decode cX9_rowsOut 70 = .ok (.iastore, 1) := by decide +kernel
theorem dX9_rowsOut_71 : decode cX9_rowsOut 71 = .ok (.aload_n 0, 1) := by decide +kernel
theorem dX9_rowsOut_72 : decode cX9_rowsOut 72 = .ok (.getfield 26, 3) := by decide +kernel
theorem dX9_rowsOut_75 : decode cX9_rowsOut 75 = .ok (.aload_n 0, 1) := by decide +kernel
theorem dX9_rowsOut_76 : decode cX9_rowsOut 76 = .ok (.getfield 120, 3) := by decide +kernel
theorem dX9_rowsOut_79 : decode cX9_rowsOut 79 = .ok (.iconst 0, 1) := by decide +kernel
theorem dX9_rowsOut_80 : decode cX9_rowsOut 80 = .ok (.bastore, 1) := by decide +kernel
theorem dX9_rowsOut_81 : decode cX9_rowsOut 81 = .ok (.aload_n 0, 1) := by decide +kernel
theorem dX9_rowsOut_82 : decode cX9_rowsOut 82 = .ok (.getfield 30, 3) := by decide +kernel
theorem dX9_rowsOut_85 : decode cX9_rowsOut 85 = .ok (.aload_n 0, 1) := by decide +kernel
theorem dX9_rowsOut_86 : decode cX9_rowsOut 86 = .ok (.getfield 120, 3) := by decide +kernel
theorem dX9_rowsOut_89 : decode cX9_rowsOut 89 = .ok (.iconst (-1), 1) := by decide +kernel
theorem dX9_rowsOut_90 : decode cX9_rowsOut 90 = .ok (.iastore, 1) := by decide +kernel
theorem dX9_rowsOut_91 : decode cX9_rowsOut 91 = .ok (.aload_n 0, 1) := by decide +kernel
theorem dX9_rowsOut_92 : decode cX9_rowsOut 92 = .ok (.dup, 1) := by decide +kernel
theorem dX9_rowsOut_93 : decode cX9_rowsOut 93 = .ok (.getfield 120, 3) := by decide +kernel
theorem dX9_rowsOut_96 : decode cX9_rowsOut 96 = .ok (.iconst 1, 1) := by decide +kernel
theorem dX9_rowsOut_97 : decode cX9_rowsOut 97 = .ok (.iadd, 1) := by decide +kernel
theorem dX9_rowsOut_98 : decode cX9_rowsOut 98 = .ok (.putfield 120, 3) := by decide +kernel
theorem dX9_rowsOut_101 : decode cX9_rowsOut 101 = .ok (.iinc 3 1, 3) := by decide +kernel
theorem dX9_rowsOut_104 : decode cX9_rowsOut 104 = .ok (.goto (-53), 3) := by decide +kernel
theorem dX9_rowsOut_107 : decode cX9_rowsOut 107 = .ok (.return_, 1) := by decide +kernel
set_option maxRecDepth 20000 in
theorem ggX9_begin_X9_holds : GoodIn wsX9_begin wsX9_holds := goodIn_r _ [14, 15, 34, 35, 36, 37, 38, 39, 40, 41, 42, 43, 44, 45, 46, 47, 48, 49, 50, 51, 52, 53, 54, 55, 56, 57, 58, 59, 60, 61, 62, 63, 64, 65, 66, 67, 68, 69] (by decide +kernel) (by decide +kernel)
set_option maxRecDepth 20000 in
theorem gX9_begin_X9_holds : GoodIn wsX9_begin (wsV RX9 91 RX9 yX9_holds wsX9_holds) := goodIn_app (goodIn_of _ (by decide +kernel)) ggX9_begin_X9_holds
set_option maxRecDepth 20000 in
theorem ggX9_begin_X9_placeOf : GoodIn wsX9_begin wsX9_placeOf := goodIn_r _ [19, 2, 20, 34, 35, 36, 37, 38, 39, 40, 41, 42, 43, 44, 45, 46, 47, 48, 49, 50, 51, 52, 53, 54, 55, 56, 57, 58, 59, 60, 61, 62, 63, 64, 65, 66, 67, 68, 69] (by decide +kernel) (by decide +kernel)
set_option maxRecDepth 20000 in
theorem gX9_begin_X9_placeOf : GoodIn wsX9_begin (wsV RX9 109 RX9 yX9_placeOf wsX9_placeOf) := goodIn_app (goodIn_of _ (by decide +kernel)) ggX9_begin_X9_placeOf
set_option maxRecDepth 20000 in
theorem ggX9_begin_X9_divisions : GoodIn wsX9_begin wsX9_divisions := goodIn_r _ [24, 2, 25, 34, 35, 36, 37, 38, 39, 40, 41, 42, 43, 44, 45, 46, 47, 48, 49, 50, 51, 52, 53, 54, 55, 56, 57, 58, 59, 60, 61, 62, 63, 64, 65, 66, 67, 68, 69] (by decide +kernel) (by decide +kernel)
set_option maxRecDepth 20000 in
theorem gX9_begin_X9_divisions : GoodIn wsX9_begin (wsV RX9 113 RX9 yX9_divisions wsX9_divisions) := goodIn_app (goodIn_of _ (by decide +kernel)) ggX9_begin_X9_divisions
set_option maxRecDepth 20000 in
theorem ggX9_begin_X9_rowsOut : GoodIn wsX9_begin wsX9_rowsOut := goodIn_r _ [29, 9, 2, 25, 30, 31, 20, 32, 33, 21, 22, 23, 13, 24, 34, 35, 36, 37, 38, 39, 40, 41, 42, 43, 44, 45, 46, 47, 48, 49, 50, 51, 52, 53, 54, 55, 56, 57, 58, 59, 60, 61, 62, 63, 64, 65, 66, 67, 68, 69] (by decide +kernel) (by decide +kernel)
set_option maxRecDepth 20000 in
theorem gX9_begin_X9_rowsOut : GoodIn wsX9_begin (wsV RX9 126 RX9 yX9_rowsOut wsX9_rowsOut) := goodIn_app (goodIn_of _ (by decide +kernel)) ggX9_begin_X9_rowsOut
theorem dX9_begin_0 : decode cX9_begin 0 = .ok (.aload_n 0, 1) := by decide +kernel
theorem dX9_begin_1 : decode cX9_begin 1 = .ok (.aload_n 0, 1) := by decide +kernel
theorem dX9_begin_2 : decode cX9_begin 2 = .ok (.getfield 105, 3) := by decide +kernel
theorem dX9_begin_5 : decode cX9_begin 5 = .ok (.ifCond .ne 20, 3) := by decide +kernel
theorem dX9_begin_8 : decode cX9_begin 8 = .ok (.aload_n 0, 1) := by decide +kernel
theorem dX9_begin_9 : decode cX9_begin 9 = .ok (.getfield 99, 3) := by decide +kernel
theorem dX9_begin_12 : decode cX9_begin 12 = .ok (.iconst 2, 1) := by decide +kernel
theorem dX9_begin_13 : decode cX9_begin 13 = .ok (.if_icmp .lt 12, 3) := by decide +kernel
theorem dX9_begin_16 : decode cX9_begin 16 = .ok (.aload_n 0, 1) := by decide +kernel
theorem dX9_begin_17 : decode cX9_begin 17 = .ok (.getfield 123, 3) := by decide +kernel
theorem dX9_begin_20 : decode cX9_begin 20 = .ok (.bipush 16, 2) := by decide +kernel
theorem dX9_begin_22 : decode cX9_begin 22 = .ok (.if_icmp .ne 7, 3) := by decide +kernel
theorem dX9_begin_25 : decode cX9_begin 25 = .ok (.iconst 1, 1) := by decide +kernel
theorem dX9_begin_26 : decode cX9_begin 26 = .ok (.goto 4, 3) := by decide +kernel
theorem dX9_begin_29 : decode cX9_begin 29 = .ok (.iconst 0, 1) := by decide +kernel
theorem dX9_begin_30 : decode cX9_begin 30 = .ok (.invokevirtual 91, 3) := by decide +kernel
theorem dX9_begin_33 : decode cX9_begin 33 = .ok (.ifCond .ne 5, 3) := by decide +kernel
theorem dX9_begin_36 : decode cX9_begin 36 = .ok (.iconst 0, 1) := by decide +kernel
theorem dX9_begin_37 : decode cX9_begin 37 = .ok (.ireturn, 1) := by decide +kernel
theorem dX9_begin_38 : decode cX9_begin 38 = .ok (.aload_n 0, 1) := by decide +kernel
theorem dX9_begin_39 : decode cX9_begin 39 = .ok (.iconst 1, 1) := by decide +kernel
theorem dX9_begin_40 : decode cX9_begin 40 = .ok (.putfield 105, 3) := by decide +kernel
theorem dX9_begin_43 : decode cX9_begin 43 = .ok (.iconst 0, 1) := by decide +kernel
theorem dX9_begin_44 : decode cX9_begin 44 = .ok (.istore_n 1, 1) := by decide +kernel
theorem dX9_begin_45 : decode cX9_begin 45 = .ok (.iload_n 1, 1) := by decide +kernel
theorem dX9_begin_46 : decode cX9_begin 46 = .ok (.aload_n 0, 1) := by decide +kernel
theorem dX9_begin_47 : decode cX9_begin 47 = .ok (.getfield 84, 3) := by decide +kernel
theorem dX9_begin_50 : decode cX9_begin 50 = .ok (.if_icmp .ge 64, 3) := by decide +kernel
theorem dX9_begin_53 : decode cX9_begin 53 = .ok (.aload_n 0, 1) := by decide +kernel
theorem dX9_begin_54 : decode cX9_begin 54 = .ok (.getfield 39, 3) := by decide +kernel
theorem dX9_begin_57 : decode cX9_begin 57 = .ok (.iload_n 1, 1) := by decide +kernel
theorem dX9_begin_58 : decode cX9_begin 58 = .ok (.aload_n 0, 1) := by decide +kernel
theorem dX9_begin_59 : decode cX9_begin 59 = .ok (.iload_n 1, 1) := by decide +kernel
theorem dX9_begin_60 : decode cX9_begin 60 = .ok (.invokevirtual 109, 3) := by decide +kernel
theorem dX9_begin_63 : decode cX9_begin 63 = .ok (.iastore, 1) := by decide +kernel
theorem dX9_begin_64 : decode cX9_begin 64 = .ok (.aload_n 0, 1) := by decide +kernel
theorem dX9_begin_65 : decode cX9_begin 65 = .ok (.getfield 123, 3) := by decide +kernel
theorem dX9_begin_68 : decode cX9_begin 68 = .ok (.iconst 4, 1) := by decide +kernel
theorem dX9_begin_69 : decode cX9_begin 69 = .ok (.irem, 1) := by decide +kernel
theorem dX9_begin_70 : decode cX9_begin 70 = .ok (.ifCond .ne 38, 3) := by decide +kernel
theorem dX9_begin_73 : decode cX9_begin 73 = .ok (.aload_n 0, 1) := by decide +kernel
theorem dX9_begin_74 : decode cX9_begin 74 = .ok (.getfield 42, 3) := by decide +kernel
theorem dX9_begin_77 : decode cX9_begin 77 = .ok (.iload_n 1, 1) := by decide +kernel
theorem dX9_begin_78 : decode cX9_begin 78 = .ok (.aload_n 0, 1) := by decide +kernel
theorem dX9_begin_79 : decode cX9_begin 79 = .ok (.getfield 39, 3) := by decide +kernel
theorem dX9_begin_82 : decode cX9_begin 82 = .ok (.iload_n 1, 1) := by decide +kernel
theorem dX9_begin_83 : decode cX9_begin 83 = .ok (.iaload, 1) := by decide +kernel
theorem dX9_begin_84 : decode cX9_begin 84 = .ok (.iconst (-1), 1) := by decide +kernel
theorem dX9_begin_85 : decode cX9_begin 85 = .ok (.if_icmp .eq 7, 3) := by decide +kernel
theorem dX9_begin_88 : decode cX9_begin 88 = .ok (.iconst 1, 1) := by decide +kernel
theorem dX9_begin_89 : decode cX9_begin 89 = .ok (.goto 4, 3) := by decide +kernel
theorem dX9_begin_92 : decode cX9_begin 92 = .ok (.iconst 0, 1) := by decide +kernel
theorem dX9_begin_93 : decode cX9_begin 93 = .ok (.bastore, 1) := by decide +kernel
theorem dX9_begin_94 : decode cX9_begin 94 = .ok (.aload_n 0, 1) := by decide +kernel
theorem dX9_begin_95 : decode cX9_begin 95 = .ok (.getfield 45, 3) := by decide +kernel
theorem dX9_begin_98 : decode cX9_begin 98 = .ok (.iload_n 1, 1) := by decide +kernel
theorem dX9_begin_99 : decode cX9_begin 99 = .ok (.iconst 0, 1) := by decide +kernel
theorem dX9_begin_100 : decode cX9_begin 100 = .ok (.iastore, 1) := by decide +kernel
theorem dX9_begin_101 : decode cX9_begin 101 = .ok (.aload_n 0, 1) := by decide +kernel
theorem dX9_begin_102 : decode cX9_begin 102 = .ok (.getfield 48, 3) := by decide +kernel
theorem dX9_begin_105 : decode cX9_begin 105 = .ok (.iload_n 1, 1) := by decide +kernel
theorem dX9_begin_106 : decode cX9_begin 106 = .ok (.iconst 0, 1) := by decide +kernel
theorem dX9_begin_107 : decode cX9_begin 107 = .ok (.iastore, 1) := by decide +kernel
theorem dX9_begin_108 : decode cX9_begin 108 = .ok (.iinc 1 1, 3) := by decide +kernel
theorem dX9_begin_111 : decode cX9_begin 111 = .ok (.goto (-66), 3) := by decide +kernel
theorem dX9_begin_114 : decode cX9_begin 114 = .ok (.aload_n 0, 1) := by decide +kernel
theorem dX9_begin_115 : decode cX9_begin 115 = .ok (.aload_n 0, 1) := by decide +kernel
theorem dX9_begin_116 : decode cX9_begin 116 = .ok (.invokevirtual 113, 3) := by decide +kernel
theorem dX9_begin_119 : decode cX9_begin 119 = .ok (.iconst 1, 1) := by decide +kernel
theorem dX9_begin_120 : decode cX9_begin 120 = .ok (.isub, 1) := by decide +kernel
theorem dX9_begin_121 : decode cX9_begin 121 = .ok (.putfield 117, 3) := by decide +kernel
theorem dX9_begin_124 : decode cX9_begin 124 = .ok (.aload_n 0, 1) := by decide +kernel
theorem dX9_begin_125 : decode cX9_begin 125 = .ok (.invokevirtual 126, 3) := by decide +kernel
theorem dX9_begin_128 : decode cX9_begin 128 = .ok (.aload_n 0, 1) := by decide +kernel
theorem dX9_begin_129 : decode cX9_begin 129 = .ok (.getfield 117, 3) := by decide +kernel
theorem dX9_begin_132 : decode cX9_begin 132 = .ok (.iconst 1, 1) := by decide +kernel
theorem dX9_begin_133 : decode cX9_begin 133 = .ok (.iadd, 1) := by decide +kernel
theorem dX9_begin_134 : decode cX9_begin 134 = .ok (.ireturn, 1) := by decide +kernel
theorem dX9_rowOf_0 : decode cX9_rowOf 0 = .ok (.iconst 0, 1) := by decide +kernel
theorem dX9_rowOf_1 : decode cX9_rowOf 1 = .ok (.istore_n 2, 1) := by decide +kernel
theorem dX9_rowOf_2 : decode cX9_rowOf 2 = .ok (.iload_n 2, 1) := by decide +kernel
theorem dX9_rowOf_3 : decode cX9_rowOf 3 = .ok (.aload_n 0, 1) := by decide +kernel
theorem dX9_rowOf_4 : decode cX9_rowOf 4 = .ok (.getfield 120, 3) := by decide +kernel
theorem dX9_rowOf_7 : decode cX9_rowOf 7 = .ok (.if_icmp .ge 37, 3) := by decide +kernel
theorem dX9_rowOf_10 : decode cX9_rowOf 10 = .ok (.aload_n 0, 1) := by decide +kernel
theorem dX9_rowOf_11 : decode cX9_rowOf 11 = .ok (.getfield 105, 3) := by decide +kernel
theorem dX9_rowOf_14 : decode cX9_rowOf 14 = .ok (.ifCond .eq 30, 3) := by decide +kernel
theorem dX9_rowOf_17 : decode cX9_rowOf 17 = .ok (.aload_n 0, 1) := by decide +kernel
theorem dX9_rowOf_18 : decode cX9_rowOf 18 = .ok (.getfield 23, 3) := by decide +kernel
theorem dX9_rowOf_21 : decode cX9_rowOf 21 = .ok (.iload_n 2, 1) := by decide +kernel
theorem dX9_rowOf_22 : decode cX9_rowOf 22 = .ok (.iaload, 1) := by decide +kernel
theorem dX9_rowOf_23 : decode cX9_rowOf 23 = .ok (.iload_n 1, 1) := by decide +kernel
theorem dX9_rowOf_24 : decode cX9_rowOf 24 = .ok (.if_icmp .ne 14, 3) := by decide +kernel
theorem dX9_rowOf_27 : decode cX9_rowOf 27 = .ok (.aload_n 0, 1) := by decide +kernel
theorem dX9_rowOf_28 : decode cX9_rowOf 28 = .ok (.getfield 26, 3) := by decide +kernel
theorem dX9_rowOf_31 : decode cX9_rowOf 31 = .ok (.iload_n 2, 1) := by decide +kernel
theorem dX9_rowOf_32 : decode cX9_rowOf 32 = .ok (.baload, 1) := by decide +kernel
theorem dX9_rowOf_33 : decode cX9_rowOf 33 = .ok (.ifCond .ne 5, 3) := by decide +kernel
theorem dX9_rowOf_36 : decode cX9_rowOf 36 = .ok (.iload_n 2, 1) := by decide +kernel
theorem dX9_rowOf_37 : decode cX9_rowOf 37 = .ok (.ireturn, 1) := by decide +kernel
theorem dX9_rowOf_38 : decode cX9_rowOf 38 = .ok (.iinc 2 1, 3) := by decide +kernel
theorem dX9_rowOf_41 : decode cX9_rowOf 41 = .ok (.goto (-39), 3) := by decide +kernel
theorem dX9_rowOf_44 : decode cX9_rowOf 44 = .ok (.iconst (-1), 1) := by decide +kernel
theorem dX9_rowOf_45 : decode cX9_rowOf 45 = .ok (.ireturn, 1) := by decide +kernel
theorem dX9_aheadOf_0 : decode cX9_aheadOf 0 = .ok (.iload_n 1, 1) := by decide +kernel
theorem dX9_aheadOf_1 : decode cX9_aheadOf 1 = .ok (.iconst 1, 1) := by decide +kernel
theorem dX9_aheadOf_2 : decode cX9_aheadOf 2 = .ok (.isub, 1) := by decide +kernel
theorem dX9_aheadOf_3 : decode cX9_aheadOf 3 = .ok (.istore_n 2, 1) := by decide +kernel
theorem dX9_aheadOf_4 : decode cX9_aheadOf 4 = .ok (.iload_n 2, 1) := by decide +kernel
theorem dX9_aheadOf_5 : decode cX9_aheadOf 5 = .ok (.ifCond .lt 18, 3) := by decide +kernel
theorem dX9_aheadOf_8 : decode cX9_aheadOf 8 = .ok (.aload_n 0, 1) := by decide +kernel
theorem dX9_aheadOf_9 : decode cX9_aheadOf 9 = .ok (.getfield 26, 3) := by decide +kernel
theorem dX9_aheadOf_12 : decode cX9_aheadOf 12 = .ok (.iload_n 2, 1) := by decide +kernel
theorem dX9_aheadOf_13 : decode cX9_aheadOf 13 = .ok (.baload, 1) := by decide +kernel
theorem dX9_aheadOf_14 : decode cX9_aheadOf 14 = .ok (.ifCond .eq 9, 3) := by decide +kernel
theorem dX9_aheadOf_17 : decode cX9_aheadOf 17 = .ok (.iinc 2 (-1), 3) := by decide +kernel
theorem dX9_aheadOf_20 : decode cX9_aheadOf 20 = .ok (.goto (-16), 3) := by decide +kernel
theorem dX9_aheadOf_23 : decode cX9_aheadOf 23 = .ok (.iload_n 2, 1) := by decide +kernel
theorem dX9_aheadOf_24 : decode cX9_aheadOf 24 = .ok (.ireturn, 1) := by decide +kernel
theorem dX9_bumpsAt_0 : decode cX9_bumpsAt 0 = .ok (.aload_n 0, 1) := by decide +kernel
theorem dX9_bumpsAt_1 : decode cX9_bumpsAt 1 = .ok (.getfield 26, 3) := by decide +kernel
theorem dX9_bumpsAt_4 : decode cX9_bumpsAt 4 = .ok (.iload_n 1, 1) := by decide +kernel
theorem dX9_bumpsAt_5 : decode cX9_bumpsAt 5 = .ok (.iconst 1, 1) := by decide +kernel
theorem dX9_bumpsAt_6 : decode cX9_bumpsAt 6 = .ok (.bastore, 1) := by decide +kernel
theorem dX9_bumpsAt_7 : decode cX9_bumpsAt 7 = .ok (.aload_n 0, 1) := by decide +kernel
theorem dX9_bumpsAt_8 : decode cX9_bumpsAt 8 = .ok (.getfield 26, 3) := by decide +kernel
theorem dX9_bumpsAt_11 : decode cX9_bumpsAt 11 = .ok (.iload_n 2, 1) := by decide +kernel
theorem dX9_bumpsAt_12 : decode cX9_bumpsAt 12 = .ok (.iconst 1, 1) := by decide +kernel
theorem dX9_bumpsAt_13 : decode cX9_bumpsAt 13 = .ok (.bastore, 1) := by decide +kernel
theorem dX9_bumpsAt_14 : decode cX9_bumpsAt 14 = .ok (.aload_n 0, 1) := by decide +kernel
theorem dX9_bumpsAt_15 : decode cX9_bumpsAt 15 = .ok (.getfield 30, 3) := by decide +kernel
theorem dX9_bumpsAt_18 : decode cX9_bumpsAt 18 = .ok (.iload_n 1, 1) := by decide +kernel
theorem dX9_bumpsAt_19 : decode cX9_bumpsAt 19 = .ok (.aload_n 0, 1) := by decide +kernel
theorem dX9_bumpsAt_20 : decode cX9_bumpsAt 20 = .ok (.getfield 23, 3) := by decide +kernel
theorem dX9_bumpsAt_23 : decode cX9_bumpsAt 23 = .ok (.iload_n 2, 1) := by decide +kernel
theorem dX9_bumpsAt_24 : decode cX9_bumpsAt 24 = .ok (.iaload, 1) := by decide +kernel
theorem dX9_bumpsAt_25 : decode cX9_bumpsAt 25 = .ok (.iastore, 1) := by decide +kernel
theorem dX9_bumpsAt_26 : decode cX9_bumpsAt 26 = .ok (.aload_n 0, 1) := by decide +kernel
theorem dX9_bumpsAt_27 : decode cX9_bumpsAt 27 = .ok (.getfield 51, 3) := by decide +kernel
theorem dX9_bumpsAt_30 : decode cX9_bumpsAt 30 = .ok (.iconst 5, 1) := by decide +kernel
theorem dX9_bumpsAt_31 : decode cX9_bumpsAt 31 = .ok (.aload_n 0, 1) := by decide +kernel
theorem dX9_bumpsAt_32 : decode cX9_bumpsAt 32 = .ok (.getfield 23, 3) := by decide +kernel
theorem dX9_bumpsAt_35 : decode cX9_bumpsAt 35 = .ok (.iload_n 1, 1) := by decide +kernel
theorem dX9_bumpsAt_36 : decode cX9_bumpsAt 36 = .ok (.iaload, 1) := by decide +kernel
theorem dX9_bumpsAt_37 : decode cX9_bumpsAt 37 = .ok (.imul, 1) := by decide +kernel
theorem dX9_bumpsAt_38 : decode cX9_bumpsAt 38 = .ok (.dup2, 1) := by decide +kernel
theorem dX9_bumpsAt_39 : decode cX9_bumpsAt 39 = .ok (.iaload, 1) := by decide +kernel
theorem dX9_bumpsAt_40 : decode cX9_bumpsAt 40 = .ok (.iconst 1, 1) := by decide +kernel
theorem dX9_bumpsAt_41 : decode cX9_bumpsAt 41 = .ok (.iadd, 1) := by decide +kernel
theorem dX9_bumpsAt_42 : decode cX9_bumpsAt 42 = .ok (.iastore, 1) := by decide +kernel
theorem dX9_bumpsAt_43 : decode cX9_bumpsAt 43 = .ok (.aload_n 0, 1) := by decide +kernel
theorem dX9_bumpsAt_44 : decode cX9_bumpsAt 44 = .ok (.getfield 51, 3) := by decide +kernel
theorem dX9_bumpsAt_47 : decode cX9_bumpsAt 47 = .ok (.iconst 5, 1) := by decide +kernel
theorem dX9_bumpsAt_48 : decode cX9_bumpsAt 48 = .ok (.aload_n 0, 1) := by decide +kernel
theorem dX9_bumpsAt_49 : decode cX9_bumpsAt 49 = .ok (.getfield 23, 3) := by decide +kernel
theorem dX9_bumpsAt_52 : decode cX9_bumpsAt 52 = .ok (.iload_n 2, 1) := by decide +kernel
theorem dX9_bumpsAt_53 : decode cX9_bumpsAt 53 = .ok (.iaload, 1) := by decide +kernel
theorem dX9_bumpsAt_54 : decode cX9_bumpsAt 54 = .ok (.imul, 1) := by decide +kernel
theorem dX9_bumpsAt_55 : decode cX9_bumpsAt 55 = .ok (.iconst 1, 1) := by decide +kernel
theorem dX9_bumpsAt_56 : decode cX9_bumpsAt 56 = .ok (.iadd, 1) := by decide +kernel
theorem dX9_bumpsAt_57 : decode cX9_bumpsAt 57 = .ok (.dup2, 1) := by decide +kernel
theorem dX9_bumpsAt_58 : decode cX9_bumpsAt 58 = .ok (.iaload, 1) := by decide +kernel
theorem dX9_bumpsAt_59 : decode cX9_bumpsAt 59 = .ok (.iconst 1, 1) := by decide +kernel
theorem dX9_bumpsAt_60 : decode cX9_bumpsAt 60 = .ok (.iadd, 1) := by decide +kernel
theorem dX9_bumpsAt_61 : decode cX9_bumpsAt 61 = .ok (.iastore, 1) := by decide +kernel
theorem dX9_bumpsAt_62 : decode cX9_bumpsAt 62 = .ok (.aload_n 0, 1) := by decide +kernel
theorem dX9_bumpsAt_63 : decode cX9_bumpsAt 63 = .ok (.getfield 51, 3) := by decide +kernel
theorem dX9_bumpsAt_66 : decode cX9_bumpsAt 66 = .ok (.iconst 5, 1) := by decide +kernel
theorem dX9_bumpsAt_67 : decode cX9_bumpsAt 67 = .ok (.aload_n 0, 1) := by decide +kernel
theorem dX9_bumpsAt_68 : decode cX9_bumpsAt 68 = .ok (.getfield 23, 3) := by decide +kernel
theorem dX9_bumpsAt_71 : decode cX9_bumpsAt 71 = .ok (.iload_n 1, 1) := by decide +kernel
theorem dX9_bumpsAt_72 : decode cX9_bumpsAt 72 = .ok (.iaload, 1) := by decide +kernel
theorem dX9_bumpsAt_73 : decode cX9_bumpsAt 73 = .ok (.imul, 1) := by decide +kernel
theorem dX9_bumpsAt_74 : decode cX9_bumpsAt 74 = .ok (.iconst 2, 1) := by decide +kernel
theorem dX9_bumpsAt_75 : decode cX9_bumpsAt 75 = .ok (.iadd, 1) := by decide +kernel
theorem dX9_bumpsAt_76 : decode cX9_bumpsAt 76 = .ok (.dup2, 1) := by decide +kernel
theorem dX9_bumpsAt_77 : decode cX9_bumpsAt 77 = .ok (.iaload, 1) := by decide +kernel
theorem dX9_bumpsAt_78 : decode cX9_bumpsAt 78 = .ok (.iload_n 2, 1) := by decide +kernel
theorem dX9_bumpsAt_79 : decode cX9_bumpsAt 79 = .ok (.iload_n 1, 1) := by decide +kernel
theorem dX9_bumpsAt_80 : decode cX9_bumpsAt 80 = .ok (.iconst 1, 1) := by decide +kernel
theorem dX9_bumpsAt_81 : decode cX9_bumpsAt 81 = .ok (.isub, 1) := by decide +kernel
theorem dX9_bumpsAt_82 : decode cX9_bumpsAt 82 = .ok (.if_icmp .ne 7, 3) := by decide +kernel
theorem dX9_bumpsAt_85 : decode cX9_bumpsAt 85 = .ok (.iconst 0, 1) := by decide +kernel
theorem dX9_bumpsAt_86 : decode cX9_bumpsAt 86 = .ok (.goto 4, 3) := by decide +kernel
theorem dX9_bumpsAt_89 : decode cX9_bumpsAt 89 = .ok (.iconst 1, 1) := by decide +kernel
theorem dX9_bumpsAt_90 : decode cX9_bumpsAt 90 = .ok (.iadd, 1) := by decide +kernel
theorem dX9_bumpsAt_91 : decode cX9_bumpsAt 91 = .ok (.iastore, 1) := by decide +kernel
theorem dX9_bumpsAt_92 : decode cX9_bumpsAt 92 = .ok (.aload_n 0, 1) := by decide +kernel
theorem dX9_bumpsAt_93 : decode cX9_bumpsAt 93 = .ok (.getfield 23, 3) := by decide +kernel
theorem dX9_bumpsAt_96 : decode cX9_bumpsAt 96 = .ok (.iload_n 2, 1) := by decide +kernel
theorem dX9_bumpsAt_97 : decode cX9_bumpsAt 97 = .ok (.iaload, 1) := by decide +kernel
theorem dX9_bumpsAt_98 : decode cX9_bumpsAt 98 = .ok (.ireturn, 1) := by decide +kernel
set_option maxRecDepth 20000 in
theorem ggX9_contact_X9_isCrew : GoodIn wsX9_contact wsX9_isCrew := goodIn_r _ [5, 6, 7, 8, 4, 9, 33, 34, 35, 36, 37, 38, 39, 40, 41, 42, 43, 44, 45, 46, 47, 48, 49, 50, 51, 52, 53, 54, 55, 56, 57, 58, 59, 60, 61, 62, 63, 64, 65, 66, 67, 68] (by decide +kernel) (by decide +kernel)
set_option maxRecDepth 20000 in
theorem gX9_contact_X9_isCrew : GoodIn wsX9_contact (wsV RX9 102 RX9 yX9_isCrew wsX9_isCrew) := goodIn_app (goodIn_of _ (by decide +kernel)) ggX9_contact_X9_isCrew
set_option maxRecDepth 20000 in
theorem ggX9_contact_X9_rowOf : GoodIn wsX9_contact wsX9_rowOf := goodIn_r _ [13, 14, 15, 16, 17, 33, 34, 35, 36, 37, 38, 39, 40, 41, 42, 43, 44, 45, 46, 47, 48, 49, 50, 51, 52, 53, 54, 55, 56, 57, 58, 59, 60, 61, 62, 63, 64, 65, 66, 67, 68] (by decide +kernel) (by decide +kernel)
set_option maxRecDepth 20000 in
theorem gX9_contact_X9_rowOf : GoodIn wsX9_contact (wsV RX9 129 RX9 yX9_rowOf wsX9_rowOf) := goodIn_app (goodIn_of _ (by decide +kernel)) ggX9_contact_X9_rowOf
set_option maxRecDepth 20000 in
theorem ggX9_contact_X9_aheadOf : GoodIn wsX9_contact wsX9_aheadOf := goodIn_r _ [21, 17, 33, 34, 35, 36, 37, 38, 39, 40, 41, 42, 43, 44, 45, 46, 47, 48, 49, 50, 51, 52, 53, 54, 55, 56, 57, 58, 59, 60, 61, 62, 63, 64, 65, 66, 67, 68] (by decide +kernel) (by decide +kernel)
set_option maxRecDepth 20000 in
theorem gX9_contact_X9_aheadOf : GoodIn wsX9_contact (wsV RX9 132 RX9 yX9_aheadOf wsX9_aheadOf) := goodIn_app (goodIn_of _ (by decide +kernel)) ggX9_contact_X9_aheadOf
set_option maxRecDepth 20000 in
theorem ggX9_contact_X9_holds : GoodIn wsX9_contact wsX9_holds := goodIn_r _ [25, 26, 33, 34, 35, 36, 37, 38, 39, 40, 41, 42, 43, 44, 45, 46, 47, 48, 49, 50, 51, 52, 53, 54, 55, 56, 57, 58, 59, 60, 61, 62, 63, 64, 65, 66, 67, 68] (by decide +kernel) (by decide +kernel)
set_option maxRecDepth 20000 in
theorem gX9_contact_X9_holds : GoodIn wsX9_contact (wsV RX9 91 RX9 yX9_holds wsX9_holds) := goodIn_app (goodIn_of _ (by decide +kernel)) ggX9_contact_X9_holds
set_option maxRecDepth 20000 in
theorem ggX9_contact_X9_bumpsAt : GoodIn wsX9_contact wsX9_bumpsAt := goodIn_r _ [30, 17, 31, 16, 32, 33, 34, 35, 36, 37, 38, 39, 40, 41, 42, 43, 44, 45, 46, 47, 48, 49, 50, 51, 52, 53, 54, 55, 56, 57, 58, 59, 60, 61, 62, 63, 64, 65, 66, 67, 68] (by decide +kernel) (by decide +kernel)
set_option maxRecDepth 20000 in
theorem gX9_contact_X9_bumpsAt : GoodIn wsX9_contact (wsV RX9 135 RX9 yX9_bumpsAt wsX9_bumpsAt) := goodIn_app (goodIn_of _ (by decide +kernel)) ggX9_contact_X9_bumpsAt
theorem dX9_contact_0 : decode cX9_contact 0 = .ok (.aload_n 0, 1) := by decide +kernel
theorem dX9_contact_1 : decode cX9_contact 1 = .ok (.iload_n 1, 1) := by decide +kernel
theorem dX9_contact_2 : decode cX9_contact 2 = .ok (.invokevirtual 102, 3) := by decide +kernel
theorem dX9_contact_5 : decode cX9_contact 5 = .ok (.istore_n 2, 1) := by decide +kernel
theorem dX9_contact_6 : decode cX9_contact 6 = .ok (.iload_n 2, 1) := by decide +kernel
theorem dX9_contact_7 : decode cX9_contact 7 = .ok (.ifCond .eq 11, 3) := by decide +kernel
theorem dX9_contact_10 : decode cX9_contact 10 = .ok (.aload_n 0, 1) := by decide +kernel
theorem dX9_contact_11 : decode cX9_contact 11 = .ok (.iload_n 1, 1) := by decide +kernel
theorem dX9_contact_12 : decode cX9_contact 12 = .ok (.invokevirtual 129, 3) := by decide +kernel
theorem dX9_contact_15 : decode cX9_contact 15 = .ok (.goto 4, 3) := by decide +kernel
theorem dX9_contact_18 : decode cX9_contact 18 = .ok (.iconst (-1), 1) := by decide +kernel
theorem dX9_contact_19 : decode cX9_contact 19 = .ok (.istore_n 3, 1) := by decide +kernel
theorem dX9_contact_20 : decode cX9_contact 20 = .ok (.iload_n 3, 1) := by decide +kernel
theorem dX9_contact_21 : decode cX9_contact 21 = .ok (.iconst (-1), 1) := by decide +kernel
theorem dX9_contact_22 : decode cX9_contact 22 = .ok (.if_icmp .eq 16, 3) := by decide +kernel
theorem dX9_contact_25 : decode cX9_contact 25 = .ok (.aload_n 0, 1) := by decide +kernel
theorem dX9_contact_26 : decode cX9_contact 26 = .ok (.iload_n 3, 1) := by decide +kernel
theorem dX9_contact_27 : decode cX9_contact 27 = .ok (.invokevirtual 132, 3) := by decide +kernel
theorem dX9_contact_30 : decode cX9_contact 30 = .ok (.iconst (-1), 1) := by decide +kernel
theorem dX9_contact_31 : decode cX9_contact 31 = .ok (.if_icmp .eq 7, 3) := by decide +kernel
theorem dX9_contact_34 : decode cX9_contact 34 = .ok (.iconst 1, 1) := by decide +kernel
theorem dX9_contact_35 : decode cX9_contact 35 = .ok (.goto 4, 3) := by decide +kernel
theorem dX9_contact_38 : decode cX9_contact 38 = .ok (.iconst 0, 1) := by decide +kernel
theorem dX9_contact_39 : decode cX9_contact 39 = .ok (.istore 4, 2) := by decide +kernel
theorem dX9_contact_41 : decode cX9_contact 41 = .ok (.aload_n 0, 1) := by decide +kernel
theorem dX9_contact_42 : decode cX9_contact 42 = .ok (.iload_n 2, 1) := by decide +kernel
theorem dX9_contact_43 : decode cX9_contact 43 = .ok (.ifCond .ne 7, 3) := by decide +kernel
theorem dX9_contact_46 : decode cX9_contact 46 = .ok (.iconst 1, 1) := by decide +kernel
theorem dX9_contact_47 : decode cX9_contact 47 = .ok (.goto 13, 3) := by decide +kernel
theorem dX9_contact_50 : decode cX9_contact 50 = .ok (.iload 4, 2) := by decide +kernel
theorem dX9_contact_52 : decode cX9_contact 52 = .ok (.ifCond .ne 7, 3) := by decide +kernel
theorem dX9_contact_55 : decode cX9_contact 55 = .ok (.iconst 2, 1) := by decide +kernel
theorem dX9_contact_56 : decode cX9_contact 56 = .ok (.goto 4, 3) := by decide +kernel
theorem dX9_contact_59 : decode cX9_contact 59 = .ok (.iconst 0, 1) := by decide +kernel
theorem dX9_contact_60 : decode cX9_contact 60 = .ok (.invokevirtual 91, 3) := by decide +kernel
theorem dX9_contact_63 : decode cX9_contact 63 = .ok (.ifCond .eq 16, 3) := by decide +kernel
theorem dX9_contact_66 : decode cX9_contact 66 = .ok (.aload_n 0, 1) := by decide +kernel
theorem dX9_contact_67 : decode cX9_contact 67 = .ok (.iload_n 3, 1) := by decide +kernel
theorem dX9_contact_68 : decode cX9_contact 68 = .ok (.aload_n 0, 1) := by decide +kernel
theorem dX9_contact_69 : decode cX9_contact 69 = .ok (.iload_n 3, 1) := by decide +kernel
theorem dX9_contact_70 : decode cX9_contact 70 = .ok (.invokevirtual 132, 3) := by decide +kernel
theorem dX9_contact_73 : decode cX9_contact 73 = .ok (.invokevirtual 135, 3) := by decide +kernel
theorem dX9_contact_76 : decode cX9_contact 76 = .ok (.goto 4, 3) := by decide +kernel
theorem dX9_contact_79 : decode cX9_contact 79 = .ok (.iconst 0, 1) := by decide +kernel
theorem dX9_contact_80 : decode cX9_contact 80 = .ok (.ireturn, 1) := by decide +kernel
theorem dX9_closes_0 : decode cX9_closes 0 = .ok (.aload_n 0, 1) := by decide +kernel
theorem dX9_closes_1 : decode cX9_closes 1 = .ok (.iconst 0, 1) := by decide +kernel
theorem dX9_closes_2 : decode cX9_closes 2 = .ok (.putfield 105, 3) := by decide +kernel
theorem dX9_closes_5 : decode cX9_closes 5 = .ok (.iconst 0, 1) := by decide +kernel
theorem dX9_closes_6 : decode cX9_closes 6 = .ok (.istore_n 1, 1) := by decide +kernel
theorem dX9_closes_7 : decode cX9_closes 7 = .ok (.iload_n 1, 1) := by decide +kernel
theorem dX9_closes_8 : decode cX9_closes 8 = .ok (.aload_n 0, 1) := by decide +kernel
theorem dX9_closes_9 : decode cX9_closes 9 = .ok (.getfield 99, 3) := by decide +kernel
theorem dX9_closes_12 : decode cX9_closes 12 = .ok (.if_icmp .ge 79, 3) := by decide +kernel
theorem dX9_closes_15 : decode cX9_closes 15 = .ok (.aload_n 0, 1) := by decide +kernel
theorem dX9_closes_16 : decode cX9_closes 16 = .ok (.getfield 16, 3) := by decide +kernel
theorem dX9_closes_19 : decode cX9_closes 19 = .ok (.iload_n 1, 1) := by decide +kernel
theorem dX9_closes_20 : decode cX9_closes 20 = .ok (.iaload, 1) := by decide +kernel
theorem dX9_closes_21 : decode cX9_closes 21 = .ok (.istore_n 2, 1) := by decide +kernel
theorem dX9_closes_22 : decode cX9_closes 22 = .ok (.aload_n 0, 1) := by decide +kernel
theorem dX9_closes_23 : decode cX9_closes 23 = .ok (.getfield 33, 3) := by decide +kernel
theorem dX9_closes_26 : decode cX9_closes 26 = .ok (.bipush 24, 2) := by decide +kernel
theorem dX9_closes_28 : decode cX9_closes 28 = .ok (.aload_n 0, 1) := by decide +kernel
theorem dX9_closes_29 : decode cX9_closes 29 = .ok (.getfield 123, 3) := by decide +kernel
theorem dX9_closes_32 : decode cX9_closes 32 = .ok (.imul, 1) := by decide +kernel
theorem dX9_closes_33 : decode cX9_closes 33 = .ok (.iload_n 1, 1) := by decide +kernel
theorem dX9_closes_34 : decode cX9_closes 34 = .ok (.iadd, 1) := by decide +kernel
theorem dX9_closes_35 : decode cX9_closes 35 = .ok (.iload_n 2, 1) := by decide +kernel
theorem dX9_closes_36 : decode cX9_closes 36 = .ok (.iastore, 1) := by decide +kernel
theorem dX9_closes_37 : decode cX9_closes 37 = .ok (.aload_n 0, 1) := by decide +kernel
theorem dX9_closes_38 : decode cX9_closes 38 = .ok (.getfield 45, 3) := by decide +kernel
theorem dX9_closes_41 : decode cX9_closes 41 = .ok (.iload_n 2, 1) := by decide +kernel
theorem dX9_closes_42 : decode cX9_closes 42 = .ok (.dup2, 1) := by decide +kernel
theorem dX9_closes_43 : decode cX9_closes 43 = .ok (.iaload, 1) := by decide +kernel
theorem dX9_closes_44 : decode cX9_closes 44 = .ok (.iload_n 1, 1) := by decide +kernel
theorem dX9_closes_45 : decode cX9_closes 45 = .ok (.aload_n 0, 1) := by decide +kernel
theorem dX9_closes_46 : decode cX9_closes 46 = .ok (.getfield 39, 3) := by decide +kernel
theorem dX9_closes_49 : decode cX9_closes 49 = .ok (.iload_n 2, 1) := by decide +kernel
theorem dX9_closes_50 : decode cX9_closes 50 = .ok (.iaload, 1) := by decide +kernel
theorem dX9_closes_51 : decode cX9_closes 51 = .ok (.if_icmp .ge 7, 3) := by decide +kernel
theorem dX9_closes_54 : decode cX9_closes 54 = .ok (.iconst 1, 1) := by decide +kernel
theorem dX9_closes_55 : decode cX9_closes 55 = .ok (.goto 4, 3) := by decide +kernel
theorem dX9_closes_58 : decode cX9_closes 58 = .ok (.iconst 0, 1) := by decide +kernel
theorem dX9_closes_59 : decode cX9_closes 59 = .ok (.iadd, 1) := by decide +kernel
theorem dX9_closes_60 : decode cX9_closes 60 = .ok (.iastore, 1) := by decide +kernel
theorem dX9_closes_61 : decode cX9_closes 61 = .ok (.aload_n 0, 1) := by decide +kernel
theorem dX9_closes_62 : decode cX9_closes 62 = .ok (.getfield 48, 3) := by decide +kernel
theorem dX9_closes_65 : decode cX9_closes 65 = .ok (.iload_n 2, 1) := by decide +kernel
theorem dX9_closes_66 : decode cX9_closes 66 = .ok (.dup2, 1) := by decide +kernel
theorem dX9_closes_67 : decode cX9_closes 67 = .ok (.iaload, 1) := by decide +kernel
theorem dX9_closes_68 : decode cX9_closes 68 = .ok (.iload_n 1, 1) := by decide +kernel
theorem dX9_closes_69 : decode cX9_closes 69 = .ok (.aload_n 0, 1) := by decide +kernel
theorem dX9_closes_70 : decode cX9_closes 70 = .ok (.getfield 39, 3) := by decide +kernel
theorem dX9_closes_73 : decode cX9_closes 73 = .ok (.iload_n 2, 1) := by decide +kernel
theorem dX9_closes_74 : decode cX9_closes 74 = .ok (.iaload, 1) := by decide +kernel
theorem dX9_closes_75 : decode cX9_closes 75 = .ok (.if_icmp .le 7, 3) := by decide +kernel
theorem dX9_closes_78 : decode cX9_closes 78 = .ok (.iconst 1, 1) := by decide +kernel
theorem dX9_closes_79 : decode cX9_closes 79 = .ok (.goto 4, 3) := by decide +kernel
theorem dX9_closes_82 : decode cX9_closes 82 = .ok (.iconst 0, 1) := by decide +kernel
theorem dX9_closes_83 : decode cX9_closes 83 = .ok (.iadd, 1) := by decide +kernel
theorem dX9_closes_84 : decode cX9_closes 84 = .ok (.iastore, 1) := by decide +kernel
theorem dX9_closes_85 : decode cX9_closes 85 = .ok (.iinc 1 1, 3) := by decide +kernel
theorem dX9_closes_88 : decode cX9_closes 88 = .ok (.goto (-81), 3) := by decide +kernel
theorem dX9_closes_91 : decode cX9_closes 91 = .ok (.aload_n 0, 1) := by decide +kernel
theorem dX9_closes_92 : decode cX9_closes 92 = .ok (.getfield 36, 3) := by decide +kernel
theorem dX9_closes_95 : decode cX9_closes 95 = .ok (.aload_n 0, 1) := by decide +kernel
theorem dX9_closes_96 : decode cX9_closes 96 = .ok (.getfield 123, 3) := by decide +kernel
theorem dX9_closes_99 : decode cX9_closes 99 = .ok (.aload_n 0, 1) := by decide +kernel
theorem dX9_closes_100 : decode cX9_closes 100 = .ok (.getfield 99, 3) := by decide +kernel
theorem dX9_closes_103 : decode cX9_closes 103 = .ok (.iastore, 1) := by decide +kernel
theorem dX9_closes_104 : decode cX9_closes 104 = .ok (.aload_n 0, 1) := by decide +kernel
theorem dX9_closes_105 : decode cX9_closes 105 = .ok (.dup, 1) := by decide +kernel
theorem dX9_closes_106 : decode cX9_closes 106 = .ok (.getfield 123, 3) := by decide +kernel
theorem dX9_closes_109 : decode cX9_closes 109 = .ok (.iconst 1, 1) := by decide +kernel
theorem dX9_closes_110 : decode cX9_closes 110 = .ok (.iadd, 1) := by decide +kernel
theorem dX9_closes_111 : decode cX9_closes 111 = .ok (.putfield 123, 3) := by decide +kernel
theorem dX9_closes_114 : decode cX9_closes 114 = .ok (.iconst 0, 1) := by decide +kernel
theorem dX9_closes_115 : decode cX9_closes 115 = .ok (.istore_n 1, 1) := by decide +kernel
theorem dX9_closes_116 : decode cX9_closes 116 = .ok (.iload_n 1, 1) := by decide +kernel
theorem dX9_closes_117 : decode cX9_closes 117 = .ok (.aload_n 0, 1) := by decide +kernel
theorem dX9_closes_118 : decode cX9_closes 118 = .ok (.getfield 84, 3) := by decide +kernel
theorem dX9_closes_121 : decode cX9_closes 121 = .ok (.if_icmp .ge 92, 3) := by decide +kernel
theorem dX9_closes_124 : decode cX9_closes 124 = .ok (.aload_n 0, 1) := by decide +kernel
theorem dX9_closes_125 : decode cX9_closes 125 = .ok (.getfield 123, 3) := by decide +kernel
theorem dX9_closes_128 : decode cX9_closes 128 = .ok (.iconst 4, 1) := by decide +kernel
theorem dX9_closes_129 : decode cX9_closes 129 = .ok (.irem, 1) := by decide +kernel
theorem dX9_closes_130 : decode cX9_closes 130 = .ok (.ifCond .ne 83, 3) := by decide +kernel
theorem dX9_closes_133 : decode cX9_closes 133 = .ok (.aload_n 0, 1) := by decide +kernel
theorem dX9_closes_134 : decode cX9_closes 134 = .ok (.getfield 51, 3) := by decide +kernel
theorem dX9_closes_137 : decode cX9_closes 137 = .ok (.iconst 5, 1) := by decide +kernel
theorem dX9_closes_138 : decode cX9_closes 138 = .ok (.iload_n 1, 1) := by decide +kernel
theorem dX9_closes_139 : decode cX9_closes 139 = .ok (.imul, 1) := by decide +kernel
theorem dX9_closes_140 : decode cX9_closes 140 = .ok (.iconst 3, 1) := by decide +kernel
theorem dX9_closes_141 : decode cX9_closes 141 = .ok (.iadd, 1) := by decide +kernel
theorem dX9_closes_142 : decode cX9_closes 142 = .ok (.dup2, 1) := by decide +kernel
theorem dX9_closes_143 : decode cX9_closes 143 = .ok (.iaload, 1) := by decide +kernel
theorem dX9_closes_144 : decode cX9_closes 144 = .ok (.aload_n 0, 1) := by decide +kernel
theorem dX9_closes_145 : decode cX9_closes 145 = .ok (.getfield 42, 3) := by decide +kernel
theorem dX9_closes_148 : decode cX9_closes 148 = .ok (.iload_n 1, 1) := by decide +kernel
theorem dX9_closes_149 : decode cX9_closes 149 = .ok (.baload, 1) := by decide +kernel
theorem dX9_closes_150 : decode cX9_closes 150 = .ok (.ifCond .eq 17, 3) := by decide +kernel
theorem dX9_closes_153 : decode cX9_closes 153 = .ok (.aload_n 0, 1) := by decide +kernel
theorem dX9_closes_154 : decode cX9_closes 154 = .ok (.getfield 45, 3) := by decide +kernel
theorem dX9_closes_157 : decode cX9_closes 157 = .ok (.iload_n 1, 1) := by decide +kernel
theorem dX9_closes_158 : decode cX9_closes 158 = .ok (.iaload, 1) := by decide +kernel
theorem dX9_closes_159 : decode cX9_closes 159 = .ok (.iconst 4, 1) := by decide +kernel
theorem dX9_closes_160 : decode cX9_closes 160 = .ok (.if_icmp .ne 7, 3) := by decide +kernel
theorem dX9_closes_163 : decode cX9_closes 163 = .ok (.iconst 1, 1) := by decide +kernel
theorem dX9_closes_164 : decode cX9_closes 164 = .ok (.goto 4, 3) := by decide +kernel
theorem dX9_closes_167 : decode cX9_closes 167 = .ok (.iconst 0, 1) := by decide +kernel
theorem dX9_closes_168 : decode cX9_closes 168 = .ok (.iadd, 1) := by decide +kernel
theorem dX9_closes_169 : decode cX9_closes 169 = .ok (.iastore, 1) := by decide +kernel
theorem dX9_closes_170 : decode cX9_closes 170 = .ok (.aload_n 0, 1) := by decide +kernel
theorem dX9_closes_171 : decode cX9_closes 171 = .ok (.getfield 51, 3) := by decide +kernel
theorem dX9_closes_174 : decode cX9_closes 174 = .ok (.iconst 5, 1) := by decide +kernel
theorem dX9_closes_175 : decode cX9_closes 175 = .ok (.iload_n 1, 1) := by decide +kernel
theorem dX9_closes_176 : decode cX9_closes 176 = .ok (.imul, 1) := by decide +kernel
theorem dX9_closes_177 : decode cX9_closes 177 = .ok (.iconst 4, 1) := by decide +kernel
theorem dX9_closes_178 : decode cX9_closes 178 = .ok (.iadd, 1) := by decide +kernel
theorem dX9_closes_179 : decode cX9_closes 179 = .ok (.dup2, 1) := by decide +kernel
theorem dX9_closes_180 : decode cX9_closes 180 = .ok (.iaload, 1) := by decide +kernel
theorem dX9_closes_181 : decode cX9_closes 181 = .ok (.aload_n 0, 1) := by decide +kernel
theorem dX9_closes_182 : decode cX9_closes 182 = .ok (.getfield 42, 3) := by decide +kernel
theorem dX9_closes_185 : decode cX9_closes 185 = .ok (.iload_n 1, 1) := by decide +kernel
theorem dX9_closes_186 : decode cX9_closes 186 = .ok (.baload, 1) := by decide +kernel
theorem dX9_closes_187 : decode cX9_closes 187 = .ok (.ifCond .eq 17, 3) := by decide +kernel
theorem dX9_closes_190 : decode cX9_closes 190 = .ok (.aload_n 0, 1) := by decide +kernel
theorem dX9_closes_191 : decode cX9_closes 191 = .ok (.getfield 48, 3) := by decide +kernel
theorem dX9_closes_194 : decode cX9_closes 194 = .ok (.iload_n 1, 1) := by decide +kernel
theorem dX9_closes_195 : decode cX9_closes 195 = .ok (.iaload, 1) := by decide +kernel
theorem dX9_closes_196 : decode cX9_closes 196 = .ok (.iconst 4, 1) := by decide +kernel
theorem dX9_closes_197 : decode cX9_closes 197 = .ok (.if_icmp .ne 7, 3) := by decide +kernel
theorem dX9_closes_200 : decode cX9_closes 200 = .ok (.iconst 1, 1) := by decide +kernel
theorem dX9_closes_201 : decode cX9_closes 201 = .ok (.goto 4, 3) := by decide +kernel
theorem dX9_closes_204 : decode cX9_closes 204 = .ok (.iconst 0, 1) := by decide +kernel
theorem dX9_closes_205 : decode cX9_closes 205 = .ok (.iadd, 1) := by decide +kernel
theorem dX9_closes_206 : decode cX9_closes 206 = .ok (.iastore, 1) := by decide +kernel
theorem dX9_closes_207 : decode cX9_closes 207 = .ok (.iinc 1 1, 3) := by decide +kernel
theorem dX9_closes_210 : decode cX9_closes 210 = .ok (.goto (-94), 3) := by decide +kernel
theorem dX9_closes_213 : decode cX9_closes 213 = .ok (.return_, 1) := by decide +kernel
set_option maxRecDepth 20000 in
theorem ggX9_end_X9_holds : GoodIn wsX9_end wsX9_holds := goodIn_r _ [11, 12, 41, 42, 43, 44, 45, 46, 47, 48, 49, 50, 51, 52, 53, 54, 55, 56, 57, 58, 59, 60, 61, 62, 63, 64, 65, 66, 67, 68, 69, 70, 71, 72, 73, 74, 75, 76] (by decide +kernel) (by decide +kernel)
set_option maxRecDepth 20000 in
theorem gX9_end_X9_holds : GoodIn wsX9_end (wsV RX9 91 RX9 yX9_holds wsX9_holds) := goodIn_app (goodIn_of _ (by decide +kernel)) ggX9_end_X9_holds
set_option maxRecDepth 20000 in
theorem ggX9_end_X9_placeOf : GoodIn wsX9_end wsX9_placeOf := goodIn_r _ [16, 17, 5, 41, 42, 43, 44, 45, 46, 47, 48, 49, 50, 51, 52, 53, 54, 55, 56, 57, 58, 59, 60, 61, 62, 63, 64, 65, 66, 67, 68, 69, 70, 71, 72, 73, 74, 75, 76] (by decide +kernel) (by decide +kernel)
set_option maxRecDepth 20000 in
theorem gX9_end_X9_placeOf : GoodIn wsX9_end (wsV RX9 109 RX9 yX9_placeOf wsX9_placeOf) := goodIn_app (goodIn_of _ (by decide +kernel)) ggX9_end_X9_placeOf
set_option maxRecDepth 20000 in
theorem ggX9_end_X9_closes : GoodIn wsX9_end wsX9_closes := goodIn_r _ [21, 1, 17, 5, 22, 23, 24, 25, 26, 27, 28, 29, 30, 41, 42, 43, 44, 45, 46, 47, 48, 49, 50, 51, 52, 53, 54, 55, 56, 57, 58, 59, 60, 61, 62, 63, 64, 65, 66, 67, 68, 69, 70, 71, 72, 73, 74, 75, 76] (by decide +kernel) (by decide +kernel)
set_option maxRecDepth 20000 in
theorem gX9_end_X9_closes : GoodIn wsX9_end (wsV RX9 138 RX9 yX9_closes wsX9_closes) := goodIn_app (goodIn_of _ (by decide +kernel)) ggX9_end_X9_closes
set_option maxRecDepth 20000 in
theorem ggX9_end_X9_rowsOut : GoodIn wsX9_end wsX9_rowsOut := goodIn_r _ [34, 6, 17, 35, 2, 4, 5, 36, 3, 37, 38, 39, 10, 40, 41, 42, 43, 44, 45, 46, 47, 48, 49, 50, 51, 52, 53, 54, 55, 56, 57, 58, 59, 60, 61, 62, 63, 64, 65, 66, 67, 68, 69, 70, 71, 72, 73, 74, 75, 76] (by decide +kernel) (by decide +kernel)
set_option maxRecDepth 20000 in
theorem gX9_end_X9_rowsOut : GoodIn wsX9_end (wsV RX9 126 RX9 yX9_rowsOut wsX9_rowsOut) := goodIn_app (goodIn_of _ (by decide +kernel)) ggX9_end_X9_rowsOut
theorem dX9_end_0 : decode cX9_end 0 = .ok (.aload_n 0, 1) := by decide +kernel
theorem dX9_end_1 : decode cX9_end 1 = .ok (.aload_n 0, 1) := by decide +kernel
theorem dX9_end_2 : decode cX9_end 2 = .ok (.getfield 105, 3) := by decide +kernel
theorem dX9_end_5 : decode cX9_end 5 = .ok (.ifCond .eq 7, 3) := by decide +kernel
theorem dX9_end_8 : decode cX9_end 8 = .ok (.iconst 0, 1) := by decide +kernel
theorem dX9_end_9 : decode cX9_end 9 = .ok (.goto 4, 3) := by decide +kernel
theorem dX9_end_12 : decode cX9_end 12 = .ok (.iconst 1, 1) := by decide +kernel
theorem dX9_end_13 : decode cX9_end 13 = .ok (.invokevirtual 91, 3) := by decide +kernel
theorem dX9_end_16 : decode cX9_end 16 = .ok (.ifCond .ne 5, 3) := by decide +kernel
theorem dX9_end_19 : decode cX9_end 19 = .ok (.iconst 0, 1) := by decide +kernel
theorem dX9_end_20 : decode cX9_end 20 = .ok (.ireturn, 1) := by decide +kernel
theorem dX9_end_21 : decode cX9_end 21 = .ok (.iconst 0, 1) := by decide +kernel
theorem dX9_end_22 : decode cX9_end 22 = .ok (.istore_n 1, 1) := by decide +kernel
theorem dX9_end_23 : decode cX9_end 23 = .ok (.iload_n 1, 1) := by decide +kernel
theorem dX9_end_24 : decode cX9_end 24 = .ok (.aload_n 0, 1) := by decide +kernel
theorem dX9_end_25 : decode cX9_end 25 = .ok (.getfield 120, 3) := by decide +kernel
theorem dX9_end_28 : decode cX9_end 28 = .ok (.if_icmp .ge 65, 3) := by decide +kernel
theorem dX9_end_31 : decode cX9_end 31 = .ok (.aload_n 0, 1) := by decide +kernel
theorem dX9_end_32 : decode cX9_end 32 = .ok (.getfield 30, 3) := by decide +kernel
theorem dX9_end_35 : decode cX9_end 35 = .ok (.iload_n 1, 1) := by decide +kernel
theorem dX9_end_36 : decode cX9_end 36 = .ok (.iaload, 1) := by decide +kernel
theorem dX9_end_37 : decode cX9_end 37 = .ok (.iconst (-1), 1) := by decide +kernel
theorem dX9_end_38 : decode cX9_end 38 = .ok (.if_icmp .eq 49, 3) := by decide +kernel
theorem dX9_end_41 : decode cX9_end 41 = .ok (.aload_n 0, 1) := by decide +kernel
theorem dX9_end_42 : decode cX9_end 42 = .ok (.aload_n 0, 1) := by decide +kernel
theorem dX9_end_43 : decode cX9_end 43 = .ok (.getfield 23, 3) := by decide +kernel
theorem dX9_end_46 : decode cX9_end 46 = .ok (.iload_n 1, 1) := by decide +kernel
theorem dX9_end_47 : decode cX9_end 47 = .ok (.iaload, 1) := by decide +kernel
theorem dX9_end_48 : decode cX9_end 48 = .ok (.invokevirtual 109, 3) := by decide +kernel
theorem dX9_end_51 : decode cX9_end 51 = .ok (.istore_n 2, 1) := by decide +kernel
theorem dX9_end_52 : decode cX9_end 52 = .ok (.aload_n 0, 1) := by decide +kernel
theorem dX9_end_53 : decode cX9_end 53 = .ok (.aload_n 0, 1) := by decide +kernel
theorem dX9_end_54 : decode cX9_end 54 = .ok (.getfield 30, 3) := by decide +kernel
theorem dX9_end_57 : decode cX9_end 57 = .ok (.iload_n 1, 1) := by decide +kernel
theorem dX9_end_58 : decode cX9_end 58 = .ok (.iaload, 1) := by decide +kernel
theorem dX9_end_59 : decode cX9_end 59 = .ok (.invokevirtual 109, 3) := by decide +kernel
theorem dX9_end_62 : decode cX9_end 62 = .ok (.istore_n 3, 1) := by decide +kernel
theorem dX9_end_63 : decode cX9_end 63 = .ok (.aload_n 0, 1) := by decide +kernel
theorem dX9_end_64 : decode cX9_end 64 = .ok (.getfield 16, 3) := by decide +kernel
theorem dX9_end_67 : decode cX9_end 67 = .ok (.iload_n 2, 1) := by decide +kernel
theorem dX9_end_68 : decode cX9_end 68 = .ok (.aload_n 0, 1) := by decide +kernel
theorem dX9_end_69 : decode cX9_end 69 = .ok (.getfield 30, 3) := by decide +kernel
theorem dX9_end_72 : decode cX9_end 72 = .ok (.iload_n 1, 1) := by decide +kernel
theorem dX9_end_73 : decode cX9_end 73 = .ok (.iaload, 1) := by decide +kernel
theorem dX9_end_74 : decode cX9_end 74 = .ok (.iastore, 1) := by decide +kernel
theorem dX9_end_75 : decode cX9_end 75 = .ok (.aload_n 0, 1) := by decide +kernel
theorem dX9_end_76 : decode cX9_end 76 = .ok (.getfield 16, 3) := by decide +kernel
theorem dX9_end_79 : decode cX9_end 79 = .ok (.iload_n 3, 1) := by decide +kernel
theorem dX9_end_80 : decode cX9_end 80 = .ok (.aload_n 0, 1) := by decide +kernel
theorem dX9_end_81 : decode cX9_end 81 = .ok (.getfield 23, 3) := by decide +kernel
theorem dX9_end_84 : decode cX9_end 84 = .ok (.iload_n 1, 1) := by decide +kernel
theorem dX9_end_85 : decode cX9_end 85 = .ok (.iaload, 1) := by decide +kernel
theorem dX9_end_86 : decode cX9_end 86 = .ok (.iastore, 1) := by decide +kernel
theorem dX9_end_87 : decode cX9_end 87 = .ok (.iinc 1 1, 3) := by decide +kernel
theorem dX9_end_90 : decode cX9_end 90 = .ok (.goto (-67), 3) := by decide +kernel
theorem dX9_end_93 : decode cX9_end 93 = .ok (.aload_n 0, 1) := by decide +kernel
theorem dX9_end_94 : decode cX9_end 94 = .ok (.getfield 117, 3) := by decide +kernel
theorem dX9_end_97 : decode cX9_end 97 = .ok (.ifCond .ne 9, 3) := by decide +kernel
theorem dX9_end_100 : decode cX9_end 100 = .ok (.aload_n 0, 1) := by decide +kernel
theorem dX9_end_101 : decode cX9_end 101 = .ok (.invokevirtual 138, 3) := by decide +kernel
theorem dX9_end_104 : decode cX9_end 104 = .ok (.iconst (-1), 1) := by decide +kernel
theorem dX9_end_105 : decode cX9_end 105 = .ok (.ireturn, 1) := by decide +kernel
theorem dX9_end_106 : decode cX9_end 106 = .ok (.aload_n 0, 1) := by decide +kernel
theorem dX9_end_107 : decode cX9_end 107 = .ok (.dup, 1) := by decide +kernel
theorem dX9_end_108 : decode cX9_end 108 = .ok (.getfield 117, 3) := by decide +kernel
theorem dX9_end_111 : decode cX9_end 111 = .ok (.iconst 1, 1) := by decide +kernel
theorem dX9_end_112 : decode cX9_end 112 = .ok (.isub, 1) := by decide +kernel
theorem dX9_end_113 : decode cX9_end 113 = .ok (.putfield 117, 3) := by decide +kernel
theorem dX9_end_116 : decode cX9_end 116 = .ok (.aload_n 0, 1) := by decide +kernel
theorem dX9_end_117 : decode cX9_end 117 = .ok (.invokevirtual 126, 3) := by decide +kernel
theorem dX9_end_120 : decode cX9_end 120 = .ok (.aload_n 0, 1) := by decide +kernel
theorem dX9_end_121 : decode cX9_end 121 = .ok (.getfield 117, 3) := by decide +kernel
theorem dX9_end_124 : decode cX9_end 124 = .ok (.ireturn, 1) := by decide +kernel
set_option maxRecDepth 20000 in
theorem ggX9_penal_X9_isCrew : GoodIn wsX9_penal wsX9_isCrew := goodIn_r _ [8, 9, 10, 11, 7, 12, 22, 23, 24, 25, 26, 27, 28, 29, 30, 31, 32, 33, 34, 35, 36, 37, 38, 39, 40, 41, 42, 43, 44, 45, 46, 47, 48, 49, 50, 51, 52, 53, 54, 55, 56, 57] (by decide +kernel) (by decide +kernel)
set_option maxRecDepth 20000 in
theorem gX9_penal_X9_isCrew : GoodIn wsX9_penal (wsV RX9 102 RX9 yX9_isCrew wsX9_isCrew) := goodIn_app (goodIn_of _ (by decide +kernel)) ggX9_penal_X9_isCrew
set_option maxRecDepth 20000 in
theorem ggX9_penal_X9_isIn : GoodIn wsX9_penal wsX9_isIn := goodIn_r _ [12] (by decide +kernel) (by decide +kernel)
set_option maxRecDepth 20000 in
theorem gX9_penal_X9_isIn : GoodIn wsX9_penal (va_wsS RX9 87 yX9_isIn wsX9_isIn) := goodIn_app (goodIn_of _ (by decide +kernel)) ggX9_penal_X9_isIn
set_option maxRecDepth 20000 in
theorem ggX9_penal_X9_placeOf : GoodIn wsX9_penal wsX9_placeOf := goodIn_r _ [16, 2, 3, 22, 23, 24, 25, 26, 27, 28, 29, 30, 31, 32, 33, 34, 35, 36, 37, 38, 39, 40, 41, 42, 43, 44, 45, 46, 47, 48, 49, 50, 51, 52, 53, 54, 55, 56, 57] (by decide +kernel) (by decide +kernel)
set_option maxRecDepth 20000 in
theorem gX9_penal_X9_placeOf : GoodIn wsX9_penal (wsV RX9 109 RX9 yX9_placeOf wsX9_placeOf) := goodIn_app (goodIn_of _ (by decide +kernel)) ggX9_penal_X9_placeOf
set_option maxRecDepth 20000 in
theorem ggX9_penal_X9_holds : GoodIn wsX9_penal wsX9_holds := goodIn_r _ [20, 21, 22, 23, 24, 25, 26, 27, 28, 29, 30, 31, 32, 33, 34, 35, 36, 37, 38, 39, 40, 41, 42, 43, 44, 45, 46, 47, 48, 49, 50, 51, 52, 53, 54, 55, 56, 57] (by decide +kernel) (by decide +kernel)
set_option maxRecDepth 20000 in
theorem gX9_penal_X9_holds : GoodIn wsX9_penal (wsV RX9 91 RX9 yX9_holds wsX9_holds) := goodIn_app (goodIn_of _ (by decide +kernel)) ggX9_penal_X9_holds
theorem dX9_penal_0 : decode cX9_penal 0 = .ok (.aload_n 0, 1) := by decide +kernel
theorem dX9_penal_1 : decode cX9_penal 1 = .ok (.iload_n 1, 1) := by decide +kernel
theorem dX9_penal_2 : decode cX9_penal 2 = .ok (.invokevirtual 102, 3) := by decide +kernel
theorem dX9_penal_5 : decode cX9_penal 5 = .ok (.istore_n 3, 1) := by decide +kernel
theorem dX9_penal_6 : decode cX9_penal 6 = .ok (.aload_n 0, 1) := by decide +kernel
theorem dX9_penal_7 : decode cX9_penal 7 = .ok (.iload_n 3, 1) := by decide +kernel
theorem dX9_penal_8 : decode cX9_penal 8 = .ok (.ifCond .ne 7, 3) := by decide +kernel
theorem dX9_penal_11 : decode cX9_penal 11 = .ok (.iconst 1, 1) := by decide +kernel
theorem dX9_penal_12 : decode cX9_penal 12 = .ok (.goto 37, 3) := by decide +kernel
theorem dX9_penal_15 : decode cX9_penal 15 = .ok (.iload_n 2, 1) := by decide +kernel
theorem dX9_penal_16 : decode cX9_penal 16 = .ok (.iconst 1, 1) := by decide +kernel
theorem dX9_penal_17 : decode cX9_penal 17 = .ok (.iconst 5, 1) := by decide +kernel
theorem dX9_penal_18 : decode cX9_penal 18 = .ok (.invokestatic 87, 3) := by decide +kernel
theorem dX9_penal_21 : decode cX9_penal 21 = .ok (.ifCond .ne 7, 3) := by decide +kernel
theorem dX9_penal_24 : decode cX9_penal 24 = .ok (.iconst 2, 1) := by decide +kernel
theorem dX9_penal_25 : decode cX9_penal 25 = .ok (.goto 24, 3) := by decide +kernel
theorem dX9_penal_28 : decode cX9_penal 28 = .ok (.aload_n 0, 1) := by decide +kernel
theorem dX9_penal_29 : decode cX9_penal 29 = .ok (.getfield 105, 3) := by decide +kernel
theorem dX9_penal_32 : decode cX9_penal 32 = .ok (.ifCond .ne 12, 3) := by decide +kernel
theorem dX9_penal_35 : decode cX9_penal 35 = .ok (.aload_n 0, 1) := by decide +kernel
theorem dX9_penal_36 : decode cX9_penal 36 = .ok (.iload_n 1, 1) := by decide +kernel
theorem dX9_penal_37 : decode cX9_penal 37 = .ok (.invokevirtual 109, 3) := by decide +kernel
theorem dX9_penal_40 : decode cX9_penal 40 = .ok (.iconst (-1), 1) := by decide +kernel
theorem dX9_penal_41 : decode cX9_penal 41 = .ok (.if_icmp .ne 7, 3) := by decide +kernel
theorem dX9_penal_44 : decode cX9_penal 44 = .ok (.iconst 3, 1) := by decide +kernel
theorem dX9_penal_45 : decode cX9_penal 45 = .ok (.goto 4, 3) := by decide +kernel
theorem dX9_penal_48 : decode cX9_penal 48 = .ok (.iconst 0, 1) := by decide +kernel
theorem dX9_penal_49 : decode cX9_penal 49 = .ok (.invokevirtual 91, 3) := by decide +kernel
theorem dX9_penal_52 : decode cX9_penal 52 = .ok (.ifCond .ne 5, 3) := by decide +kernel
theorem dX9_penal_55 : decode cX9_penal 55 = .ok (.iconst 0, 1) := by decide +kernel
theorem dX9_penal_56 : decode cX9_penal 56 = .ok (.ireturn, 1) := by decide +kernel
theorem dX9_penal_57 : decode cX9_penal 57 = .ok (.aload_n 0, 1) := by decide +kernel
theorem dX9_penal_58 : decode cX9_penal 58 = .ok (.iload_n 1, 1) := by decide +kernel
theorem dX9_penal_59 : decode cX9_penal 59 = .ok (.invokevirtual 109, 3) := by decide +kernel
theorem dX9_penal_62 : decode cX9_penal 62 = .ok (.istore 4, 2) := by decide +kernel
theorem dX9_penal_64 : decode cX9_penal 64 = .ok (.iload 4, 2) := by decide +kernel
theorem dX9_penal_66 : decode cX9_penal 66 = .ok (.iload_n 2, 1) := by decide +kernel
theorem dX9_penal_67 : decode cX9_penal 67 = .ok (.iadd, 1) := by decide +kernel
theorem dX9_penal_68 : decode cX9_penal 68 = .ok (.aload_n 0, 1) := by decide +kernel
theorem dX9_penal_69 : decode cX9_penal 69 = .ok (.getfield 99, 3) := by decide +kernel
theorem dX9_penal_72 : decode cX9_penal 72 = .ok (.if_icmp .ge 10, 3) := by decide +kernel
theorem dX9_penal_75 : decode cX9_penal 75 = .ok (.iload 4, 2) := by decide +kernel
theorem dX9_penal_77 : decode cX9_penal 77 = .ok (.iload_n 2, 1) := by decide +kernel
theorem dX9_penal_78 : decode cX9_penal 78 = .ok (.iadd, 1) := by decide +kernel
theorem dX9_penal_79 : decode cX9_penal 79 = .ok (.goto 9, 3) := by decide +kernel
theorem dX9_penal_82 : decode cX9_penal 82 = .ok (.aload_n 0, 1) := by decide +kernel
theorem dX9_penal_83 : decode cX9_penal 83 = .ok (.getfield 99, 3) := by decide +kernel
theorem dX9_penal_86 : decode cX9_penal 86 = .ok (.iconst 1, 1) := by decide +kernel
theorem dX9_penal_87 : decode cX9_penal 87 = .ok (.isub, 1) := by decide +kernel
theorem dX9_penal_88 : decode cX9_penal 88 = .ok (.istore 5, 2) := by decide +kernel
theorem dX9_penal_90 : decode cX9_penal 90 = .ok (.iload 4, 2) := by decide +kernel
theorem dX9_penal_92 : decode cX9_penal 92 = .ok (.iload 5, 2) := by decide +kernel
theorem dX9_penal_94 : decode cX9_penal 94 = .ok (.if_icmp .ge 25, 3) := by decide +kernel
theorem dX9_penal_97 : decode cX9_penal 97 = .ok (.aload_n 0, 1) := by decide +kernel
theorem dX9_penal_98 : decode cX9_penal 98 = .ok (.getfield 16, 3) := by decide +kernel
theorem dX9_penal_101 : decode cX9_penal 101 = .ok (.iload 4, 2) := by decide +kernel
theorem dX9_penal_103 : decode cX9_penal 103 = .ok (.aload_n 0, 1) := by decide +kernel
theorem dX9_penal_104 : decode cX9_penal 104 = .ok (.getfield 16, 3) := by decide +kernel
theorem dX9_penal_107 : decode cX9_penal 107 = .ok (.iload 4, 2) := by decide +kernel
theorem dX9_penal_109 : decode cX9_penal 109 = .ok (.iconst 1, 1) := by decide +kernel
theorem dX9_penal_110 : decode cX9_penal 110 = .ok (.iadd, 1) := by decide +kernel
theorem dX9_penal_111 : decode cX9_penal 111 = .ok (.iaload, 1) := by decide +kernel
theorem dX9_penal_112 : decode cX9_penal 112 = .ok (.iastore, 1) := by decide +kernel
theorem dX9_penal_113 : decode cX9_penal 113 = .ok (.iinc 4 1, 3) := by decide +kernel
theorem dX9_penal_116 : decode cX9_penal 116 = .ok (.goto (-26), 3) := by decide +kernel
theorem dX9_penal_119 : decode cX9_penal 119 = .ok (.aload_n 0, 1) := by decide +kernel
theorem dX9_penal_120 : decode cX9_penal 120 = .ok (.getfield 16, 3) := by decide +kernel
theorem dX9_penal_123 : decode cX9_penal 123 = .ok (.iload 5, 2) := by decide +kernel
theorem dX9_penal_125 : decode cX9_penal 125 = .ok (.iload_n 1, 1) := by decide +kernel
theorem dX9_penal_126 : decode cX9_penal 126 = .ok (.iastore, 1) := by decide +kernel
theorem dX9_penal_127 : decode cX9_penal 127 = .ok (.iload 5, 2) := by decide +kernel
theorem dX9_penal_129 : decode cX9_penal 129 = .ok (.ireturn, 1) := by decide +kernel
set_option maxRecDepth 20000 in
theorem ggX9_place_X9_isCrew : GoodIn wsX9_place wsX9_isCrew := goodIn_r _ [5, 6, 7, 8, 4, 9, 21, 22, 23, 24, 25, 26, 27, 28, 29, 30, 31, 32, 33, 34, 35, 36, 37, 38, 39, 40, 41, 42, 43, 44, 45, 46, 47, 48, 49, 50, 51, 52, 53, 54, 55, 56] (by decide +kernel) (by decide +kernel)
set_option maxRecDepth 20000 in
theorem gX9_place_X9_isCrew : GoodIn wsX9_place (wsV RX9 102 RX9 yX9_isCrew wsX9_isCrew) := goodIn_app (goodIn_of _ (by decide +kernel)) ggX9_place_X9_isCrew
set_option maxRecDepth 20000 in
theorem ggX9_place_X9_holds : GoodIn wsX9_place wsX9_holds := goodIn_r _ [13, 14, 21, 22, 23, 24, 25, 26, 27, 28, 29, 30, 31, 32, 33, 34, 35, 36, 37, 38, 39, 40, 41, 42, 43, 44, 45, 46, 47, 48, 49, 50, 51, 52, 53, 54, 55, 56] (by decide +kernel) (by decide +kernel)
set_option maxRecDepth 20000 in
theorem gX9_place_X9_holds : GoodIn wsX9_place (wsV RX9 91 RX9 yX9_holds wsX9_holds) := goodIn_app (goodIn_of _ (by decide +kernel)) ggX9_place_X9_holds
set_option maxRecDepth 20000 in
theorem ggX9_place_X9_placeOf : GoodIn wsX9_place wsX9_placeOf := goodIn_r _ [18, 19, 20, 21, 22, 23, 24, 25, 26, 27, 28, 29, 30, 31, 32, 33, 34, 35, 36, 37, 38, 39, 40, 41, 42, 43, 44, 45, 46, 47, 48, 49, 50, 51, 52, 53, 54, 55, 56] (by decide +kernel) (by decide +kernel)
set_option maxRecDepth 20000 in
theorem gX9_place_X9_placeOf : GoodIn wsX9_place (wsV RX9 109 RX9 yX9_placeOf wsX9_placeOf) := goodIn_app (goodIn_of _ (by decide +kernel)) ggX9_place_X9_placeOf
theorem dX9_place_0 : decode cX9_place 0 = .ok (.aload_n 0, 1) := by decide +kernel
theorem dX9_place_1 : decode cX9_place 1 = .ok (.aload_n 0, 1) := by decide +kernel
theorem dX9_place_2 : decode cX9_place 2 = .ok (.iload_n 1, 1) := by decide +kernel
theorem dX9_place_3 : decode cX9_place 3 = .ok (.invokevirtual 102, 3) := by decide +kernel
theorem dX9_place_6 : decode cX9_place 6 = .ok (.ifCond .eq 7, 3) := by decide +kernel
theorem dX9_place_9 : decode cX9_place 9 = .ok (.iconst 0, 1) := by decide +kernel
theorem dX9_place_10 : decode cX9_place 10 = .ok (.goto 4, 3) := by decide +kernel
theorem dX9_place_13 : decode cX9_place 13 = .ok (.iconst 1, 1) := by decide +kernel
theorem dX9_place_14 : decode cX9_place 14 = .ok (.invokevirtual 91, 3) := by decide +kernel
theorem dX9_place_17 : decode cX9_place 17 = .ok (.ifCond .eq 11, 3) := by decide +kernel
theorem dX9_place_20 : decode cX9_place 20 = .ok (.aload_n 0, 1) := by decide +kernel
theorem dX9_place_21 : decode cX9_place 21 = .ok (.iload_n 1, 1) := by decide +kernel
theorem dX9_place_22 : decode cX9_place 22 = .ok (.invokevirtual 109, 3) := by decide +kernel
theorem dX9_place_25 : decode cX9_place 25 = .ok (.goto 4, 3) := by decide +kernel
theorem dX9_place_28 : decode cX9_place 28 = .ok (.iconst 0, 1) := by decide +kernel
theorem dX9_place_29 : decode cX9_place 29 = .ok (.ireturn, 1) := by decide +kernel
set_option maxRecDepth 20000 in
theorem ggX9_placeAnew_X9_isCrew : GoodIn wsX9_placeAnew wsX9_isCrew := goodIn_r _ [5, 6, 7, 8, 4, 9, 21, 22, 23, 24, 25, 26, 27, 28, 29, 30, 31, 32, 33, 34, 35, 36, 37, 38, 39, 40, 41, 42, 43, 44, 45, 46, 47, 48, 49, 50, 51, 52, 53, 54, 55, 56] (by decide +kernel) (by decide +kernel)
set_option maxRecDepth 20000 in
theorem gX9_placeAnew_X9_isCrew : GoodIn wsX9_placeAnew (wsV RX9 102 RX9 yX9_isCrew wsX9_isCrew) := goodIn_app (goodIn_of _ (by decide +kernel)) ggX9_placeAnew_X9_isCrew
set_option maxRecDepth 20000 in
theorem ggX9_placeAnew_X9_holds : GoodIn wsX9_placeAnew wsX9_holds := goodIn_r _ [13, 14, 21, 22, 23, 24, 25, 26, 27, 28, 29, 30, 31, 32, 33, 34, 35, 36, 37, 38, 39, 40, 41, 42, 43, 44, 45, 46, 47, 48, 49, 50, 51, 52, 53, 54, 55, 56] (by decide +kernel) (by decide +kernel)
set_option maxRecDepth 20000 in
theorem gX9_placeAnew_X9_holds : GoodIn wsX9_placeAnew (wsV RX9 91 RX9 yX9_holds wsX9_holds) := goodIn_app (goodIn_of _ (by decide +kernel)) ggX9_placeAnew_X9_holds
set_option maxRecDepth 20000 in
theorem ggX9_placeAnew_X9_placeOf : GoodIn wsX9_placeAnew wsX9_placeOf := goodIn_r _ [18, 19, 20, 21, 22, 23, 24, 25, 26, 27, 28, 29, 30, 31, 32, 33, 34, 35, 36, 37, 38, 39, 40, 41, 42, 43, 44, 45, 46, 47, 48, 49, 50, 51, 52, 53, 54, 55, 56] (by decide +kernel) (by decide +kernel)
set_option maxRecDepth 20000 in
theorem gX9_placeAnew_X9_placeOf : GoodIn wsX9_placeAnew (wsV RX9 109 RX9 yX9_placeOf wsX9_placeOf) := goodIn_app (goodIn_of _ (by decide +kernel)) ggX9_placeAnew_X9_placeOf
theorem dX9_placeAnew_0 : decode cX9_placeAnew 0 = .ok (.aload_n 0, 1) := by decide +kernel
theorem dX9_placeAnew_1 : decode cX9_placeAnew 1 = .ok (.aload_n 0, 1) := by decide +kernel
theorem dX9_placeAnew_2 : decode cX9_placeAnew 2 = .ok (.iload_n 1, 1) := by decide +kernel
theorem dX9_placeAnew_3 : decode cX9_placeAnew 3 = .ok (.invokevirtual 102, 3) := by decide +kernel
theorem dX9_placeAnew_6 : decode cX9_placeAnew 6 = .ok (.ifCond .eq 7, 3) := by decide +kernel
theorem dX9_placeAnew_9 : decode cX9_placeAnew 9 = .ok (.iconst 0, 1) := by decide +kernel
theorem dX9_placeAnew_10 : decode cX9_placeAnew 10 = .ok (.goto 4, 3) := by decide +kernel
theorem dX9_placeAnew_13 : decode cX9_placeAnew 13 = .ok (.iconst 1, 1) := by decide +kernel
theorem dX9_placeAnew_14 : decode cX9_placeAnew 14 = .ok (.invokevirtual 91, 3) := by decide +kernel
theorem dX9_placeAnew_17 : decode cX9_placeAnew 17 = .ok (.ifCond .eq 11, 3) := by decide +kernel
theorem dX9_placeAnew_20 : decode cX9_placeAnew 20 = .ok (.aload_n 0, 1) := by decide +kernel
theorem dX9_placeAnew_21 : decode cX9_placeAnew 21 = .ok (.iload_n 1, 1) := by decide +kernel
theorem dX9_placeAnew_22 : decode cX9_placeAnew 22 = .ok (.invokevirtual 109, 3) := by decide +kernel
theorem dX9_placeAnew_25 : decode cX9_placeAnew 25 = .ok (.goto 4, 3) := by decide +kernel
theorem dX9_placeAnew_28 : decode cX9_placeAnew 28 = .ok (.iconst 0, 1) := by decide +kernel
theorem dX9_placeAnew_29 : decode cX9_placeAnew 29 = .ok (.ireturn, 1) := by decide +kernel
set_option maxRecDepth 20000 in
theorem ggX9_rows_X9_holds : GoodIn wsX9_rows wsX9_holds := goodIn_r _ [8, 9, 10, 11, 12, 13, 14, 15, 16, 17, 18, 19, 20, 21, 22, 23, 24, 25, 26, 27, 28, 29, 30, 31, 32, 33, 34, 35, 36, 37, 38, 39, 40, 41, 42, 43, 44, 45] (by decide +kernel) (by decide +kernel)
set_option maxRecDepth 20000 in
theorem gX9_rows_X9_holds : GoodIn wsX9_rows (wsV RX9 91 RX9 yX9_holds wsX9_holds) := goodIn_app (goodIn_of _ (by decide +kernel)) ggX9_rows_X9_holds
theorem dX9_rows_0 : decode cX9_rows 0 = .ok (.aload_n 0, 1) := by decide +kernel
theorem dX9_rows_1 : decode cX9_rows 1 = .ok (.iload_n 1, 1) := by decide +kernel
theorem dX9_rows_2 : decode cX9_rows 2 = .ok (.ifCond .lt 7, 3) := by decide +kernel
theorem dX9_rows_5 : decode cX9_rows 5 = .ok (.iconst 0, 1) := by decide +kernel
theorem dX9_rows_6 : decode cX9_rows 6 = .ok (.goto 4, 3) := by decide +kernel
theorem dX9_rows_9 : decode cX9_rows 9 = .ok (.iconst 1, 1) := by decide +kernel
theorem dX9_rows_10 : decode cX9_rows 10 = .ok (.invokevirtual 91, 3) := by decide +kernel
theorem dX9_rows_13 : decode cX9_rows 13 = .ok (.ifCond .ne 5, 3) := by decide +kernel
theorem dX9_rows_16 : decode cX9_rows 16 = .ok (.iconst 0, 1) := by decide +kernel
theorem dX9_rows_17 : decode cX9_rows 17 = .ok (.ireturn, 1) := by decide +kernel
theorem dX9_rows_18 : decode cX9_rows 18 = .ok (.aload_n 0, 1) := by decide +kernel
theorem dX9_rows_19 : decode cX9_rows 19 = .ok (.getfield 105, 3) := by decide +kernel
theorem dX9_rows_22 : decode cX9_rows 22 = .ok (.ifCond .eq 20, 3) := by decide +kernel
theorem dX9_rows_25 : decode cX9_rows 25 = .ok (.iload_n 1, 1) := by decide +kernel
theorem dX9_rows_26 : decode cX9_rows 26 = .ok (.aload_n 0, 1) := by decide +kernel
theorem dX9_rows_27 : decode cX9_rows 27 = .ok (.getfield 120, 3) := by decide +kernel
theorem dX9_rows_30 : decode cX9_rows 30 = .ok (.if_icmp .ge 12, 3) := by decide +kernel
theorem dX9_rows_33 : decode cX9_rows 33 = .ok (.aload_n 0, 1) := by decide +kernel
theorem dX9_rows_34 : decode cX9_rows 34 = .ok (.getfield 23, 3) := by decide +kernel
theorem dX9_rows_37 : decode cX9_rows 37 = .ok (.iload_n 1, 1) := by decide +kernel
theorem dX9_rows_38 : decode cX9_rows 38 = .ok (.iaload, 1) := by decide +kernel
theorem dX9_rows_39 : decode cX9_rows 39 = .ok (.goto 4, 3) := by decide +kernel
theorem dX9_rows_42 : decode cX9_rows 42 = .ok (.iconst (-1), 1) := by decide +kernel
theorem dX9_rows_43 : decode cX9_rows 43 = .ok (.ireturn, 1) := by decide +kernel
set_option maxRecDepth 20000 in
theorem ggX9_chart_X9_isIn : GoodIn wsX9_chart wsX9_isIn := goodIn_r _ [7] (by decide +kernel) (by decide +kernel)
set_option maxRecDepth 20000 in
theorem gX9_chart_X9_isIn : GoodIn wsX9_chart (va_wsS RX9 87 yX9_isIn wsX9_isIn) := goodIn_app (goodIn_of _ (by decide +kernel)) ggX9_chart_X9_isIn
set_option maxRecDepth 20000 in
theorem ggX9_chart_X9_holds : GoodIn wsX9_chart wsX9_holds := goodIn_r _ [11, 12, 13, 14, 15, 16, 17, 18, 19, 20, 21, 22, 23, 24, 25, 26, 27, 28, 29, 30, 31, 32, 33, 34, 35, 36, 37, 38, 39, 40, 41, 42, 43, 44, 45, 46, 47, 48] (by decide +kernel) (by decide +kernel)
set_option maxRecDepth 20000 in
theorem gX9_chart_X9_holds : GoodIn wsX9_chart (wsV RX9 91 RX9 yX9_holds wsX9_holds) := goodIn_app (goodIn_of _ (by decide +kernel)) ggX9_chart_X9_holds
theorem dX9_chart_0 : decode cX9_chart 0 = .ok (.aload_n 0, 1) := by decide +kernel
theorem dX9_chart_1 : decode cX9_chart 1 = .ok (.iload_n 1, 1) := by decide +kernel
theorem dX9_chart_2 : decode cX9_chart 2 = .ok (.iconst 0, 1) := by decide +kernel
theorem dX9_chart_3 : decode cX9_chart 3 = .ok (.aload_n 0, 1) := by decide +kernel
theorem dX9_chart_4 : decode cX9_chart 4 = .ok (.getfield 123, 3) := by decide +kernel
theorem dX9_chart_7 : decode cX9_chart 7 = .ok (.iconst 1, 1) := by decide +kernel
theorem dX9_chart_8 : decode cX9_chart 8 = .ok (.isub, 1) := by decide +kernel
theorem dX9_chart_9 : decode cX9_chart 9 = .ok (.invokestatic 87, 3) := by decide +kernel
theorem dX9_chart_12 : decode cX9_chart 12 = .ok (.ifCond .eq 11, 3) := by decide +kernel
theorem dX9_chart_15 : decode cX9_chart 15 = .ok (.iload_n 2, 1) := by decide +kernel
theorem dX9_chart_16 : decode cX9_chart 16 = .ok (.ifCond .lt 7, 3) := by decide +kernel
theorem dX9_chart_19 : decode cX9_chart 19 = .ok (.iconst 0, 1) := by decide +kernel
theorem dX9_chart_20 : decode cX9_chart 20 = .ok (.goto 4, 3) := by decide +kernel
theorem dX9_chart_23 : decode cX9_chart 23 = .ok (.iconst 1, 1) := by decide +kernel
theorem dX9_chart_24 : decode cX9_chart 24 = .ok (.invokevirtual 91, 3) := by decide +kernel
theorem dX9_chart_27 : decode cX9_chart 27 = .ok (.ifCond .ne 5, 3) := by decide +kernel
theorem dX9_chart_30 : decode cX9_chart 30 = .ok (.iconst 0, 1) := by decide +kernel
theorem dX9_chart_31 : decode cX9_chart 31 = .ok (.ireturn, 1) := by decide +kernel
theorem dX9_chart_32 : decode cX9_chart 32 = .ok (.iload_n 2, 1) := by decide +kernel
theorem dX9_chart_33 : decode cX9_chart 33 = .ok (.aload_n 0, 1) := by decide +kernel
theorem dX9_chart_34 : decode cX9_chart 34 = .ok (.getfield 36, 3) := by decide +kernel
theorem dX9_chart_37 : decode cX9_chart 37 = .ok (.iload_n 1, 1) := by decide +kernel
theorem dX9_chart_38 : decode cX9_chart 38 = .ok (.iaload, 1) := by decide +kernel
theorem dX9_chart_39 : decode cX9_chart 39 = .ok (.if_icmp .ge 17, 3) := by decide +kernel
theorem dX9_chart_42 : decode cX9_chart 42 = .ok (.aload_n 0, 1) := by decide +kernel
theorem dX9_chart_43 : decode cX9_chart 43 = .ok (.getfield 33, 3) := by decide +kernel
theorem dX9_chart_46 : decode cX9_chart 46 = .ok (.bipush 24, 2) := by decide +kernel
theorem dX9_chart_48 : decode cX9_chart 48 = .ok (.iload_n 1, 1) := by decide +kernel
theorem dX9_chart_49 : decode cX9_chart 49 = .ok (.imul, 1) := by decide +kernel
theorem dX9_chart_50 : decode cX9_chart 50 = .ok (.iload_n 2, 1) := by decide +kernel
theorem dX9_chart_51 : decode cX9_chart 51 = .ok (.iadd, 1) := by decide +kernel
theorem dX9_chart_52 : decode cX9_chart 52 = .ok (.iaload, 1) := by decide +kernel
theorem dX9_chart_53 : decode cX9_chart 53 = .ok (.goto 4, 3) := by decide +kernel
theorem dX9_chart_56 : decode cX9_chart 56 = .ok (.iconst (-1), 1) := by decide +kernel
theorem dX9_chart_57 : decode cX9_chart 57 = .ok (.ireturn, 1) := by decide +kernel
set_option maxRecDepth 20000 in
theorem ggX9_bumps_X9_isCrew : GoodIn wsX9_bumps wsX9_isCrew := goodIn_r _ [6, 7, 8, 9, 5, 10, 16, 17, 18, 19, 20, 21, 22, 23, 24, 25, 26, 27, 28, 29, 30, 31, 32, 33, 34, 35, 36, 37, 38, 39, 40, 41, 42, 43, 44, 45, 46, 47, 48, 49, 50, 51] (by decide +kernel) (by decide +kernel)
set_option maxRecDepth 20000 in
theorem gX9_bumps_X9_isCrew : GoodIn wsX9_bumps (wsV RX9 102 RX9 yX9_isCrew wsX9_isCrew) := goodIn_app (goodIn_of _ (by decide +kernel)) ggX9_bumps_X9_isCrew
set_option maxRecDepth 20000 in
theorem ggX9_bumps_X9_isIn : GoodIn wsX9_bumps wsX9_isIn := goodIn_r _ [10] (by decide +kernel) (by decide +kernel)
set_option maxRecDepth 20000 in
theorem gX9_bumps_X9_isIn : GoodIn wsX9_bumps (va_wsS RX9 87 yX9_isIn wsX9_isIn) := goodIn_app (goodIn_of _ (by decide +kernel)) ggX9_bumps_X9_isIn
set_option maxRecDepth 20000 in
theorem ggX9_bumps_X9_holds : GoodIn wsX9_bumps wsX9_holds := goodIn_r _ [14, 15, 16, 17, 18, 19, 20, 21, 22, 23, 24, 25, 26, 27, 28, 29, 30, 31, 32, 33, 34, 35, 36, 37, 38, 39, 40, 41, 42, 43, 44, 45, 46, 47, 48, 49, 50, 51] (by decide +kernel) (by decide +kernel)
set_option maxRecDepth 20000 in
theorem gX9_bumps_X9_holds : GoodIn wsX9_bumps (wsV RX9 91 RX9 yX9_holds wsX9_holds) := goodIn_app (goodIn_of _ (by decide +kernel)) ggX9_bumps_X9_holds
theorem dX9_bumps_0 : decode cX9_bumps 0 = .ok (.aload_n 0, 1) := by decide +kernel
theorem dX9_bumps_1 : decode cX9_bumps 1 = .ok (.iload_n 1, 1) := by decide +kernel
theorem dX9_bumps_2 : decode cX9_bumps 2 = .ok (.invokevirtual 102, 3) := by decide +kernel
theorem dX9_bumps_5 : decode cX9_bumps 5 = .ok (.istore_n 3, 1) := by decide +kernel
theorem dX9_bumps_6 : decode cX9_bumps 6 = .ok (.aload_n 0, 1) := by decide +kernel
theorem dX9_bumps_7 : decode cX9_bumps 7 = .ok (.iload_n 3, 1) := by decide +kernel
theorem dX9_bumps_8 : decode cX9_bumps 8 = .ok (.ifCond .ne 7, 3) := by decide +kernel
theorem dX9_bumps_11 : decode cX9_bumps 11 = .ok (.iconst 1, 1) := by decide +kernel
theorem dX9_bumps_12 : decode cX9_bumps 12 = .ok (.goto 17, 3) := by decide +kernel
theorem dX9_bumps_15 : decode cX9_bumps 15 = .ok (.iload_n 2, 1) := by decide +kernel
theorem dX9_bumps_16 : decode cX9_bumps 16 = .ok (.iconst 0, 1) := by decide +kernel
theorem dX9_bumps_17 : decode cX9_bumps 17 = .ok (.iconst 4, 1) := by decide +kernel
theorem dX9_bumps_18 : decode cX9_bumps 18 = .ok (.invokestatic 87, 3) := by decide +kernel
theorem dX9_bumps_21 : decode cX9_bumps 21 = .ok (.ifCond .ne 7, 3) := by decide +kernel
theorem dX9_bumps_24 : decode cX9_bumps 24 = .ok (.iconst 2, 1) := by decide +kernel
theorem dX9_bumps_25 : decode cX9_bumps 25 = .ok (.goto 4, 3) := by decide +kernel
theorem dX9_bumps_28 : decode cX9_bumps 28 = .ok (.iconst 0, 1) := by decide +kernel
theorem dX9_bumps_29 : decode cX9_bumps 29 = .ok (.invokevirtual 91, 3) := by decide +kernel
theorem dX9_bumps_32 : decode cX9_bumps 32 = .ok (.ifCond .eq 16, 3) := by decide +kernel
theorem dX9_bumps_35 : decode cX9_bumps 35 = .ok (.aload_n 0, 1) := by decide +kernel
theorem dX9_bumps_36 : decode cX9_bumps 36 = .ok (.getfield 51, 3) := by decide +kernel
theorem dX9_bumps_39 : decode cX9_bumps 39 = .ok (.iconst 5, 1) := by decide +kernel
theorem dX9_bumps_40 : decode cX9_bumps 40 = .ok (.iload_n 1, 1) := by decide +kernel
theorem dX9_bumps_41 : decode cX9_bumps 41 = .ok (.imul, 1) := by decide +kernel
theorem dX9_bumps_42 : decode cX9_bumps 42 = .ok (.iload_n 2, 1) := by decide +kernel
theorem dX9_bumps_43 : decode cX9_bumps 43 = .ok (.iadd, 1) := by decide +kernel
theorem dX9_bumps_44 : decode cX9_bumps 44 = .ok (.iaload, 1) := by decide +kernel
theorem dX9_bumps_45 : decode cX9_bumps 45 = .ok (.goto 4, 3) := by decide +kernel
theorem dX9_bumps_48 : decode cX9_bumps 48 = .ok (.iconst 0, 1) := by decide +kernel
theorem dX9_bumps_49 : decode cX9_bumps 49 = .ok (.ireturn, 1) := by decide +kernel
theorem dX9_seedOf_0 : decode cX9_seedOf 0 = .ok (.iconst 0, 1) := by decide +kernel
theorem dX9_seedOf_1 : decode cX9_seedOf 1 = .ok (.istore_n 2, 1) := by decide +kernel
theorem dX9_seedOf_2 : decode cX9_seedOf 2 = .ok (.iload_n 2, 1) := by decide +kernel
theorem dX9_seedOf_3 : decode cX9_seedOf 3 = .ok (.aload_n 0, 1) := by decide +kernel
theorem dX9_seedOf_4 : decode cX9_seedOf 4 = .ok (.getfield 141, 3) := by decide +kernel
theorem dX9_seedOf_7 : decode cX9_seedOf 7 = .ok (.if_icmp .ge 21, 3) := by decide +kernel
theorem dX9_seedOf_10 : decode cX9_seedOf 10 = .ok (.aload_n 0, 1) := by decide +kernel
theorem dX9_seedOf_11 : decode cX9_seedOf 11 = .ok (.getfield 54, 3) := by decide +kernel
theorem dX9_seedOf_14 : decode cX9_seedOf 14 = .ok (.iload_n 2, 1) := by decide +kernel
theorem dX9_seedOf_15 : decode cX9_seedOf 15 = .ok (.iaload, 1) := by decide +kernel
theorem dX9_seedOf_16 : decode cX9_seedOf 16 = .ok (.iload_n 1, 1) := by decide +kernel
theorem dX9_seedOf_17 : decode cX9_seedOf 17 = .ok (.if_icmp .ne 5, 3) := by decide +kernel
theorem dX9_seedOf_20 : decode cX9_seedOf 20 = .ok (.iload_n 2, 1) := by decide +kernel
theorem dX9_seedOf_21 : decode cX9_seedOf 21 = .ok (.ireturn, 1) := by decide +kernel
theorem dX9_seedOf_22 : decode cX9_seedOf 22 = .ok (.iinc 2 1, 3) := by decide +kernel
theorem dX9_seedOf_25 : decode cX9_seedOf 25 = .ok (.goto (-23), 3) := by decide +kernel
theorem dX9_seedOf_28 : decode cX9_seedOf 28 = .ok (.iconst (-1), 1) := by decide +kernel
theorem dX9_seedOf_29 : decode cX9_seedOf 29 = .ok (.ireturn, 1) := by decide +kernel
set_option maxRecDepth 20000 in
theorem ggX9_seed_X9_isCrew : GoodIn wsX9_seed wsX9_isCrew := goodIn_r _ [8, 9, 10, 11, 7, 12, 22, 23, 24, 25, 26, 27, 28, 29, 30, 31, 32, 33, 34, 35, 36, 37, 38, 39, 40, 41, 42, 43, 44, 45, 46, 47, 48, 49, 50, 51, 52, 53, 54, 55, 56, 57] (by decide +kernel) (by decide +kernel)
set_option maxRecDepth 20000 in
theorem gX9_seed_X9_isCrew : GoodIn wsX9_seed (wsV RX9 102 RX9 yX9_isCrew wsX9_isCrew) := goodIn_app (goodIn_of _ (by decide +kernel)) ggX9_seed_X9_isCrew
set_option maxRecDepth 20000 in
theorem ggX9_seed_X9_seedOf : GoodIn wsX9_seed wsX9_seedOf := goodIn_r _ [16, 3, 2, 22, 23, 24, 25, 26, 27, 28, 29, 30, 31, 32, 33, 34, 35, 36, 37, 38, 39, 40, 41, 42, 43, 44, 45, 46, 47, 48, 49, 50, 51, 52, 53, 54, 55, 56, 57] (by decide +kernel) (by decide +kernel)
set_option maxRecDepth 20000 in
theorem gX9_seed_X9_seedOf : GoodIn wsX9_seed (wsV RX9 147 RX9 yX9_seedOf wsX9_seedOf) := goodIn_app (goodIn_of _ (by decide +kernel)) ggX9_seed_X9_seedOf
set_option maxRecDepth 20000 in
theorem ggX9_seed_X9_holds : GoodIn wsX9_seed wsX9_holds := goodIn_r _ [20, 21, 22, 23, 24, 25, 26, 27, 28, 29, 30, 31, 32, 33, 34, 35, 36, 37, 38, 39, 40, 41, 42, 43, 44, 45, 46, 47, 48, 49, 50, 51, 52, 53, 54, 55, 56, 57] (by decide +kernel) (by decide +kernel)
set_option maxRecDepth 20000 in
theorem gX9_seed_X9_holds : GoodIn wsX9_seed (wsV RX9 91 RX9 yX9_holds wsX9_holds) := goodIn_app (goodIn_of _ (by decide +kernel)) ggX9_seed_X9_holds
theorem dX9_seed_0 : decode cX9_seed 0 = .ok (.aload_n 0, 1) := by decide +kernel
theorem dX9_seed_1 : decode cX9_seed 1 = .ok (.iload_n 1, 1) := by decide +kernel
theorem dX9_seed_2 : decode cX9_seed 2 = .ok (.invokevirtual 102, 3) := by decide +kernel
theorem dX9_seed_5 : decode cX9_seed 5 = .ok (.istore_n 2, 1) := by decide +kernel
theorem dX9_seed_6 : decode cX9_seed 6 = .ok (.aload_n 0, 1) := by decide +kernel
theorem dX9_seed_7 : decode cX9_seed 7 = .ok (.iload_n 2, 1) := by decide +kernel
theorem dX9_seed_8 : decode cX9_seed 8 = .ok (.ifCond .ne 7, 3) := by decide +kernel
theorem dX9_seed_11 : decode cX9_seed 11 = .ok (.iconst 1, 1) := by decide +kernel
theorem dX9_seed_12 : decode cX9_seed 12 = .ok (.goto 24, 3) := by decide +kernel
theorem dX9_seed_15 : decode cX9_seed 15 = .ok (.aload_n 0, 1) := by decide +kernel
theorem dX9_seed_16 : decode cX9_seed 16 = .ok (.getfield 144, 3) := by decide +kernel
theorem dX9_seed_19 : decode cX9_seed 19 = .ok (.ifCond .ne 12, 3) := by decide +kernel
theorem dX9_seed_22 : decode cX9_seed 22 = .ok (.aload_n 0, 1) := by decide +kernel
theorem dX9_seed_23 : decode cX9_seed 23 = .ok (.iload_n 1, 1) := by decide +kernel
theorem dX9_seed_24 : decode cX9_seed 24 = .ok (.invokevirtual 147, 3) := by decide +kernel
theorem dX9_seed_27 : decode cX9_seed 27 = .ok (.iconst (-1), 1) := by decide +kernel
theorem dX9_seed_28 : decode cX9_seed 28 = .ok (.if_icmp .eq 7, 3) := by decide +kernel
theorem dX9_seed_31 : decode cX9_seed 31 = .ok (.iconst 2, 1) := by decide +kernel
theorem dX9_seed_32 : decode cX9_seed 32 = .ok (.goto 4, 3) := by decide +kernel
theorem dX9_seed_35 : decode cX9_seed 35 = .ok (.iconst 0, 1) := by decide +kernel
theorem dX9_seed_36 : decode cX9_seed 36 = .ok (.invokevirtual 91, 3) := by decide +kernel
theorem dX9_seed_39 : decode cX9_seed 39 = .ok (.ifCond .ne 5, 3) := by decide +kernel
theorem dX9_seed_42 : decode cX9_seed 42 = .ok (.iconst 0, 1) := by decide +kernel
theorem dX9_seed_43 : decode cX9_seed 43 = .ok (.ireturn, 1) := by decide +kernel
theorem dX9_seed_44 : decode cX9_seed 44 = .ok (.aload_n 0, 1) := by decide +kernel
theorem dX9_seed_45 : decode cX9_seed 45 = .ok (.getfield 54, 3) := by decide +kernel
theorem dX9_seed_48 : decode cX9_seed 48 = .ok (.aload_n 0, 1) := by decide +kernel
theorem dX9_seed_49 : decode cX9_seed 49 = .ok (.getfield 141, 3) := by decide +kernel
theorem dX9_seed_52 : decode cX9_seed 52 = .ok (.iload_n 1, 1) := by decide +kernel
theorem dX9_seed_53 : decode cX9_seed 53 = .ok (.iastore, 1) := by decide +kernel
theorem dX9_seed_54 : decode cX9_seed 54 = .ok (.aload_n 0, 1) := by decide +kernel
theorem dX9_seed_55 : decode cX9_seed 55 = .ok (.dup, 1) := by decide +kernel
theorem dX9_seed_56 : decode cX9_seed 56 = .ok (.getfield 141, 3) := by decide +kernel
theorem dX9_seed_59 : decode cX9_seed 59 = .ok (.iconst 1, 1) := by decide +kernel
theorem dX9_seed_60 : decode cX9_seed 60 = .ok (.iadd, 1) := by decide +kernel
theorem dX9_seed_61 : decode cX9_seed 61 = .ok (.putfield 141, 3) := by decide +kernel
theorem dX9_seed_64 : decode cX9_seed 64 = .ok (.aload_n 0, 1) := by decide +kernel
theorem dX9_seed_65 : decode cX9_seed 65 = .ok (.getfield 141, 3) := by decide +kernel
theorem dX9_seed_68 : decode cX9_seed 68 = .ok (.ireturn, 1) := by decide +kernel
set_option maxRecDepth 20000 in
theorem ggX9_draw_X9_holds : GoodIn wsX9_draw wsX9_holds := goodIn_r _ [9, 10, 11, 12, 13, 14, 15, 16, 17, 18, 19, 20, 21, 22, 23, 24, 25, 26, 27, 28, 29, 30, 31, 32, 33, 34, 35, 36, 37, 38, 39, 40, 41, 42, 43, 44, 45, 46] (by decide +kernel) (by decide +kernel)
set_option maxRecDepth 20000 in
theorem gX9_draw_X9_holds : GoodIn wsX9_draw (wsV RX9 91 RX9 yX9_holds wsX9_holds) := goodIn_app (goodIn_of _ (by decide +kernel)) ggX9_draw_X9_holds
theorem dX9_draw_0 : decode cX9_draw 0 = .ok (.aload_n 0, 1) := by decide +kernel
theorem dX9_draw_1 : decode cX9_draw 1 = .ok (.aload_n 0, 1) := by decide +kernel
theorem dX9_draw_2 : decode cX9_draw 2 = .ok (.getfield 144, 3) := by decide +kernel
theorem dX9_draw_5 : decode cX9_draw 5 = .ok (.ifCond .ne 11, 3) := by decide +kernel
theorem dX9_draw_8 : decode cX9_draw 8 = .ok (.aload_n 0, 1) := by decide +kernel
theorem dX9_draw_9 : decode cX9_draw 9 = .ok (.getfield 141, 3) := by decide +kernel
theorem dX9_draw_12 : decode cX9_draw 12 = .ok (.iconst 2, 1) := by decide +kernel
theorem dX9_draw_13 : decode cX9_draw 13 = .ok (.if_icmp .ge 7, 3) := by decide +kernel
theorem dX9_draw_16 : decode cX9_draw 16 = .ok (.iconst 1, 1) := by decide +kernel
theorem dX9_draw_17 : decode cX9_draw 17 = .ok (.goto 4, 3) := by decide +kernel
theorem dX9_draw_20 : decode cX9_draw 20 = .ok (.iconst 0, 1) := by decide +kernel
theorem dX9_draw_21 : decode cX9_draw 21 = .ok (.invokevirtual 91, 3) := by decide +kernel
theorem dX9_draw_24 : decode cX9_draw 24 = .ok (.ifCond .ne 5, 3) := by decide +kernel
theorem dX9_draw_27 : decode cX9_draw 27 = .ok (.iconst 0, 1) := by decide +kernel
theorem dX9_draw_28 : decode cX9_draw 28 = .ok (.ireturn, 1) := by decide +kernel
theorem dX9_draw_29 : decode cX9_draw 29 = .ok (.aload_n 0, 1) := by decide +kernel
theorem dX9_draw_30 : decode cX9_draw 30 = .ok (.iconst 1, 1) := by decide +kernel
theorem dX9_draw_31 : decode cX9_draw 31 = .ok (.putfield 144, 3) := by decide +kernel
theorem dX9_draw_34 : decode cX9_draw 34 = .ok (.aload_n 0, 1) := by decide +kernel
theorem dX9_draw_35 : decode cX9_draw 35 = .ok (.aload_n 0, 1) := by decide +kernel
theorem dX9_draw_36 : decode cX9_draw 36 = .ok (.getfield 141, 3) := by decide +kernel
theorem dX9_draw_39 : decode cX9_draw 39 = .ok (.bipush 6, 2) := by decide +kernel
theorem dX9_draw_41 : decode cX9_draw 41 = .ok (.iadd, 1) := by decide +kernel
theorem dX9_draw_42 : decode cX9_draw 42 = .ok (.iconst 1, 1) := by decide +kernel
theorem dX9_draw_43 : decode cX9_draw 43 = .ok (.isub, 1) := by decide +kernel
theorem dX9_draw_44 : decode cX9_draw 44 = .ok (.bipush 6, 2) := by decide +kernel
theorem dX9_draw_46 : decode cX9_draw 46 = .ok (.idiv, 1) := by decide +kernel
theorem dX9_draw_47 : decode cX9_draw 47 = .ok (.putfield 150, 3) := by decide +kernel
theorem dX9_draw_50 : decode cX9_draw 50 = .ok (.iconst 0, 1) := by decide +kernel
theorem dX9_draw_51 : decode cX9_draw 51 = .ok (.istore_n 1, 1) := by decide +kernel
theorem dX9_draw_52 : decode cX9_draw 52 = .ok (.iload_n 1, 1) := by decide +kernel
theorem dX9_draw_53 : decode cX9_draw 53 = .ok (.aload_n 0, 1) := by decide +kernel
theorem dX9_draw_54 : decode cX9_draw 54 = .ok (.getfield 141, 3) := by decide +kernel
theorem dX9_draw_57 : decode cX9_draw 57 = .ok (.if_icmp .ge 16, 3) := by decide +kernel
theorem dX9_draw_60 : decode cX9_draw 60 = .ok (.aload_n 0, 1) := by decide +kernel
theorem dX9_draw_61 : decode cX9_draw 61 = .ok (.getfield 57, 3) := by decide +kernel
theorem dX9_draw_64 : decode cX9_draw 64 = .ok (.iload_n 1, 1) := by decide +kernel
theorem dX9_draw_65 : decode cX9_draw 65 = .ok (.iconst 0, 1) := by decide +kernel
theorem dX9_draw_66 : decode cX9_draw 66 = .ok (.iastore, 1) := by decide +kernel
theorem dX9_draw_67 : decode cX9_draw 67 = .ok (.iinc 1 1, 3) := by decide +kernel
theorem dX9_draw_70 : decode cX9_draw 70 = .ok (.goto (-18), 3) := by decide +kernel
theorem dX9_draw_73 : decode cX9_draw 73 = .ok (.aload_n 0, 1) := by decide +kernel
theorem dX9_draw_74 : decode cX9_draw 74 = .ok (.getfield 150, 3) := by decide +kernel
theorem dX9_draw_77 : decode cX9_draw 77 = .ok (.ireturn, 1) := by decide +kernel
theorem dX9_heatOf_0 : decode cX9_heatOf 0 = .ok (.iload_n 1, 1) := by decide +kernel
theorem dX9_heatOf_1 : decode cX9_heatOf 1 = .ok (.aload_n 0, 1) := by decide +kernel
theorem dX9_heatOf_2 : decode cX9_heatOf 2 = .ok (.getfield 150, 3) := by decide +kernel
theorem dX9_heatOf_5 : decode cX9_heatOf 5 = .ok (.irem, 1) := by decide +kernel
theorem dX9_heatOf_6 : decode cX9_heatOf 6 = .ok (.istore_n 2, 1) := by decide +kernel
theorem dX9_heatOf_7 : decode cX9_heatOf 7 = .ok (.iload_n 1, 1) := by decide +kernel
theorem dX9_heatOf_8 : decode cX9_heatOf 8 = .ok (.aload_n 0, 1) := by decide +kernel
theorem dX9_heatOf_9 : decode cX9_heatOf 9 = .ok (.getfield 150, 3) := by decide +kernel
theorem dX9_heatOf_12 : decode cX9_heatOf 12 = .ok (.idiv, 1) := by decide +kernel
theorem dX9_heatOf_13 : decode cX9_heatOf 13 = .ok (.iconst 2, 1) := by decide +kernel
theorem dX9_heatOf_14 : decode cX9_heatOf 14 = .ok (.irem, 1) := by decide +kernel
theorem dX9_heatOf_15 : decode cX9_heatOf 15 = .ok (.ifCond .ne 7, 3) := by decide +kernel
theorem dX9_heatOf_18 : decode cX9_heatOf 18 = .ok (.iload_n 2, 1) := by decide +kernel
theorem dX9_heatOf_19 : decode cX9_heatOf 19 = .ok (.goto 11, 3) := by decide +kernel
theorem dX9_heatOf_22 : decode cX9_heatOf 22 = .ok (.aload_n 0, 1) := by decide +kernel
theorem dX9_heatOf_23 : decode cX9_heatOf 23 = .ok (.getfield 150, 3) := by decide +kernel
theorem dX9_heatOf_26 : decode cX9_heatOf 26 = .ok (.iconst 1, 1) := by decide +kernel
theorem dX9_heatOf_27 : decode cX9_heatOf 27 = .ok (.isub, 1) := by decide +kernel
theorem dX9_heatOf_28 : decode cX9_heatOf 28 = .ok (.iload_n 2, 1) := by decide +kernel
theorem dX9_heatOf_29 : decode cX9_heatOf 29 = .ok (.isub, 1) := by decide +kernel
theorem dX9_heatOf_30 : decode cX9_heatOf 30 = .ok (.ireturn, 1) := by decide +kernel
set_option maxRecDepth 20000 in
theorem ggX9_laid_X9_heatOf : GoodIn wsX9_laid wsX9_heatOf := goodIn_r _ [10, 4, 11, 12, 13, 14, 15, 16, 17, 18, 19, 20, 21, 22, 23, 24, 25, 26, 27, 28, 29, 30, 31, 32, 33, 34, 35, 36, 37, 38, 39, 40, 41, 42, 43, 44, 45, 46] (by decide +kernel) (by decide +kernel)
set_option maxRecDepth 20000 in
theorem gX9_laid_X9_heatOf : GoodIn wsX9_laid (wsV RX9 156 RX9 yX9_heatOf wsX9_heatOf) := goodIn_app (goodIn_of _ (by decide +kernel)) ggX9_laid_X9_heatOf
theorem dX9_laid_0 : decode cX9_laid 0 = .ok (.aload_n 0, 1) := by decide +kernel
theorem dX9_laid_1 : decode cX9_laid 1 = .ok (.getfield 144, 3) := by decide +kernel
theorem dX9_laid_4 : decode cX9_laid 4 = .ok (.iconst 2, 1) := by decide +kernel
theorem dX9_laid_5 : decode cX9_laid 5 = .ok (.if_icmp .ne 22, 3) := by decide +kernel
theorem dX9_laid_8 : decode cX9_laid 8 = .ok (.iload_n 2, 1) := by decide +kernel
theorem dX9_laid_9 : decode cX9_laid 9 = .ok (.aload_n 0, 1) := by decide +kernel
theorem dX9_laid_10 : decode cX9_laid 10 = .ok (.getfield 153, 3) := by decide +kernel
theorem dX9_laid_13 : decode cX9_laid 13 = .ok (.if_icmp .ge 12, 3) := by decide +kernel
theorem dX9_laid_16 : decode cX9_laid 16 = .ok (.aload_n 0, 1) := by decide +kernel
theorem dX9_laid_17 : decode cX9_laid 17 = .ok (.getfield 60, 3) := by decide +kernel
theorem dX9_laid_20 : decode cX9_laid 20 = .ok (.iload_n 2, 1) := by decide +kernel
theorem dX9_laid_21 : decode cX9_laid 21 = .ok (.iaload, 1) := by decide +kernel
theorem dX9_laid_22 : decode cX9_laid 22 = .ok (.goto 4, 3) := by decide +kernel
theorem dX9_laid_25 : decode cX9_laid 25 = .ok (.iconst (-1), 1) := by decide +kernel
theorem dX9_laid_26 : decode cX9_laid 26 = .ok (.ireturn, 1) := by decide +kernel
theorem dX9_laid_27 : decode cX9_laid 27 = .ok (.aload_n 0, 1) := by decide +kernel
theorem dX9_laid_28 : decode cX9_laid 28 = .ok (.getfield 150, 3) := by decide +kernel
theorem dX9_laid_31 : decode cX9_laid 31 = .ok (.iload_n 2, 1) := by decide +kernel
theorem dX9_laid_32 : decode cX9_laid 32 = .ok (.imul, 1) := by decide +kernel
theorem dX9_laid_33 : decode cX9_laid 33 = .ok (.istore_n 3, 1) := by decide +kernel
theorem dX9_laid_34 : decode cX9_laid 34 = .ok (.iload_n 3, 1) := by decide +kernel
theorem dX9_laid_35 : decode cX9_laid 35 = .ok (.aload_n 0, 1) := by decide +kernel
theorem dX9_laid_36 : decode cX9_laid 36 = .ok (.getfield 150, 3) := by decide +kernel
theorem dX9_laid_39 : decode cX9_laid 39 = .ok (.iload_n 2, 1) := by decide +kernel
theorem dX9_laid_40 : decode cX9_laid 40 = .ok (.imul, 1) := by decide +kernel
theorem dX9_laid_41 : decode cX9_laid 41 = .ok (.aload_n 0, 1) := by decide +kernel
theorem dX9_laid_42 : decode cX9_laid 42 = .ok (.getfield 150, 3) := by decide +kernel
theorem dX9_laid_45 : decode cX9_laid 45 = .ok (.iadd, 1) := by decide +kernel
theorem dX9_laid_46 : decode cX9_laid 46 = .ok (.if_icmp .ge 28, 3) := by decide +kernel
theorem dX9_laid_49 : decode cX9_laid 49 = .ok (.iload_n 3, 1) := by decide +kernel
theorem dX9_laid_50 : decode cX9_laid 50 = .ok (.aload_n 0, 1) := by decide +kernel
theorem dX9_laid_51 : decode cX9_laid 51 = .ok (.getfield 141, 3) := by decide +kernel
theorem dX9_laid_54 : decode cX9_laid 54 = .ok (.if_icmp .ge 20, 3) := by decide +kernel
theorem dX9_laid_57 : decode cX9_laid 57 = .ok (.aload_n 0, 1) := by decide +kernel
theorem dX9_laid_58 : decode cX9_laid 58 = .ok (.iload_n 3, 1) := by decide +kernel
theorem dX9_laid_59 : decode cX9_laid 59 = .ok (.invokevirtual 156, 3) := by decide +kernel
theorem dX9_laid_62 : decode cX9_laid 62 = .ok (.iload_n 1, 1) := by decide +kernel
theorem dX9_laid_63 : decode cX9_laid 63 = .ok (.if_icmp .ne 5, 3) := by decide +kernel
theorem dX9_laid_66 : decode cX9_laid 66 = .ok (.iload_n 3, 1) := by decide +kernel
theorem dX9_laid_67 : decode cX9_laid 67 = .ok (.ireturn, 1) := by decide +kernel
theorem dX9_laid_68 : decode cX9_laid 68 = .ok (.iinc 3 1, 3) := by decide +kernel
theorem dX9_laid_71 : decode cX9_laid 71 = .ok (.goto (-37), 3) := by decide +kernel
theorem dX9_laid_74 : decode cX9_laid 74 = .ok (.iconst (-1), 1) := by decide +kernel
theorem dX9_laid_75 : decode cX9_laid 75 = .ok (.ireturn, 1) := by decide +kernel
set_option maxRecDepth 20000 in
theorem ggX9_inLane_X9_laid : GoodIn wsX9_inLane wsX9_laid := goodIn_r _ [7, 8, 9, 10, 11, 12, 13, 14, 15, 6, 16, 17, 18, 19, 20, 21, 22, 23, 24, 25, 26, 27, 28, 29, 30, 31, 32, 33, 34, 35, 36, 37, 38, 39, 40, 41, 42, 43, 44, 45, 46, 47, 48, 49, 50, 51, 52] (by decide +kernel) (by decide +kernel)
set_option maxRecDepth 20000 in
theorem gX9_inLane_X9_laid : GoodIn wsX9_inLane (wsV RX9 159 RX9 yX9_laid wsX9_laid) := goodIn_app (goodIn_of _ (by decide +kernel)) ggX9_inLane_X9_laid
theorem dX9_inLane_0 : decode cX9_inLane 0 = .ok (.iconst 0, 1) := by decide +kernel
theorem dX9_inLane_1 : decode cX9_inLane 1 = .ok (.istore_n 3, 1) := by decide +kernel
theorem dX9_inLane_2 : decode cX9_inLane 2 = .ok (.aload_n 0, 1) := by decide +kernel
theorem dX9_inLane_3 : decode cX9_inLane 3 = .ok (.getfield 69, 3) := by decide +kernel
theorem dX9_inLane_6 : decode cX9_inLane 6 = .ok (.iload_n 3, 1) := by decide +kernel
theorem dX9_inLane_7 : decode cX9_inLane 7 = .ok (.iaload, 1) := by decide +kernel
theorem dX9_inLane_8 : decode cX9_inLane 8 = .ok (.iload_n 2, 1) := by decide +kernel
theorem dX9_inLane_9 : decode cX9_inLane 9 = .ok (.if_icmp .eq 9, 3) := by decide +kernel
theorem dX9_inLane_12 : decode cX9_inLane 12 = .ok (.iinc 3 1, 3) := by decide +kernel
theorem dX9_inLane_15 : decode cX9_inLane 15 = .ok (.goto (-13), 3) := by decide +kernel
theorem dX9_inLane_18 : decode cX9_inLane 18 = .ok (.aload_n 0, 1) := by decide +kernel
theorem dX9_inLane_19 : decode cX9_inLane 19 = .ok (.iload_n 1, 1) := by decide +kernel
theorem dX9_inLane_20 : decode cX9_inLane 20 = .ok (.iload_n 3, 1) := by decide +kernel
theorem dX9_inLane_21 : decode cX9_inLane 21 = .ok (.invokevirtual 159, 3) := by decide +kernel
theorem dX9_inLane_24 : decode cX9_inLane 24 = .ok (.istore 4, 2) := by decide +kernel
theorem dX9_inLane_26 : decode cX9_inLane 26 = .ok (.iload 4, 2) := by decide +kernel
theorem dX9_inLane_28 : decode cX9_inLane 28 = .ok (.iconst (-1), 1) := by decide +kernel
theorem dX9_inLane_29 : decode cX9_inLane 29 = .ok (.if_icmp .ne 7, 3) := by decide +kernel
theorem dX9_inLane_32 : decode cX9_inLane 32 = .ok (.iconst (-1), 1) := by decide +kernel
theorem dX9_inLane_33 : decode cX9_inLane 33 = .ok (.goto 10, 3) := by decide +kernel
theorem dX9_inLane_36 : decode cX9_inLane 36 = .ok (.aload_n 0, 1) := by decide +kernel
theorem dX9_inLane_37 : decode cX9_inLane 37 = .ok (.getfield 54, 3) := by decide +kernel
theorem dX9_inLane_40 : decode cX9_inLane 40 = .ok (.iload 4, 2) := by decide +kernel
theorem dX9_inLane_42 : decode cX9_inLane 42 = .ok (.iaload, 1) := by decide +kernel
theorem dX9_inLane_43 : decode cX9_inLane 43 = .ok (.ireturn, 1) := by decide +kernel
set_option maxRecDepth 20000 in
theorem ggX9_lane_X9_isIn : GoodIn wsX9_lane wsX9_isIn := goodIn_r _ [6] (by decide +kernel) (by decide +kernel)
set_option maxRecDepth 20000 in
theorem gX9_lane_X9_isIn : GoodIn wsX9_lane (va_wsS RX9 87 yX9_isIn wsX9_isIn) := goodIn_app (goodIn_of _ (by decide +kernel)) ggX9_lane_X9_isIn
set_option maxRecDepth 20000 in
theorem ggX9_lane_X9_holds : GoodIn wsX9_lane wsX9_holds := goodIn_r _ [10, 11, 29, 30, 31, 32, 33, 34, 35, 36, 37, 38, 39, 40, 41, 42, 43, 44, 45, 46, 47, 48, 49, 50, 51, 52, 53, 54, 55, 56, 57, 58, 59, 60, 61, 62, 63, 64] (by decide +kernel) (by decide +kernel)
set_option maxRecDepth 20000 in
theorem gX9_lane_X9_holds : GoodIn wsX9_lane (wsV RX9 91 RX9 yX9_holds wsX9_holds) := goodIn_app (goodIn_of _ (by decide +kernel)) ggX9_lane_X9_holds
set_option maxRecDepth 20000 in
theorem ggX9_lane_X9_inLane : GoodIn wsX9_lane wsX9_inLane := goodIn_r _ [15, 16, 17, 18, 19, 20, 5, 21, 1, 22, 23, 2, 24, 25, 26, 27, 28, 29, 30, 31, 32, 33, 34, 35, 36, 37, 38, 39, 40, 41, 42, 43, 44, 45, 46, 47, 48, 49, 50, 51, 52, 53, 54, 55, 56, 57, 58, 59, 60, 61, 62, 63, 64] (by decide +kernel) (by decide +kernel)
set_option maxRecDepth 20000 in
theorem gX9_lane_X9_inLane : GoodIn wsX9_lane (wsV RX9 162 RX9 yX9_inLane wsX9_inLane) := goodIn_app (goodIn_of _ (by decide +kernel)) ggX9_lane_X9_inLane
theorem dX9_lane_0 : decode cX9_lane 0 = .ok (.aload_n 0, 1) := by decide +kernel
theorem dX9_lane_1 : decode cX9_lane 1 = .ok (.getfield 144, 3) := by decide +kernel
theorem dX9_lane_4 : decode cX9_lane 4 = .ok (.iconst 1, 1) := by decide +kernel
theorem dX9_lane_5 : decode cX9_lane 5 = .ok (.if_icmp .ne 17, 3) := by decide +kernel
theorem dX9_lane_8 : decode cX9_lane 8 = .ok (.iload_n 1, 1) := by decide +kernel
theorem dX9_lane_9 : decode cX9_lane 9 = .ok (.iconst 0, 1) := by decide +kernel
theorem dX9_lane_10 : decode cX9_lane 10 = .ok (.aload_n 0, 1) := by decide +kernel
theorem dX9_lane_11 : decode cX9_lane 11 = .ok (.getfield 150, 3) := by decide +kernel
theorem dX9_lane_14 : decode cX9_lane 14 = .ok (.iconst 1, 1) := by decide +kernel
theorem dX9_lane_15 : decode cX9_lane 15 = .ok (.isub, 1) := by decide +kernel
theorem dX9_lane_16 : decode cX9_lane 16 = .ok (.invokestatic 87, 3) := by decide +kernel
theorem dX9_lane_19 : decode cX9_lane 19 = .ok (.goto 20, 3) := by decide +kernel
theorem dX9_lane_22 : decode cX9_lane 22 = .ok (.aload_n 0, 1) := by decide +kernel
theorem dX9_lane_23 : decode cX9_lane 23 = .ok (.getfield 144, 3) := by decide +kernel
theorem dX9_lane_26 : decode cX9_lane 26 = .ok (.iconst 2, 1) := by decide +kernel
theorem dX9_lane_27 : decode cX9_lane 27 = .ok (.if_icmp .ne 11, 3) := by decide +kernel
theorem dX9_lane_30 : decode cX9_lane 30 = .ok (.iload_n 1, 1) := by decide +kernel
theorem dX9_lane_31 : decode cX9_lane 31 = .ok (.ifCond .ne 7, 3) := by decide +kernel
theorem dX9_lane_34 : decode cX9_lane 34 = .ok (.iconst 1, 1) := by decide +kernel
theorem dX9_lane_35 : decode cX9_lane 35 = .ok (.goto 4, 3) := by decide +kernel
theorem dX9_lane_38 : decode cX9_lane 38 = .ok (.iconst 0, 1) := by decide +kernel
theorem dX9_lane_39 : decode cX9_lane 39 = .ok (.istore_n 3, 1) := by decide +kernel
theorem dX9_lane_40 : decode cX9_lane 40 = .ok (.aload_n 0, 1) := by decide +kernel
theorem dX9_lane_41 : decode cX9_lane 41 = .ok (.iload_n 3, 1) := by decide +kernel
theorem dX9_lane_42 : decode cX9_lane 42 = .ok (.ifCond .eq 17, 3) := by decide +kernel
theorem dX9_lane_45 : decode cX9_lane 45 = .ok (.iload_n 2, 1) := by decide +kernel
theorem dX9_lane_46 : decode cX9_lane 46 = .ok (.iconst 1, 1) := by decide +kernel
theorem dX9_lane_47 : decode cX9_lane 47 = .ok (.bipush 6, 2) := by decide +kernel
theorem dX9_lane_49 : decode cX9_lane 49 = .ok (.invokestatic 87, 3) := by decide +kernel
theorem dX9_lane_52 : decode cX9_lane 52 = .ok (.ifCond .eq 7, 3) := by decide +kernel
theorem dX9_lane_55 : decode cX9_lane 55 = .ok (.iconst 0, 1) := by decide +kernel
theorem dX9_lane_56 : decode cX9_lane 56 = .ok (.goto 4, 3) := by decide +kernel
theorem dX9_lane_59 : decode cX9_lane 59 = .ok (.iconst 1, 1) := by decide +kernel
theorem dX9_lane_60 : decode cX9_lane 60 = .ok (.invokevirtual 91, 3) := by decide +kernel
theorem dX9_lane_63 : decode cX9_lane 63 = .ok (.ifCond .eq 12, 3) := by decide +kernel
theorem dX9_lane_66 : decode cX9_lane 66 = .ok (.aload_n 0, 1) := by decide +kernel
theorem dX9_lane_67 : decode cX9_lane 67 = .ok (.iload_n 1, 1) := by decide +kernel
theorem dX9_lane_68 : decode cX9_lane 68 = .ok (.iload_n 2, 1) := by decide +kernel
theorem dX9_lane_69 : decode cX9_lane 69 = .ok (.invokevirtual 162, 3) := by decide +kernel
theorem dX9_lane_72 : decode cX9_lane 72 = .ok (.goto 4, 3) := by decide +kernel
theorem dX9_lane_75 : decode cX9_lane 75 = .ok (.iconst 0, 1) := by decide +kernel
theorem dX9_lane_76 : decode cX9_lane 76 = .ok (.ireturn, 1) := by decide +kernel
theorem dX9_isFinalist_0 : decode cX9_isFinalist 0 = .ok (.iconst 0, 1) := by decide +kernel
theorem dX9_isFinalist_1 : decode cX9_isFinalist 1 = .ok (.istore_n 2, 1) := by decide +kernel
theorem dX9_isFinalist_2 : decode cX9_isFinalist 2 = .ok (.iconst 0, 1) := by decide +kernel
theorem dX9_isFinalist_3 : decode cX9_isFinalist 3 = .ok (.istore_n 3, 1) := by decide +kernel
theorem dX9_isFinalist_4 : decode cX9_isFinalist 4 = .ok (.iload_n 3, 1) := by decide +kernel
theorem dX9_isFinalist_5 : decode cX9_isFinalist 5 = .ok (.aload_n 0, 1) := by decide +kernel
theorem dX9_isFinalist_6 : decode cX9_isFinalist 6 = .ok (.getfield 153, 3) := by decide +kernel
theorem dX9_isFinalist_9 : decode cX9_isFinalist 9 = .ok (.if_icmp .ge 29, 3) := by decide +kernel
theorem dX9_isFinalist_12 : decode cX9_isFinalist 12 = .ok (.iload_n 2, 1) := by decide +kernel
theorem dX9_isFinalist_13 : decode cX9_isFinalist 13 = .ok (.ifCond .ne 13, 3) := by decide +kernel
theorem dX9_isFinalist_16 : decode cX9_isFinalist 16 = .ok (.aload_n 0, 1) := by decide +kernel
theorem dX9_isFinalist_17 : decode cX9_isFinalist 17 = .ok (.getfield 60, 3) := by decide +kernel
theorem dX9_isFinalist_20 : decode cX9_isFinalist 20 = .ok (.iload_n 3, 1) := by decide +kernel
theorem dX9_isFinalist_21 : decode cX9_isFinalist 21 = .ok (.iaload, 1) := by decide +kernel
theorem dX9_isFinalist_22 : decode cX9_isFinalist 22 = .ok (.iload_n 1, 1) := by decide +kernel
theorem dX9_isFinalist_23 : decode cX9_isFinalist 23 = .ok (.if_icmp .ne 7, 3) := by decide +kernel
theorem dX9_isFinalist_26 : decode cX9_isFinalist 26 = .ok (.iconst 1, 1) := by decide +kernel
theorem dX9_isFinalist_27 : decode cX9_isFinalist 27 = .ok (.goto 4, 3) := by decide +kernel
theorem dX9_isFinalist_30 : decode cX9_isFinalist 30 = .ok (.iconst 0, 1) := by decide +kernel
theorem dX9_isFinalist_31 : decode cX9_isFinalist 31 = .ok (.istore_n 2, 1) := by decide +kernel
theorem dX9_isFinalist_32 : decode cX9_isFinalist 32 = .ok (.iinc 3 1, 3) := by decide +kernel
theorem dX9_isFinalist_35 : decode cX9_isFinalist 35 = .ok (.goto (-31), 3) := by decide +kernel
theorem dX9_isFinalist_38 : decode cX9_isFinalist 38 = .ok (.iload_n 2, 1) := by decide +kernel
theorem dX9_isFinalist_39 : decode cX9_isFinalist 39 = .ok (.ireturn, 1) := by decide +kernel
set_option maxRecDepth 20000 in
theorem ggX9_isRacing_X9_isFinalist : GoodIn wsX9_isRacing wsX9_isFinalist := goodIn_r _ [6, 7, 8, 9, 10, 11, 12, 13, 14, 15, 16, 17, 18, 19, 20, 21, 22, 23, 24, 25, 26, 27, 28, 29, 30, 31, 32, 33, 34, 35, 36, 37, 38, 39, 40, 41, 42, 43, 44] (by decide +kernel) (by decide +kernel)
set_option maxRecDepth 20000 in
theorem gX9_isRacing_X9_isFinalist : GoodIn wsX9_isRacing (wsV RX9 165 RX9 yX9_isFinalist wsX9_isFinalist) := goodIn_app (goodIn_of _ (by decide +kernel)) ggX9_isRacing_X9_isFinalist
theorem dX9_isRacing_0 : decode cX9_isRacing 0 = .ok (.iload_n 1, 1) := by decide +kernel
theorem dX9_isRacing_1 : decode cX9_isRacing 1 = .ok (.iconst (-1), 1) := by decide +kernel
theorem dX9_isRacing_2 : decode cX9_isRacing 2 = .ok (.if_icmp .eq 31, 3) := by decide +kernel
theorem dX9_isRacing_5 : decode cX9_isRacing 5 = .ok (.aload_n 0, 1) := by decide +kernel
theorem dX9_isRacing_6 : decode cX9_isRacing 6 = .ok (.getfield 144, 3) := by decide +kernel
theorem dX9_isRacing_9 : decode cX9_isRacing 9 = .ok (.iconst 1, 1) := by decide +kernel
theorem dX9_isRacing_10 : decode cX9_isRacing 10 = .ok (.if_icmp .eq 19, 3) := by decide +kernel
theorem dX9_isRacing_13 : decode cX9_isRacing 13 = .ok (.aload_n 0, 1) := by decide +kernel
theorem dX9_isRacing_14 : decode cX9_isRacing 14 = .ok (.getfield 144, 3) := by decide +kernel
theorem dX9_isRacing_17 : decode cX9_isRacing 17 = .ok (.iconst 2, 1) := by decide +kernel
theorem dX9_isRacing_18 : decode cX9_isRacing 18 = .ok (.if_icmp .ne 15, 3) := by decide +kernel
theorem dX9_isRacing_21 : decode cX9_isRacing 21 = .ok (.aload_n 0, 1) := by decide +kernel
theorem dX9_isRacing_22 : decode cX9_isRacing 22 = .ok (.iload_n 1, 1) := by decide +kernel
theorem dX9_isRacing_23 : decode cX9_isRacing 23 = .ok (.invokevirtual 165, 3) := by decide +kernel
theorem dX9_isRacing_26 : decode cX9_isRacing 26 = .ok (.ifCond .eq 7, 3) := by decide +kernel
theorem dX9_isRacing_29 : decode cX9_isRacing 29 = .ok (.iconst 1, 1) := by decide +kernel
theorem dX9_isRacing_30 : decode cX9_isRacing 30 = .ok (.goto 4, 3) := by decide +kernel
theorem dX9_isRacing_33 : decode cX9_isRacing 33 = .ok (.iconst 0, 1) := by decide +kernel
theorem dX9_isRacing_34 : decode cX9_isRacing 34 = .ok (.ireturn, 1) := by decide +kernel
theorem dX9_isAhead_0 : decode cX9_isAhead 0 = .ok (.iload_n 0, 1) := by decide +kernel
theorem dX9_isAhead_1 : decode cX9_isAhead 1 = .ok (.iload_n 2, 1) := by decide +kernel
theorem dX9_isAhead_2 : decode cX9_isAhead 2 = .ok (.if_icmp .ne 16, 3) := by decide +kernel
theorem dX9_isAhead_5 : decode cX9_isAhead 5 = .ok (.iload_n 1, 1) := by decide +kernel
theorem dX9_isAhead_6 : decode cX9_isAhead 6 = .ok (.iload_n 3, 1) := by decide +kernel
theorem dX9_isAhead_7 : decode cX9_isAhead 7 = .ok (.if_icmp .ge 7, 3) := by decide +kernel
theorem dX9_isAhead_10 : decode cX9_isAhead 10 = .ok (.iconst 1, 1) := by decide +kernel
theorem dX9_isAhead_11 : decode cX9_isAhead 11 = .ok (.goto 25, 3) := by decide +kernel
theorem dX9_isAhead_14 : decode cX9_isAhead 14 = .ok (.iconst 0, 1) := by decide +kernel
theorem dX9_isAhead_15 : decode cX9_isAhead 15 = .ok (.goto 21, 3) := by decide +kernel
theorem dX9_isAhead_18 : decode cX9_isAhead 18 = .ok (.iload_n 2, 1) := by decide +kernel
theorem dX9_isAhead_19 : decode cX9_isAhead 19 = .ok (.ifCond .eq 12, 3) := by decide +kernel
theorem dX9_isAhead_22 : decode cX9_isAhead 22 = .ok (.iload_n 0, 1) := by decide +kernel
theorem dX9_isAhead_23 : decode cX9_isAhead 23 = .ok (.ifCond .le 12, 3) := by decide +kernel
theorem dX9_isAhead_26 : decode cX9_isAhead 26 = .ok (.iload_n 0, 1) := by decide +kernel
theorem dX9_isAhead_27 : decode cX9_isAhead 27 = .ok (.iload_n 2, 1) := by decide +kernel
theorem dX9_isAhead_28 : decode cX9_isAhead 28 = .ok (.if_icmp .ge 7, 3) := by decide +kernel
theorem dX9_isAhead_31 : decode cX9_isAhead 31 = .ok (.iconst 1, 1) := by decide +kernel
theorem dX9_isAhead_32 : decode cX9_isAhead 32 = .ok (.goto 4, 3) := by decide +kernel
theorem dX9_isAhead_35 : decode cX9_isAhead 35 = .ok (.iconst 0, 1) := by decide +kernel
theorem dX9_isAhead_36 : decode cX9_isAhead 36 = .ok (.ireturn, 1) := by decide +kernel
set_option maxRecDepth 20000 in
theorem ggX9_placeIn_X9_heatOf : GoodIn wsX9_placeIn wsX9_heatOf := goodIn_r _ [9, 10, 20, 21, 22, 23, 24, 25, 26, 27, 28, 29, 30, 31, 32, 33, 34, 35, 36, 37, 38, 39, 40, 41, 42, 43, 44, 45, 46, 47, 48, 49, 50, 51, 52, 53, 54, 55] (by decide +kernel) (by decide +kernel)
set_option maxRecDepth 20000 in
theorem gX9_placeIn_X9_heatOf : GoodIn wsX9_placeIn (wsV RX9 156 RX9 yX9_heatOf wsX9_heatOf) := goodIn_app (goodIn_of _ (by decide +kernel)) ggX9_placeIn_X9_heatOf
set_option maxRecDepth 20000 in
theorem ggX9_placeIn_X9_isFinalist : GoodIn wsX9_placeIn wsX9_isFinalist := goodIn_r _ [14, 15, 16, 20, 21, 22, 23, 24, 25, 26, 27, 28, 29, 30, 31, 32, 33, 34, 35, 36, 37, 38, 39, 40, 41, 42, 43, 44, 45, 46, 47, 48, 49, 50, 51, 52, 53, 54, 55] (by decide +kernel) (by decide +kernel)
set_option maxRecDepth 20000 in
theorem gX9_placeIn_X9_isFinalist : GoodIn wsX9_placeIn (wsV RX9 165 RX9 yX9_isFinalist wsX9_isFinalist) := goodIn_app (goodIn_of _ (by decide +kernel)) ggX9_placeIn_X9_isFinalist
set_option maxRecDepth 20000 in
theorem ggX9_placeIn_X9_isAhead : GoodIn wsX9_placeIn wsX9_isAhead := goodIn_r _ [19] (by decide +kernel) (by decide +kernel)
set_option maxRecDepth 20000 in
theorem gX9_placeIn_X9_isAhead : GoodIn wsX9_placeIn (va_wsS RX9 168 yX9_isAhead wsX9_isAhead) := goodIn_app (goodIn_of _ (by decide +kernel)) ggX9_placeIn_X9_isAhead
theorem dX9_placeIn_0 : decode cX9_placeIn 0 = .ok (.iconst 0, 1) := by decide +kernel
theorem dX9_placeIn_1 : decode cX9_placeIn 1 = .ok (.istore_n 2, 1) := by decide +kernel
theorem dX9_placeIn_2 : decode cX9_placeIn 2 = .ok (.iconst 0, 1) := by decide +kernel
theorem dX9_placeIn_3 : decode cX9_placeIn 3 = .ok (.istore_n 3, 1) := by decide +kernel
theorem dX9_placeIn_4 : decode cX9_placeIn 4 = .ok (.iload_n 3, 1) := by decide +kernel
theorem dX9_placeIn_5 : decode cX9_placeIn 5 = .ok (.aload_n 0, 1) := by decide +kernel
theorem dX9_placeIn_6 : decode cX9_placeIn 6 = .ok (.getfield 141, 3) := by decide +kernel
theorem dX9_placeIn_9 : decode cX9_placeIn 9 = .ok (.if_icmp .ge 110, 3) := by decide +kernel
theorem dX9_placeIn_12 : decode cX9_placeIn 12 = .ok (.aload_n 0, 1) := by decide +kernel
theorem dX9_placeIn_13 : decode cX9_placeIn 13 = .ok (.getfield 144, 3) := by decide +kernel
theorem dX9_placeIn_16 : decode cX9_placeIn 16 = .ok (.iconst 1, 1) := by decide +kernel
theorem dX9_placeIn_17 : decode cX9_placeIn 17 = .ok (.if_icmp .ne 24, 3) := by decide +kernel
theorem dX9_placeIn_20 : decode cX9_placeIn 20 = .ok (.aload_n 0, 1) := by decide +kernel
theorem dX9_placeIn_21 : decode cX9_placeIn 21 = .ok (.iload_n 3, 1) := by decide +kernel
theorem dX9_placeIn_22 : decode cX9_placeIn 22 = .ok (.invokevirtual 156, 3) := by decide +kernel
theorem dX9_placeIn_25 : decode cX9_placeIn 25 = .ok (.aload_n 0, 1) := by decide +kernel
theorem dX9_placeIn_26 : decode cX9_placeIn 26 = .ok (.iload_n 1, 1) := by decide +kernel
theorem dX9_placeIn_27 : decode cX9_placeIn 27 = .ok (.invokevirtual 156, 3) := by decide +kernel
theorem dX9_placeIn_30 : decode cX9_placeIn 30 = .ok (.if_icmp .ne 7, 3) := by decide +kernel
theorem dX9_placeIn_33 : decode cX9_placeIn 33 = .ok (.iconst 1, 1) := by decide +kernel
theorem dX9_placeIn_34 : decode cX9_placeIn 34 = .ok (.goto 12, 3) := by decide +kernel
theorem dX9_placeIn_37 : decode cX9_placeIn 37 = .ok (.iconst 0, 1) := by decide +kernel
theorem dX9_placeIn_38 : decode cX9_placeIn 38 = .ok (.goto 8, 3) := by decide +kernel
theorem dX9_placeIn_41 : decode cX9_placeIn 41 = .ok (.aload_n 0, 1) := by decide +kernel
theorem dX9_placeIn_42 : decode cX9_placeIn 42 = .ok (.iload_n 3, 1) := by decide +kernel
theorem dX9_placeIn_43 : decode cX9_placeIn 43 = .ok (.invokevirtual 165, 3) := by decide +kernel
theorem dX9_placeIn_46 : decode cX9_placeIn 46 = .ok (.istore 4, 2) := by decide +kernel
theorem dX9_placeIn_48 : decode cX9_placeIn 48 = .ok (.aload_n 0, 1) := by decide +kernel
theorem dX9_placeIn_49 : decode cX9_placeIn 49 = .ok (.getfield 144, 3) := by decide +kernel
theorem dX9_placeIn_52 : decode cX9_placeIn 52 = .ok (.iconst 1, 1) := by decide +kernel
theorem dX9_placeIn_53 : decode cX9_placeIn 53 = .ok (.if_icmp .ne 23, 3) := by decide +kernel
theorem dX9_placeIn_56 : decode cX9_placeIn 56 = .ok (.aload_n 0, 1) := by decide +kernel
theorem dX9_placeIn_57 : decode cX9_placeIn 57 = .ok (.getfield 57, 3) := by decide +kernel
theorem dX9_placeIn_60 : decode cX9_placeIn 60 = .ok (.iload_n 3, 1) := by decide +kernel
theorem dX9_placeIn_61 : decode cX9_placeIn 61 = .ok (.iaload, 1) := by decide +kernel
theorem dX9_placeIn_62 : decode cX9_placeIn 62 = .ok (.iload_n 3, 1) := by decide +kernel
theorem dX9_placeIn_63 : decode cX9_placeIn 63 = .ok (.aload_n 0, 1) := by decide +kernel
theorem dX9_placeIn_64 : decode cX9_placeIn 64 = .ok (.getfield 57, 3) := by decide +kernel
theorem dX9_placeIn_67 : decode cX9_placeIn 67 = .ok (.iload_n 1, 1) := by decide +kernel
theorem dX9_placeIn_68 : decode cX9_placeIn 68 = .ok (.iaload, 1) := by decide +kernel
theorem dX9_placeIn_69 : decode cX9_placeIn 69 = .ok (.iload_n 1, 1) := by decide +kernel
theorem dX9_placeIn_70 : decode cX9_placeIn 70 = .ok (.invokestatic 168, 3) := by decide +kernel
theorem dX9_placeIn_73 : decode cX9_placeIn 73 = .ok (.goto 20, 3) := by decide +kernel
theorem dX9_placeIn_76 : decode cX9_placeIn 76 = .ok (.aload_n 0, 1) := by decide +kernel
theorem dX9_placeIn_77 : decode cX9_placeIn 77 = .ok (.getfield 63, 3) := by decide +kernel
theorem dX9_placeIn_80 : decode cX9_placeIn 80 = .ok (.iload_n 3, 1) := by decide +kernel
theorem dX9_placeIn_81 : decode cX9_placeIn 81 = .ok (.iaload, 1) := by decide +kernel
theorem dX9_placeIn_82 : decode cX9_placeIn 82 = .ok (.iload_n 3, 1) := by decide +kernel
theorem dX9_placeIn_83 : decode cX9_placeIn 83 = .ok (.aload_n 0, 1) := by decide +kernel
theorem dX9_placeIn_84 : decode cX9_placeIn 84 = .ok (.getfield 63, 3) := by decide +kernel
theorem dX9_placeIn_87 : decode cX9_placeIn 87 = .ok (.iload_n 1, 1) := by decide +kernel
theorem dX9_placeIn_88 : decode cX9_placeIn 88 = .ok (.iaload, 1) := by decide +kernel
theorem dX9_placeIn_89 : decode cX9_placeIn 89 = .ok (.iload_n 1, 1) := by decide +kernel
theorem dX9_placeIn_90 : decode cX9_placeIn 90 = .ok (.invokestatic 168, 3) := by decide +kernel
theorem dX9_placeIn_93 : decode cX9_placeIn 93 = .ok (.istore 5, 2) := by decide +kernel
theorem dX9_placeIn_95 : decode cX9_placeIn 95 = .ok (.iload_n 2, 1) := by decide +kernel
theorem dX9_placeIn_96 : decode cX9_placeIn 96 = .ok (.iload 4, 2) := by decide +kernel
theorem dX9_placeIn_98 : decode cX9_placeIn 98 = .ok (.ifCond .eq 12, 3) := by decide +kernel
theorem dX9_placeIn_101 : decode cX9_placeIn 101 = .ok (.iload 5, 2) := by decide +kernel
theorem dX9_placeIn_103 : decode cX9_placeIn 103 = .ok (.ifCond .eq 7, 3) := by decide +kernel
theorem dX9_placeIn_106 : decode cX9_placeIn 106 = .ok (.iconst 1, 1) := by decide +kernel
theorem dX9_placeIn_107 : decode cX9_placeIn 107 = .ok (.goto 4, 3) := by decide +kernel
theorem dX9_placeIn_110 : decode cX9_placeIn 110 = .ok (.iconst 0, 1) := by decide +kernel
theorem dX9_placeIn_111 : decode cX9_placeIn 111 = .ok (.iadd, 1) := by decide +kernel
theorem dX9_placeIn_112 : decode cX9_placeIn 112 = .ok (.istore_n 2, 1) := by decide +kernel
theorem dX9_placeIn_113 : decode cX9_placeIn 113 = .ok (.iinc 3 1, 3) := by decide +kernel
theorem dX9_placeIn_116 : decode cX9_placeIn 116 = .ok (.goto (-112), 3) := by decide +kernel
theorem dX9_placeIn_119 : decode cX9_placeIn 119 = .ok (.iload_n 2, 1) := by decide +kernel
theorem dX9_placeIn_120 : decode cX9_placeIn 120 = .ok (.ireturn, 1) := by decide +kernel
set_option maxRecDepth 20000 in
theorem ggX9_time_X9_isCrew : GoodIn wsX9_time wsX9_isCrew := goodIn_r _ [9, 10, 11, 12, 8, 13, 47, 48, 49, 50, 51, 52, 53, 54, 55, 56, 57, 58, 59, 60, 61, 62, 63, 64, 65, 66, 67, 68, 69, 70, 71, 72, 73, 74, 75, 76, 77, 78, 79, 80, 81, 82] (by decide +kernel) (by decide +kernel)
set_option maxRecDepth 20000 in
theorem gX9_time_X9_isCrew : GoodIn wsX9_time (wsV RX9 102 RX9 yX9_isCrew wsX9_isCrew) := goodIn_app (goodIn_of _ (by decide +kernel)) ggX9_time_X9_isCrew
set_option maxRecDepth 20000 in
theorem ggX9_time_X9_seedOf : GoodIn wsX9_time wsX9_seedOf := goodIn_r _ [17, 18, 19, 47, 48, 49, 50, 51, 52, 53, 54, 55, 56, 57, 58, 59, 60, 61, 62, 63, 64, 65, 66, 67, 68, 69, 70, 71, 72, 73, 74, 75, 76, 77, 78, 79, 80, 81, 82] (by decide +kernel) (by decide +kernel)
set_option maxRecDepth 20000 in
theorem gX9_time_X9_seedOf : GoodIn wsX9_time (wsV RX9 147 RX9 yX9_seedOf wsX9_seedOf) := goodIn_app (goodIn_of _ (by decide +kernel)) ggX9_time_X9_seedOf
set_option maxRecDepth 20000 in
theorem ggX9_time_X9_isIn : GoodIn wsX9_time wsX9_isIn := goodIn_r _ [13] (by decide +kernel) (by decide +kernel)
set_option maxRecDepth 20000 in
theorem gX9_time_X9_isIn : GoodIn wsX9_time (va_wsS RX9 87 yX9_isIn wsX9_isIn) := goodIn_app (goodIn_of _ (by decide +kernel)) ggX9_time_X9_isIn
set_option maxRecDepth 20000 in
theorem ggX9_time_X9_isRacing : GoodIn wsX9_time wsX9_isRacing := goodIn_r _ [23, 2, 24, 25, 26, 8, 27, 28, 29, 47, 48, 49, 50, 51, 52, 53, 54, 55, 56, 57, 58, 59, 60, 61, 62, 63, 64, 65, 66, 67, 68, 69, 70, 71, 72, 73, 74, 75, 76, 77, 78, 79, 80, 81, 82] (by decide +kernel) (by decide +kernel)
set_option maxRecDepth 20000 in
theorem gX9_time_X9_isRacing : GoodIn wsX9_time (wsV RX9 173 RX9 yX9_isRacing wsX9_isRacing) := goodIn_app (goodIn_of _ (by decide +kernel)) ggX9_time_X9_isRacing
set_option maxRecDepth 20000 in
theorem ggX9_time_X9_holds : GoodIn wsX9_time wsX9_holds := goodIn_r _ [33, 34, 47, 48, 49, 50, 51, 52, 53, 54, 55, 56, 57, 58, 59, 60, 61, 62, 63, 64, 65, 66, 67, 68, 69, 70, 71, 72, 73, 74, 75, 76, 77, 78, 79, 80, 81, 82] (by decide +kernel) (by decide +kernel)
set_option maxRecDepth 20000 in
theorem gX9_time_X9_holds : GoodIn wsX9_time (wsV RX9 91 RX9 yX9_holds wsX9_holds) := goodIn_app (goodIn_of _ (by decide +kernel)) ggX9_time_X9_holds
set_option maxRecDepth 20000 in
theorem ggX9_time_X9_placeIn : GoodIn wsX9_time wsX9_placeIn := goodIn_r _ [38, 18, 2, 3, 4, 39, 40, 41, 8, 42, 43, 24, 25, 26, 27, 28, 29, 44, 45, 46, 47, 48, 49, 50, 51, 52, 53, 54, 55, 56, 57, 58, 59, 60, 61, 62, 63, 64, 65, 66, 67, 68, 69, 70, 71, 72, 73, 74, 75, 76, 77, 78, 79, 80, 81, 82] (by decide +kernel) (by decide +kernel)
set_option maxRecDepth 20000 in
theorem gX9_time_X9_placeIn : GoodIn wsX9_time (wsV RX9 176 RX9 yX9_placeIn wsX9_placeIn) := goodIn_app (goodIn_of _ (by decide +kernel)) ggX9_time_X9_placeIn
theorem dX9_time_0 : decode cX9_time 0 = .ok (.aload_n 0, 1) := by decide +kernel
theorem dX9_time_1 : decode cX9_time 1 = .ok (.iload_n 1, 1) := by decide +kernel
theorem dX9_time_2 : decode cX9_time 2 = .ok (.invokevirtual 102, 3) := by decide +kernel
theorem dX9_time_5 : decode cX9_time 5 = .ok (.istore_n 3, 1) := by decide +kernel
theorem dX9_time_6 : decode cX9_time 6 = .ok (.iload_n 3, 1) := by decide +kernel
theorem dX9_time_7 : decode cX9_time 7 = .ok (.ifCond .eq 11, 3) := by decide +kernel
theorem dX9_time_10 : decode cX9_time 10 = .ok (.aload_n 0, 1) := by decide +kernel
theorem dX9_time_11 : decode cX9_time 11 = .ok (.iload_n 1, 1) := by decide +kernel
theorem dX9_time_12 : decode cX9_time 12 = .ok (.invokevirtual 147, 3) := by decide +kernel
theorem dX9_time_15 : decode cX9_time 15 = .ok (.goto 4, 3) := by decide +kernel
theorem dX9_time_18 : decode cX9_time 18 = .ok (.iconst (-1), 1) := by decide +kernel
theorem dX9_time_19 : decode cX9_time 19 = .ok (.istore 4, 2) := by decide +kernel
theorem dX9_time_21 : decode cX9_time 21 = .ok (.aload_n 0, 1) := by decide +kernel
theorem dX9_time_22 : decode cX9_time 22 = .ok (.iload_n 3, 1) := by decide +kernel
theorem dX9_time_23 : decode cX9_time 23 = .ok (.ifCond .ne 7, 3) := by decide +kernel
theorem dX9_time_26 : decode cX9_time 26 = .ok (.iconst 1, 1) := by decide +kernel
theorem dX9_time_27 : decode cX9_time 27 = .ok (.goto 31, 3) := by decide +kernel
theorem dX9_time_30 : decode cX9_time 30 = .ok (.iload_n 2, 1) := by decide +kernel
theorem dX9_time_31 : decode cX9_time 31 = .ok (.iconst 1, 1) := by decide +kernel
theorem dX9_time_32 : decode cX9_time 32 = .ok (.ldc 172, 2) := by decide +kernel
theorem dX9_time_34 : decode cX9_time 34 = .ok (.invokestatic 87, 3) := by decide +kernel
theorem dX9_time_37 : decode cX9_time 37 = .ok (.ifCond .ne 7, 3) := by decide +kernel
theorem dX9_time_40 : decode cX9_time 40 = .ok (.iconst 2, 1) := by decide +kernel
theorem dX9_time_41 : decode cX9_time 41 = .ok (.goto 17, 3) := by decide +kernel
theorem dX9_time_44 : decode cX9_time 44 = .ok (.aload_n 0, 1) := by decide +kernel
theorem dX9_time_45 : decode cX9_time 45 = .ok (.iload 4, 2) := by decide +kernel
theorem dX9_time_47 : decode cX9_time 47 = .ok (.invokevirtual 173, 3) := by decide +kernel
theorem dX9_time_50 : decode cX9_time 50 = .ok (.ifCond .ne 7, 3) := by decide +kernel
theorem dX9_time_53 : decode cX9_time 53 = .ok (.iconst 3, 1) := by decide +kernel
theorem dX9_time_54 : decode cX9_time 54 = .ok (.goto 4, 3) := by decide +kernel
theorem dX9_time_57 : decode cX9_time 57 = .ok (.iconst 0, 1) := by decide +kernel
theorem dX9_time_58 : decode cX9_time 58 = .ok (.invokevirtual 91, 3) := by decide +kernel
theorem dX9_time_61 : decode cX9_time 61 = .ok (.ifCond .ne 5, 3) := by decide +kernel
theorem dX9_time_64 : decode cX9_time 64 = .ok (.iconst 0, 1) := by decide +kernel
theorem dX9_time_65 : decode cX9_time 65 = .ok (.ireturn, 1) := by decide +kernel
theorem dX9_time_66 : decode cX9_time 66 = .ok (.aload_n 0, 1) := by decide +kernel
theorem dX9_time_67 : decode cX9_time 67 = .ok (.getfield 144, 3) := by decide +kernel
theorem dX9_time_70 : decode cX9_time 70 = .ok (.iconst 1, 1) := by decide +kernel
theorem dX9_time_71 : decode cX9_time 71 = .ok (.if_icmp .ne 14, 3) := by decide +kernel
theorem dX9_time_74 : decode cX9_time 74 = .ok (.aload_n 0, 1) := by decide +kernel
theorem dX9_time_75 : decode cX9_time 75 = .ok (.getfield 57, 3) := by decide +kernel
theorem dX9_time_78 : decode cX9_time 78 = .ok (.iload 4, 2) := by decide +kernel
theorem dX9_time_80 : decode cX9_time 80 = .ok (.iload_n 2, 1) := by decide +kernel
theorem dX9_time_81 : decode cX9_time 81 = .ok (.iastore, 1) := by decide +kernel
theorem dX9_time_82 : decode cX9_time 82 = .ok (.goto 11, 3) := by decide +kernel
theorem dX9_time_85 : decode cX9_time 85 = .ok (.aload_n 0, 1) := by decide +kernel
theorem dX9_time_86 : decode cX9_time 86 = .ok (.getfield 63, 3) := by decide +kernel
theorem dX9_time_89 : decode cX9_time 89 = .ok (.iload 4, 2) := by decide +kernel
theorem dX9_time_91 : decode cX9_time 91 = .ok (.iload_n 2, 1) := by decide +kernel
theorem dX9_time_92 : decode cX9_time 92 = .ok (.iastore, 1) := by decide +kernel
theorem dX9_time_93 : decode cX9_time 93 = .ok (.aload_n 0, 1) := by decide +kernel
theorem dX9_time_94 : decode cX9_time 94 = .ok (.iload 4, 2) := by decide +kernel
theorem dX9_time_96 : decode cX9_time 96 = .ok (.invokevirtual 176, 3) := by decide +kernel
theorem dX9_time_99 : decode cX9_time 99 = .ok (.ireturn, 1) := by decide +kernel
set_option maxRecDepth 20000 in
theorem ggX9_goesOn_X9_placeIn : GoodIn wsX9_goesOn wsX9_placeIn := goodIn_r _ [11, 3, 12, 5, 4, 13, 14, 15, 10, 16, 2, 17, 18, 19, 20, 1, 6, 21, 22, 23, 24, 25, 26, 27, 28, 29, 30, 31, 32, 33, 34, 35, 36, 37, 38, 39, 40, 41, 42, 43, 44, 45, 46, 47, 48, 49, 50, 51, 52, 53, 54, 55, 56, 57, 58, 59] (by decide +kernel) (by decide +kernel)
set_option maxRecDepth 20000 in
theorem gX9_goesOn_X9_placeIn : GoodIn wsX9_goesOn (wsV RX9 176 RX9 yX9_placeIn wsX9_placeIn) := goodIn_app (goodIn_of _ (by decide +kernel)) ggX9_goesOn_X9_placeIn
set_option maxRecDepth 20000 in
theorem ggX9_goesOn_X9_isAhead : GoodIn wsX9_goesOn wsX9_isAhead := goodIn_r _ [23] (by decide +kernel) (by decide +kernel)
set_option maxRecDepth 20000 in
theorem gX9_goesOn_X9_isAhead : GoodIn wsX9_goesOn (va_wsS RX9 168 yX9_isAhead wsX9_isAhead) := goodIn_app (goodIn_of _ (by decide +kernel)) ggX9_goesOn_X9_isAhead
theorem dX9_goesOn_0 : decode cX9_goesOn 0 = .ok (.aload_n 0, 1) := by decide +kernel
theorem dX9_goesOn_1 : decode cX9_goesOn 1 = .ok (.iconst 0, 1) := by decide +kernel
theorem dX9_goesOn_2 : decode cX9_goesOn 2 = .ok (.putfield 153, 3) := by decide +kernel
theorem dX9_goesOn_5 : decode cX9_goesOn 5 = .ok (.bipush 6, 2) := by decide +kernel
theorem dX9_goesOn_7 : decode cX9_goesOn 7 = .ok (.aload_n 0, 1) := by decide +kernel
theorem dX9_goesOn_8 : decode cX9_goesOn 8 = .ok (.getfield 150, 3) := by decide +kernel
theorem dX9_goesOn_11 : decode cX9_goesOn 11 = .ok (.idiv, 1) := by decide +kernel
theorem dX9_goesOn_12 : decode cX9_goesOn 12 = .ok (.istore_n 1, 1) := by decide +kernel
theorem dX9_goesOn_13 : decode cX9_goesOn 13 = .ok (.iconst 0, 1) := by decide +kernel
theorem dX9_goesOn_14 : decode cX9_goesOn 14 = .ok (.istore_n 2, 1) := by decide +kernel
theorem dX9_goesOn_15 : decode cX9_goesOn 15 = .ok (.iload_n 2, 1) := by decide +kernel
theorem dX9_goesOn_16 : decode cX9_goesOn 16 = .ok (.aload_n 0, 1) := by decide +kernel
theorem dX9_goesOn_17 : decode cX9_goesOn 17 = .ok (.getfield 141, 3) := by decide +kernel
theorem dX9_goesOn_20 : decode cX9_goesOn 20 = .ok (.if_icmp .ge 29, 3) := by decide +kernel
theorem dX9_goesOn_23 : decode cX9_goesOn 23 = .ok (.aload_n 0, 1) := by decide +kernel
theorem dX9_goesOn_24 : decode cX9_goesOn 24 = .ok (.getfield 63, 3) := by decide +kernel
theorem dX9_goesOn_27 : decode cX9_goesOn 27 = .ok (.iload_n 2, 1) := by decide +kernel
theorem dX9_goesOn_28 : decode cX9_goesOn 28 = .ok (.aload_n 0, 1) := by decide +kernel
theorem dX9_goesOn_29 : decode cX9_goesOn 29 = .ok (.iload_n 2, 1) := by decide +kernel
theorem dX9_goesOn_30 : decode cX9_goesOn 30 = .ok (.invokevirtual 176, 3) := by decide +kernel
theorem dX9_goesOn_33 : decode cX9_goesOn 33 = .ok (.iload_n 1, 1) := by decide +kernel
theorem dX9_goesOn_34 : decode cX9_goesOn 34 = .ok (.if_icmp .ge 7, 3) := by decide +kernel
theorem dX9_goesOn_37 : decode cX9_goesOn 37 = .ok (.iconst 1, 1) := by decide +kernel
theorem dX9_goesOn_38 : decode cX9_goesOn 38 = .ok (.goto 4, 3) := by decide +kernel
theorem dX9_goesOn_41 : decode cX9_goesOn 41 = .ok (.iconst 0, 1) := by decide +kernel
theorem dX9_goesOn_42 : decode cX9_goesOn 42 = .ok (.iastore, 1) := by decide +kernel
theorem dX9_goesOn_43 : decode cX9_goesOn 43 = .ok (.iinc 2 1, 3) := by decide +kernel
theorem dX9_goesOn_46 : decode cX9_goesOn 46 = .ok (.goto (-31), 3) := by decide +kernel
theorem dX9_goesOn_49 : decode cX9_goesOn 49 = .ok (.bipush 6, 2) := by decide +kernel
theorem dX9_goesOn_51 : decode cX9_goesOn 51 = .ok (.iload_n 1, 1) := by decide +kernel
theorem dX9_goesOn_52 : decode cX9_goesOn 52 = .ok (.aload_n 0, 1) := by decide +kernel
theorem dX9_goesOn_53 : decode cX9_goesOn 53 = .ok (.getfield 150, 3) := by decide +kernel
theorem dX9_goesOn_56 : decode cX9_goesOn 56 = .ok (.imul, 1) := by decide +kernel
theorem dX9_goesOn_57 : decode cX9_goesOn 57 = .ok (.isub, 1) := by decide +kernel
theorem dX9_goesOn_58 : decode cX9_goesOn 58 = .ok (.istore_n 2, 1) := by decide +kernel
theorem dX9_goesOn_59 : decode cX9_goesOn 59 = .ok (.iconst 0, 1) := by decide +kernel
theorem dX9_goesOn_60 : decode cX9_goesOn 60 = .ok (.istore_n 3, 1) := by decide +kernel
theorem dX9_goesOn_61 : decode cX9_goesOn 61 = .ok (.iload_n 3, 1) := by decide +kernel
theorem dX9_goesOn_62 : decode cX9_goesOn 62 = .ok (.aload_n 0, 1) := by decide +kernel
theorem dX9_goesOn_63 : decode cX9_goesOn 63 = .ok (.getfield 141, 3) := by decide +kernel
theorem dX9_goesOn_66 : decode cX9_goesOn 66 = .ok (.if_icmp .ge 113, 3) := by decide +kernel
theorem dX9_goesOn_69 : decode cX9_goesOn 69 = .ok (.iconst 0, 1) := by decide +kernel
theorem dX9_goesOn_70 : decode cX9_goesOn 70 = .ok (.istore 4, 2) := by decide +kernel
theorem dX9_goesOn_72 : decode cX9_goesOn 72 = .ok (.iconst 0, 1) := by decide +kernel
theorem dX9_goesOn_73 : decode cX9_goesOn 73 = .ok (.istore 5, 2) := by decide +kernel
theorem dX9_goesOn_75 : decode cX9_goesOn 75 = .ok (.iload 5, 2) := by decide +kernel
theorem dX9_goesOn_77 : decode cX9_goesOn 77 = .ok (.aload_n 0, 1) := by decide +kernel
theorem dX9_goesOn_78 : decode cX9_goesOn 78 = .ok (.getfield 141, 3) := by decide +kernel
theorem dX9_goesOn_81 : decode cX9_goesOn 81 = .ok (.if_icmp .ge 52, 3) := by decide +kernel
theorem dX9_goesOn_84 : decode cX9_goesOn 84 = .ok (.iload 4, 2) := by decide +kernel
theorem dX9_goesOn_86 : decode cX9_goesOn 86 = .ok (.aload_n 0, 1) := by decide +kernel
theorem dX9_goesOn_87 : decode cX9_goesOn 87 = .ok (.getfield 63, 3) := by decide +kernel
theorem dX9_goesOn_90 : decode cX9_goesOn 90 = .ok (.iload 5, 2) := by decide +kernel
theorem dX9_goesOn_92 : decode cX9_goesOn 92 = .ok (.iaload, 1) := by decide +kernel
theorem dX9_goesOn_93 : decode cX9_goesOn 93 = .ok (.iconst 1, 1) := by decide +kernel
theorem dX9_goesOn_94 : decode cX9_goesOn 94 = .ok (.if_icmp .eq 29, 3) := by decide +kernel
theorem dX9_goesOn_97 : decode cX9_goesOn 97 = .ok (.aload_n 0, 1) := by decide +kernel
theorem dX9_goesOn_98 : decode cX9_goesOn 98 = .ok (.getfield 57, 3) := by decide +kernel
theorem dX9_goesOn_101 : decode cX9_goesOn 101 = .ok (.iload 5, 2) := by decide +kernel
theorem dX9_goesOn_103 : decode cX9_goesOn 103 = .ok (.iaload, 1) := by decide +kernel
theorem dX9_goesOn_104 : decode cX9_goesOn 104 = .ok (.iload 5, 2) := by decide +kernel
theorem dX9_goesOn_106 : decode cX9_goesOn 106 = .ok (.aload_n 0, 1) := by decide +kernel
theorem dX9_goesOn_107 : decode cX9_goesOn 107 = .ok (.getfield 57, 3) := by decide +kernel
theorem dX9_goesOn_110 : decode cX9_goesOn 110 = .ok (.iload_n 3, 1) := by decide +kernel
theorem dX9_goesOn_111 : decode cX9_goesOn 111 = .ok (.iaload, 1) := by decide +kernel
theorem dX9_goesOn_112 : decode cX9_goesOn 112 = .ok (.iload_n 3, 1) := by decide +kernel
theorem dX9_goesOn_113 : decode cX9_goesOn 113 = .ok (.invokestatic 168, 3) := by decide +kernel
theorem dX9_goesOn_116 : decode cX9_goesOn 116 = .ok (.ifCond .eq 7, 3) := by decide +kernel
theorem dX9_goesOn_119 : decode cX9_goesOn 119 = .ok (.iconst 1, 1) := by decide +kernel
theorem dX9_goesOn_120 : decode cX9_goesOn 120 = .ok (.goto 4, 3) := by decide +kernel
theorem dX9_goesOn_123 : decode cX9_goesOn 123 = .ok (.iconst 0, 1) := by decide +kernel
theorem dX9_goesOn_124 : decode cX9_goesOn 124 = .ok (.iadd, 1) := by decide +kernel
theorem dX9_goesOn_125 : decode cX9_goesOn 125 = .ok (.istore 4, 2) := by decide +kernel
theorem dX9_goesOn_127 : decode cX9_goesOn 127 = .ok (.iinc 5 1, 3) := by decide +kernel
theorem dX9_goesOn_130 : decode cX9_goesOn 130 = .ok (.goto (-55), 3) := by decide +kernel
theorem dX9_goesOn_133 : decode cX9_goesOn 133 = .ok (.aload_n 0, 1) := by decide +kernel
theorem dX9_goesOn_134 : decode cX9_goesOn 134 = .ok (.getfield 63, 3) := by decide +kernel
theorem dX9_goesOn_137 : decode cX9_goesOn 137 = .ok (.iload_n 3, 1) := by decide +kernel
theorem dX9_goesOn_138 : decode cX9_goesOn 138 = .ok (.aload_n 0, 1) := by decide +kernel
theorem dX9_goesOn_139 : decode cX9_goesOn 139 = .ok (.getfield 63, 3) := by decide +kernel
theorem dX9_goesOn_142 : decode cX9_goesOn 142 = .ok (.iload_n 3, 1) := by decide +kernel
theorem dX9_goesOn_143 : decode cX9_goesOn 143 = .ok (.iaload, 1) := by decide +kernel
theorem dX9_goesOn_144 : decode cX9_goesOn 144 = .ok (.ifCond .ne 22, 3) := by decide +kernel
theorem dX9_goesOn_147 : decode cX9_goesOn 147 = .ok (.iload 4, 2) := by decide +kernel
theorem dX9_goesOn_149 : decode cX9_goesOn 149 = .ok (.iload_n 2, 1) := by decide +kernel
theorem dX9_goesOn_150 : decode cX9_goesOn 150 = .ok (.if_icmp .ge 16, 3) := by decide +kernel
theorem dX9_goesOn_153 : decode cX9_goesOn 153 = .ok (.aload_n 0, 1) := by decide +kernel
theorem dX9_goesOn_154 : decode cX9_goesOn 154 = .ok (.getfield 57, 3) := by decide +kernel
theorem dX9_goesOn_157 : decode cX9_goesOn 157 = .ok (.iload_n 3, 1) := by decide +kernel
theorem dX9_goesOn_158 : decode cX9_goesOn 158 = .ok (.iaload, 1) := by decide +kernel
theorem dX9_goesOn_159 : decode cX9_goesOn 159 = .ok (.ifCond .le 7, 3) := by decide +kernel
theorem dX9_goesOn_162 : decode cX9_goesOn 162 = .ok (.iconst 2, 1) := by decide +kernel
theorem dX9_goesOn_163 : decode cX9_goesOn 163 = .ok (.goto 9, 3) := by decide +kernel
theorem dX9_goesOn_166 : decode cX9_goesOn 166 = .ok (.aload_n 0, 1) := by decide +kernel
theorem dX9_goesOn_167 : decode cX9_goesOn 167 = .ok (.getfield 63, 3) := by decide +kernel
theorem dX9_goesOn_170 : decode cX9_goesOn 170 = .ok (.iload_n 3, 1) := by decide +kernel
theorem dX9_goesOn_171 : decode cX9_goesOn 171 = .ok (.iaload, 1) := by decide +kernel
theorem dX9_goesOn_172 : decode cX9_goesOn 172 = .ok (.iastore, 1) := by decide +kernel
theorem dX9_goesOn_173 : decode cX9_goesOn 173 = .ok (.iinc 3 1, 3) := by decide +kernel
theorem dX9_goesOn_176 : decode cX9_goesOn 176 = .ok (.goto (-115), 3) := by decide +kernel
theorem dX9_goesOn_179 : decode cX9_goesOn 179 = .ok (.iconst 0, 1) := by decide +kernel
theorem dX9_goesOn_180 : decode cX9_goesOn 180 = .ok (.istore_n 3, 1) := by decide +kernel
theorem dX9_goesOn_181 : decode cX9_goesOn 181 = .ok (.iload_n 3, 1) := by decide +kernel
theorem dX9_goesOn_182 : decode cX9_goesOn 182 = .ok (.aload_n 0, 1) := by decide +kernel
theorem dX9_goesOn_183 : decode cX9_goesOn 183 = .ok (.getfield 141, 3) := by decide +kernel
theorem dX9_goesOn_186 : decode cX9_goesOn 186 = .ok (.if_icmp .ge 99, 3) := by decide +kernel
theorem dX9_goesOn_189 : decode cX9_goesOn 189 = .ok (.iconst 0, 1) := by decide +kernel
theorem dX9_goesOn_190 : decode cX9_goesOn 190 = .ok (.istore 4, 2) := by decide +kernel
theorem dX9_goesOn_192 : decode cX9_goesOn 192 = .ok (.iconst 0, 1) := by decide +kernel
theorem dX9_goesOn_193 : decode cX9_goesOn 193 = .ok (.istore 5, 2) := by decide +kernel
theorem dX9_goesOn_195 : decode cX9_goesOn 195 = .ok (.iload 5, 2) := by decide +kernel
theorem dX9_goesOn_197 : decode cX9_goesOn 197 = .ok (.aload_n 0, 1) := by decide +kernel
theorem dX9_goesOn_198 : decode cX9_goesOn 198 = .ok (.getfield 141, 3) := by decide +kernel
theorem dX9_goesOn_201 : decode cX9_goesOn 201 = .ok (.if_icmp .ge 51, 3) := by decide +kernel
theorem dX9_goesOn_204 : decode cX9_goesOn 204 = .ok (.iload 4, 2) := by decide +kernel
theorem dX9_goesOn_206 : decode cX9_goesOn 206 = .ok (.aload_n 0, 1) := by decide +kernel
theorem dX9_goesOn_207 : decode cX9_goesOn 207 = .ok (.getfield 63, 3) := by decide +kernel
theorem dX9_goesOn_210 : decode cX9_goesOn 210 = .ok (.iload 5, 2) := by decide +kernel
theorem dX9_goesOn_212 : decode cX9_goesOn 212 = .ok (.iaload, 1) := by decide +kernel
theorem dX9_goesOn_213 : decode cX9_goesOn 213 = .ok (.ifCond .le 29, 3) := by decide +kernel
theorem dX9_goesOn_216 : decode cX9_goesOn 216 = .ok (.aload_n 0, 1) := by decide +kernel
theorem dX9_goesOn_217 : decode cX9_goesOn 217 = .ok (.getfield 57, 3) := by decide +kernel
theorem dX9_goesOn_220 : decode cX9_goesOn 220 = .ok (.iload 5, 2) := by decide +kernel
theorem dX9_goesOn_222 : decode cX9_goesOn 222 = .ok (.iaload, 1) := by decide +kernel
theorem dX9_goesOn_223 : decode cX9_goesOn 223 = .ok (.iload 5, 2) := by decide +kernel
theorem dX9_goesOn_225 : decode cX9_goesOn 225 = .ok (.aload_n 0, 1) := by decide +kernel
theorem dX9_goesOn_226 : decode cX9_goesOn 226 = .ok (.getfield 57, 3) := by decide +kernel
theorem dX9_goesOn_229 : decode cX9_goesOn 229 = .ok (.iload_n 3, 1) := by decide +kernel
theorem dX9_goesOn_230 : decode cX9_goesOn 230 = .ok (.iaload, 1) := by decide +kernel
theorem dX9_goesOn_231 : decode cX9_goesOn 231 = .ok (.iload_n 3, 1) := by decide +kernel
theorem dX9_goesOn_232 : decode cX9_goesOn 232 = .ok (.invokestatic 168, 3) := by decide +kernel
theorem dX9_goesOn_235 : decode cX9_goesOn 235 = .ok (.ifCond .eq 7, 3) := by decide +kernel
theorem dX9_goesOn_238 : decode cX9_goesOn 238 = .ok (.iconst 1, 1) := by decide +kernel
theorem dX9_goesOn_239 : decode cX9_goesOn 239 = .ok (.goto 4, 3) := by decide +kernel
theorem dX9_goesOn_242 : decode cX9_goesOn 242 = .ok (.iconst 0, 1) := by decide +kernel
theorem dX9_goesOn_243 : decode cX9_goesOn 243 = .ok (.iadd, 1) := by decide +kernel
theorem dX9_goesOn_244 : decode cX9_goesOn 244 = .ok (.istore 4, 2) := by decide +kernel
theorem dX9_goesOn_246 : decode cX9_goesOn 246 = .ok (.iinc 5 1, 3) := by decide +kernel
theorem dX9_goesOn_249 : decode cX9_goesOn 249 = .ok (.goto (-54), 3) := by decide +kernel
theorem dX9_goesOn_252 : decode cX9_goesOn 252 = .ok (.aload_n 0, 1) := by decide +kernel
theorem dX9_goesOn_253 : decode cX9_goesOn 253 = .ok (.getfield 63, 3) := by decide +kernel
theorem dX9_goesOn_256 : decode cX9_goesOn 256 = .ok (.iload_n 3, 1) := by decide +kernel
theorem dX9_goesOn_257 : decode cX9_goesOn 257 = .ok (.iaload, 1) := by decide +kernel
theorem dX9_goesOn_258 : decode cX9_goesOn 258 = .ok (.ifCond .le 21, 3) := by decide +kernel
theorem dX9_goesOn_261 : decode cX9_goesOn 261 = .ok (.aload_n 0, 1) := by decide +kernel
theorem dX9_goesOn_262 : decode cX9_goesOn 262 = .ok (.getfield 60, 3) := by decide +kernel
theorem dX9_goesOn_265 : decode cX9_goesOn 265 = .ok (.iload 4, 2) := by decide +kernel
theorem dX9_goesOn_267 : decode cX9_goesOn 267 = .ok (.iload_n 3, 1) := by decide +kernel
theorem dX9_goesOn_268 : decode cX9_goesOn 268 = .ok (.iastore, 1) := by decide +kernel
theorem dX9_goesOn_269 : decode cX9_goesOn 269 = .ok (.aload_n 0, 1) := by decide +kernel
theorem dX9_goesOn_270 : decode cX9_goesOn 270 = .ok (.dup, 1) := by decide +kernel
theorem dX9_goesOn_271 : decode cX9_goesOn 271 = .ok (.getfield 153, 3) := by decide +kernel
theorem dX9_goesOn_274 : decode cX9_goesOn 274 = .ok (.iconst 1, 1) := by decide +kernel
theorem dX9_goesOn_275 : decode cX9_goesOn 275 = .ok (.iadd, 1) := by decide +kernel
theorem dX9_goesOn_276 : decode cX9_goesOn 276 = .ok (.putfield 153, 3) := by decide +kernel
theorem dX9_goesOn_279 : decode cX9_goesOn 279 = .ok (.iinc 3 1, 3) := by decide +kernel
theorem dX9_goesOn_282 : decode cX9_goesOn 282 = .ok (.goto (-101), 3) := by decide +kernel
theorem dX9_goesOn_285 : decode cX9_goesOn 285 = .ok (.iconst 0, 1) := by decide +kernel
theorem dX9_goesOn_286 : decode cX9_goesOn 286 = .ok (.istore_n 3, 1) := by decide +kernel
theorem dX9_goesOn_287 : decode cX9_goesOn 287 = .ok (.iload_n 3, 1) := by decide +kernel
theorem dX9_goesOn_288 : decode cX9_goesOn 288 = .ok (.aload_n 0, 1) := by decide +kernel
theorem dX9_goesOn_289 : decode cX9_goesOn 289 = .ok (.getfield 141, 3) := by decide +kernel
theorem dX9_goesOn_292 : decode cX9_goesOn 292 = .ok (.if_icmp .ge 16, 3) := by decide +kernel
theorem dX9_goesOn_295 : decode cX9_goesOn 295 = .ok (.aload_n 0, 1) := by decide +kernel
theorem dX9_goesOn_296 : decode cX9_goesOn 296 = .ok (.getfield 63, 3) := by decide +kernel
theorem dX9_goesOn_299 : decode cX9_goesOn 299 = .ok (.iload_n 3, 1) := by decide +kernel
theorem dX9_goesOn_300 : decode cX9_goesOn 300 = .ok (.iconst 0, 1) := by decide +kernel
theorem dX9_goesOn_301 : decode cX9_goesOn 301 = .ok (.iastore, 1) := by decide +kernel
theorem dX9_goesOn_302 : decode cX9_goesOn 302 = .ok (.iinc 3 1, 3) := by decide +kernel
theorem dX9_goesOn_305 : decode cX9_goesOn 305 = .ok (.goto (-18), 3) := by decide +kernel
theorem dX9_goesOn_308 : decode cX9_goesOn 308 = .ok (.return_, 1) := by decide +kernel
set_option maxRecDepth 20000 in
theorem ggX9_ends_X9_isFinalist : GoodIn wsX9_ends wsX9_isFinalist := goodIn_r _ [11, 12, 13, 30, 31, 32, 33, 34, 35, 36, 37, 38, 39, 40, 41, 42, 43, 44, 45, 46, 47, 48, 49, 50, 51, 52, 53, 54, 55, 56, 57, 58, 59, 60, 61, 62, 63, 64, 65] (by decide +kernel) (by decide +kernel)
set_option maxRecDepth 20000 in
theorem gX9_ends_X9_isFinalist : GoodIn wsX9_ends (wsV RX9 165 RX9 yX9_isFinalist wsX9_isFinalist) := goodIn_app (goodIn_of _ (by decide +kernel)) ggX9_ends_X9_isFinalist
set_option maxRecDepth 20000 in
theorem ggX9_ends_X9_placeIn : GoodIn wsX9_ends wsX9_placeIn := goodIn_r _ [17, 2, 3, 6, 5, 18, 19, 20, 10, 21, 22, 7, 8, 9, 11, 12, 13, 23, 24, 25, 30, 31, 32, 33, 34, 35, 36, 37, 38, 39, 40, 41, 42, 43, 44, 45, 46, 47, 48, 49, 50, 51, 52, 53, 54, 55, 56, 57, 58, 59, 60, 61, 62, 63, 64, 65] (by decide +kernel) (by decide +kernel)
set_option maxRecDepth 20000 in
theorem gX9_ends_X9_placeIn : GoodIn wsX9_ends (wsV RX9 176 RX9 yX9_placeIn wsX9_placeIn) := goodIn_app (goodIn_of _ (by decide +kernel)) ggX9_ends_X9_placeIn
set_option maxRecDepth 20000 in
theorem ggX9_ends_X9_goesOn : GoodIn wsX9_ends wsX9_goesOn := goodIn_r _ [29, 12, 22, 2, 5, 6, 13, 14, 15, 16, 10, 17, 3, 18, 19, 20, 21, 7, 8, 9, 11, 23, 24, 25, 30, 31, 32, 33, 34, 35, 36, 37, 38, 39, 40, 41, 42, 43, 44, 45, 46, 47, 48, 49, 50, 51, 52, 53, 54, 55, 56, 57, 58, 59, 60, 61, 62, 63, 64, 65] (by decide +kernel) (by decide +kernel)
set_option maxRecDepth 20000 in
theorem gX9_ends_X9_goesOn : GoodIn wsX9_ends (wsV RX9 182 RX9 yX9_goesOn wsX9_goesOn) := goodIn_app (goodIn_of _ (by decide +kernel)) ggX9_ends_X9_goesOn
theorem dX9_ends_0 : decode cX9_ends 0 = .ok (.iload_n 1, 1) := by decide +kernel
theorem dX9_ends_1 : decode cX9_ends 1 = .ok (.ifCond .eq 98, 3) := by decide +kernel
theorem dX9_ends_4 : decode cX9_ends 4 = .ok (.aload_n 0, 1) := by decide +kernel
theorem dX9_ends_5 : decode cX9_ends 5 = .ok (.iconst 0, 1) := by decide +kernel
theorem dX9_ends_6 : decode cX9_ends 6 = .ok (.putfield 179, 3) := by decide +kernel
theorem dX9_ends_9 : decode cX9_ends 9 = .ok (.iconst 0, 1) := by decide +kernel
theorem dX9_ends_10 : decode cX9_ends 10 = .ok (.istore_n 2, 1) := by decide +kernel
theorem dX9_ends_11 : decode cX9_ends 11 = .ok (.iload_n 2, 1) := by decide +kernel
theorem dX9_ends_12 : decode cX9_ends 12 = .ok (.aload_n 0, 1) := by decide +kernel
theorem dX9_ends_13 : decode cX9_ends 13 = .ok (.getfield 141, 3) := by decide +kernel
theorem dX9_ends_16 : decode cX9_ends 16 = .ok (.if_icmp .ge 75, 3) := by decide +kernel
theorem dX9_ends_19 : decode cX9_ends 19 = .ok (.aload_n 0, 1) := by decide +kernel
theorem dX9_ends_20 : decode cX9_ends 20 = .ok (.getfield 144, 3) := by decide +kernel
theorem dX9_ends_23 : decode cX9_ends 23 = .ok (.iconst 1, 1) := by decide +kernel
theorem dX9_ends_24 : decode cX9_ends 24 = .ok (.if_icmp .eq 11, 3) := by decide +kernel
theorem dX9_ends_27 : decode cX9_ends 27 = .ok (.aload_n 0, 1) := by decide +kernel
theorem dX9_ends_28 : decode cX9_ends 28 = .ok (.iload_n 2, 1) := by decide +kernel
theorem dX9_ends_29 : decode cX9_ends 29 = .ok (.invokevirtual 165, 3) := by decide +kernel
theorem dX9_ends_32 : decode cX9_ends 32 = .ok (.ifCond .eq 53, 3) := by decide +kernel
theorem dX9_ends_35 : decode cX9_ends 35 = .ok (.aload_n 0, 1) := by decide +kernel
theorem dX9_ends_36 : decode cX9_ends 36 = .ok (.getfield 66, 3) := by decide +kernel
theorem dX9_ends_39 : decode cX9_ends 39 = .ok (.aload_n 0, 1) := by decide +kernel
theorem dX9_ends_40 : decode cX9_ends 40 = .ok (.iload_n 2, 1) := by decide +kernel
theorem dX9_ends_41 : decode cX9_ends 41 = .ok (.invokevirtual 176, 3) := by decide +kernel
theorem dX9_ends_44 : decode cX9_ends 44 = .ok (.iload_n 2, 1) := by decide +kernel
theorem dX9_ends_45 : decode cX9_ends 45 = .ok (.iastore, 1) := by decide +kernel
theorem dX9_ends_46 : decode cX9_ends 46 = .ok (.aload_n 0, 1) := by decide +kernel
theorem dX9_ends_47 : decode cX9_ends 47 = .ok (.dup, 1) := by decide +kernel
theorem dX9_ends_48 : decode cX9_ends 48 = .ok (.getfield 179, 3) := by decide +kernel
theorem dX9_ends_51 : decode cX9_ends 51 = .ok (.iconst 1, 1) := by decide +kernel
theorem dX9_ends_52 : decode cX9_ends 52 = .ok (.iadd, 1) := by decide +kernel
theorem dX9_ends_53 : decode cX9_ends 53 = .ok (.putfield 179, 3) := by decide +kernel
theorem dX9_ends_56 : decode cX9_ends 56 = .ok (.aload_n 0, 1) := by decide +kernel
theorem dX9_ends_57 : decode cX9_ends 57 = .ok (.getfield 63, 3) := by decide +kernel
theorem dX9_ends_60 : decode cX9_ends 60 = .ok (.iload_n 2, 1) := by decide +kernel
theorem dX9_ends_61 : decode cX9_ends 61 = .ok (.aload_n 0, 1) := by decide +kernel
theorem dX9_ends_62 : decode cX9_ends 62 = .ok (.getfield 144, 3) := by decide +kernel
theorem dX9_ends_65 : decode cX9_ends 65 = .ok (.iconst 1, 1) := by decide +kernel
theorem dX9_ends_66 : decode cX9_ends 66 = .ok (.if_icmp .ne 12, 3) := by decide +kernel
theorem dX9_ends_69 : decode cX9_ends 69 = .ok (.aload_n 0, 1) := by decide +kernel
theorem dX9_ends_70 : decode cX9_ends 70 = .ok (.getfield 57, 3) := by decide +kernel
theorem dX9_ends_73 : decode cX9_ends 73 = .ok (.iload_n 2, 1) := by decide +kernel
theorem dX9_ends_74 : decode cX9_ends 74 = .ok (.iaload, 1) := by decide +kernel
theorem dX9_ends_75 : decode cX9_ends 75 = .ok (.goto 9, 3) := by decide +kernel
theorem dX9_ends_78 : decode cX9_ends 78 = .ok (.aload_n 0, 1) := by decide +kernel
theorem dX9_ends_79 : decode cX9_ends 79 = .ok (.getfield 63, 3) := by decide +kernel
theorem dX9_ends_82 : decode cX9_ends 82 = .ok (.iload_n 2, 1) := by decide +kernel
theorem dX9_ends_83 : decode cX9_ends 83 = .ok (.iaload, 1) := by decide +kernel
theorem dX9_ends_84 : decode cX9_ends 84 = .ok (.iastore, 1) := by decide +kernel
theorem dX9_ends_85 : decode cX9_ends 85 = .ok (.iinc 2 1, 3) := by decide +kernel
theorem dX9_ends_88 : decode cX9_ends 88 = .ok (.goto (-77), 3) := by decide +kernel
theorem dX9_ends_91 : decode cX9_ends 91 = .ok (.aload_n 0, 1) := by decide +kernel
theorem dX9_ends_92 : decode cX9_ends 92 = .ok (.iconst 3, 1) := by decide +kernel
theorem dX9_ends_93 : decode cX9_ends 93 = .ok (.putfield 144, 3) := by decide +kernel
theorem dX9_ends_96 : decode cX9_ends 96 = .ok (.goto 12, 3) := by decide +kernel
theorem dX9_ends_99 : decode cX9_ends 99 = .ok (.aload_n 0, 1) := by decide +kernel
theorem dX9_ends_100 : decode cX9_ends 100 = .ok (.invokevirtual 182, 3) := by decide +kernel
theorem dX9_ends_103 : decode cX9_ends 103 = .ok (.aload_n 0, 1) := by decide +kernel
theorem dX9_ends_104 : decode cX9_ends 104 = .ok (.iconst 2, 1) := by decide +kernel
theorem dX9_ends_105 : decode cX9_ends 105 = .ok (.putfield 144, 3) := by decide +kernel
theorem dX9_ends_108 : decode cX9_ends 108 = .ok (.aload_n 0, 1) := by decide +kernel
theorem dX9_ends_109 : decode cX9_ends 109 = .ok (.getfield 144, 3) := by decide +kernel
theorem dX9_ends_112 : decode cX9_ends 112 = .ok (.ireturn, 1) := by decide +kernel
set_option maxRecDepth 20000 in
theorem ggX9_next_X9_holds : GoodIn wsX9_next wsX9_holds := goodIn_r _ [7, 8, 39, 40, 41, 42, 43, 44, 45, 46, 47, 48, 49, 50, 51, 52, 53, 54, 55, 56, 57, 58, 59, 60, 61, 62, 63, 64, 65, 66, 67, 68, 69, 70, 71, 72, 73, 74] (by decide +kernel) (by decide +kernel)
set_option maxRecDepth 20000 in
theorem gX9_next_X9_holds : GoodIn wsX9_next (wsV RX9 91 RX9 yX9_holds wsX9_holds) := goodIn_app (goodIn_of _ (by decide +kernel)) ggX9_next_X9_holds
set_option maxRecDepth 20000 in
theorem ggX9_next_X9_ends : GoodIn wsX9_next wsX9_ends := goodIn_r _ [12, 13, 14, 1, 15, 16, 17, 18, 19, 20, 6, 21, 22, 23, 24, 25, 26, 27, 28, 29, 30, 31, 2, 32, 33, 34, 35, 36, 37, 38, 39, 40, 41, 42, 43, 44, 45, 46, 47, 48, 49, 50, 51, 52, 53, 54, 55, 56, 57, 58, 59, 60, 61, 62, 63, 64, 65, 66, 67, 68, 69, 70, 71, 72, 73, 74] (by decide +kernel) (by decide +kernel)
set_option maxRecDepth 20000 in
theorem gX9_next_X9_ends : GoodIn wsX9_next (wsV RX9 185 RX9 yX9_ends wsX9_ends) := goodIn_app (goodIn_of _ (by decide +kernel)) ggX9_next_X9_ends
theorem dX9_next_0 : decode cX9_next 0 = .ok (.aload_n 0, 1) := by decide +kernel
theorem dX9_next_1 : decode cX9_next 1 = .ok (.aload_n 0, 1) := by decide +kernel
theorem dX9_next_2 : decode cX9_next 2 = .ok (.getfield 144, 3) := by decide +kernel
theorem dX9_next_5 : decode cX9_next 5 = .ok (.ifCond .eq 11, 3) := by decide +kernel
theorem dX9_next_8 : decode cX9_next 8 = .ok (.aload_n 0, 1) := by decide +kernel
theorem dX9_next_9 : decode cX9_next 9 = .ok (.getfield 144, 3) := by decide +kernel
theorem dX9_next_12 : decode cX9_next 12 = .ok (.iconst 3, 1) := by decide +kernel
theorem dX9_next_13 : decode cX9_next 13 = .ok (.if_icmp .ne 7, 3) := by decide +kernel
theorem dX9_next_16 : decode cX9_next 16 = .ok (.iconst 1, 1) := by decide +kernel
theorem dX9_next_17 : decode cX9_next 17 = .ok (.goto 4, 3) := by decide +kernel
theorem dX9_next_20 : decode cX9_next 20 = .ok (.iconst 0, 1) := by decide +kernel
theorem dX9_next_21 : decode cX9_next 21 = .ok (.invokevirtual 91, 3) := by decide +kernel
theorem dX9_next_24 : decode cX9_next 24 = .ok (.ifCond .eq 31, 3) := by decide +kernel
theorem dX9_next_27 : decode cX9_next 27 = .ok (.aload_n 0, 1) := by decide +kernel
theorem dX9_next_28 : decode cX9_next 28 = .ok (.aload_n 0, 1) := by decide +kernel
theorem dX9_next_29 : decode cX9_next 29 = .ok (.getfield 144, 3) := by decide +kernel
theorem dX9_next_32 : decode cX9_next 32 = .ok (.iconst 2, 1) := by decide +kernel
theorem dX9_next_33 : decode cX9_next 33 = .ok (.if_icmp .eq 11, 3) := by decide +kernel
theorem dX9_next_36 : decode cX9_next 36 = .ok (.aload_n 0, 1) := by decide +kernel
theorem dX9_next_37 : decode cX9_next 37 = .ok (.getfield 150, 3) := by decide +kernel
theorem dX9_next_40 : decode cX9_next 40 = .ok (.iconst 1, 1) := by decide +kernel
theorem dX9_next_41 : decode cX9_next 41 = .ok (.if_icmp .ne 7, 3) := by decide +kernel
theorem dX9_next_44 : decode cX9_next 44 = .ok (.iconst 1, 1) := by decide +kernel
theorem dX9_next_45 : decode cX9_next 45 = .ok (.goto 4, 3) := by decide +kernel
theorem dX9_next_48 : decode cX9_next 48 = .ok (.iconst 0, 1) := by decide +kernel
theorem dX9_next_49 : decode cX9_next 49 = .ok (.invokevirtual 185, 3) := by decide +kernel
theorem dX9_next_52 : decode cX9_next 52 = .ok (.goto 4, 3) := by decide +kernel
theorem dX9_next_55 : decode cX9_next 55 = .ok (.iconst 0, 1) := by decide +kernel
theorem dX9_next_56 : decode cX9_next 56 = .ok (.ireturn, 1) := by decide +kernel
theorem dX9_regatta_0 : decode cX9_regatta 0 = .ok (.aload_n 0, 1) := by decide +kernel
theorem dX9_regatta_1 : decode cX9_regatta 1 = .ok (.iconst 0, 1) := by decide +kernel
theorem dX9_regatta_2 : decode cX9_regatta 2 = .ok (.putfield 81, 3) := by decide +kernel
theorem dX9_regatta_5 : decode cX9_regatta 5 = .ok (.aload_n 0, 1) := by decide +kernel
theorem dX9_regatta_6 : decode cX9_regatta 6 = .ok (.getfield 144, 3) := by decide +kernel
theorem dX9_regatta_9 : decode cX9_regatta 9 = .ok (.istore_n 1, 1) := by decide +kernel
theorem dX9_regatta_10 : decode cX9_regatta 10 = .ok (.aload_n 0, 1) := by decide +kernel
theorem dX9_regatta_11 : decode cX9_regatta 11 = .ok (.iconst 0, 1) := by decide +kernel
theorem dX9_regatta_12 : decode cX9_regatta 12 = .ok (.putfield 144, 3) := by decide +kernel
theorem dX9_regatta_15 : decode cX9_regatta 15 = .ok (.aload_n 0, 1) := by decide +kernel
theorem dX9_regatta_16 : decode cX9_regatta 16 = .ok (.iconst 0, 1) := by decide +kernel
theorem dX9_regatta_17 : decode cX9_regatta 17 = .ok (.putfield 141, 3) := by decide +kernel
theorem dX9_regatta_20 : decode cX9_regatta 20 = .ok (.aload_n 0, 1) := by decide +kernel
theorem dX9_regatta_21 : decode cX9_regatta 21 = .ok (.iconst 0, 1) := by decide +kernel
theorem dX9_regatta_22 : decode cX9_regatta 22 = .ok (.putfield 153, 3) := by decide +kernel
theorem dX9_regatta_25 : decode cX9_regatta 25 = .ok (.iload_n 1, 1) := by decide +kernel
theorem dX9_regatta_26 : decode cX9_regatta 26 = .ok (.ireturn, 1) := by decide +kernel
set_option maxRecDepth 20000 in
theorem ggX9_result_X9_holds : GoodIn wsX9_result wsX9_holds := goodIn_r _ [9, 10, 11, 12, 13, 14, 15, 16, 17, 18, 19, 20, 21, 22, 23, 24, 25, 26, 27, 28, 29, 30, 31, 32, 33, 34, 35, 36, 37, 38, 39, 40, 41, 42, 43, 44, 45, 46] (by decide +kernel) (by decide +kernel)
set_option maxRecDepth 20000 in
theorem gX9_result_X9_holds : GoodIn wsX9_result (wsV RX9 91 RX9 yX9_holds wsX9_holds) := goodIn_app (goodIn_of _ (by decide +kernel)) ggX9_result_X9_holds
theorem dX9_result_0 : decode cX9_result 0 = .ok (.aload_n 0, 1) := by decide +kernel
theorem dX9_result_1 : decode cX9_result 1 = .ok (.iload_n 1, 1) := by decide +kernel
theorem dX9_result_2 : decode cX9_result 2 = .ok (.ifCond .ge 7, 3) := by decide +kernel
theorem dX9_result_5 : decode cX9_result 5 = .ok (.iconst 1, 1) := by decide +kernel
theorem dX9_result_6 : decode cX9_result 6 = .ok (.goto 16, 3) := by decide +kernel
theorem dX9_result_9 : decode cX9_result 9 = .ok (.aload_n 0, 1) := by decide +kernel
theorem dX9_result_10 : decode cX9_result 10 = .ok (.getfield 144, 3) := by decide +kernel
theorem dX9_result_13 : decode cX9_result 13 = .ok (.iconst 3, 1) := by decide +kernel
theorem dX9_result_14 : decode cX9_result 14 = .ok (.if_icmp .eq 7, 3) := by decide +kernel
theorem dX9_result_17 : decode cX9_result 17 = .ok (.iconst 2, 1) := by decide +kernel
theorem dX9_result_18 : decode cX9_result 18 = .ok (.goto 4, 3) := by decide +kernel
theorem dX9_result_21 : decode cX9_result 21 = .ok (.iconst 0, 1) := by decide +kernel
theorem dX9_result_22 : decode cX9_result 22 = .ok (.invokevirtual 91, 3) := by decide +kernel
theorem dX9_result_25 : decode cX9_result 25 = .ok (.ifCond .ne 5, 3) := by decide +kernel
theorem dX9_result_28 : decode cX9_result 28 = .ok (.iconst 0, 1) := by decide +kernel
theorem dX9_result_29 : decode cX9_result 29 = .ok (.ireturn, 1) := by decide +kernel
theorem dX9_result_30 : decode cX9_result 30 = .ok (.iload_n 1, 1) := by decide +kernel
theorem dX9_result_31 : decode cX9_result 31 = .ok (.aload_n 0, 1) := by decide +kernel
theorem dX9_result_32 : decode cX9_result 32 = .ok (.getfield 179, 3) := by decide +kernel
theorem dX9_result_35 : decode cX9_result 35 = .ok (.if_icmp .ge 17, 3) := by decide +kernel
theorem dX9_result_38 : decode cX9_result 38 = .ok (.aload_n 0, 1) := by decide +kernel
theorem dX9_result_39 : decode cX9_result 39 = .ok (.getfield 54, 3) := by decide +kernel
theorem dX9_result_42 : decode cX9_result 42 = .ok (.aload_n 0, 1) := by decide +kernel
theorem dX9_result_43 : decode cX9_result 43 = .ok (.getfield 66, 3) := by decide +kernel
theorem dX9_result_46 : decode cX9_result 46 = .ok (.iload_n 1, 1) := by decide +kernel
theorem dX9_result_47 : decode cX9_result 47 = .ok (.iaload, 1) := by decide +kernel
theorem dX9_result_48 : decode cX9_result 48 = .ok (.iaload, 1) := by decide +kernel
theorem dX9_result_49 : decode cX9_result 49 = .ok (.goto 4, 3) := by decide +kernel
theorem dX9_result_52 : decode cX9_result 52 = .ok (.iconst (-1), 1) := by decide +kernel
theorem dX9_result_53 : decode cX9_result 53 = .ok (.ireturn, 1) := by decide +kernel
set_option maxRecDepth 20000 in
theorem ggX9_verdict_X9_holds : GoodIn wsX9_verdict wsX9_holds := goodIn_r _ [9, 10, 11, 12, 13, 14, 15, 16, 17, 18, 19, 20, 21, 22, 23, 24, 25, 26, 27, 28, 29, 30, 31, 32, 33, 34, 35, 36, 37, 38, 39, 40, 41, 42, 43, 44, 45, 46] (by decide +kernel) (by decide +kernel)
set_option maxRecDepth 20000 in
theorem gX9_verdict_X9_holds : GoodIn wsX9_verdict (wsV RX9 91 RX9 yX9_holds wsX9_holds) := goodIn_app (goodIn_of _ (by decide +kernel)) ggX9_verdict_X9_holds
theorem dX9_verdict_0 : decode cX9_verdict 0 = .ok (.aload_n 0, 1) := by decide +kernel
theorem dX9_verdict_1 : decode cX9_verdict 1 = .ok (.iload_n 1, 1) := by decide +kernel
theorem dX9_verdict_2 : decode cX9_verdict 2 = .ok (.iconst 1, 1) := by decide +kernel
theorem dX9_verdict_3 : decode cX9_verdict 3 = .ok (.if_icmp .ge 7, 3) := by decide +kernel
theorem dX9_verdict_6 : decode cX9_verdict 6 = .ok (.iconst 1, 1) := by decide +kernel
theorem dX9_verdict_7 : decode cX9_verdict 7 = .ok (.goto 16, 3) := by decide +kernel
theorem dX9_verdict_10 : decode cX9_verdict 10 = .ok (.aload_n 0, 1) := by decide +kernel
theorem dX9_verdict_11 : decode cX9_verdict 11 = .ok (.getfield 144, 3) := by decide +kernel
theorem dX9_verdict_14 : decode cX9_verdict 14 = .ok (.iconst 3, 1) := by decide +kernel
theorem dX9_verdict_15 : decode cX9_verdict 15 = .ok (.if_icmp .eq 7, 3) := by decide +kernel
theorem dX9_verdict_18 : decode cX9_verdict 18 = .ok (.iconst 2, 1) := by decide +kernel
theorem dX9_verdict_19 : decode cX9_verdict 19 = .ok (.goto 4, 3) := by decide +kernel
theorem dX9_verdict_22 : decode cX9_verdict 22 = .ok (.iconst 0, 1) := by decide +kernel
theorem dX9_verdict_23 : decode cX9_verdict 23 = .ok (.invokevirtual 91, 3) := by decide +kernel
theorem dX9_verdict_26 : decode cX9_verdict 26 = .ok (.ifCond .ne 5, 3) := by decide +kernel
theorem dX9_verdict_29 : decode cX9_verdict 29 = .ok (.iconst 0, 1) := by decide +kernel
theorem dX9_verdict_30 : decode cX9_verdict 30 = .ok (.ireturn, 1) := by decide +kernel
theorem dX9_verdict_31 : decode cX9_verdict 31 = .ok (.iload_n 1, 1) := by decide +kernel
theorem dX9_verdict_32 : decode cX9_verdict 32 = .ok (.aload_n 0, 1) := by decide +kernel
theorem dX9_verdict_33 : decode cX9_verdict 33 = .ok (.getfield 179, 3) := by decide +kernel
theorem dX9_verdict_36 : decode cX9_verdict 36 = .ok (.if_icmp .ge 19, 3) := by decide +kernel
theorem dX9_verdict_39 : decode cX9_verdict 39 = .ok (.aload_n 0, 1) := by decide +kernel
theorem dX9_verdict_40 : decode cX9_verdict 40 = .ok (.getfield 63, 3) := by decide +kernel
theorem dX9_verdict_43 : decode cX9_verdict 43 = .ok (.aload_n 0, 1) := by decide +kernel
theorem dX9_verdict_44 : decode cX9_verdict 44 = .ok (.getfield 66, 3) := by decide +kernel
theorem dX9_verdict_47 : decode cX9_verdict 47 = .ok (.iload_n 1, 1) := by decide +kernel
theorem dX9_verdict_48 : decode cX9_verdict 48 = .ok (.iconst 1, 1) := by decide +kernel
theorem dX9_verdict_49 : decode cX9_verdict 49 = .ok (.isub, 1) := by decide +kernel
theorem dX9_verdict_50 : decode cX9_verdict 50 = .ok (.iaload, 1) := by decide +kernel
theorem dX9_verdict_51 : decode cX9_verdict 51 = .ok (.iaload, 1) := by decide +kernel
theorem dX9_verdict_52 : decode cX9_verdict 52 = .ok (.goto 4, 3) := by decide +kernel
theorem dX9_verdict_55 : decode cX9_verdict 55 = .ok (.iconst 0, 1) := by decide +kernel
theorem dX9_verdict_56 : decode cX9_verdict 56 = .ok (.istore_n 2, 1) := by decide +kernel
theorem dX9_verdict_57 : decode cX9_verdict 57 = .ok (.iload_n 1, 1) := by decide +kernel
theorem dX9_verdict_58 : decode cX9_verdict 58 = .ok (.aload_n 0, 1) := by decide +kernel
theorem dX9_verdict_59 : decode cX9_verdict 59 = .ok (.getfield 179, 3) := by decide +kernel
theorem dX9_verdict_62 : decode cX9_verdict 62 = .ok (.if_icmp .ge 17, 3) := by decide +kernel
theorem dX9_verdict_65 : decode cX9_verdict 65 = .ok (.aload_n 0, 1) := by decide +kernel
theorem dX9_verdict_66 : decode cX9_verdict 66 = .ok (.getfield 63, 3) := by decide +kernel
theorem dX9_verdict_69 : decode cX9_verdict 69 = .ok (.aload_n 0, 1) := by decide +kernel
theorem dX9_verdict_70 : decode cX9_verdict 70 = .ok (.getfield 66, 3) := by decide +kernel
theorem dX9_verdict_73 : decode cX9_verdict 73 = .ok (.iload_n 1, 1) := by decide +kernel
theorem dX9_verdict_74 : decode cX9_verdict 74 = .ok (.iaload, 1) := by decide +kernel
theorem dX9_verdict_75 : decode cX9_verdict 75 = .ok (.iaload, 1) := by decide +kernel
theorem dX9_verdict_76 : decode cX9_verdict 76 = .ok (.goto 4, 3) := by decide +kernel
theorem dX9_verdict_79 : decode cX9_verdict 79 = .ok (.iconst 0, 1) := by decide +kernel
theorem dX9_verdict_80 : decode cX9_verdict 80 = .ok (.istore_n 3, 1) := by decide +kernel
theorem dX9_verdict_81 : decode cX9_verdict 81 = .ok (.iload_n 2, 1) := by decide +kernel
theorem dX9_verdict_82 : decode cX9_verdict 82 = .ok (.ifCond .eq 7, 3) := by decide +kernel
theorem dX9_verdict_85 : decode cX9_verdict 85 = .ok (.iload_n 3, 1) := by decide +kernel
theorem dX9_verdict_86 : decode cX9_verdict 86 = .ok (.ifCond .ne 7, 3) := by decide +kernel
theorem dX9_verdict_89 : decode cX9_verdict 89 = .ok (.iconst (-1), 1) := by decide +kernel
theorem dX9_verdict_90 : decode cX9_verdict 90 = .ok (.goto 12, 3) := by decide +kernel
theorem dX9_verdict_93 : decode cX9_verdict 93 = .ok (.iload_n 3, 1) := by decide +kernel
theorem dX9_verdict_94 : decode cX9_verdict 94 = .ok (.iload_n 2, 1) := by decide +kernel
theorem dX9_verdict_95 : decode cX9_verdict 95 = .ok (.isub, 1) := by decide +kernel
theorem dX9_verdict_96 : decode cX9_verdict 96 = .ok (.iconst 4, 1) := by decide +kernel
theorem dX9_verdict_97 : decode cX9_verdict 97 = .ok (.imul, 1) := by decide +kernel
theorem dX9_verdict_98 : decode cX9_verdict 98 = .ok (.sipush 2500, 3) := by decide +kernel
theorem dX9_verdict_101 : decode cX9_verdict 101 = .ok (.idiv, 1) := by decide +kernel
theorem dX9_verdict_102 : decode cX9_verdict 102 = .ok (.ireturn, 1) := by decide +kernel
set_option maxRecDepth 20000 in
theorem ggX9_head_X9_isCrew : GoodIn wsX9_head wsX9_isCrew := goodIn_r _ [7, 8, 9, 10, 6, 11, 17, 18, 19, 20, 21, 22, 23, 24, 25, 26, 27, 28, 29, 30, 31, 32, 33, 34, 35, 36, 37, 38, 39, 40, 41, 42, 43, 44, 45, 46, 47, 48, 49, 50, 51, 52] (by decide +kernel) (by decide +kernel)
set_option maxRecDepth 20000 in
theorem gX9_head_X9_isCrew : GoodIn wsX9_head (wsV RX9 102 RX9 yX9_isCrew wsX9_isCrew) := goodIn_app (goodIn_of _ (by decide +kernel)) ggX9_head_X9_isCrew
set_option maxRecDepth 20000 in
theorem ggX9_head_X9_holds : GoodIn wsX9_head wsX9_holds := goodIn_r _ [15, 16, 17, 18, 19, 20, 21, 22, 23, 24, 25, 26, 27, 28, 29, 30, 31, 32, 33, 34, 35, 36, 37, 38, 39, 40, 41, 42, 43, 44, 45, 46, 47, 48, 49, 50, 51, 52] (by decide +kernel) (by decide +kernel)
set_option maxRecDepth 20000 in
theorem gX9_head_X9_holds : GoodIn wsX9_head (wsV RX9 91 RX9 yX9_holds wsX9_holds) := goodIn_app (goodIn_of _ (by decide +kernel)) ggX9_head_X9_holds
theorem dX9_head_0 : decode cX9_head 0 = .ok (.aload_n 0, 1) := by decide +kernel
theorem dX9_head_1 : decode cX9_head 1 = .ok (.iload_n 1, 1) := by decide +kernel
theorem dX9_head_2 : decode cX9_head 2 = .ok (.invokevirtual 102, 3) := by decide +kernel
theorem dX9_head_5 : decode cX9_head 5 = .ok (.istore_n 2, 1) := by decide +kernel
theorem dX9_head_6 : decode cX9_head 6 = .ok (.aload_n 0, 1) := by decide +kernel
theorem dX9_head_7 : decode cX9_head 7 = .ok (.iload_n 2, 1) := by decide +kernel
theorem dX9_head_8 : decode cX9_head 8 = .ok (.ifCond .ne 7, 3) := by decide +kernel
theorem dX9_head_11 : decode cX9_head 11 = .ok (.iconst 1, 1) := by decide +kernel
theorem dX9_head_12 : decode cX9_head 12 = .ok (.goto 18, 3) := by decide +kernel
theorem dX9_head_15 : decode cX9_head 15 = .ok (.aload_n 0, 1) := by decide +kernel
theorem dX9_head_16 : decode cX9_head 16 = .ok (.getfield 72, 3) := by decide +kernel
theorem dX9_head_19 : decode cX9_head 19 = .ok (.iload_n 1, 1) := by decide +kernel
theorem dX9_head_20 : decode cX9_head 20 = .ok (.iaload, 1) := by decide +kernel
theorem dX9_head_21 : decode cX9_head 21 = .ok (.iconst (-1), 1) := by decide +kernel
theorem dX9_head_22 : decode cX9_head 22 = .ok (.if_icmp .eq 7, 3) := by decide +kernel
theorem dX9_head_25 : decode cX9_head 25 = .ok (.iconst 2, 1) := by decide +kernel
theorem dX9_head_26 : decode cX9_head 26 = .ok (.goto 4, 3) := by decide +kernel
theorem dX9_head_29 : decode cX9_head 29 = .ok (.iconst 0, 1) := by decide +kernel
theorem dX9_head_30 : decode cX9_head 30 = .ok (.invokevirtual 91, 3) := by decide +kernel
theorem dX9_head_33 : decode cX9_head 33 = .ok (.ifCond .ne 5, 3) := by decide +kernel
theorem dX9_head_36 : decode cX9_head 36 = .ok (.iconst 0, 1) := by decide +kernel
theorem dX9_head_37 : decode cX9_head 37 = .ok (.ireturn, 1) := by decide +kernel
theorem dX9_head_38 : decode cX9_head 38 = .ok (.aload_n 0, 1) := by decide +kernel
theorem dX9_head_39 : decode cX9_head 39 = .ok (.getfield 72, 3) := by decide +kernel
theorem dX9_head_42 : decode cX9_head 42 = .ok (.iload_n 1, 1) := by decide +kernel
theorem dX9_head_43 : decode cX9_head 43 = .ok (.aload_n 0, 1) := by decide +kernel
theorem dX9_head_44 : decode cX9_head 44 = .ok (.getfield 189, 3) := by decide +kernel
theorem dX9_head_47 : decode cX9_head 47 = .ok (.iastore, 1) := by decide +kernel
theorem dX9_head_48 : decode cX9_head 48 = .ok (.aload_n 0, 1) := by decide +kernel
theorem dX9_head_49 : decode cX9_head 49 = .ok (.dup, 1) := by decide +kernel
theorem dX9_head_50 : decode cX9_head 50 = .ok (.getfield 189, 3) := by decide +kernel
theorem dX9_head_53 : decode cX9_head 53 = .ok (.iconst 1, 1) := by decide +kernel
theorem dX9_head_54 : decode cX9_head 54 = .ok (.iadd, 1) := by decide +kernel
theorem dX9_head_55 : decode cX9_head 55 = .ok (.putfield 189, 3) := by decide +kernel
theorem dX9_head_58 : decode cX9_head 58 = .ok (.aload_n 0, 1) := by decide +kernel
theorem dX9_head_59 : decode cX9_head 59 = .ok (.getfield 189, 3) := by decide +kernel
theorem dX9_head_62 : decode cX9_head 62 = .ok (.iconst 1, 1) := by decide +kernel
theorem dX9_head_63 : decode cX9_head 63 = .ok (.isub, 1) := by decide +kernel
theorem dX9_head_64 : decode cX9_head 64 = .ok (.ireturn, 1) := by decide +kernel
theorem dX9_counted_0 : decode cX9_counted 0 = .ok (.aload_n 0, 1) := by decide +kernel
theorem dX9_counted_1 : decode cX9_counted 1 = .ok (.getfield 7, 3) := by decide +kernel
theorem dX9_counted_4 : decode cX9_counted 4 = .ok (.iload_n 1, 1) := by decide +kernel
theorem dX9_counted_5 : decode cX9_counted 5 = .ok (.iaload, 1) := by decide +kernel
theorem dX9_counted_6 : decode cX9_counted 6 = .ok (.ifCond .ne 7, 3) := by decide +kernel
theorem dX9_counted_9 : decode cX9_counted 9 = .ok (.iconst 0, 1) := by decide +kernel
theorem dX9_counted_10 : decode cX9_counted 10 = .ok (.goto 38, 3) := by decide +kernel
theorem dX9_counted_13 : decode cX9_counted 13 = .ok (.aload_n 0, 1) := by decide +kernel
theorem dX9_counted_14 : decode cX9_counted 14 = .ok (.getfield 7, 3) := by decide +kernel
theorem dX9_counted_17 : decode cX9_counted 17 = .ok (.iload_n 1, 1) := by decide +kernel
theorem dX9_counted_18 : decode cX9_counted 18 = .ok (.iaload, 1) := by decide +kernel
theorem dX9_counted_19 : decode cX9_counted 19 = .ok (.iconst 1, 1) := by decide +kernel
theorem dX9_counted_20 : decode cX9_counted 20 = .ok (.if_icmp .ne 9, 3) := by decide +kernel
theorem dX9_counted_23 : decode cX9_counted 23 = .ok (.sipush 3000, 3) := by decide +kernel
theorem dX9_counted_26 : decode cX9_counted 26 = .ok (.goto 22, 3) := by decide +kernel
theorem dX9_counted_29 : decode cX9_counted 29 = .ok (.aload_n 0, 1) := by decide +kernel
theorem dX9_counted_30 : decode cX9_counted 30 = .ok (.getfield 7, 3) := by decide +kernel
theorem dX9_counted_33 : decode cX9_counted 33 = .ok (.iload_n 1, 1) := by decide +kernel
theorem dX9_counted_34 : decode cX9_counted 34 = .ok (.iaload, 1) := by decide +kernel
theorem dX9_counted_35 : decode cX9_counted 35 = .ok (.iconst 2, 1) := by decide +kernel
theorem dX9_counted_36 : decode cX9_counted 36 = .ok (.if_icmp .ne 9, 3) := by decide +kernel
theorem dX9_counted_39 : decode cX9_counted 39 = .ok (.sipush 6000, 3) := by decide +kernel
theorem dX9_counted_42 : decode cX9_counted 42 = .ok (.goto 6, 3) := by decide +kernel
theorem dX9_counted_45 : decode cX9_counted 45 = .ok (.sipush 10000, 3) := by decide +kernel
theorem dX9_counted_48 : decode cX9_counted 48 = .ok (.istore_n 2, 1) := by decide +kernel
theorem dX9_counted_49 : decode cX9_counted 49 = .ok (.iload_n 2, 1) := by decide +kernel
theorem dX9_counted_50 : decode cX9_counted 50 = .ok (.aload_n 0, 1) := by decide +kernel
theorem dX9_counted_51 : decode cX9_counted 51 = .ok (.getfield 13, 3) := by decide +kernel
theorem dX9_counted_54 : decode cX9_counted 54 = .ok (.iload_n 1, 1) := by decide +kernel
theorem dX9_counted_55 : decode cX9_counted 55 = .ok (.iaload, 1) := by decide +kernel
theorem dX9_counted_56 : decode cX9_counted 56 = .ok (.bipush 27, 2) := by decide +kernel
theorem dX9_counted_58 : decode cX9_counted 58 = .ok (.if_icmp .le 19, 3) := by decide +kernel
theorem dX9_counted_61 : decode cX9_counted 61 = .ok (.sipush 200, 3) := by decide +kernel
theorem dX9_counted_64 : decode cX9_counted 64 = .ok (.aload_n 0, 1) := by decide +kernel
theorem dX9_counted_65 : decode cX9_counted 65 = .ok (.getfield 13, 3) := by decide +kernel
theorem dX9_counted_68 : decode cX9_counted 68 = .ok (.iload_n 1, 1) := by decide +kernel
theorem dX9_counted_69 : decode cX9_counted 69 = .ok (.iaload, 1) := by decide +kernel
theorem dX9_counted_70 : decode cX9_counted 70 = .ok (.bipush 27, 2) := by decide +kernel
theorem dX9_counted_72 : decode cX9_counted 72 = .ok (.isub, 1) := by decide +kernel
theorem dX9_counted_73 : decode cX9_counted 73 = .ok (.imul, 1) := by decide +kernel
theorem dX9_counted_74 : decode cX9_counted 74 = .ok (.goto 4, 3) := by decide +kernel
theorem dX9_counted_77 : decode cX9_counted 77 = .ok (.iconst 0, 1) := by decide +kernel
theorem dX9_counted_78 : decode cX9_counted 78 = .ok (.iadd, 1) := by decide +kernel
theorem dX9_counted_79 : decode cX9_counted 79 = .ok (.istore_n 2, 1) := by decide +kernel
theorem dX9_counted_80 : decode cX9_counted 80 = .ok (.aload_n 0, 1) := by decide +kernel
theorem dX9_counted_81 : decode cX9_counted 81 = .ok (.getfield 75, 3) := by decide +kernel
theorem dX9_counted_84 : decode cX9_counted 84 = .ok (.iload_n 1, 1) := by decide +kernel
theorem dX9_counted_85 : decode cX9_counted 85 = .ok (.iaload, 1) := by decide +kernel
theorem dX9_counted_86 : decode cX9_counted 86 = .ok (.sipush 15000, 3) := by decide +kernel
theorem dX9_counted_89 : decode cX9_counted 89 = .ok (.aload_n 0, 1) := by decide +kernel
theorem dX9_counted_90 : decode cX9_counted 90 = .ok (.getfield 72, 3) := by decide +kernel
theorem dX9_counted_93 : decode cX9_counted 93 = .ok (.iload_n 1, 1) := by decide +kernel
theorem dX9_counted_94 : decode cX9_counted 94 = .ok (.iaload, 1) := by decide +kernel
theorem dX9_counted_95 : decode cX9_counted 95 = .ok (.imul, 1) := by decide +kernel
theorem dX9_counted_96 : decode cX9_counted 96 = .ok (.isub, 1) := by decide +kernel
theorem dX9_counted_97 : decode cX9_counted 97 = .ok (.iload_n 2, 1) := by decide +kernel
theorem dX9_counted_98 : decode cX9_counted 98 = .ok (.isub, 1) := by decide +kernel
theorem dX9_counted_99 : decode cX9_counted 99 = .ok (.sipush 1000, 3) := by decide +kernel
theorem dX9_counted_102 : decode cX9_counted 102 = .ok (.aload_n 0, 1) := by decide +kernel
theorem dX9_counted_103 : decode cX9_counted 103 = .ok (.getfield 78, 3) := by decide +kernel
theorem dX9_counted_106 : decode cX9_counted 106 = .ok (.iload_n 1, 1) := by decide +kernel
theorem dX9_counted_107 : decode cX9_counted 107 = .ok (.iaload, 1) := by decide +kernel
theorem dX9_counted_108 : decode cX9_counted 108 = .ok (.imul, 1) := by decide +kernel
theorem dX9_counted_109 : decode cX9_counted 109 = .ok (.iadd, 1) := by decide +kernel
theorem dX9_counted_110 : decode cX9_counted 110 = .ok (.ireturn, 1) := by decide +kernel
set_option maxRecDepth 20000 in
theorem ggX9_finish_X9_isCrew : GoodIn wsX9_finish wsX9_isCrew := goodIn_r _ [8, 9, 10, 11, 7, 12, 25, 26, 27, 28, 29, 30, 31, 32, 33, 34, 35, 36, 37, 38, 39, 40, 41, 42, 43, 44, 45, 46, 47, 48, 49, 50, 51, 52, 53, 54, 55, 56, 57, 58, 59, 60] (by decide +kernel) (by decide +kernel)
set_option maxRecDepth 20000 in
theorem gX9_finish_X9_isCrew : GoodIn wsX9_finish (wsV RX9 102 RX9 yX9_isCrew wsX9_isCrew) := goodIn_app (goodIn_of _ (by decide +kernel)) ggX9_finish_X9_isCrew
set_option maxRecDepth 20000 in
theorem ggX9_finish_X9_isIn : GoodIn wsX9_finish wsX9_isIn := goodIn_r _ [12] (by decide +kernel) (by decide +kernel)
set_option maxRecDepth 20000 in
theorem gX9_finish_X9_isIn : GoodIn wsX9_finish (va_wsS RX9 87 yX9_isIn wsX9_isIn) := goodIn_app (goodIn_of _ (by decide +kernel)) ggX9_finish_X9_isIn
set_option maxRecDepth 20000 in
theorem ggX9_finish_X9_holds : GoodIn wsX9_finish wsX9_holds := goodIn_r _ [16, 17, 25, 26, 27, 28, 29, 30, 31, 32, 33, 34, 35, 36, 37, 38, 39, 40, 41, 42, 43, 44, 45, 46, 47, 48, 49, 50, 51, 52, 53, 54, 55, 56, 57, 58, 59, 60] (by decide +kernel) (by decide +kernel)
set_option maxRecDepth 20000 in
theorem gX9_finish_X9_holds : GoodIn wsX9_finish (wsV RX9 91 RX9 yX9_holds wsX9_holds) := goodIn_app (goodIn_of _ (by decide +kernel)) ggX9_finish_X9_holds
set_option maxRecDepth 20000 in
theorem ggX9_finish_X9_counted : GoodIn wsX9_finish wsX9_counted := goodIn_r _ [21, 22, 23, 3, 1, 24, 25, 26, 27, 28, 29, 30, 31, 32, 33, 34, 35, 36, 37, 38, 39, 40, 41, 42, 43, 44, 45, 46, 47, 48, 49, 50, 51, 52, 53, 54, 55, 56, 57, 58, 59, 60] (by decide +kernel) (by decide +kernel)
set_option maxRecDepth 20000 in
theorem gX9_finish_X9_counted : GoodIn wsX9_finish (wsV RX9 193 RX9 yX9_counted wsX9_counted) := goodIn_app (goodIn_of _ (by decide +kernel)) ggX9_finish_X9_counted
theorem dX9_finish_0 : decode cX9_finish 0 = .ok (.aload_n 0, 1) := by decide +kernel
theorem dX9_finish_1 : decode cX9_finish 1 = .ok (.iload_n 1, 1) := by decide +kernel
theorem dX9_finish_2 : decode cX9_finish 2 = .ok (.invokevirtual 102, 3) := by decide +kernel
theorem dX9_finish_5 : decode cX9_finish 5 = .ok (.istore_n 3, 1) := by decide +kernel
theorem dX9_finish_6 : decode cX9_finish 6 = .ok (.iload_n 3, 1) := by decide +kernel
theorem dX9_finish_7 : decode cX9_finish 7 = .ok (.ifCond .eq 31, 3) := by decide +kernel
theorem dX9_finish_10 : decode cX9_finish 10 = .ok (.aload_n 0, 1) := by decide +kernel
theorem dX9_finish_11 : decode cX9_finish 11 = .ok (.getfield 72, 3) := by decide +kernel
theorem dX9_finish_14 : decode cX9_finish 14 = .ok (.iload_n 1, 1) := by decide +kernel
theorem dX9_finish_15 : decode cX9_finish 15 = .ok (.iaload, 1) := by decide +kernel
theorem dX9_finish_16 : decode cX9_finish 16 = .ok (.iconst (-1), 1) := by decide +kernel
theorem dX9_finish_17 : decode cX9_finish 17 = .ok (.if_icmp .eq 21, 3) := by decide +kernel
theorem dX9_finish_20 : decode cX9_finish 20 = .ok (.iload_n 2, 1) := by decide +kernel
theorem dX9_finish_21 : decode cX9_finish 21 = .ok (.sipush 15000, 3) := by decide +kernel
theorem dX9_finish_24 : decode cX9_finish 24 = .ok (.aload_n 0, 1) := by decide +kernel
theorem dX9_finish_25 : decode cX9_finish 25 = .ok (.getfield 72, 3) := by decide +kernel
theorem dX9_finish_28 : decode cX9_finish 28 = .ok (.iload_n 1, 1) := by decide +kernel
theorem dX9_finish_29 : decode cX9_finish 29 = .ok (.iaload, 1) := by decide +kernel
theorem dX9_finish_30 : decode cX9_finish 30 = .ok (.imul, 1) := by decide +kernel
theorem dX9_finish_31 : decode cX9_finish 31 = .ok (.if_icmp .lt 7, 3) := by decide +kernel
theorem dX9_finish_34 : decode cX9_finish 34 = .ok (.iconst 1, 1) := by decide +kernel
theorem dX9_finish_35 : decode cX9_finish 35 = .ok (.goto 4, 3) := by decide +kernel
theorem dX9_finish_38 : decode cX9_finish 38 = .ok (.iconst 0, 1) := by decide +kernel
theorem dX9_finish_39 : decode cX9_finish 39 = .ok (.istore 4, 2) := by decide +kernel
theorem dX9_finish_41 : decode cX9_finish 41 = .ok (.aload_n 0, 1) := by decide +kernel
theorem dX9_finish_42 : decode cX9_finish 42 = .ok (.iload_n 3, 1) := by decide +kernel
theorem dX9_finish_43 : decode cX9_finish 43 = .ok (.ifCond .ne 7, 3) := by decide +kernel
theorem dX9_finish_46 : decode cX9_finish 46 = .ok (.iconst 1, 1) := by decide +kernel
theorem dX9_finish_47 : decode cX9_finish 47 = .ok (.goto 27, 3) := by decide +kernel
theorem dX9_finish_50 : decode cX9_finish 50 = .ok (.iload_n 2, 1) := by decide +kernel
theorem dX9_finish_51 : decode cX9_finish 51 = .ok (.iconst 1, 1) := by decide +kernel
theorem dX9_finish_52 : decode cX9_finish 52 = .ok (.ldc 192, 2) := by decide +kernel
theorem dX9_finish_54 : decode cX9_finish 54 = .ok (.invokestatic 87, 3) := by decide +kernel
theorem dX9_finish_57 : decode cX9_finish 57 = .ok (.ifCond .ne 7, 3) := by decide +kernel
theorem dX9_finish_60 : decode cX9_finish 60 = .ok (.iconst 2, 1) := by decide +kernel
theorem dX9_finish_61 : decode cX9_finish 61 = .ok (.goto 13, 3) := by decide +kernel
theorem dX9_finish_64 : decode cX9_finish 64 = .ok (.iload 4, 2) := by decide +kernel
theorem dX9_finish_66 : decode cX9_finish 66 = .ok (.ifCond .ne 7, 3) := by decide +kernel
theorem dX9_finish_69 : decode cX9_finish 69 = .ok (.iconst 3, 1) := by decide +kernel
theorem dX9_finish_70 : decode cX9_finish 70 = .ok (.goto 4, 3) := by decide +kernel
theorem dX9_finish_73 : decode cX9_finish 73 = .ok (.iconst 0, 1) := by decide +kernel
theorem dX9_finish_74 : decode cX9_finish 74 = .ok (.invokevirtual 91, 3) := by decide +kernel
theorem dX9_finish_77 : decode cX9_finish 77 = .ok (.ifCond .ne 5, 3) := by decide +kernel
theorem dX9_finish_80 : decode cX9_finish 80 = .ok (.iconst 0, 1) := by decide +kernel
theorem dX9_finish_81 : decode cX9_finish 81 = .ok (.ireturn, 1) := by decide +kernel
theorem dX9_finish_82 : decode cX9_finish 82 = .ok (.aload_n 0, 1) := by decide +kernel
theorem dX9_finish_83 : decode cX9_finish 83 = .ok (.getfield 75, 3) := by decide +kernel
theorem dX9_finish_86 : decode cX9_finish 86 = .ok (.iload_n 1, 1) := by decide +kernel
theorem dX9_finish_87 : decode cX9_finish 87 = .ok (.iload_n 2, 1) := by decide +kernel
theorem dX9_finish_88 : decode cX9_finish 88 = .ok (.iastore, 1) := by decide +kernel
theorem dX9_finish_89 : decode cX9_finish 89 = .ok (.aload_n 0, 1) := by decide +kernel
theorem dX9_finish_90 : decode cX9_finish 90 = .ok (.iload_n 1, 1) := by decide +kernel
theorem dX9_finish_91 : decode cX9_finish 91 = .ok (.invokevirtual 193, 3) := by decide +kernel
theorem dX9_finish_94 : decode cX9_finish 94 = .ok (.ireturn, 1) := by decide +kernel
set_option maxRecDepth 20000 in
theorem ggX9_punish_X9_isCrew : GoodIn wsX9_punish wsX9_isCrew := goodIn_r _ [7, 8, 9, 10, 6, 11, 17, 18, 19, 20, 21, 22, 23, 24, 25, 26, 27, 28, 29, 30, 31, 32, 33, 34, 35, 36, 37, 38, 39, 40, 41, 42, 43, 44, 45, 46, 47, 48, 49, 50, 51, 52] (by decide +kernel) (by decide +kernel)
set_option maxRecDepth 20000 in
theorem gX9_punish_X9_isCrew : GoodIn wsX9_punish (wsV RX9 102 RX9 yX9_isCrew wsX9_isCrew) := goodIn_app (goodIn_of _ (by decide +kernel)) ggX9_punish_X9_isCrew
set_option maxRecDepth 20000 in
theorem ggX9_punish_X9_isIn : GoodIn wsX9_punish wsX9_isIn := goodIn_r _ [11] (by decide +kernel) (by decide +kernel)
set_option maxRecDepth 20000 in
theorem gX9_punish_X9_isIn : GoodIn wsX9_punish (va_wsS RX9 87 yX9_isIn wsX9_isIn) := goodIn_app (goodIn_of _ (by decide +kernel)) ggX9_punish_X9_isIn
set_option maxRecDepth 20000 in
theorem ggX9_punish_X9_holds : GoodIn wsX9_punish wsX9_holds := goodIn_r _ [15, 16, 17, 18, 19, 20, 21, 22, 23, 24, 25, 26, 27, 28, 29, 30, 31, 32, 33, 34, 35, 36, 37, 38, 39, 40, 41, 42, 43, 44, 45, 46, 47, 48, 49, 50, 51, 52] (by decide +kernel) (by decide +kernel)
set_option maxRecDepth 20000 in
theorem gX9_punish_X9_holds : GoodIn wsX9_punish (wsV RX9 91 RX9 yX9_holds wsX9_holds) := goodIn_app (goodIn_of _ (by decide +kernel)) ggX9_punish_X9_holds
theorem dX9_punish_0 : decode cX9_punish 0 = .ok (.aload_n 0, 1) := by decide +kernel
theorem dX9_punish_1 : decode cX9_punish 1 = .ok (.iload_n 1, 1) := by decide +kernel
theorem dX9_punish_2 : decode cX9_punish 2 = .ok (.invokevirtual 102, 3) := by decide +kernel
theorem dX9_punish_5 : decode cX9_punish 5 = .ok (.istore_n 3, 1) := by decide +kernel
theorem dX9_punish_6 : decode cX9_punish 6 = .ok (.iload_n 3, 1) := by decide +kernel
theorem dX9_punish_7 : decode cX9_punish 7 = .ok (.ifCond .eq 31, 3) := by decide +kernel
theorem dX9_punish_10 : decode cX9_punish 10 = .ok (.aload_n 0, 1) := by decide +kernel
theorem dX9_punish_11 : decode cX9_punish 11 = .ok (.getfield 72, 3) := by decide +kernel
theorem dX9_punish_14 : decode cX9_punish 14 = .ok (.iload_n 1, 1) := by decide +kernel
theorem dX9_punish_15 : decode cX9_punish 15 = .ok (.iaload, 1) := by decide +kernel
theorem dX9_punish_16 : decode cX9_punish 16 = .ok (.iconst (-1), 1) := by decide +kernel
theorem dX9_punish_17 : decode cX9_punish 17 = .ok (.if_icmp .eq 21, 3) := by decide +kernel
theorem dX9_punish_20 : decode cX9_punish 20 = .ok (.iload_n 2, 1) := by decide +kernel
theorem dX9_punish_21 : decode cX9_punish 21 = .ok (.sipush 600, 3) := by decide +kernel
theorem dX9_punish_24 : decode cX9_punish 24 = .ok (.aload_n 0, 1) := by decide +kernel
theorem dX9_punish_25 : decode cX9_punish 25 = .ok (.getfield 78, 3) := by decide +kernel
theorem dX9_punish_28 : decode cX9_punish 28 = .ok (.iload_n 1, 1) := by decide +kernel
theorem dX9_punish_29 : decode cX9_punish 29 = .ok (.iaload, 1) := by decide +kernel
theorem dX9_punish_30 : decode cX9_punish 30 = .ok (.isub, 1) := by decide +kernel
theorem dX9_punish_31 : decode cX9_punish 31 = .ok (.if_icmp .gt 7, 3) := by decide +kernel
theorem dX9_punish_34 : decode cX9_punish 34 = .ok (.iconst 1, 1) := by decide +kernel
theorem dX9_punish_35 : decode cX9_punish 35 = .ok (.goto 4, 3) := by decide +kernel
theorem dX9_punish_38 : decode cX9_punish 38 = .ok (.iconst 0, 1) := by decide +kernel
theorem dX9_punish_39 : decode cX9_punish 39 = .ok (.istore 4, 2) := by decide +kernel
theorem dX9_punish_41 : decode cX9_punish 41 = .ok (.aload_n 0, 1) := by decide +kernel
theorem dX9_punish_42 : decode cX9_punish 42 = .ok (.iload_n 3, 1) := by decide +kernel
theorem dX9_punish_43 : decode cX9_punish 43 = .ok (.ifCond .ne 7, 3) := by decide +kernel
theorem dX9_punish_46 : decode cX9_punish 46 = .ok (.iconst 1, 1) := by decide +kernel
theorem dX9_punish_47 : decode cX9_punish 47 = .ok (.goto 27, 3) := by decide +kernel
theorem dX9_punish_50 : decode cX9_punish 50 = .ok (.iload_n 2, 1) := by decide +kernel
theorem dX9_punish_51 : decode cX9_punish 51 = .ok (.iconst 1, 1) := by decide +kernel
theorem dX9_punish_52 : decode cX9_punish 52 = .ok (.bipush 60, 2) := by decide +kernel
theorem dX9_punish_54 : decode cX9_punish 54 = .ok (.invokestatic 87, 3) := by decide +kernel
theorem dX9_punish_57 : decode cX9_punish 57 = .ok (.ifCond .ne 7, 3) := by decide +kernel
theorem dX9_punish_60 : decode cX9_punish 60 = .ok (.iconst 2, 1) := by decide +kernel
theorem dX9_punish_61 : decode cX9_punish 61 = .ok (.goto 13, 3) := by decide +kernel
theorem dX9_punish_64 : decode cX9_punish 64 = .ok (.iload 4, 2) := by decide +kernel
theorem dX9_punish_66 : decode cX9_punish 66 = .ok (.ifCond .ne 7, 3) := by decide +kernel
theorem dX9_punish_69 : decode cX9_punish 69 = .ok (.iconst 3, 1) := by decide +kernel
theorem dX9_punish_70 : decode cX9_punish 70 = .ok (.goto 4, 3) := by decide +kernel
theorem dX9_punish_73 : decode cX9_punish 73 = .ok (.iconst 0, 1) := by decide +kernel
theorem dX9_punish_74 : decode cX9_punish 74 = .ok (.invokevirtual 91, 3) := by decide +kernel
theorem dX9_punish_77 : decode cX9_punish 77 = .ok (.ifCond .ne 5, 3) := by decide +kernel
theorem dX9_punish_80 : decode cX9_punish 80 = .ok (.iconst 0, 1) := by decide +kernel
theorem dX9_punish_81 : decode cX9_punish 81 = .ok (.ireturn, 1) := by decide +kernel
theorem dX9_punish_82 : decode cX9_punish 82 = .ok (.aload_n 0, 1) := by decide +kernel
theorem dX9_punish_83 : decode cX9_punish 83 = .ok (.getfield 78, 3) := by decide +kernel
theorem dX9_punish_86 : decode cX9_punish 86 = .ok (.iload_n 1, 1) := by decide +kernel
theorem dX9_punish_87 : decode cX9_punish 87 = .ok (.dup2, 1) := by decide +kernel
theorem dX9_punish_88 : decode cX9_punish 88 = .ok (.iaload, 1) := by decide +kernel
theorem dX9_punish_89 : decode cX9_punish 89 = .ok (.iload_n 2, 1) := by decide +kernel
theorem dX9_punish_90 : decode cX9_punish 90 = .ok (.iadd, 1) := by decide +kernel
theorem dX9_punish_91 : decode cX9_punish 91 = .ok (.iastore, 1) := by decide +kernel
theorem dX9_punish_92 : decode cX9_punish 92 = .ok (.aload_n 0, 1) := by decide +kernel
theorem dX9_punish_93 : decode cX9_punish 93 = .ok (.getfield 78, 3) := by decide +kernel
theorem dX9_punish_96 : decode cX9_punish 96 = .ok (.iload_n 1, 1) := by decide +kernel
theorem dX9_punish_97 : decode cX9_punish 97 = .ok (.iaload, 1) := by decide +kernel
theorem dX9_punish_98 : decode cX9_punish 98 = .ok (.ireturn, 1) := by decide +kernel
set_option maxRecDepth 20000 in
theorem ggX9_others_X9_counted : GoodIn wsX9_others wsX9_counted := goodIn_r _ [8, 9, 10, 3, 2, 11, 12, 13, 14, 15, 16, 17, 18, 19, 20, 21, 22, 23, 24, 25, 26, 27, 28, 29, 30, 31, 32, 33, 34, 35, 36, 37, 38, 39, 40, 41, 42, 43, 44, 45, 46, 47] (by decide +kernel) (by decide +kernel)
set_option maxRecDepth 20000 in
theorem gX9_others_X9_counted : GoodIn wsX9_others (wsV RX9 193 RX9 yX9_counted wsX9_counted) := goodIn_app (goodIn_of _ (by decide +kernel)) ggX9_others_X9_counted
theorem dX9_others_0 : decode cX9_others 0 = .ok (.iconst 0, 1) := by decide +kernel
theorem dX9_others_1 : decode cX9_others 1 = .ok (.istore_n 3, 1) := by decide +kernel
theorem dX9_others_2 : decode cX9_others 2 = .ok (.iconst 0, 1) := by decide +kernel
theorem dX9_others_3 : decode cX9_others 3 = .ok (.istore 4, 2) := by decide +kernel
theorem dX9_others_5 : decode cX9_others 5 = .ok (.iload 4, 2) := by decide +kernel
theorem dX9_others_7 : decode cX9_others 7 = .ok (.aload_n 0, 1) := by decide +kernel
theorem dX9_others_8 : decode cX9_others 8 = .ok (.getfield 84, 3) := by decide +kernel
theorem dX9_others_11 : decode cX9_others 11 = .ok (.if_icmp .ge 97, 3) := by decide +kernel
theorem dX9_others_14 : decode cX9_others 14 = .ok (.iload_n 2, 1) := by decide +kernel
theorem dX9_others_15 : decode cX9_others 15 = .ok (.ifCond .eq 43, 3) := by decide +kernel
theorem dX9_others_18 : decode cX9_others 18 = .ok (.aload_n 0, 1) := by decide +kernel
theorem dX9_others_19 : decode cX9_others 19 = .ok (.getfield 72, 3) := by decide +kernel
theorem dX9_others_22 : decode cX9_others 22 = .ok (.iload 4, 2) := by decide +kernel
theorem dX9_others_24 : decode cX9_others 24 = .ok (.iaload, 1) := by decide +kernel
theorem dX9_others_25 : decode cX9_others 25 = .ok (.aload_n 0, 1) := by decide +kernel
theorem dX9_others_26 : decode cX9_others 26 = .ok (.getfield 72, 3) := by decide +kernel
theorem dX9_others_29 : decode cX9_others 29 = .ok (.iload_n 1, 1) := by decide +kernel
theorem dX9_others_30 : decode cX9_others 30 = .ok (.iaload, 1) := by decide +kernel
theorem dX9_others_31 : decode cX9_others 31 = .ok (.if_icmp .ge 23, 3) := by decide +kernel
theorem dX9_others_34 : decode cX9_others 34 = .ok (.aload_n 0, 1) := by decide +kernel
theorem dX9_others_35 : decode cX9_others 35 = .ok (.getfield 75, 3) := by decide +kernel
theorem dX9_others_38 : decode cX9_others 38 = .ok (.iload 4, 2) := by decide +kernel
theorem dX9_others_40 : decode cX9_others 40 = .ok (.iaload, 1) := by decide +kernel
theorem dX9_others_41 : decode cX9_others 41 = .ok (.aload_n 0, 1) := by decide +kernel
theorem dX9_others_42 : decode cX9_others 42 = .ok (.getfield 75, 3) := by decide +kernel
theorem dX9_others_45 : decode cX9_others 45 = .ok (.iload_n 1, 1) := by decide +kernel
theorem dX9_others_46 : decode cX9_others 46 = .ok (.iaload, 1) := by decide +kernel
theorem dX9_others_47 : decode cX9_others 47 = .ok (.if_icmp .le 7, 3) := by decide +kernel
theorem dX9_others_50 : decode cX9_others 50 = .ok (.iconst 1, 1) := by decide +kernel
theorem dX9_others_51 : decode cX9_others 51 = .ok (.goto 26, 3) := by decide +kernel
theorem dX9_others_54 : decode cX9_others 54 = .ok (.iconst 0, 1) := by decide +kernel
theorem dX9_others_55 : decode cX9_others 55 = .ok (.goto 22, 3) := by decide +kernel
theorem dX9_others_58 : decode cX9_others 58 = .ok (.aload_n 0, 1) := by decide +kernel
theorem dX9_others_59 : decode cX9_others 59 = .ok (.iload 4, 2) := by decide +kernel
theorem dX9_others_61 : decode cX9_others 61 = .ok (.invokevirtual 193, 3) := by decide +kernel
theorem dX9_others_64 : decode cX9_others 64 = .ok (.aload_n 0, 1) := by decide +kernel
theorem dX9_others_65 : decode cX9_others 65 = .ok (.iload_n 1, 1) := by decide +kernel
theorem dX9_others_66 : decode cX9_others 66 = .ok (.invokevirtual 193, 3) := by decide +kernel
theorem dX9_others_69 : decode cX9_others 69 = .ok (.if_icmp .ge 7, 3) := by decide +kernel
theorem dX9_others_72 : decode cX9_others 72 = .ok (.iconst 1, 1) := by decide +kernel
theorem dX9_others_73 : decode cX9_others 73 = .ok (.goto 4, 3) := by decide +kernel
theorem dX9_others_76 : decode cX9_others 76 = .ok (.iconst 0, 1) := by decide +kernel
theorem dX9_others_77 : decode cX9_others 77 = .ok (.istore 5, 2) := by decide +kernel
theorem dX9_others_79 : decode cX9_others 79 = .ok (.iload_n 3, 1) := by decide +kernel
theorem dX9_others_80 : decode cX9_others 80 = .ok (.aload_n 0, 1) := by decide +kernel
theorem dX9_others_81 : decode cX9_others 81 = .ok (.getfield 75, 3) := by decide +kernel
theorem dX9_others_84 : decode cX9_others 84 = .ok (.iload 4, 2) := by decide +kernel
theorem dX9_others_86 : decode cX9_others 86 = .ok (.iaload, 1) := by decide +kernel
theorem dX9_others_87 : decode cX9_others 87 = .ok (.ifCond .le 12, 3) := by decide +kernel
theorem dX9_others_90 : decode cX9_others 90 = .ok (.iload 5, 2) := by decide +kernel
theorem dX9_others_92 : decode cX9_others 92 = .ok (.ifCond .eq 7, 3) := by decide +kernel
theorem dX9_others_95 : decode cX9_others 95 = .ok (.iconst 1, 1) := by decide +kernel
theorem dX9_others_96 : decode cX9_others 96 = .ok (.goto 4, 3) := by decide +kernel
theorem dX9_others_99 : decode cX9_others 99 = .ok (.iconst 0, 1) := by decide +kernel
theorem dX9_others_100 : decode cX9_others 100 = .ok (.iadd, 1) := by decide +kernel
theorem dX9_others_101 : decode cX9_others 101 = .ok (.istore_n 3, 1) := by decide +kernel
theorem dX9_others_102 : decode cX9_others 102 = .ok (.iinc 4 1, 3) := by decide +kernel
theorem dX9_others_105 : decode cX9_others 105 = .ok (.goto (-100), 3) := by decide +kernel
theorem dX9_others_108 : decode cX9_others 108 = .ok (.iload_n 3, 1) := by decide +kernel
theorem dX9_others_109 : decode cX9_others 109 = .ok (.ireturn, 1) := by decide +kernel
set_option maxRecDepth 20000 in
theorem ggX9_rank_X9_isCrew : GoodIn wsX9_rank wsX9_isCrew := goodIn_r _ [6, 7, 8, 9, 5, 10, 28, 29, 30, 31, 32, 33, 34, 35, 36, 37, 38, 39, 40, 41, 42, 43, 44, 45, 46, 47, 48, 49, 50, 51, 52, 53, 54, 55, 56, 57, 58, 59, 60, 61, 62, 63] (by decide +kernel) (by decide +kernel)
set_option maxRecDepth 20000 in
theorem gX9_rank_X9_isCrew : GoodIn wsX9_rank (wsV RX9 102 RX9 yX9_isCrew wsX9_isCrew) := goodIn_app (goodIn_of _ (by decide +kernel)) ggX9_rank_X9_isCrew
set_option maxRecDepth 20000 in
theorem ggX9_rank_X9_holds : GoodIn wsX9_rank wsX9_holds := goodIn_r _ [14, 15, 28, 29, 30, 31, 32, 33, 34, 35, 36, 37, 38, 39, 40, 41, 42, 43, 44, 45, 46, 47, 48, 49, 50, 51, 52, 53, 54, 55, 56, 57, 58, 59, 60, 61, 62, 63] (by decide +kernel) (by decide +kernel)
set_option maxRecDepth 20000 in
theorem gX9_rank_X9_holds : GoodIn wsX9_rank (wsV RX9 91 RX9 yX9_holds wsX9_holds) := goodIn_app (goodIn_of _ (by decide +kernel)) ggX9_rank_X9_holds
set_option maxRecDepth 20000 in
theorem ggX9_rank_X9_others : GoodIn wsX9_rank wsX9_others := goodIn_r _ [19, 7, 20, 1, 21, 22, 23, 5, 24, 25, 26, 27, 28, 29, 30, 31, 32, 33, 34, 35, 36, 37, 38, 39, 40, 41, 42, 43, 44, 45, 46, 47, 48, 49, 50, 51, 52, 53, 54, 55, 56, 57, 58, 59, 60, 61, 62, 63] (by decide +kernel) (by decide +kernel)
set_option maxRecDepth 20000 in
theorem gX9_rank_X9_others : GoodIn wsX9_rank (wsV RX9 196 RX9 yX9_others wsX9_others) := goodIn_app (goodIn_of _ (by decide +kernel)) ggX9_rank_X9_others
theorem dX9_rank_0 : decode cX9_rank 0 = .ok (.aload_n 0, 1) := by decide +kernel
theorem dX9_rank_1 : decode cX9_rank 1 = .ok (.aload_n 0, 1) := by decide +kernel
theorem dX9_rank_2 : decode cX9_rank 2 = .ok (.iload_n 1, 1) := by decide +kernel
theorem dX9_rank_3 : decode cX9_rank 3 = .ok (.invokevirtual 102, 3) := by decide +kernel
theorem dX9_rank_6 : decode cX9_rank 6 = .ok (.ifCond .eq 7, 3) := by decide +kernel
theorem dX9_rank_9 : decode cX9_rank 9 = .ok (.iconst 0, 1) := by decide +kernel
theorem dX9_rank_10 : decode cX9_rank 10 = .ok (.goto 4, 3) := by decide +kernel
theorem dX9_rank_13 : decode cX9_rank 13 = .ok (.iconst 1, 1) := by decide +kernel
theorem dX9_rank_14 : decode cX9_rank 14 = .ok (.invokevirtual 91, 3) := by decide +kernel
theorem dX9_rank_17 : decode cX9_rank 17 = .ok (.ifCond .ne 5, 3) := by decide +kernel
theorem dX9_rank_20 : decode cX9_rank 20 = .ok (.iconst 0, 1) := by decide +kernel
theorem dX9_rank_21 : decode cX9_rank 21 = .ok (.ireturn, 1) := by decide +kernel
theorem dX9_rank_22 : decode cX9_rank 22 = .ok (.aload_n 0, 1) := by decide +kernel
theorem dX9_rank_23 : decode cX9_rank 23 = .ok (.getfield 75, 3) := by decide +kernel
theorem dX9_rank_26 : decode cX9_rank 26 = .ok (.iload_n 1, 1) := by decide +kernel
theorem dX9_rank_27 : decode cX9_rank 27 = .ok (.iaload, 1) := by decide +kernel
theorem dX9_rank_28 : decode cX9_rank 28 = .ok (.ifCond .ne 7, 3) := by decide +kernel
theorem dX9_rank_31 : decode cX9_rank 31 = .ok (.iconst (-1), 1) := by decide +kernel
theorem dX9_rank_32 : decode cX9_rank 32 = .ok (.goto 9, 3) := by decide +kernel
theorem dX9_rank_35 : decode cX9_rank 35 = .ok (.aload_n 0, 1) := by decide +kernel
theorem dX9_rank_36 : decode cX9_rank 36 = .ok (.iload_n 1, 1) := by decide +kernel
theorem dX9_rank_37 : decode cX9_rank 37 = .ok (.iconst 0, 1) := by decide +kernel
theorem dX9_rank_38 : decode cX9_rank 38 = .ok (.invokevirtual 196, 3) := by decide +kernel
theorem dX9_rank_41 : decode cX9_rank 41 = .ok (.ireturn, 1) := by decide +kernel
set_option maxRecDepth 20000 in
theorem ggX9_overtook_X9_isCrew : GoodIn wsX9_overtook wsX9_isCrew := goodIn_r _ [6, 7, 8, 9, 5, 10, 28, 29, 30, 31, 32, 33, 34, 35, 36, 37, 38, 39, 40, 41, 42, 43, 44, 45, 46, 47, 48, 49, 50, 51, 52, 53, 54, 55, 56, 57, 58, 59, 60, 61, 62, 63] (by decide +kernel) (by decide +kernel)
set_option maxRecDepth 20000 in
theorem gX9_overtook_X9_isCrew : GoodIn wsX9_overtook (wsV RX9 102 RX9 yX9_isCrew wsX9_isCrew) := goodIn_app (goodIn_of _ (by decide +kernel)) ggX9_overtook_X9_isCrew
set_option maxRecDepth 20000 in
theorem ggX9_overtook_X9_holds : GoodIn wsX9_overtook wsX9_holds := goodIn_r _ [14, 15, 28, 29, 30, 31, 32, 33, 34, 35, 36, 37, 38, 39, 40, 41, 42, 43, 44, 45, 46, 47, 48, 49, 50, 51, 52, 53, 54, 55, 56, 57, 58, 59, 60, 61, 62, 63] (by decide +kernel) (by decide +kernel)
set_option maxRecDepth 20000 in
theorem gX9_overtook_X9_holds : GoodIn wsX9_overtook (wsV RX9 91 RX9 yX9_holds wsX9_holds) := goodIn_app (goodIn_of _ (by decide +kernel)) ggX9_overtook_X9_holds
set_option maxRecDepth 20000 in
theorem ggX9_overtook_X9_others : GoodIn wsX9_overtook wsX9_others := goodIn_r _ [19, 7, 20, 1, 21, 22, 23, 5, 24, 25, 26, 27, 28, 29, 30, 31, 32, 33, 34, 35, 36, 37, 38, 39, 40, 41, 42, 43, 44, 45, 46, 47, 48, 49, 50, 51, 52, 53, 54, 55, 56, 57, 58, 59, 60, 61, 62, 63] (by decide +kernel) (by decide +kernel)
set_option maxRecDepth 20000 in
theorem gX9_overtook_X9_others : GoodIn wsX9_overtook (wsV RX9 196 RX9 yX9_others wsX9_others) := goodIn_app (goodIn_of _ (by decide +kernel)) ggX9_overtook_X9_others
theorem dX9_overtook_0 : decode cX9_overtook 0 = .ok (.aload_n 0, 1) := by decide +kernel
theorem dX9_overtook_1 : decode cX9_overtook 1 = .ok (.aload_n 0, 1) := by decide +kernel
theorem dX9_overtook_2 : decode cX9_overtook 2 = .ok (.iload_n 1, 1) := by decide +kernel
theorem dX9_overtook_3 : decode cX9_overtook 3 = .ok (.invokevirtual 102, 3) := by decide +kernel
theorem dX9_overtook_6 : decode cX9_overtook 6 = .ok (.ifCond .eq 7, 3) := by decide +kernel
theorem dX9_overtook_9 : decode cX9_overtook 9 = .ok (.iconst 0, 1) := by decide +kernel
theorem dX9_overtook_10 : decode cX9_overtook 10 = .ok (.goto 4, 3) := by decide +kernel
theorem dX9_overtook_13 : decode cX9_overtook 13 = .ok (.iconst 1, 1) := by decide +kernel
theorem dX9_overtook_14 : decode cX9_overtook 14 = .ok (.invokevirtual 91, 3) := by decide +kernel
theorem dX9_overtook_17 : decode cX9_overtook 17 = .ok (.ifCond .ne 5, 3) := by decide +kernel
theorem dX9_overtook_20 : decode cX9_overtook 20 = .ok (.iconst 0, 1) := by decide +kernel
theorem dX9_overtook_21 : decode cX9_overtook 21 = .ok (.ireturn, 1) := by decide +kernel
theorem dX9_overtook_22 : decode cX9_overtook 22 = .ok (.aload_n 0, 1) := by decide +kernel
theorem dX9_overtook_23 : decode cX9_overtook 23 = .ok (.getfield 75, 3) := by decide +kernel
theorem dX9_overtook_26 : decode cX9_overtook 26 = .ok (.iload_n 1, 1) := by decide +kernel
theorem dX9_overtook_27 : decode cX9_overtook 27 = .ok (.iaload, 1) := by decide +kernel
theorem dX9_overtook_28 : decode cX9_overtook 28 = .ok (.ifCond .ne 7, 3) := by decide +kernel
theorem dX9_overtook_31 : decode cX9_overtook 31 = .ok (.iconst 0, 1) := by decide +kernel
theorem dX9_overtook_32 : decode cX9_overtook 32 = .ok (.goto 9, 3) := by decide +kernel
theorem dX9_overtook_35 : decode cX9_overtook 35 = .ok (.aload_n 0, 1) := by decide +kernel
theorem dX9_overtook_36 : decode cX9_overtook 36 = .ok (.iload_n 1, 1) := by decide +kernel
theorem dX9_overtook_37 : decode cX9_overtook 37 = .ok (.iconst 1, 1) := by decide +kernel
theorem dX9_overtook_38 : decode cX9_overtook 38 = .ok (.invokevirtual 196, 3) := by decide +kernel
theorem dX9_overtook_41 : decode cX9_overtook 41 = .ok (.ireturn, 1) := by decide +kernel
