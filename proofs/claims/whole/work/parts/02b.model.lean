theorem dX12_init_0 : decode cX12_init 0 = .ok (.aload_n 0, 1) := by decide +kernel
theorem dX12_init_1 : decode cX12_init 1 = .ok (.invokespecial 1, 3) := by decide +kernel
theorem dX12_init_4 : decode cX12_init 4 = .ok (.aload_n 0, 1) := by decide +kernel
theorem dX12_init_5 : decode cX12_init 5 = .ok (.bipush 6, 2) := by decide +kernel
theorem dX12_init_7 : decode cX12_init 7 = .ok (.newarray .boolean, 2) := by decide +kernel
theorem dX12_init_9 : decode cX12_init 9 = .ok (.putfield 7, 3) := by decide +kernel
theorem dX12_init_12 : decode cX12_init 12 = .ok (.aload_n 0, 1) := by decide +kernel
theorem dX12_init_13 : decode cX12_init 13 = .ok (.bipush 6, 2) := by decide +kernel
theorem dX12_init_15 : decode cX12_init 15 = .ok (.newarray .int, 2) := by decide +kernel
theorem dX12_init_17 : decode cX12_init 17 = .ok (.putfield 13, 3) := by decide +kernel
theorem dX12_init_20 : decode cX12_init 20 = .ok (.aload_n 0, 1) := by decide +kernel
theorem dX12_init_21 : decode cX12_init 21 = .ok (.bipush 12, 2) := by decide +kernel
theorem dX12_init_23 : decode cX12_init 23 = .ok (.newarray .int, 2) := by decide +kernel
theorem dX12_init_25 : decode cX12_init 25 = .ok (.putfield 17, 3) := by decide +kernel
theorem dX12_init_28 : decode cX12_init 28 = .ok (.aload_n 0, 1) := by decide +kernel
theorem dX12_init_29 : decode cX12_init 29 = .ok (.bipush 12, 2) := by decide +kernel
theorem dX12_init_31 : decode cX12_init 31 = .ok (.newarray .int, 2) := by decide +kernel
theorem dX12_init_33 : decode cX12_init 33 = .ok (.putfield 20, 3) := by decide +kernel
theorem dX12_init_36 : decode cX12_init 36 = .ok (.aload_n 0, 1) := by decide +kernel
theorem dX12_init_37 : decode cX12_init 37 = .ok (.bipush 12, 2) := by decide +kernel
theorem dX12_init_39 : decode cX12_init 39 = .ok (.newarray .int, 2) := by decide +kernel
theorem dX12_init_41 : decode cX12_init 41 = .ok (.putfield 23, 3) := by decide +kernel
theorem dX12_init_44 : decode cX12_init 44 = .ok (.aload_n 0, 1) := by decide +kernel
theorem dX12_init_45 : decode cX12_init 45 = .ok (.bipush 12, 2) := by decide +kernel
theorem dX12_init_47 : decode cX12_init 47 = .ok (.newarray .int, 2) := by decide +kernel
theorem dX12_init_49 : decode cX12_init 49 = .ok (.putfield 26, 3) := by decide +kernel
theorem dX12_init_52 : decode cX12_init 52 = .ok (.aload_n 0, 1) := by decide +kernel
theorem dX12_init_53 : decode cX12_init 53 = .ok (.bipush 12, 2) := by decide +kernel
theorem dX12_init_55 : decode cX12_init 55 = .ok (.newarray .int, 2) := by decide +kernel
theorem dX12_init_57 : decode cX12_init 57 = .ok (.putfield 29, 3) := by decide +kernel
theorem dX12_init_60 : decode cX12_init 60 = .ok (.aload_n 0, 1) := by decide +kernel
theorem dX12_init_61 : decode cX12_init 61 = .ok (.bipush 12, 2) := by decide +kernel
theorem dX12_init_63 : decode cX12_init 63 = .ok (.newarray .int, 2) := by decide +kernel
theorem dX12_init_65 : decode cX12_init 65 = .ok (.putfield 32, 3) := by decide +kernel
theorem dX12_init_68 : decode cX12_init 68 = .ok (.aload_n 0, 1) := by decide +kernel
theorem dX12_init_69 : decode cX12_init 69 = .ok (.bipush 6, 2) := by decide +kernel
theorem dX12_init_71 : decode cX12_init 71 = .ok (.newarray .boolean, 2) := by decide +kernel
theorem dX12_init_73 : decode cX12_init 73 = .ok (.putfield 35, 3) := by decide +kernel
theorem dX12_init_76 : decode cX12_init 76 = .ok (.aload_n 0, 1) := by decide +kernel
theorem dX12_init_77 : decode cX12_init 77 = .ok (.bipush 6, 2) := by decide +kernel
theorem dX12_init_79 : decode cX12_init 79 = .ok (.newarray .long, 2) := by decide +kernel
theorem dX12_init_81 : decode cX12_init 81 = .ok (.putfield 38, 3) := by decide +kernel
theorem dX12_init_84 : decode cX12_init 84 = .ok (.aload_n 0, 1) := by decide +kernel
theorem dX12_init_85 : decode cX12_init 85 = .ok (.bipush 6, 2) := by decide +kernel
theorem dX12_init_87 : decode cX12_init 87 = .ok (.newarray .int, 2) := by decide +kernel
theorem dX12_init_89 : decode cX12_init 89 = .ok (.putfield 42, 3) := by decide +kernel
theorem dX12_init_92 : decode cX12_init 92 = .ok (.aload_n 0, 1) := by decide +kernel
theorem dX12_init_93 : decode cX12_init 93 = .ok (.bipush 6, 2) := by decide +kernel
theorem dX12_init_95 : decode cX12_init 95 = .ok (.newarray .int, 2) := by decide +kernel
theorem dX12_init_97 : decode cX12_init 97 = .ok (.putfield 45, 3) := by decide +kernel
theorem dX12_init_100 : decode cX12_init 100 = .ok (.aload_n 0, 1) := by decide +kernel
theorem dX12_init_101 : decode cX12_init 101 = .ok (.bipush 30, 2) := by decide +kernel
theorem dX12_init_103 : decode cX12_init 103 = .ok (.newarray .long, 2) := by decide +kernel
theorem dX12_init_105 : decode cX12_init 105 = .ok (.putfield 48, 3) := by decide +kernel
theorem dX12_init_108 : decode cX12_init 108 = .ok (.aload_n 0, 1) := by decide +kernel
theorem dX12_init_109 : decode cX12_init 109 = .ok (.iconst 5, 1) := by decide +kernel
theorem dX12_init_110 : decode cX12_init 110 = .ok (.newarray .int, 2) := by decide +kernel
theorem dX12_init_112 : decode cX12_init 112 = .ok (.putfield 51, 3) := by decide +kernel
theorem dX12_init_115 : decode cX12_init 115 = .ok (.aload_n 0, 1) := by decide +kernel
theorem dX12_init_116 : decode cX12_init 116 = .ok (.iconst 5, 1) := by decide +kernel
theorem dX12_init_117 : decode cX12_init 117 = .ok (.newarray .boolean, 2) := by decide +kernel
theorem dX12_init_119 : decode cX12_init 119 = .ok (.putfield 54, 3) := by decide +kernel
theorem dX12_init_122 : decode cX12_init 122 = .ok (.aload_n 0, 1) := by decide +kernel
theorem dX12_init_123 : decode cX12_init 123 = .ok (.bipush 12, 2) := by decide +kernel
theorem dX12_init_125 : decode cX12_init 125 = .ok (.newarray .long, 2) := by decide +kernel
theorem dX12_init_127 : decode cX12_init 127 = .ok (.putfield 57, 3) := by decide +kernel
theorem dX12_init_130 : decode cX12_init 130 = .ok (.aload_n 0, 1) := by decide +kernel
theorem dX12_init_131 : decode cX12_init 131 = .ok (.bipush 7, 2) := by decide +kernel
theorem dX12_init_133 : decode cX12_init 133 = .ok (.newarray .int, 2) := by decide +kernel
theorem dX12_init_135 : decode cX12_init 135 = .ok (.putfield 60, 3) := by decide +kernel
theorem dX12_init_138 : decode cX12_init 138 = .ok (.aload_n 0, 1) := by decide +kernel
theorem dX12_init_139 : decode cX12_init 139 = .ok (.bipush 7, 2) := by decide +kernel
theorem dX12_init_141 : decode cX12_init 141 = .ok (.newarray .int, 2) := by decide +kernel
theorem dX12_init_143 : decode cX12_init 143 = .ok (.putfield 63, 3) := by decide +kernel
theorem dX12_init_146 : decode cX12_init 146 = .ok (.aload_n 0, 1) := by decide +kernel
theorem dX12_init_147 : decode cX12_init 147 = .ok (.bipush 6, 2) := by decide +kernel
theorem dX12_init_149 : decode cX12_init 149 = .ok (.newarray .boolean, 2) := by decide +kernel
theorem dX12_init_151 : decode cX12_init 151 = .ok (.putfield 66, 3) := by decide +kernel
theorem dX12_init_154 : decode cX12_init 154 = .ok (.aload_n 0, 1) := by decide +kernel
theorem dX12_init_155 : decode cX12_init 155 = .ok (.bipush 12, 2) := by decide +kernel
theorem dX12_init_157 : decode cX12_init 157 = .ok (.newarray .boolean, 2) := by decide +kernel
theorem dX12_init_159 : decode cX12_init 159 = .ok (.putfield 69, 3) := by decide +kernel
theorem dX12_init_162 : decode cX12_init 162 = .ok (.aload_n 0, 1) := by decide +kernel
theorem dX12_init_163 : decode cX12_init 163 = .ok (.bipush 8, 2) := by decide +kernel
theorem dX12_init_165 : decode cX12_init 165 = .ok (.newarray .int, 2) := by decide +kernel
theorem dX12_init_167 : decode cX12_init 167 = .ok (.putfield 72, 3) := by decide +kernel
theorem dX12_init_170 : decode cX12_init 170 = .ok (.aload_n 0, 1) := by decide +kernel
theorem dX12_init_171 : decode cX12_init 171 = .ok (.bipush 8, 2) := by decide +kernel
theorem dX12_init_173 : decode cX12_init 173 = .ok (.newarray .int, 2) := by decide +kernel
theorem dX12_init_175 : decode cX12_init 175 = .ok (.putfield 75, 3) := by decide +kernel
theorem dX12_init_178 : decode cX12_init 178 = .ok (.aload_n 0, 1) := by decide +kernel
theorem dX12_init_179 : decode cX12_init 179 = .ok (.bipush 96, 2) := by decide +kernel
theorem dX12_init_181 : decode cX12_init 181 = .ok (.newarray .int, 2) := by decide +kernel
theorem dX12_init_183 : decode cX12_init 183 = .ok (.putfield 78, 3) := by decide +kernel
theorem dX12_init_186 : decode cX12_init 186 = .ok (.aload_n 0, 1) := by decide +kernel
theorem dX12_init_187 : decode cX12_init 187 = .ok (.bipush 96, 2) := by decide +kernel
theorem dX12_init_189 : decode cX12_init 189 = .ok (.newarray .int, 2) := by decide +kernel
theorem dX12_init_191 : decode cX12_init 191 = .ok (.putfield 81, 3) := by decide +kernel
theorem dX12_init_194 : decode cX12_init 194 = .ok (.aload_n 0, 1) := by decide +kernel
theorem dX12_init_195 : decode cX12_init 195 = .ok (.iconst 4, 1) := by decide +kernel
theorem dX12_init_196 : decode cX12_init 196 = .ok (.newarray .int, 2) := by decide +kernel
theorem dX12_init_198 : decode cX12_init 198 = .ok (.putfield 84, 3) := by decide +kernel
theorem dX12_init_201 : decode cX12_init 201 = .ok (.aload_n 0, 1) := by decide +kernel
theorem dX12_init_202 : decode cX12_init 202 = .ok (.iconst 4, 1) := by decide +kernel
theorem dX12_init_203 : decode cX12_init 203 = .ok (.newarray .int, 2) := by decide +kernel
theorem dX12_init_205 : decode cX12_init 205 = .ok (.putfield 87, 3) := by decide +kernel
theorem dX12_init_208 : decode cX12_init 208 = .ok (.aload_n 0, 1) := by decide +kernel
theorem dX12_init_209 : decode cX12_init 209 = .ok (.bipush 96, 2) := by decide +kernel
theorem dX12_init_211 : decode cX12_init 211 = .ok (.newarray .long, 2) := by decide +kernel
theorem dX12_init_213 : decode cX12_init 213 = .ok (.putfield 90, 3) := by decide +kernel
theorem dX12_init_216 : decode cX12_init 216 = .ok (.aload_n 0, 1) := by decide +kernel
theorem dX12_init_217 : decode cX12_init 217 = .ok (.bipush 24, 2) := by decide +kernel
theorem dX12_init_219 : decode cX12_init 219 = .ok (.newarray .long, 2) := by decide +kernel
theorem dX12_init_221 : decode cX12_init 221 = .ok (.putfield 93, 3) := by decide +kernel
theorem dX12_init_224 : decode cX12_init 224 = .ok (.aload_n 0, 1) := by decide +kernel
theorem dX12_init_225 : decode cX12_init 225 = .ok (.bipush 10, 2) := by decide +kernel
theorem dX12_init_227 : decode cX12_init 227 = .ok (.putfield 96, 3) := by decide +kernel
theorem dX12_init_230 : decode cX12_init 230 = .ok (.iconst 0, 1) := by decide +kernel
theorem dX12_init_231 : decode cX12_init 231 = .ok (.istore_n 1, 1) := by decide +kernel
theorem dX12_init_232 : decode cX12_init 232 = .ok (.iload_n 1, 1) := by decide +kernel
theorem dX12_init_233 : decode cX12_init 233 = .ok (.iconst 4, 1) := by decide +kernel
theorem dX12_init_234 : decode cX12_init 234 = .ok (.if_icmp .ge 16, 3) := by decide +kernel
theorem dX12_init_237 : decode cX12_init 237 = .ok (.aload_n 0, 1) := by decide +kernel
theorem dX12_init_238 : decode cX12_init 238 = .ok (.getfield 84, 3) := by decide +kernel
theorem dX12_init_241 : decode cX12_init 241 = .ok (.iload_n 1, 1) := by decide +kernel
theorem dX12_init_242 : decode cX12_init 242 = .ok (.iconst (-1), 1) := by decide +kernel
theorem dX12_init_243 : decode cX12_init 243 = .ok (.iastore, 1) := by decide +kernel
theorem dX12_init_244 : decode cX12_init 244 = .ok (.iinc 1 1, 3) := by decide +kernel
theorem dX12_init_247 : decode cX12_init 247 = .ok (.goto (-15), 3) := by decide +kernel
theorem dX12_init_250 : decode cX12_init 250 = .ok (.return_, 1) := by decide +kernel
theorem dX12_among_0 : decode cX12_among 0 = .ok (.iload_n 0, 1) := by decide +kernel
theorem dX12_among_1 : decode cX12_among 1 = .ok (.iload_n 1, 1) := by decide +kernel
theorem dX12_among_2 : decode cX12_among 2 = .ok (.if_icmp .lt 12, 3) := by decide +kernel
theorem dX12_among_5 : decode cX12_among 5 = .ok (.iload_n 0, 1) := by decide +kernel
theorem dX12_among_6 : decode cX12_among 6 = .ok (.iload_n 2, 1) := by decide +kernel
theorem dX12_among_7 : decode cX12_among 7 = .ok (.if_icmp .gt 7, 3) := by decide +kernel
theorem dX12_among_10 : decode cX12_among 10 = .ok (.iconst 1, 1) := by decide +kernel
theorem dX12_among_11 : decode cX12_among 11 = .ok (.goto 4, 3) := by decide +kernel
theorem dX12_among_14 : decode cX12_among 14 = .ok (.iconst 0, 1) := by decide +kernel
theorem dX12_among_15 : decode cX12_among 15 = .ok (.ireturn, 1) := by decide +kernel
theorem dX12_lost_0 : decode cX12_lost 0 = .ok (.ldc2_w 100, 3) := by decide +kernel
theorem dX12_lost_3 : decode cX12_lost 3 = .ok (.lreturn, 1) := by decide +kernel
theorem dX12_refused_0 : decode cX12_refused 0 = .ok (.aload_n 0, 1) := by decide +kernel
theorem dX12_refused_1 : decode cX12_refused 1 = .ok (.iconst 0, 1) := by decide +kernel
theorem dX12_refused_2 : decode cX12_refused 2 = .ok (.putfield 102, 3) := by decide +kernel
theorem dX12_refused_5 : decode cX12_refused 5 = .ok (.iload_n 1, 1) := by decide +kernel
theorem dX12_refused_6 : decode cX12_refused 6 = .ok (.ireturn, 1) := by decide +kernel
theorem dX12_failed_0 : decode cX12_failed 0 = .ok (.aload_n 0, 1) := by decide +kernel
theorem dX12_failed_1 : decode cX12_failed 1 = .ok (.iload_n 1, 1) := by decide +kernel
theorem dX12_failed_2 : decode cX12_failed 2 = .ok (.putfield 102, 3) := by decide +kernel
theorem dX12_failed_5 : decode cX12_failed 5 = .ok (.bipush (-10), 2) := by decide +kernel
theorem dX12_failed_7 : decode cX12_failed 7 = .ok (.iload_n 1, 1) := by decide +kernel
theorem dX12_failed_8 : decode cX12_failed 8 = .ok (.isub, 1) := by decide +kernel
theorem dX12_failed_9 : decode cX12_failed 9 = .ok (.ireturn, 1) := by decide +kernel
set_option maxRecDepth 20000 in
theorem ggX12_failedLong_X12_lost : GoodIn wsX12_failedLong wsX12_lost := goodIn_r _ [5, 6] (by decide +kernel) (by decide +kernel)
set_option maxRecDepth 20000 in
theorem gX12_failedLong_X12_lost : GoodIn wsX12_failedLong (va_wsS RX12 105 yX12_lost wsX12_lost) := goodIn_app (goodIn_of _ (by decide +kernel)) ggX12_failedLong_X12_lost
theorem dX12_failedLong_0 : decode cX12_failedLong 0 = .ok (.aload_n 0, 1) := by decide +kernel
theorem dX12_failedLong_1 : decode cX12_failedLong 1 = .ok (.iload_n 1, 1) := by decide +kernel
theorem dX12_failedLong_2 : decode cX12_failedLong 2 = .ok (.putfield 102, 3) := by decide +kernel
theorem dX12_failedLong_5 : decode cX12_failedLong 5 = .ok (.invokestatic 105, 3) := by decide +kernel
theorem dX12_failedLong_8 : decode cX12_failedLong 8 = .ok (.lreturn, 1) := by decide +kernel
set_option maxRecDepth 20000 in
theorem ggX12_noJoint_X12_among : GoodIn wsX12_noJoint wsX12_among := goodIn_r _ [5] (by decide +kernel) (by decide +kernel)
set_option maxRecDepth 20000 in
theorem gX12_noJoint_X12_among : GoodIn wsX12_noJoint (va_wsS RX12 112 yX12_among wsX12_among) := goodIn_app (goodIn_of _ (by decide +kernel)) ggX12_noJoint_X12_among
theorem dX12_noJoint_0 : decode cX12_noJoint 0 = .ok (.iload_n 1, 1) := by decide +kernel
theorem dX12_noJoint_1 : decode cX12_noJoint 1 = .ok (.iconst 0, 1) := by decide +kernel
theorem dX12_noJoint_2 : decode cX12_noJoint 2 = .ok (.aload_n 0, 1) := by decide +kernel
theorem dX12_noJoint_3 : decode cX12_noJoint 3 = .ok (.getfield 109, 3) := by decide +kernel
theorem dX12_noJoint_6 : decode cX12_noJoint 6 = .ok (.iconst 1, 1) := by decide +kernel
theorem dX12_noJoint_7 : decode cX12_noJoint 7 = .ok (.isub, 1) := by decide +kernel
theorem dX12_noJoint_8 : decode cX12_noJoint 8 = .ok (.invokestatic 112, 3) := by decide +kernel
theorem dX12_noJoint_11 : decode cX12_noJoint 11 = .ok (.ifCond .ne 7, 3) := by decide +kernel
theorem dX12_noJoint_14 : decode cX12_noJoint 14 = .ok (.iconst 1, 1) := by decide +kernel
theorem dX12_noJoint_15 : decode cX12_noJoint 15 = .ok (.goto 4, 3) := by decide +kernel
theorem dX12_noJoint_18 : decode cX12_noJoint 18 = .ok (.iconst 0, 1) := by decide +kernel
theorem dX12_noJoint_19 : decode cX12_noJoint 19 = .ok (.ireturn, 1) := by decide +kernel
set_option maxRecDepth 20000 in
theorem ggX12_noCrack_X12_among : GoodIn wsX12_noCrack wsX12_among := goodIn_r _ [5] (by decide +kernel) (by decide +kernel)
set_option maxRecDepth 20000 in
theorem gX12_noCrack_X12_among : GoodIn wsX12_noCrack (va_wsS RX12 112 yX12_among wsX12_among) := goodIn_app (goodIn_of _ (by decide +kernel)) ggX12_noCrack_X12_among
theorem dX12_noCrack_0 : decode cX12_noCrack 0 = .ok (.iload_n 1, 1) := by decide +kernel
theorem dX12_noCrack_1 : decode cX12_noCrack 1 = .ok (.iconst 0, 1) := by decide +kernel
theorem dX12_noCrack_2 : decode cX12_noCrack 2 = .ok (.aload_n 0, 1) := by decide +kernel
theorem dX12_noCrack_3 : decode cX12_noCrack 3 = .ok (.getfield 116, 3) := by decide +kernel
theorem dX12_noCrack_6 : decode cX12_noCrack 6 = .ok (.iconst 1, 1) := by decide +kernel
theorem dX12_noCrack_7 : decode cX12_noCrack 7 = .ok (.isub, 1) := by decide +kernel
theorem dX12_noCrack_8 : decode cX12_noCrack 8 = .ok (.invokestatic 112, 3) := by decide +kernel
theorem dX12_noCrack_11 : decode cX12_noCrack 11 = .ok (.ifCond .ne 7, 3) := by decide +kernel
theorem dX12_noCrack_14 : decode cX12_noCrack 14 = .ok (.iconst 1, 1) := by decide +kernel
theorem dX12_noCrack_15 : decode cX12_noCrack 15 = .ok (.goto 4, 3) := by decide +kernel
theorem dX12_noCrack_18 : decode cX12_noCrack 18 = .ok (.iconst 0, 1) := by decide +kernel
theorem dX12_noCrack_19 : decode cX12_noCrack 19 = .ok (.ireturn, 1) := by decide +kernel
theorem dX12_joint_0 : decode cX12_joint 0 = .ok (.aload_n 0, 1) := by decide +kernel
theorem dX12_joint_1 : decode cX12_joint 1 = .ok (.getfield 109, 3) := by decide +kernel
theorem dX12_joint_4 : decode cX12_joint 4 = .ok (.bipush 6, 2) := by decide +kernel
theorem dX12_joint_6 : decode cX12_joint 6 = .ok (.if_icmp .ne 6, 3) := by decide +kernel
theorem dX12_joint_9 : decode cX12_joint 9 = .ok (.bipush (-4), 2) := by decide +kernel
theorem dX12_joint_11 : decode cX12_joint 11 = .ok (.ireturn, 1) := by decide +kernel
theorem dX12_joint_12 : decode cX12_joint 12 = .ok (.aload_n 0, 1) := by decide +kernel
theorem dX12_joint_13 : decode cX12_joint 13 = .ok (.getfield 7, 3) := by decide +kernel
theorem dX12_joint_16 : decode cX12_joint 16 = .ok (.aload_n 0, 1) := by decide +kernel
theorem dX12_joint_17 : decode cX12_joint 17 = .ok (.getfield 109, 3) := by decide +kernel
theorem dX12_joint_20 : decode cX12_joint 20 = .ok (.iconst 0, 1) := by decide +kernel
theorem dX12_joint_21 : decode cX12_joint 21 = .ok (.bastore, 1) := by decide +kernel
theorem dX12_joint_22 : decode cX12_joint 22 = .ok (.aload_n 0, 1) := by decide +kernel
theorem dX12_joint_23 : decode cX12_joint 23 = .ok (.dup, 1) := by decide +kernel
theorem dX12_joint_24 : decode cX12_joint 24 = .ok (.getfield 109, 3) := by decide +kernel
theorem dX12_joint_27 : decode cX12_joint 27 = .ok (.iconst 1, 1) := by decide +kernel
theorem dX12_joint_28 : decode cX12_joint 28 = .ok (.iadd, 1) := by decide +kernel
theorem dX12_joint_29 : decode cX12_joint 29 = .ok (.putfield 109, 3) := by decide +kernel
theorem dX12_joint_32 : decode cX12_joint 32 = .ok (.aload_n 0, 1) := by decide +kernel
theorem dX12_joint_33 : decode cX12_joint 33 = .ok (.getfield 109, 3) := by decide +kernel
theorem dX12_joint_36 : decode cX12_joint 36 = .ok (.iconst 1, 1) := by decide +kernel
theorem dX12_joint_37 : decode cX12_joint 37 = .ok (.isub, 1) := by decide +kernel
theorem dX12_joint_38 : decode cX12_joint 38 = .ok (.ireturn, 1) := by decide +kernel
set_option maxRecDepth 20000 in
theorem ggX12_hold_X12_noJoint : GoodIn wsX12_hold wsX12_noJoint := goodIn_r _ [7, 8, 9, 10, 6, 11, 12, 13, 14, 15, 16, 17, 18, 19, 20, 21, 22, 23, 24, 25, 26, 27, 28, 29, 30, 31, 32, 33, 34, 35, 36, 37, 38, 39, 40, 41, 42, 43, 44, 45, 46, 47, 48, 49, 50] (by decide +kernel) (by decide +kernel)
set_option maxRecDepth 20000 in
theorem gX12_hold_X12_noJoint : GoodIn wsX12_hold (wsV RX12 119 RX12 yX12_noJoint wsX12_noJoint) := goodIn_app (goodIn_of _ (by decide +kernel)) ggX12_hold_X12_noJoint
set_option maxRecDepth 20000 in
theorem ggX12_hold_X12_among : GoodIn wsX12_hold wsX12_among := goodIn_r _ [11] (by decide +kernel) (by decide +kernel)
set_option maxRecDepth 20000 in
theorem gX12_hold_X12_among : GoodIn wsX12_hold (va_wsS RX12 112 yX12_among wsX12_among) := goodIn_app (goodIn_of _ (by decide +kernel)) ggX12_hold_X12_among
theorem dX12_hold_0 : decode cX12_hold 0 = .ok (.aload_n 0, 1) := by decide +kernel
theorem dX12_hold_1 : decode cX12_hold 1 = .ok (.iload_n 1, 1) := by decide +kernel
theorem dX12_hold_2 : decode cX12_hold 2 = .ok (.invokevirtual 119, 3) := by decide +kernel
theorem dX12_hold_5 : decode cX12_hold 5 = .ok (.ifCond .eq 5, 3) := by decide +kernel
theorem dX12_hold_8 : decode cX12_hold 8 = .ok (.iconst (-1), 1) := by decide +kernel
theorem dX12_hold_9 : decode cX12_hold 9 = .ok (.ireturn, 1) := by decide +kernel
theorem dX12_hold_10 : decode cX12_hold 10 = .ok (.iload_n 2, 1) := by decide +kernel
theorem dX12_hold_11 : decode cX12_hold 11 = .ok (.iconst 0, 1) := by decide +kernel
theorem dX12_hold_12 : decode cX12_hold 12 = .ok (.bipush 100, 2) := by decide +kernel
theorem dX12_hold_14 : decode cX12_hold 14 = .ok (.invokestatic 112, 3) := by decide +kernel
theorem dX12_hold_17 : decode cX12_hold 17 = .ok (.ifCond .ne 6, 3) := by decide +kernel
theorem dX12_hold_20 : decode cX12_hold 20 = .ok (.bipush (-2), 2) := by decide +kernel
theorem dX12_hold_22 : decode cX12_hold 22 = .ok (.ireturn, 1) := by decide +kernel
theorem dX12_hold_23 : decode cX12_hold 23 = .ok (.aload_n 0, 1) := by decide +kernel
theorem dX12_hold_24 : decode cX12_hold 24 = .ok (.getfield 7, 3) := by decide +kernel
theorem dX12_hold_27 : decode cX12_hold 27 = .ok (.iload_n 1, 1) := by decide +kernel
theorem dX12_hold_28 : decode cX12_hold 28 = .ok (.iconst 1, 1) := by decide +kernel
theorem dX12_hold_29 : decode cX12_hold 29 = .ok (.bastore, 1) := by decide +kernel
theorem dX12_hold_30 : decode cX12_hold 30 = .ok (.aload_n 0, 1) := by decide +kernel
theorem dX12_hold_31 : decode cX12_hold 31 = .ok (.getfield 13, 3) := by decide +kernel
theorem dX12_hold_34 : decode cX12_hold 34 = .ok (.iload_n 1, 1) := by decide +kernel
theorem dX12_hold_35 : decode cX12_hold 35 = .ok (.iload_n 2, 1) := by decide +kernel
theorem dX12_hold_36 : decode cX12_hold 36 = .ok (.iastore, 1) := by decide +kernel
theorem dX12_hold_37 : decode cX12_hold 37 = .ok (.iconst 1, 1) := by decide +kernel
theorem dX12_hold_38 : decode cX12_hold 38 = .ok (.ireturn, 1) := by decide +kernel
set_option maxRecDepth 20000 in
theorem ggX12_free_X12_noJoint : GoodIn wsX12_free wsX12_noJoint := goodIn_r _ [6, 7, 8, 9, 5, 10, 11, 12, 13, 14, 15, 16, 17, 18, 19, 20, 21, 22, 23, 24, 25, 26, 27, 28, 29, 30, 31, 32, 33, 34, 35, 36, 37, 38, 39, 40, 41, 42, 43, 44, 45, 46, 47, 48, 49] (by decide +kernel) (by decide +kernel)
set_option maxRecDepth 20000 in
theorem gX12_free_X12_noJoint : GoodIn wsX12_free (wsV RX12 119 RX12 yX12_noJoint wsX12_noJoint) := goodIn_app (goodIn_of _ (by decide +kernel)) ggX12_free_X12_noJoint
theorem dX12_free_0 : decode cX12_free 0 = .ok (.aload_n 0, 1) := by decide +kernel
theorem dX12_free_1 : decode cX12_free 1 = .ok (.iload_n 1, 1) := by decide +kernel
theorem dX12_free_2 : decode cX12_free 2 = .ok (.invokevirtual 119, 3) := by decide +kernel
theorem dX12_free_5 : decode cX12_free 5 = .ok (.ifCond .eq 5, 3) := by decide +kernel
theorem dX12_free_8 : decode cX12_free 8 = .ok (.iconst (-1), 1) := by decide +kernel
theorem dX12_free_9 : decode cX12_free 9 = .ok (.ireturn, 1) := by decide +kernel
theorem dX12_free_10 : decode cX12_free 10 = .ok (.aload_n 0, 1) := by decide +kernel
theorem dX12_free_11 : decode cX12_free 11 = .ok (.getfield 7, 3) := by decide +kernel
theorem dX12_free_14 : decode cX12_free 14 = .ok (.iload_n 1, 1) := by decide +kernel
theorem dX12_free_15 : decode cX12_free 15 = .ok (.baload, 1) := by decide +kernel
theorem dX12_free_16 : decode cX12_free 16 = .ok (.ifCond .eq 7, 3) := by decide +kernel
theorem dX12_free_19 : decode cX12_free 19 = .ok (.iconst 1, 1) := by decide +kernel
theorem dX12_free_20 : decode cX12_free 20 = .ok (.goto 4, 3) := by decide +kernel
theorem dX12_free_23 : decode cX12_free 23 = .ok (.iconst 0, 1) := by decide +kernel
theorem dX12_free_24 : decode cX12_free 24 = .ok (.istore_n 2, 1) := by decide +kernel
theorem dX12_free_25 : decode cX12_free 25 = .ok (.aload_n 0, 1) := by decide +kernel
theorem dX12_free_26 : decode cX12_free 26 = .ok (.getfield 7, 3) := by decide +kernel
theorem dX12_free_29 : decode cX12_free 29 = .ok (.iload_n 1, 1) := by decide +kernel
theorem dX12_free_30 : decode cX12_free 30 = .ok (.iconst 0, 1) := by decide +kernel
theorem dX12_free_31 : decode cX12_free 31 = .ok (.bastore, 1) := by decide +kernel
theorem dX12_free_32 : decode cX12_free 32 = .ok (.iload_n 2, 1) := by decide +kernel
theorem dX12_free_33 : decode cX12_free 33 = .ok (.ireturn, 1) := by decide +kernel
set_option maxRecDepth 20000 in
theorem ggX12_crack_X12_noJoint : GoodIn wsX12_crack wsX12_noJoint := goodIn_r _ [12, 13, 14, 15, 11, 16, 17, 18, 19, 20, 21, 22, 23, 24, 25, 26, 27, 28, 29, 30, 31, 32, 33, 34, 35, 36, 37, 38, 39, 40, 41, 42, 43, 44, 45, 46, 47, 48, 49, 50, 51, 52, 53, 54, 55] (by decide +kernel) (by decide +kernel)
set_option maxRecDepth 20000 in
theorem gX12_crack_X12_noJoint : GoodIn wsX12_crack (wsV RX12 119 RX12 yX12_noJoint wsX12_noJoint) := goodIn_app (goodIn_of _ (by decide +kernel)) ggX12_crack_X12_noJoint
set_option maxRecDepth 20000 in
theorem ggX12_crack_X12_among : GoodIn wsX12_crack wsX12_among := goodIn_r _ [16] (by decide +kernel) (by decide +kernel)
set_option maxRecDepth 20000 in
theorem gX12_crack_X12_among : GoodIn wsX12_crack (va_wsS RX12 112 yX12_among wsX12_among) := goodIn_app (goodIn_of _ (by decide +kernel)) ggX12_crack_X12_among
theorem dX12_crack_0 : decode cX12_crack 0 = .ok (.aload_n 0, 1) := by decide +kernel
theorem dX12_crack_1 : decode cX12_crack 1 = .ok (.iload_n 1, 1) := by decide +kernel
theorem dX12_crack_2 : decode cX12_crack 2 = .ok (.invokevirtual 119, 3) := by decide +kernel
theorem dX12_crack_5 : decode cX12_crack 5 = .ok (.ifCond .ne 11, 3) := by decide +kernel
theorem dX12_crack_8 : decode cX12_crack 8 = .ok (.aload_n 0, 1) := by decide +kernel
theorem dX12_crack_9 : decode cX12_crack 9 = .ok (.iload_n 2, 1) := by decide +kernel
theorem dX12_crack_10 : decode cX12_crack 10 = .ok (.invokevirtual 119, 3) := by decide +kernel
theorem dX12_crack_13 : decode cX12_crack 13 = .ok (.ifCond .eq 5, 3) := by decide +kernel
theorem dX12_crack_16 : decode cX12_crack 16 = .ok (.iconst (-1), 1) := by decide +kernel
theorem dX12_crack_17 : decode cX12_crack 17 = .ok (.ireturn, 1) := by decide +kernel
theorem dX12_crack_18 : decode cX12_crack 18 = .ok (.iload_n 1, 1) := by decide +kernel
theorem dX12_crack_19 : decode cX12_crack 19 = .ok (.iload_n 2, 1) := by decide +kernel
theorem dX12_crack_20 : decode cX12_crack 20 = .ok (.if_icmp .eq 34, 3) := by decide +kernel
theorem dX12_crack_23 : decode cX12_crack 23 = .ok (.iload_n 3, 1) := by decide +kernel
theorem dX12_crack_24 : decode cX12_crack 24 = .ok (.iconst 0, 1) := by decide +kernel
theorem dX12_crack_25 : decode cX12_crack 25 = .ok (.iconst 4, 1) := by decide +kernel
theorem dX12_crack_26 : decode cX12_crack 26 = .ok (.invokestatic 112, 3) := by decide +kernel
theorem dX12_crack_29 : decode cX12_crack 29 = .ok (.ifCond .eq 25, 3) := by decide +kernel
theorem dX12_crack_32 : decode cX12_crack 32 = .ok (.iload 4, 2) := by decide +kernel
theorem dX12_crack_34 : decode cX12_crack 34 = .ok (.iconst 0, 1) := by decide +kernel
theorem dX12_crack_35 : decode cX12_crack 35 = .ok (.bipush 12, 2) := by decide +kernel
theorem dX12_crack_37 : decode cX12_crack 37 = .ok (.invokestatic 112, 3) := by decide +kernel
theorem dX12_crack_40 : decode cX12_crack 40 = .ok (.ifCond .eq 14, 3) := by decide +kernel
theorem dX12_crack_43 : decode cX12_crack 43 = .ok (.iload 5, 2) := by decide +kernel
theorem dX12_crack_45 : decode cX12_crack 45 = .ok (.iconst 1, 1) := by decide +kernel
theorem dX12_crack_46 : decode cX12_crack 46 = .ok (.bipush 12, 2) := by decide +kernel
theorem dX12_crack_48 : decode cX12_crack 48 = .ok (.invokestatic 112, 3) := by decide +kernel
theorem dX12_crack_51 : decode cX12_crack 51 = .ok (.ifCond .ne 6, 3) := by decide +kernel
theorem dX12_crack_54 : decode cX12_crack 54 = .ok (.bipush (-2), 2) := by decide +kernel
theorem dX12_crack_56 : decode cX12_crack 56 = .ok (.ireturn, 1) := by decide +kernel
theorem dX12_crack_57 : decode cX12_crack 57 = .ok (.aload_n 0, 1) := by decide +kernel
theorem dX12_crack_58 : decode cX12_crack 58 = .ok (.getfield 116, 3) := by decide +kernel
theorem dX12_crack_61 : decode cX12_crack 61 = .ok (.bipush 12, 2) := by decide +kernel
theorem dX12_crack_63 : decode cX12_crack 63 = .ok (.if_icmp .ne 6, 3) := by decide +kernel
theorem dX12_crack_66 : decode cX12_crack 66 = .ok (.bipush (-4), 2) := by decide +kernel
theorem dX12_crack_68 : decode cX12_crack 68 = .ok (.ireturn, 1) := by decide +kernel
theorem dX12_crack_69 : decode cX12_crack 69 = .ok (.aload_n 0, 1) := by decide +kernel
theorem dX12_crack_70 : decode cX12_crack 70 = .ok (.getfield 17, 3) := by decide +kernel
theorem dX12_crack_73 : decode cX12_crack 73 = .ok (.aload_n 0, 1) := by decide +kernel
theorem dX12_crack_74 : decode cX12_crack 74 = .ok (.getfield 116, 3) := by decide +kernel
theorem dX12_crack_77 : decode cX12_crack 77 = .ok (.iload_n 1, 1) := by decide +kernel
theorem dX12_crack_78 : decode cX12_crack 78 = .ok (.iastore, 1) := by decide +kernel
theorem dX12_crack_79 : decode cX12_crack 79 = .ok (.aload_n 0, 1) := by decide +kernel
theorem dX12_crack_80 : decode cX12_crack 80 = .ok (.getfield 20, 3) := by decide +kernel
theorem dX12_crack_83 : decode cX12_crack 83 = .ok (.aload_n 0, 1) := by decide +kernel
theorem dX12_crack_84 : decode cX12_crack 84 = .ok (.getfield 116, 3) := by decide +kernel
theorem dX12_crack_87 : decode cX12_crack 87 = .ok (.iload_n 2, 1) := by decide +kernel
theorem dX12_crack_88 : decode cX12_crack 88 = .ok (.iastore, 1) := by decide +kernel
theorem dX12_crack_89 : decode cX12_crack 89 = .ok (.aload_n 0, 1) := by decide +kernel
theorem dX12_crack_90 : decode cX12_crack 90 = .ok (.getfield 23, 3) := by decide +kernel
theorem dX12_crack_93 : decode cX12_crack 93 = .ok (.aload_n 0, 1) := by decide +kernel
theorem dX12_crack_94 : decode cX12_crack 94 = .ok (.getfield 116, 3) := by decide +kernel
theorem dX12_crack_97 : decode cX12_crack 97 = .ok (.iload_n 3, 1) := by decide +kernel
theorem dX12_crack_98 : decode cX12_crack 98 = .ok (.iastore, 1) := by decide +kernel
theorem dX12_crack_99 : decode cX12_crack 99 = .ok (.aload_n 0, 1) := by decide +kernel
theorem dX12_crack_100 : decode cX12_crack 100 = .ok (.getfield 26, 3) := by decide +kernel
theorem dX12_crack_103 : decode cX12_crack 103 = .ok (.aload_n 0, 1) := by decide +kernel
theorem dX12_crack_104 : decode cX12_crack 104 = .ok (.getfield 116, 3) := by decide +kernel
theorem dX12_crack_107 : decode cX12_crack 107 = .ok (.iload 4, 2) := by decide +kernel
theorem dX12_crack_109 : decode cX12_crack 109 = .ok (.iastore, 1) := by decide +kernel
theorem dX12_crack_110 : decode cX12_crack 110 = .ok (.aload_n 0, 1) := by decide +kernel
theorem dX12_crack_111 : decode cX12_crack 111 = .ok (.getfield 29, 3) := by decide +kernel
theorem dX12_crack_114 : decode cX12_crack 114 = .ok (.aload_n 0, 1) := by decide +kernel
theorem dX12_crack_115 : decode cX12_crack 115 = .ok (.getfield 116, 3) := by decide +kernel
theorem dX12_crack_118 : decode cX12_crack 118 = .ok (.iload 5, 2) := by decide +kernel
theorem dX12_crack_120 : decode cX12_crack 120 = .ok (.iastore, 1) := by decide +kernel
theorem dX12_crack_121 : decode cX12_crack 121 = .ok (.aload_n 0, 1) := by decide +kernel
theorem dX12_crack_122 : decode cX12_crack 122 = .ok (.getfield 32, 3) := by decide +kernel
theorem dX12_crack_125 : decode cX12_crack 125 = .ok (.aload_n 0, 1) := by decide +kernel
theorem dX12_crack_126 : decode cX12_crack 126 = .ok (.getfield 116, 3) := by decide +kernel
theorem dX12_crack_129 : decode cX12_crack 129 = .ok (.iconst 0, 1) := by decide +kernel
theorem dX12_crack_130 : decode cX12_crack 130 = .ok (.iastore, 1) := by decide +kernel
theorem dX12_crack_131 : decode cX12_crack 131 = .ok (.aload_n 0, 1) := by decide +kernel
theorem dX12_crack_132 : decode cX12_crack 132 = .ok (.dup, 1) := by decide +kernel
theorem dX12_crack_133 : decode cX12_crack 133 = .ok (.getfield 116, 3) := by decide +kernel
theorem dX12_crack_136 : decode cX12_crack 136 = .ok (.iconst 1, 1) := by decide +kernel
theorem dX12_crack_137 : decode cX12_crack 137 = .ok (.iadd, 1) := by decide +kernel
theorem dX12_crack_138 : decode cX12_crack 138 = .ok (.putfield 116, 3) := by decide +kernel
theorem dX12_crack_141 : decode cX12_crack 141 = .ok (.aload_n 0, 1) := by decide +kernel
theorem dX12_crack_142 : decode cX12_crack 142 = .ok (.getfield 116, 3) := by decide +kernel
theorem dX12_crack_145 : decode cX12_crack 145 = .ok (.iconst 1, 1) := by decide +kernel
theorem dX12_crack_146 : decode cX12_crack 146 = .ok (.isub, 1) := by decide +kernel
theorem dX12_crack_147 : decode cX12_crack 147 = .ok (.ireturn, 1) := by decide +kernel
set_option maxRecDepth 20000 in
theorem ggX12_width_X12_noCrack : GoodIn wsX12_width wsX12_noCrack := goodIn_r _ [7, 8, 9, 10, 6, 11, 12, 13, 14, 15, 16, 17, 18, 19, 20, 21, 22, 23, 24, 25, 26, 27, 28, 29, 30, 31, 32, 33, 34, 35, 36, 37, 38, 39, 40, 41, 42, 43, 44, 45, 46, 47, 48, 49, 50] (by decide +kernel) (by decide +kernel)
set_option maxRecDepth 20000 in
theorem gX12_width_X12_noCrack : GoodIn wsX12_width (wsV RX12 123 RX12 yX12_noCrack wsX12_noCrack) := goodIn_app (goodIn_of _ (by decide +kernel)) ggX12_width_X12_noCrack
set_option maxRecDepth 20000 in
theorem ggX12_width_X12_among : GoodIn wsX12_width wsX12_among := goodIn_r _ [11] (by decide +kernel) (by decide +kernel)
set_option maxRecDepth 20000 in
theorem gX12_width_X12_among : GoodIn wsX12_width (va_wsS RX12 112 yX12_among wsX12_among) := goodIn_app (goodIn_of _ (by decide +kernel)) ggX12_width_X12_among
theorem dX12_width_0 : decode cX12_width 0 = .ok (.aload_n 0, 1) := by decide +kernel
theorem dX12_width_1 : decode cX12_width 1 = .ok (.iload_n 1, 1) := by decide +kernel
theorem dX12_width_2 : decode cX12_width 2 = .ok (.invokevirtual 123, 3) := by decide +kernel
theorem dX12_width_5 : decode cX12_width 5 = .ok (.ifCond .eq 5, 3) := by decide +kernel
theorem dX12_width_8 : decode cX12_width 8 = .ok (.iconst (-1), 1) := by decide +kernel
theorem dX12_width_9 : decode cX12_width 9 = .ok (.ireturn, 1) := by decide +kernel
theorem dX12_width_10 : decode cX12_width 10 = .ok (.iload_n 2, 1) := by decide +kernel
theorem dX12_width_11 : decode cX12_width 11 = .ok (.iconst 0, 1) := by decide +kernel
theorem dX12_width_12 : decode cX12_width 12 = .ok (.bipush 12, 2) := by decide +kernel
theorem dX12_width_14 : decode cX12_width 14 = .ok (.invokestatic 112, 3) := by decide +kernel
theorem dX12_width_17 : decode cX12_width 17 = .ok (.ifCond .ne 6, 3) := by decide +kernel
theorem dX12_width_20 : decode cX12_width 20 = .ok (.bipush (-2), 2) := by decide +kernel
theorem dX12_width_22 : decode cX12_width 22 = .ok (.ireturn, 1) := by decide +kernel
theorem dX12_width_23 : decode cX12_width 23 = .ok (.aload_n 0, 1) := by decide +kernel
theorem dX12_width_24 : decode cX12_width 24 = .ok (.getfield 26, 3) := by decide +kernel
theorem dX12_width_27 : decode cX12_width 27 = .ok (.iload_n 1, 1) := by decide +kernel
theorem dX12_width_28 : decode cX12_width 28 = .ok (.iaload, 1) := by decide +kernel
theorem dX12_width_29 : decode cX12_width 29 = .ok (.istore_n 3, 1) := by decide +kernel
theorem dX12_width_30 : decode cX12_width 30 = .ok (.aload_n 0, 1) := by decide +kernel
theorem dX12_width_31 : decode cX12_width 31 = .ok (.getfield 26, 3) := by decide +kernel
theorem dX12_width_34 : decode cX12_width 34 = .ok (.iload_n 1, 1) := by decide +kernel
theorem dX12_width_35 : decode cX12_width 35 = .ok (.iload_n 2, 1) := by decide +kernel
theorem dX12_width_36 : decode cX12_width 36 = .ok (.iastore, 1) := by decide +kernel
theorem dX12_width_37 : decode cX12_width 37 = .ok (.aload_n 0, 1) := by decide +kernel
theorem dX12_width_38 : decode cX12_width 38 = .ok (.getfield 32, 3) := by decide +kernel
theorem dX12_width_41 : decode cX12_width 41 = .ok (.iload_n 1, 1) := by decide +kernel
theorem dX12_width_42 : decode cX12_width 42 = .ok (.iconst 0, 1) := by decide +kernel
theorem dX12_width_43 : decode cX12_width 43 = .ok (.iastore, 1) := by decide +kernel
theorem dX12_width_44 : decode cX12_width 44 = .ok (.iload_n 3, 1) := by decide +kernel
theorem dX12_width_45 : decode cX12_width 45 = .ok (.ireturn, 1) := by decide +kernel
theorem dX12_lets_0 : decode cX12_lets 0 = .ok (.aload_n 0, 1) := by decide +kernel
theorem dX12_lets_1 : decode cX12_lets 1 = .ok (.getfield 23, 3) := by decide +kernel
theorem dX12_lets_4 : decode cX12_lets 4 = .ok (.iload_n 1, 1) := by decide +kernel
theorem dX12_lets_5 : decode cX12_lets 5 = .ok (.iaload, 1) := by decide +kernel
theorem dX12_lets_6 : decode cX12_lets 6 = .ok (.ifCond .eq 13, 3) := by decide +kernel
theorem dX12_lets_9 : decode cX12_lets 9 = .ok (.aload_n 0, 1) := by decide +kernel
theorem dX12_lets_10 : decode cX12_lets 10 = .ok (.getfield 23, 3) := by decide +kernel
theorem dX12_lets_13 : decode cX12_lets 13 = .ok (.iload_n 1, 1) := by decide +kernel
theorem dX12_lets_14 : decode cX12_lets 14 = .ok (.iaload, 1) := by decide +kernel
theorem dX12_lets_15 : decode cX12_lets 15 = .ok (.iconst 2, 1) := by decide +kernel
theorem dX12_lets_16 : decode cX12_lets 16 = .ok (.if_icmp .ne 12, 3) := by decide +kernel
theorem dX12_lets_19 : decode cX12_lets 19 = .ok (.aload_n 0, 1) := by decide +kernel
theorem dX12_lets_20 : decode cX12_lets 20 = .ok (.getfield 26, 3) := by decide +kernel
theorem dX12_lets_23 : decode cX12_lets 23 = .ok (.iload_n 1, 1) := by decide +kernel
theorem dX12_lets_24 : decode cX12_lets 24 = .ok (.iaload, 1) := by decide +kernel
theorem dX12_lets_25 : decode cX12_lets 25 = .ok (.goto 16, 3) := by decide +kernel
theorem dX12_lets_28 : decode cX12_lets 28 = .ok (.aload_n 0, 1) := by decide +kernel
theorem dX12_lets_29 : decode cX12_lets 29 = .ok (.getfield 26, 3) := by decide +kernel
theorem dX12_lets_32 : decode cX12_lets 32 = .ok (.iload_n 1, 1) := by decide +kernel
theorem dX12_lets_33 : decode cX12_lets 33 = .ok (.iaload, 1) := by decide +kernel
theorem dX12_lets_34 : decode cX12_lets 34 = .ok (.aload_n 0, 1) := by decide +kernel
theorem dX12_lets_35 : decode cX12_lets 35 = .ok (.getfield 26, 3) := by decide +kernel
theorem dX12_lets_38 : decode cX12_lets 38 = .ok (.iload_n 1, 1) := by decide +kernel
theorem dX12_lets_39 : decode cX12_lets 39 = .ok (.iaload, 1) := by decide +kernel
theorem dX12_lets_40 : decode cX12_lets 40 = .ok (.imul, 1) := by decide +kernel
theorem dX12_lets_41 : decode cX12_lets 41 = .ok (.ireturn, 1) := by decide +kernel
set_option maxRecDepth 20000 in
theorem ggX12_about_X12_noCrack : GoodIn wsX12_about wsX12_noCrack := goodIn_r _ [11, 12, 13, 14, 10, 15, 20, 21, 22, 23, 24, 25, 26, 27, 28, 29, 30, 31, 32, 33, 34, 35, 36, 37, 38, 39, 40, 41, 42, 43, 44, 45, 46, 47, 48, 49, 50, 51, 52, 53, 54, 55, 56, 57, 58] (by decide +kernel) (by decide +kernel)
set_option maxRecDepth 20000 in
theorem gX12_about_X12_noCrack : GoodIn wsX12_about (wsV RX12 123 RX12 yX12_noCrack wsX12_noCrack) := goodIn_app (goodIn_of _ (by decide +kernel)) ggX12_about_X12_noCrack
set_option maxRecDepth 20000 in
theorem ggX12_about_X12_lets : GoodIn wsX12_about wsX12_lets := goodIn_r _ [19, 3, 4, 20, 21, 22, 23, 24, 25, 26, 27, 28, 29, 30, 31, 32, 33, 34, 35, 36, 37, 38, 39, 40, 41, 42, 43, 44, 45, 46, 47, 48, 49, 50, 51, 52, 53, 54, 55, 56, 57, 58] (by decide +kernel) (by decide +kernel)
set_option maxRecDepth 20000 in
theorem gX12_about_X12_lets : GoodIn wsX12_about (wsV RX12 126 RX12 yX12_lets wsX12_lets) := goodIn_app (goodIn_of _ (by decide +kernel)) ggX12_about_X12_lets
theorem dX12_about_0 : decode cX12_about 0 = .ok (.aload_n 0, 1) := by decide +kernel
theorem dX12_about_1 : decode cX12_about 1 = .ok (.iload_n 1, 1) := by decide +kernel
theorem dX12_about_2 : decode cX12_about 2 = .ok (.invokevirtual 123, 3) := by decide +kernel
theorem dX12_about_5 : decode cX12_about 5 = .ok (.ifCond .eq 5, 3) := by decide +kernel
theorem dX12_about_8 : decode cX12_about 8 = .ok (.iconst (-1), 1) := by decide +kernel
theorem dX12_about_9 : decode cX12_about 9 = .ok (.ireturn, 1) := by decide +kernel
theorem dX12_about_10 : decode cX12_about 10 = .ok (.iload_n 2, 1) := by decide +kernel
theorem dX12_about_11 : decode cX12_about 11 = .ok (.tableswitch 89 0 6 #[41, 48, 55, 62, 69, 76, 83], 41) := by decide +kernel
theorem dX12_about_52 : decode cX12_about 52 = .ok (.aload_n 0, 1) := by decide +kernel
theorem dX12_about_53 : decode cX12_about 53 = .ok (.getfield 17, 3) := by decide +kernel
theorem dX12_about_56 : decode cX12_about 56 = .ok (.iload_n 1, 1) := by decide +kernel
theorem dX12_about_57 : decode cX12_about 57 = .ok (.iaload, 1) := by decide +kernel
theorem dX12_about_58 : decode cX12_about 58 = .ok (.ireturn, 1) := by decide +kernel
theorem dX12_about_59 : decode cX12_about 59 = .ok (.aload_n 0, 1) := by decide +kernel
theorem dX12_about_60 : decode cX12_about 60 = .ok (.getfield 20, 3) := by decide +kernel
theorem dX12_about_63 : decode cX12_about 63 = .ok (.iload_n 1, 1) := by decide +kernel
theorem dX12_about_64 : decode cX12_about 64 = .ok (.iaload, 1) := by decide +kernel
theorem dX12_about_65 : decode cX12_about 65 = .ok (.ireturn, 1) := by decide +kernel
theorem dX12_about_66 : decode cX12_about 66 = .ok (.aload_n 0, 1) := by decide +kernel
theorem dX12_about_67 : decode cX12_about 67 = .ok (.getfield 23, 3) := by decide +kernel
theorem dX12_about_70 : decode cX12_about 70 = .ok (.iload_n 1, 1) := by decide +kernel
theorem dX12_about_71 : decode cX12_about 71 = .ok (.iaload, 1) := by decide +kernel
theorem dX12_about_72 : decode cX12_about 72 = .ok (.ireturn, 1) := by decide +kernel
theorem dX12_about_73 : decode cX12_about 73 = .ok (.aload_n 0, 1) := by decide +kernel
theorem dX12_about_74 : decode cX12_about 74 = .ok (.getfield 26, 3) := by decide +kernel
theorem dX12_about_77 : decode cX12_about 77 = .ok (.iload_n 1, 1) := by decide +kernel
theorem dX12_about_78 : decode cX12_about 78 = .ok (.iaload, 1) := by decide +kernel
theorem dX12_about_79 : decode cX12_about 79 = .ok (.ireturn, 1) := by decide +kernel
theorem dX12_about_80 : decode cX12_about 80 = .ok (.aload_n 0, 1) := by decide +kernel
theorem dX12_about_81 : decode cX12_about 81 = .ok (.getfield 29, 3) := by decide +kernel
theorem dX12_about_84 : decode cX12_about 84 = .ok (.iload_n 1, 1) := by decide +kernel
theorem dX12_about_85 : decode cX12_about 85 = .ok (.iaload, 1) := by decide +kernel
theorem dX12_about_86 : decode cX12_about 86 = .ok (.ireturn, 1) := by decide +kernel
theorem dX12_about_87 : decode cX12_about 87 = .ok (.aload_n 0, 1) := by decide +kernel
theorem dX12_about_88 : decode cX12_about 88 = .ok (.getfield 32, 3) := by decide +kernel
theorem dX12_about_91 : decode cX12_about 91 = .ok (.iload_n 1, 1) := by decide +kernel
theorem dX12_about_92 : decode cX12_about 92 = .ok (.iaload, 1) := by decide +kernel
theorem dX12_about_93 : decode cX12_about 93 = .ok (.ireturn, 1) := by decide +kernel
theorem dX12_about_94 : decode cX12_about 94 = .ok (.aload_n 0, 1) := by decide +kernel
theorem dX12_about_95 : decode cX12_about 95 = .ok (.iload_n 1, 1) := by decide +kernel
theorem dX12_about_96 : decode cX12_about 96 = .ok (.invokevirtual 126, 3) := by decide +kernel
theorem dX12_about_99 : decode cX12_about 99 = .ok (.ireturn, 1) := by decide +kernel
theorem dX12_about_100 : decode cX12_about 100 = .ok (.bipush (-2), 2) := by decide +kernel
theorem dX12_about_102 : decode cX12_about 102 = .ok (.ireturn, 1) := by decide +kernel
theorem dX12_findWet_0 : decode cX12_findWet 0 = .ok (.iconst 0, 1) := by decide +kernel
theorem dX12_findWet_1 : decode cX12_findWet 1 = .ok (.istore_n 1, 1) := by decide +kernel
theorem dX12_findWet_2 : decode cX12_findWet 2 = .ok (.iload_n 1, 1) := by decide +kernel
theorem dX12_findWet_3 : decode cX12_findWet 3 = .ok (.aload_n 0, 1) := by decide +kernel
theorem dX12_findWet_4 : decode cX12_findWet 4 = .ok (.getfield 109, 3) := by decide +kernel
theorem dX12_findWet_7 : decode cX12_findWet 7 = .ok (.if_icmp .ge 21, 3) := by decide +kernel
theorem dX12_findWet_10 : decode cX12_findWet 10 = .ok (.aload_n 0, 1) := by decide +kernel
theorem dX12_findWet_11 : decode cX12_findWet 11 = .ok (.getfield 35, 3) := by decide +kernel
theorem dX12_findWet_14 : decode cX12_findWet 14 = .ok (.iload_n 1, 1) := by decide +kernel
theorem dX12_findWet_15 : decode cX12_findWet 15 = .ok (.aload_n 0, 1) := by decide +kernel
theorem dX12_findWet_16 : decode cX12_findWet 16 = .ok (.getfield 7, 3) := by decide +kernel
theorem dX12_findWet_19 : decode cX12_findWet 19 = .ok (.iload_n 1, 1) := by decide +kernel
theorem dX12_findWet_20 : decode cX12_findWet 20 = .ok (.baload, 1) := by decide +kernel
theorem dX12_findWet_21 : decode cX12_findWet 21 = .ok (.bastore, 1) := by decide +kernel
theorem dX12_findWet_22 : decode cX12_findWet 22 = .ok (.iinc 1 1, 3) := by decide +kernel
theorem dX12_findWet_25 : decode cX12_findWet 25 = .ok (.goto (-23), 3) := by decide +kernel
theorem dX12_findWet_28 : decode cX12_findWet 28 = .ok (.iconst 0, 1) := by decide +kernel
theorem dX12_findWet_29 : decode cX12_findWet 29 = .ok (.istore_n 1, 1) := by decide +kernel
theorem dX12_findWet_30 : decode cX12_findWet 30 = .ok (.iload_n 1, 1) := by decide +kernel
theorem dX12_findWet_31 : decode cX12_findWet 31 = .ok (.aload_n 0, 1) := by decide +kernel
theorem dX12_findWet_32 : decode cX12_findWet 32 = .ok (.getfield 109, 3) := by decide +kernel
theorem dX12_findWet_35 : decode cX12_findWet 35 = .ok (.if_icmp .ge 136, 3) := by decide +kernel
theorem dX12_findWet_38 : decode cX12_findWet 38 = .ok (.iconst 0, 1) := by decide +kernel
theorem dX12_findWet_39 : decode cX12_findWet 39 = .ok (.istore_n 2, 1) := by decide +kernel
theorem dX12_findWet_40 : decode cX12_findWet 40 = .ok (.iload_n 2, 1) := by decide +kernel
theorem dX12_findWet_41 : decode cX12_findWet 41 = .ok (.aload_n 0, 1) := by decide +kernel
theorem dX12_findWet_42 : decode cX12_findWet 42 = .ok (.getfield 116, 3) := by decide +kernel
theorem dX12_findWet_45 : decode cX12_findWet 45 = .ok (.if_icmp .ge 120, 3) := by decide +kernel
theorem dX12_findWet_48 : decode cX12_findWet 48 = .ok (.aload_n 0, 1) := by decide +kernel
theorem dX12_findWet_49 : decode cX12_findWet 49 = .ok (.getfield 26, 3) := by decide +kernel
theorem dX12_findWet_52 : decode cX12_findWet 52 = .ok (.iload_n 2, 1) := by decide +kernel
theorem dX12_findWet_53 : decode cX12_findWet 53 = .ok (.iaload, 1) := by decide +kernel
theorem dX12_findWet_54 : decode cX12_findWet 54 = .ok (.ifCond .le 35, 3) := by decide +kernel
theorem dX12_findWet_57 : decode cX12_findWet 57 = .ok (.aload_n 0, 1) := by decide +kernel
theorem dX12_findWet_58 : decode cX12_findWet 58 = .ok (.getfield 35, 3) := by decide +kernel
theorem dX12_findWet_61 : decode cX12_findWet 61 = .ok (.aload_n 0, 1) := by decide +kernel
theorem dX12_findWet_62 : decode cX12_findWet 62 = .ok (.getfield 17, 3) := by decide +kernel
theorem dX12_findWet_65 : decode cX12_findWet 65 = .ok (.iload_n 2, 1) := by decide +kernel
theorem dX12_findWet_66 : decode cX12_findWet 66 = .ok (.iaload, 1) := by decide +kernel
theorem dX12_findWet_67 : decode cX12_findWet 67 = .ok (.baload, 1) := by decide +kernel
theorem dX12_findWet_68 : decode cX12_findWet 68 = .ok (.ifCond .ne 17, 3) := by decide +kernel
theorem dX12_findWet_71 : decode cX12_findWet 71 = .ok (.aload_n 0, 1) := by decide +kernel
theorem dX12_findWet_72 : decode cX12_findWet 72 = .ok (.getfield 35, 3) := by decide +kernel
theorem dX12_findWet_75 : decode cX12_findWet 75 = .ok (.aload_n 0, 1) := by decide +kernel
theorem dX12_findWet_76 : decode cX12_findWet 76 = .ok (.getfield 20, 3) := by decide +kernel
theorem dX12_findWet_79 : decode cX12_findWet 79 = .ok (.iload_n 2, 1) := by decide +kernel
theorem dX12_findWet_80 : decode cX12_findWet 80 = .ok (.iaload, 1) := by decide +kernel
theorem dX12_findWet_81 : decode cX12_findWet 81 = .ok (.baload, 1) := by decide +kernel
theorem dX12_findWet_82 : decode cX12_findWet 82 = .ok (.ifCond .eq 7, 3) := by decide +kernel
theorem dX12_findWet_85 : decode cX12_findWet 85 = .ok (.iconst 1, 1) := by decide +kernel
theorem dX12_findWet_86 : decode cX12_findWet 86 = .ok (.goto 4, 3) := by decide +kernel
theorem dX12_findWet_89 : decode cX12_findWet 89 = .ok (.iconst 0, 1) := by decide +kernel
theorem dX12_findWet_90 : decode cX12_findWet 90 = .ok (.istore_n 3, 1) := by decide +kernel
theorem dX12_findWet_91 : decode cX12_findWet 91 = .ok (.aload_n 0, 1) := by decide +kernel
theorem dX12_findWet_92 : decode cX12_findWet 92 = .ok (.getfield 35, 3) := by decide +kernel
theorem dX12_findWet_95 : decode cX12_findWet 95 = .ok (.aload_n 0, 1) := by decide +kernel
theorem dX12_findWet_96 : decode cX12_findWet 96 = .ok (.getfield 17, 3) := by decide +kernel
theorem dX12_findWet_99 : decode cX12_findWet 99 = .ok (.iload_n 2, 1) := by decide +kernel
theorem dX12_findWet_100 : decode cX12_findWet 100 = .ok (.iaload, 1) := by decide +kernel
theorem dX12_findWet_101 : decode cX12_findWet 101 = .ok (.aload_n 0, 1) := by decide +kernel
theorem dX12_findWet_102 : decode cX12_findWet 102 = .ok (.getfield 35, 3) := by decide +kernel
theorem dX12_findWet_105 : decode cX12_findWet 105 = .ok (.aload_n 0, 1) := by decide +kernel
theorem dX12_findWet_106 : decode cX12_findWet 106 = .ok (.getfield 17, 3) := by decide +kernel
theorem dX12_findWet_109 : decode cX12_findWet 109 = .ok (.iload_n 2, 1) := by decide +kernel
theorem dX12_findWet_110 : decode cX12_findWet 110 = .ok (.iaload, 1) := by decide +kernel
theorem dX12_findWet_111 : decode cX12_findWet 111 = .ok (.baload, 1) := by decide +kernel
theorem dX12_findWet_112 : decode cX12_findWet 112 = .ok (.ifCond .ne 7, 3) := by decide +kernel
theorem dX12_findWet_115 : decode cX12_findWet 115 = .ok (.iload_n 3, 1) := by decide +kernel
theorem dX12_findWet_116 : decode cX12_findWet 116 = .ok (.ifCond .eq 7, 3) := by decide +kernel
theorem dX12_findWet_119 : decode cX12_findWet 119 = .ok (.iconst 1, 1) := by decide +kernel
theorem dX12_findWet_120 : decode cX12_findWet 120 = .ok (.goto 4, 3) := by decide +kernel
theorem dX12_findWet_123 : decode cX12_findWet 123 = .ok (.iconst 0, 1) := by decide +kernel
theorem dX12_findWet_124 : decode cX12_findWet 124 = .ok (.bastore, 1) := by decide +kernel
theorem dX12_findWet_125 : decode cX12_findWet 125 = .ok (.aload_n 0, 1) := by decide +kernel
theorem dX12_findWet_126 : decode cX12_findWet 126 = .ok (.getfield 35, 3) := by decide +kernel
theorem dX12_findWet_129 : decode cX12_findWet 129 = .ok (.aload_n 0, 1) := by decide +kernel
theorem dX12_findWet_130 : decode cX12_findWet 130 = .ok (.getfield 20, 3) := by decide +kernel
theorem dX12_findWet_133 : decode cX12_findWet 133 = .ok (.iload_n 2, 1) := by decide +kernel
theorem dX12_findWet_134 : decode cX12_findWet 134 = .ok (.iaload, 1) := by decide +kernel
theorem dX12_findWet_135 : decode cX12_findWet 135 = .ok (.aload_n 0, 1) := by decide +kernel
theorem dX12_findWet_136 : decode cX12_findWet 136 = .ok (.getfield 35, 3) := by decide +kernel
theorem dX12_findWet_139 : decode cX12_findWet 139 = .ok (.aload_n 0, 1) := by decide +kernel
theorem dX12_findWet_140 : decode cX12_findWet 140 = .ok (.getfield 20, 3) := by decide +kernel
theorem dX12_findWet_143 : decode cX12_findWet 143 = .ok (.iload_n 2, 1) := by decide +kernel
theorem dX12_findWet_144 : decode cX12_findWet 144 = .ok (.iaload, 1) := by decide +kernel
theorem dX12_findWet_145 : decode cX12_findWet 145 = .ok (.baload, 1) := by decide +kernel
theorem dX12_findWet_146 : decode cX12_findWet 146 = .ok (.ifCond .ne 7, 3) := by decide +kernel
theorem dX12_findWet_149 : decode cX12_findWet 149 = .ok (.iload_n 3, 1) := by decide +kernel
theorem dX12_findWet_150 : decode cX12_findWet 150 = .ok (.ifCond .eq 7, 3) := by decide +kernel
theorem dX12_findWet_153 : decode cX12_findWet 153 = .ok (.iconst 1, 1) := by decide +kernel
theorem dX12_findWet_154 : decode cX12_findWet 154 = .ok (.goto 4, 3) := by decide +kernel
theorem dX12_findWet_157 : decode cX12_findWet 157 = .ok (.iconst 0, 1) := by decide +kernel
theorem dX12_findWet_158 : decode cX12_findWet 158 = .ok (.bastore, 1) := by decide +kernel
theorem dX12_findWet_159 : decode cX12_findWet 159 = .ok (.iinc 2 1, 3) := by decide +kernel
theorem dX12_findWet_162 : decode cX12_findWet 162 = .ok (.goto (-122), 3) := by decide +kernel
theorem dX12_findWet_165 : decode cX12_findWet 165 = .ok (.iinc 1 1, 3) := by decide +kernel
theorem dX12_findWet_168 : decode cX12_findWet 168 = .ok (.goto (-138), 3) := by decide +kernel
theorem dX12_findWet_171 : decode cX12_findWet 171 = .ok (.return_, 1) := by decide +kernel
theorem dX12_ask_0 : decode cX12_ask 0 = .ok (.aload_n 0, 1) := by decide +kernel
theorem dX12_ask_1 : decode cX12_ask 1 = .ok (.getfield 7, 3) := by decide +kernel
theorem dX12_ask_4 : decode cX12_ask 4 = .ok (.iload_n 1, 1) := by decide +kernel
theorem dX12_ask_5 : decode cX12_ask 5 = .ok (.baload, 1) := by decide +kernel
theorem dX12_ask_6 : decode cX12_ask 6 = .ok (.ifCond .ne 12, 3) := by decide +kernel
theorem dX12_ask_9 : decode cX12_ask 9 = .ok (.aload_n 0, 1) := by decide +kernel
theorem dX12_ask_10 : decode cX12_ask 10 = .ok (.getfield 35, 3) := by decide +kernel
theorem dX12_ask_13 : decode cX12_ask 13 = .ok (.iload_n 1, 1) := by decide +kernel
theorem dX12_ask_14 : decode cX12_ask 14 = .ok (.baload, 1) := by decide +kernel
theorem dX12_ask_15 : decode cX12_ask 15 = .ok (.ifCond .ne 4, 3) := by decide +kernel
theorem dX12_ask_18 : decode cX12_ask 18 = .ok (.return_, 1) := by decide +kernel
theorem dX12_ask_19 : decode cX12_ask 19 = .ok (.aload_n 0, 1) := by decide +kernel
theorem dX12_ask_20 : decode cX12_ask 20 = .ok (.getfield 45, 3) := by decide +kernel
theorem dX12_ask_23 : decode cX12_ask 23 = .ok (.iload_n 1, 1) := by decide +kernel
theorem dX12_ask_24 : decode cX12_ask 24 = .ok (.iaload, 1) := by decide +kernel
theorem dX12_ask_25 : decode cX12_ask 25 = .ok (.istore 4, 2) := by decide +kernel
theorem dX12_ask_27 : decode cX12_ask 27 = .ok (.aload_n 0, 1) := by decide +kernel
theorem dX12_ask_28 : decode cX12_ask 28 = .ok (.getfield 48, 3) := by decide +kernel
theorem dX12_ask_31 : decode cX12_ask 31 = .ok (.bipush 6, 2) := by decide +kernel
theorem dX12_ask_33 : decode cX12_ask 33 = .ok (.iload 4, 2) := by decide +kernel
theorem dX12_ask_35 : decode cX12_ask 35 = .ok (.imul, 1) := by decide +kernel
theorem dX12_ask_36 : decode cX12_ask 36 = .ok (.iload 4, 2) := by decide +kernel
theorem dX12_ask_38 : decode cX12_ask 38 = .ok (.iadd, 1) := by decide +kernel
theorem dX12_ask_39 : decode cX12_ask 39 = .ok (.dup2, 1) := by decide +kernel
theorem dX12_ask_40 : decode cX12_ask 40 = .ok (.laload, 1) := by decide +kernel
theorem dX12_ask_41 : decode cX12_ask 41 = .ok (.iload_n 3, 1) := by decide +kernel
theorem dX12_ask_42 : decode cX12_ask 42 = .ok (.i2l, 1) := by decide +kernel
theorem dX12_ask_43 : decode cX12_ask 43 = .ok (.ladd, 1) := by decide +kernel
theorem dX12_ask_44 : decode cX12_ask 44 = .ok (.lastore, 1) := by decide +kernel
theorem dX12_ask_45 : decode cX12_ask 45 = .ok (.aload_n 0, 1) := by decide +kernel
theorem dX12_ask_46 : decode cX12_ask 46 = .ok (.getfield 7, 3) := by decide +kernel
theorem dX12_ask_49 : decode cX12_ask 49 = .ok (.iload_n 2, 1) := by decide +kernel
theorem dX12_ask_50 : decode cX12_ask 50 = .ok (.baload, 1) := by decide +kernel
theorem dX12_ask_51 : decode cX12_ask 51 = .ok (.ifCond .eq 31, 3) := by decide +kernel
theorem dX12_ask_54 : decode cX12_ask 54 = .ok (.aload_n 0, 1) := by decide +kernel
theorem dX12_ask_55 : decode cX12_ask 55 = .ok (.getfield 48, 3) := by decide +kernel
theorem dX12_ask_58 : decode cX12_ask 58 = .ok (.bipush 6, 2) := by decide +kernel
theorem dX12_ask_60 : decode cX12_ask 60 = .ok (.iload 4, 2) := by decide +kernel
theorem dX12_ask_62 : decode cX12_ask 62 = .ok (.imul, 1) := by decide +kernel
theorem dX12_ask_63 : decode cX12_ask 63 = .ok (.iconst 5, 1) := by decide +kernel
theorem dX12_ask_64 : decode cX12_ask 64 = .ok (.iadd, 1) := by decide +kernel
theorem dX12_ask_65 : decode cX12_ask 65 = .ok (.dup2, 1) := by decide +kernel
theorem dX12_ask_66 : decode cX12_ask 66 = .ok (.laload, 1) := by decide +kernel
theorem dX12_ask_67 : decode cX12_ask 67 = .ok (.iload_n 3, 1) := by decide +kernel
theorem dX12_ask_68 : decode cX12_ask 68 = .ok (.i2l, 1) := by decide +kernel
theorem dX12_ask_69 : decode cX12_ask 69 = .ok (.aload_n 0, 1) := by decide +kernel
theorem dX12_ask_70 : decode cX12_ask 70 = .ok (.getfield 13, 3) := by decide +kernel
theorem dX12_ask_73 : decode cX12_ask 73 = .ok (.iload_n 2, 1) := by decide +kernel
theorem dX12_ask_74 : decode cX12_ask 74 = .ok (.iaload, 1) := by decide +kernel
theorem dX12_ask_75 : decode cX12_ask 75 = .ok (.i2l, 1) := by decide +kernel
theorem dX12_ask_76 : decode cX12_ask 76 = .ok (.lmul, 1) := by decide +kernel
theorem dX12_ask_77 : decode cX12_ask 77 = .ok (.ladd, 1) := by decide +kernel
theorem dX12_ask_78 : decode cX12_ask 78 = .ok (.lastore, 1) := by decide +kernel
theorem dX12_ask_79 : decode cX12_ask 79 = .ok (.goto 25, 3) := by decide +kernel
theorem dX12_ask_82 : decode cX12_ask 82 = .ok (.aload_n 0, 1) := by decide +kernel
theorem dX12_ask_83 : decode cX12_ask 83 = .ok (.getfield 48, 3) := by decide +kernel
theorem dX12_ask_86 : decode cX12_ask 86 = .ok (.bipush 6, 2) := by decide +kernel
theorem dX12_ask_88 : decode cX12_ask 88 = .ok (.iload 4, 2) := by decide +kernel
theorem dX12_ask_90 : decode cX12_ask 90 = .ok (.imul, 1) := by decide +kernel
theorem dX12_ask_91 : decode cX12_ask 91 = .ok (.aload_n 0, 1) := by decide +kernel
theorem dX12_ask_92 : decode cX12_ask 92 = .ok (.getfield 45, 3) := by decide +kernel
theorem dX12_ask_95 : decode cX12_ask 95 = .ok (.iload_n 2, 1) := by decide +kernel
theorem dX12_ask_96 : decode cX12_ask 96 = .ok (.iaload, 1) := by decide +kernel
theorem dX12_ask_97 : decode cX12_ask 97 = .ok (.iadd, 1) := by decide +kernel
theorem dX12_ask_98 : decode cX12_ask 98 = .ok (.dup2, 1) := by decide +kernel
theorem dX12_ask_99 : decode cX12_ask 99 = .ok (.laload, 1) := by decide +kernel
theorem dX12_ask_100 : decode cX12_ask 100 = .ok (.iload_n 3, 1) := by decide +kernel
theorem dX12_ask_101 : decode cX12_ask 101 = .ok (.i2l, 1) := by decide +kernel
theorem dX12_ask_102 : decode cX12_ask 102 = .ok (.lsub, 1) := by decide +kernel
theorem dX12_ask_103 : decode cX12_ask 103 = .ok (.lastore, 1) := by decide +kernel
theorem dX12_ask_104 : decode cX12_ask 104 = .ok (.return_, 1) := by decide +kernel
set_option maxRecDepth 20000 in
theorem ggX12_determinant_X12_product : GoodIn wsX12_determinant wsX12_product := goodIn_r _ [8, 1, 9, 3, 10, 11, 12, 13, 14, 15, 16, 17, 18, 19, 20, 21, 22, 23, 24, 25, 26, 27, 28, 29, 30, 31, 32, 33, 34, 35, 36, 37, 38, 39, 40, 41, 42, 43, 44, 45, 46, 47, 48] (by decide +kernel) (by decide +kernel)
set_option maxRecDepth 20000 in
theorem gX12_determinant_X12_product : GoodIn wsX12_determinant (wsV RX12 133 RX12 yX12_product wsX12_product) := goodIn_app (goodIn_of _ (by decide +kernel)) ggX12_determinant_X12_product
theorem dX12_determinant_0 : decode cX12_determinant 0 = .ok (.aload_n 0, 1) := by decide +kernel
theorem dX12_determinant_1 : decode cX12_determinant 1 = .ok (.getfield 130, 3) := by decide +kernel
theorem dX12_determinant_4 : decode cX12_determinant 4 = .ok (.ifCond .ne 5, 3) := by decide +kernel
theorem dX12_determinant_7 : decode cX12_determinant 7 = .ok (.lconst 1, 1) := by decide +kernel
theorem dX12_determinant_8 : decode cX12_determinant 8 = .ok (.lreturn, 1) := by decide +kernel
theorem dX12_determinant_9 : decode cX12_determinant 9 = .ok (.lconst 0, 1) := by decide +kernel
theorem dX12_determinant_10 : decode cX12_determinant 10 = .ok (.lstore_n 2, 1) := by decide +kernel
theorem dX12_determinant_11 : decode cX12_determinant 11 = .ok (.iconst 0, 1) := by decide +kernel
theorem dX12_determinant_12 : decode cX12_determinant 12 = .ok (.istore 4, 2) := by decide +kernel
theorem dX12_determinant_14 : decode cX12_determinant 14 = .ok (.iload 4, 2) := by decide +kernel
theorem dX12_determinant_16 : decode cX12_determinant 16 = .ok (.iconst 5, 1) := by decide +kernel
theorem dX12_determinant_17 : decode cX12_determinant 17 = .ok (.if_icmp .ge 17, 3) := by decide +kernel
theorem dX12_determinant_20 : decode cX12_determinant 20 = .ok (.aload_n 0, 1) := by decide +kernel
theorem dX12_determinant_21 : decode cX12_determinant 21 = .ok (.getfield 54, 3) := by decide +kernel
theorem dX12_determinant_24 : decode cX12_determinant 24 = .ok (.iload 4, 2) := by decide +kernel
theorem dX12_determinant_26 : decode cX12_determinant 26 = .ok (.iconst 0, 1) := by decide +kernel
theorem dX12_determinant_27 : decode cX12_determinant 27 = .ok (.bastore, 1) := by decide +kernel
theorem dX12_determinant_28 : decode cX12_determinant 28 = .ok (.iinc 4 1, 3) := by decide +kernel
theorem dX12_determinant_31 : decode cX12_determinant 31 = .ok (.goto (-17), 3) := by decide +kernel
theorem dX12_determinant_34 : decode cX12_determinant 34 = .ok (.iconst 0, 1) := by decide +kernel
theorem dX12_determinant_35 : decode cX12_determinant 35 = .ok (.istore 4, 2) := by decide +kernel
theorem dX12_determinant_37 : decode cX12_determinant 37 = .ok (.aload_n 0, 1) := by decide +kernel
theorem dX12_determinant_38 : decode cX12_determinant 38 = .ok (.getfield 51, 3) := by decide +kernel
theorem dX12_determinant_41 : decode cX12_determinant 41 = .ok (.iconst 0, 1) := by decide +kernel
theorem dX12_determinant_42 : decode cX12_determinant 42 = .ok (.iconst (-1), 1) := by decide +kernel
theorem dX12_determinant_43 : decode cX12_determinant 43 = .ok (.iastore, 1) := by decide +kernel
theorem dX12_determinant_44 : decode cX12_determinant 44 = .ok (.iload 4, 2) := by decide +kernel
theorem dX12_determinant_46 : decode cX12_determinant 46 = .ok (.ifCond .lt 121, 3) := by decide +kernel
theorem dX12_determinant_49 : decode cX12_determinant 49 = .ok (.aload_n 0, 1) := by decide +kernel
theorem dX12_determinant_50 : decode cX12_determinant 50 = .ok (.getfield 51, 3) := by decide +kernel
theorem dX12_determinant_53 : decode cX12_determinant 53 = .ok (.iload 4, 2) := by decide +kernel
theorem dX12_determinant_55 : decode cX12_determinant 55 = .ok (.iaload, 1) := by decide +kernel
theorem dX12_determinant_56 : decode cX12_determinant 56 = .ok (.istore 5, 2) := by decide +kernel
theorem dX12_determinant_58 : decode cX12_determinant 58 = .ok (.iload 5, 2) := by decide +kernel
theorem dX12_determinant_60 : decode cX12_determinant 60 = .ok (.ifCond .lt 11, 3) := by decide +kernel
theorem dX12_determinant_63 : decode cX12_determinant 63 = .ok (.aload_n 0, 1) := by decide +kernel
theorem dX12_determinant_64 : decode cX12_determinant 64 = .ok (.getfield 54, 3) := by decide +kernel
theorem dX12_determinant_67 : decode cX12_determinant 67 = .ok (.iload 5, 2) := by decide +kernel
theorem dX12_determinant_69 : decode cX12_determinant 69 = .ok (.iconst 0, 1) := by decide +kernel
theorem dX12_determinant_70 : decode cX12_determinant 70 = .ok (.bastore, 1) := by decide +kernel
theorem dX12_determinant_71 : decode cX12_determinant 71 = .ok (.iinc 5 1, 3) := by decide +kernel
theorem dX12_determinant_74 : decode cX12_determinant 74 = .ok (.iload 5, 2) := by decide +kernel
theorem dX12_determinant_76 : decode cX12_determinant 76 = .ok (.aload_n 0, 1) := by decide +kernel
theorem dX12_determinant_77 : decode cX12_determinant 77 = .ok (.getfield 130, 3) := by decide +kernel
theorem dX12_determinant_80 : decode cX12_determinant 80 = .ok (.if_icmp .ge 19, 3) := by decide +kernel
theorem dX12_determinant_83 : decode cX12_determinant 83 = .ok (.aload_n 0, 1) := by decide +kernel
theorem dX12_determinant_84 : decode cX12_determinant 84 = .ok (.getfield 54, 3) := by decide +kernel
theorem dX12_determinant_87 : decode cX12_determinant 87 = .ok (.iload 5, 2) := by decide +kernel
theorem dX12_determinant_89 : decode cX12_determinant 89 = .ok (.baload, 1) := by decide +kernel
theorem dX12_determinant_90 : decode cX12_determinant 90 = .ok (.ifCond .eq 9, 3) := by decide +kernel
theorem dX12_determinant_93 : decode cX12_determinant 93 = .ok (.iinc 5 1, 3) := by decide +kernel
theorem dX12_determinant_96 : decode cX12_determinant 96 = .ok (.goto (-22), 3) := by decide +kernel
theorem dX12_determinant_99 : decode cX12_determinant 99 = .ok (.iload 5, 2) := by decide +kernel
theorem dX12_determinant_101 : decode cX12_determinant 101 = .ok (.aload_n 0, 1) := by decide +kernel
theorem dX12_determinant_102 : decode cX12_determinant 102 = .ok (.getfield 130, 3) := by decide +kernel
theorem dX12_determinant_105 : decode cX12_determinant 105 = .ok (.if_icmp .ne 9, 3) := by decide +kernel
theorem dX12_determinant_108 : decode cX12_determinant 108 = .ok (.iinc 4 (-1), 3) := by decide +kernel
theorem dX12_determinant_111 : decode cX12_determinant 111 = .ok (.goto (-67), 3) := by decide +kernel
theorem dX12_determinant_114 : decode cX12_determinant 114 = .ok (.aload_n 0, 1) := by decide +kernel
theorem dX12_determinant_115 : decode cX12_determinant 115 = .ok (.getfield 51, 3) := by decide +kernel
theorem dX12_determinant_118 : decode cX12_determinant 118 = .ok (.iload 4, 2) := by decide +kernel
theorem dX12_determinant_120 : decode cX12_determinant 120 = .ok (.iload 5, 2) := by decide +kernel
theorem dX12_determinant_122 : decode cX12_determinant 122 = .ok (.iastore, 1) := by decide +kernel
theorem dX12_determinant_123 : decode cX12_determinant 123 = .ok (.aload_n 0, 1) := by decide +kernel
theorem dX12_determinant_124 : decode cX12_determinant 124 = .ok (.getfield 54, 3) := by decide +kernel
theorem dX12_determinant_127 : decode cX12_determinant 127 = .ok (.iload 5, 2) := by decide +kernel
theorem dX12_determinant_129 : decode cX12_determinant 129 = .ok (.iconst 1, 1) := by decide +kernel
theorem dX12_determinant_130 : decode cX12_determinant 130 = .ok (.bastore, 1) := by decide +kernel
theorem dX12_determinant_131 : decode cX12_determinant 131 = .ok (.iload 4, 2) := by decide +kernel
theorem dX12_determinant_133 : decode cX12_determinant 133 = .ok (.iconst 1, 1) := by decide +kernel
theorem dX12_determinant_134 : decode cX12_determinant 134 = .ok (.iadd, 1) := by decide +kernel
theorem dX12_determinant_135 : decode cX12_determinant 135 = .ok (.aload_n 0, 1) := by decide +kernel
theorem dX12_determinant_136 : decode cX12_determinant 136 = .ok (.getfield 130, 3) := by decide +kernel
theorem dX12_determinant_139 : decode cX12_determinant 139 = .ok (.if_icmp .ge 17, 3) := by decide +kernel
theorem dX12_determinant_142 : decode cX12_determinant 142 = .ok (.iinc 4 1, 3) := by decide +kernel
theorem dX12_determinant_145 : decode cX12_determinant 145 = .ok (.aload_n 0, 1) := by decide +kernel
theorem dX12_determinant_146 : decode cX12_determinant 146 = .ok (.getfield 51, 3) := by decide +kernel
theorem dX12_determinant_149 : decode cX12_determinant 149 = .ok (.iload 4, 2) := by decide +kernel
theorem dX12_determinant_151 : decode cX12_determinant 151 = .ok (.iconst (-1), 1) := by decide +kernel
theorem dX12_determinant_152 : decode cX12_determinant 152 = .ok (.iastore, 1) := by decide +kernel
theorem dX12_determinant_153 : decode cX12_determinant 153 = .ok (.goto 11, 3) := by decide +kernel
theorem dX12_determinant_156 : decode cX12_determinant 156 = .ok (.lload_n 2, 1) := by decide +kernel
theorem dX12_determinant_157 : decode cX12_determinant 157 = .ok (.aload_n 0, 1) := by decide +kernel
theorem dX12_determinant_158 : decode cX12_determinant 158 = .ok (.iload_n 1, 1) := by decide +kernel
theorem dX12_determinant_159 : decode cX12_determinant 159 = .ok (.invokevirtual 133, 3) := by decide +kernel
theorem dX12_determinant_162 : decode cX12_determinant 162 = .ok (.ladd, 1) := by decide +kernel
theorem dX12_determinant_163 : decode cX12_determinant 163 = .ok (.lstore_n 2, 1) := by decide +kernel
theorem dX12_determinant_164 : decode cX12_determinant 164 = .ok (.goto (-120), 3) := by decide +kernel
theorem dX12_determinant_167 : decode cX12_determinant 167 = .ok (.lload_n 2, 1) := by decide +kernel
theorem dX12_determinant_168 : decode cX12_determinant 168 = .ok (.lreturn, 1) := by decide +kernel
theorem dX12_product_0 : decode cX12_product 0 = .ok (.lconst 1, 1) := by decide +kernel
theorem dX12_product_1 : decode cX12_product 1 = .ok (.lstore_n 2, 1) := by decide +kernel
theorem dX12_product_2 : decode cX12_product 2 = .ok (.iconst 0, 1) := by decide +kernel
theorem dX12_product_3 : decode cX12_product 3 = .ok (.istore 4, 2) := by decide +kernel
theorem dX12_product_5 : decode cX12_product 5 = .ok (.iload 4, 2) := by decide +kernel
theorem dX12_product_7 : decode cX12_product 7 = .ok (.aload_n 0, 1) := by decide +kernel
theorem dX12_product_8 : decode cX12_product 8 = .ok (.getfield 130, 3) := by decide +kernel
theorem dX12_product_11 : decode cX12_product 11 = .ok (.if_icmp .ge 85, 3) := by decide +kernel
theorem dX12_product_14 : decode cX12_product 14 = .ok (.lload_n 2, 1) := by decide +kernel
theorem dX12_product_15 : decode cX12_product 15 = .ok (.aload_n 0, 1) := by decide +kernel
theorem dX12_product_16 : decode cX12_product 16 = .ok (.getfield 48, 3) := by decide +kernel
theorem dX12_product_19 : decode cX12_product 19 = .ok (.bipush 6, 2) := by decide +kernel
theorem dX12_product_21 : decode cX12_product 21 = .ok (.iload 4, 2) := by decide +kernel
theorem dX12_product_23 : decode cX12_product 23 = .ok (.imul, 1) := by decide +kernel
theorem dX12_product_24 : decode cX12_product 24 = .ok (.aload_n 0, 1) := by decide +kernel
theorem dX12_product_25 : decode cX12_product 25 = .ok (.getfield 51, 3) := by decide +kernel
theorem dX12_product_28 : decode cX12_product 28 = .ok (.iload 4, 2) := by decide +kernel
theorem dX12_product_30 : decode cX12_product 30 = .ok (.iaload, 1) := by decide +kernel
theorem dX12_product_31 : decode cX12_product 31 = .ok (.iload_n 1, 1) := by decide +kernel
theorem dX12_product_32 : decode cX12_product 32 = .ok (.if_icmp .ne 7, 3) := by decide +kernel
theorem dX12_product_35 : decode cX12_product 35 = .ok (.iconst 5, 1) := by decide +kernel
theorem dX12_product_36 : decode cX12_product 36 = .ok (.goto 10, 3) := by decide +kernel
theorem dX12_product_39 : decode cX12_product 39 = .ok (.aload_n 0, 1) := by decide +kernel
theorem dX12_product_40 : decode cX12_product 40 = .ok (.getfield 51, 3) := by decide +kernel
theorem dX12_product_43 : decode cX12_product 43 = .ok (.iload 4, 2) := by decide +kernel
theorem dX12_product_45 : decode cX12_product 45 = .ok (.iaload, 1) := by decide +kernel
theorem dX12_product_46 : decode cX12_product 46 = .ok (.iadd, 1) := by decide +kernel
theorem dX12_product_47 : decode cX12_product 47 = .ok (.laload, 1) := by decide +kernel
theorem dX12_product_48 : decode cX12_product 48 = .ok (.lmul, 1) := by decide +kernel
theorem dX12_product_49 : decode cX12_product 49 = .ok (.lstore_n 2, 1) := by decide +kernel
theorem dX12_product_50 : decode cX12_product 50 = .ok (.iconst 0, 1) := by decide +kernel
theorem dX12_product_51 : decode cX12_product 51 = .ok (.istore 5, 2) := by decide +kernel
theorem dX12_product_53 : decode cX12_product 53 = .ok (.iload 5, 2) := by decide +kernel
theorem dX12_product_55 : decode cX12_product 55 = .ok (.iload 4, 2) := by decide +kernel
theorem dX12_product_57 : decode cX12_product 57 = .ok (.if_icmp .ge 33, 3) := by decide +kernel
theorem dX12_product_60 : decode cX12_product 60 = .ok (.aload_n 0, 1) := by decide +kernel
theorem dX12_product_61 : decode cX12_product 61 = .ok (.getfield 51, 3) := by decide +kernel
theorem dX12_product_64 : decode cX12_product 64 = .ok (.iload 5, 2) := by decide +kernel
theorem dX12_product_66 : decode cX12_product 66 = .ok (.iaload, 1) := by decide +kernel
theorem dX12_product_67 : decode cX12_product 67 = .ok (.aload_n 0, 1) := by decide +kernel
theorem dX12_product_68 : decode cX12_product 68 = .ok (.getfield 51, 3) := by decide +kernel
theorem dX12_product_71 : decode cX12_product 71 = .ok (.iload 4, 2) := by decide +kernel
theorem dX12_product_73 : decode cX12_product 73 = .ok (.iaload, 1) := by decide +kernel
theorem dX12_product_74 : decode cX12_product 74 = .ok (.if_icmp .le 8, 3) := by decide +kernel
theorem dX12_product_77 : decode cX12_product 77 = .ok (.lload_n 2, 1) := by decide +kernel
theorem dX12_product_78 : decode cX12_product 78 = .ok (.lneg, 1) := by decide +kernel
theorem dX12_product_79 : decode cX12_product 79 = .ok (.goto 4, 3) := by decide +kernel
theorem dX12_product_82 : decode cX12_product 82 = .ok (.lload_n 2, 1) := by decide +kernel
theorem dX12_product_83 : decode cX12_product 83 = .ok (.lstore_n 2, 1) := by decide +kernel
theorem dX12_product_84 : decode cX12_product 84 = .ok (.iinc 5 1, 3) := by decide +kernel
theorem dX12_product_87 : decode cX12_product 87 = .ok (.goto (-34), 3) := by decide +kernel
theorem dX12_product_90 : decode cX12_product 90 = .ok (.iinc 4 1, 3) := by decide +kernel
theorem dX12_product_93 : decode cX12_product 93 = .ok (.goto (-88), 3) := by decide +kernel
theorem dX12_product_96 : decode cX12_product 96 = .ok (.lload_n 2, 1) := by decide +kernel
theorem dX12_product_97 : decode cX12_product 97 = .ok (.lreturn, 1) := by decide +kernel
set_option maxRecDepth 20000 in
theorem ggX12_findHeads_X12_findWet : GoodIn wsX12_findHeads wsX12_findWet := goodIn_r _ [19, 2, 3, 4, 8, 9, 10, 11, 39, 40, 41, 42, 43, 44, 45, 46, 47, 48, 49, 50, 51, 52, 53, 54, 55, 56, 57, 58, 59, 60, 61, 62, 63, 64, 65, 66, 67, 68, 69, 70, 71, 72, 73, 74, 75, 76, 77] (by decide +kernel) (by decide +kernel)
set_option maxRecDepth 20000 in
theorem gX12_findHeads_X12_findWet : GoodIn wsX12_findHeads (wsV RX12 137 RX12 yX12_findWet wsX12_findWet) := goodIn_app (goodIn_of _ (by decide +kernel)) ggX12_findHeads_X12_findWet
set_option maxRecDepth 20000 in
theorem ggX12_findHeads_X12_lets : GoodIn wsX12_findHeads wsX12_lets := goodIn_r _ [23, 24, 9, 39, 40, 41, 42, 43, 44, 45, 46, 47, 48, 49, 50, 51, 52, 53, 54, 55, 56, 57, 58, 59, 60, 61, 62, 63, 64, 65, 66, 67, 68, 69, 70, 71, 72, 73, 74, 75, 76, 77] (by decide +kernel) (by decide +kernel)
set_option maxRecDepth 20000 in
theorem gX12_findHeads_X12_lets : GoodIn wsX12_findHeads (wsV RX12 126 RX12 yX12_lets wsX12_lets) := goodIn_app (goodIn_of _ (by decide +kernel)) ggX12_findHeads_X12_lets
set_option maxRecDepth 20000 in
theorem ggX12_findHeads_X12_ask : GoodIn wsX12_findHeads wsX12_ask := goodIn_r _ [28, 4, 3, 6, 7, 14, 39, 40, 41, 42, 43, 44, 45, 46, 47, 48, 49, 50, 51, 52, 53, 54, 55, 56, 57, 58, 59, 60, 61, 62, 63, 64, 65, 66, 67, 68, 69, 70, 71, 72, 73, 74, 75, 76, 77] (by decide +kernel) (by decide +kernel)
set_option maxRecDepth 20000 in
theorem gX12_findHeads_X12_ask : GoodIn wsX12_findHeads (wsV RX12 140 RX12 yX12_ask wsX12_ask) := goodIn_app (goodIn_of _ (by decide +kernel)) ggX12_findHeads_X12_ask
set_option maxRecDepth 20000 in
theorem ggX12_findHeads_X12_determinant : GoodIn wsX12_findHeads wsX12_determinant := goodIn_r _ [32, 1, 33, 34, 35, 36, 37, 18, 38, 7, 39, 40, 41, 42, 43, 44, 45, 46, 47, 48, 49, 50, 51, 52, 53, 54, 55, 56, 57, 58, 59, 60, 61, 62, 63, 64, 65, 66, 67, 68, 69, 70, 71, 72, 73, 74, 75, 76, 77] (by decide +kernel) (by decide +kernel)
set_option maxRecDepth 20000 in
theorem gX12_findHeads_X12_determinant : GoodIn wsX12_findHeads (wsV RX12 144 RX12 yX12_determinant wsX12_determinant) := goodIn_app (goodIn_of _ (by decide +kernel)) ggX12_findHeads_X12_determinant
theorem dX12_findHeads_0 : decode cX12_findHeads 0 = .ok (.aload_n 0, 1) := by decide +kernel
theorem dX12_findHeads_1 : decode cX12_findHeads 1 = .ok (.invokevirtual 137, 3) := by decide +kernel
theorem dX12_findHeads_4 : decode cX12_findHeads 4 = .ok (.aload_n 0, 1) := by decide +kernel
theorem dX12_findHeads_5 : decode cX12_findHeads 5 = .ok (.iconst 0, 1) := by decide +kernel
theorem dX12_findHeads_6 : decode cX12_findHeads 6 = .ok (.putfield 130, 3) := by decide +kernel
theorem dX12_findHeads_9 : decode cX12_findHeads 9 = .ok (.iconst 0, 1) := by decide +kernel
theorem dX12_findHeads_10 : decode cX12_findHeads 10 = .ok (.istore_n 1, 1) := by decide +kernel
theorem dX12_findHeads_11 : decode cX12_findHeads 11 = .ok (.iload_n 1, 1) := by decide +kernel
theorem dX12_findHeads_12 : decode cX12_findHeads 12 = .ok (.aload_n 0, 1) := by decide +kernel
theorem dX12_findHeads_13 : decode cX12_findHeads 13 = .ok (.getfield 109, 3) := by decide +kernel
theorem dX12_findHeads_16 : decode cX12_findHeads 16 = .ok (.if_icmp .ge 57, 3) := by decide +kernel
theorem dX12_findHeads_19 : decode cX12_findHeads 19 = .ok (.aload_n 0, 1) := by decide +kernel
theorem dX12_findHeads_20 : decode cX12_findHeads 20 = .ok (.getfield 35, 3) := by decide +kernel
theorem dX12_findHeads_23 : decode cX12_findHeads 23 = .ok (.iload_n 1, 1) := by decide +kernel
theorem dX12_findHeads_24 : decode cX12_findHeads 24 = .ok (.baload, 1) := by decide +kernel
theorem dX12_findHeads_25 : decode cX12_findHeads 25 = .ok (.ifCond .eq 42, 3) := by decide +kernel
theorem dX12_findHeads_28 : decode cX12_findHeads 28 = .ok (.aload_n 0, 1) := by decide +kernel
theorem dX12_findHeads_29 : decode cX12_findHeads 29 = .ok (.getfield 7, 3) := by decide +kernel
theorem dX12_findHeads_32 : decode cX12_findHeads 32 = .ok (.iload_n 1, 1) := by decide +kernel
theorem dX12_findHeads_33 : decode cX12_findHeads 33 = .ok (.baload, 1) := by decide +kernel
theorem dX12_findHeads_34 : decode cX12_findHeads 34 = .ok (.ifCond .ne 33, 3) := by decide +kernel
theorem dX12_findHeads_37 : decode cX12_findHeads 37 = .ok (.aload_n 0, 1) := by decide +kernel
theorem dX12_findHeads_38 : decode cX12_findHeads 38 = .ok (.getfield 42, 3) := by decide +kernel
theorem dX12_findHeads_41 : decode cX12_findHeads 41 = .ok (.aload_n 0, 1) := by decide +kernel
theorem dX12_findHeads_42 : decode cX12_findHeads 42 = .ok (.getfield 130, 3) := by decide +kernel
theorem dX12_findHeads_45 : decode cX12_findHeads 45 = .ok (.iload_n 1, 1) := by decide +kernel
theorem dX12_findHeads_46 : decode cX12_findHeads 46 = .ok (.iastore, 1) := by decide +kernel
theorem dX12_findHeads_47 : decode cX12_findHeads 47 = .ok (.aload_n 0, 1) := by decide +kernel
theorem dX12_findHeads_48 : decode cX12_findHeads 48 = .ok (.getfield 45, 3) := by decide +kernel
theorem dX12_findHeads_51 : decode cX12_findHeads 51 = .ok (.iload_n 1, 1) := by decide +kernel
theorem dX12_findHeads_52 : decode cX12_findHeads 52 = .ok (.aload_n 0, 1) := by decide +kernel
theorem dX12_findHeads_53 : decode cX12_findHeads 53 = .ok (.getfield 130, 3) := by decide +kernel
theorem dX12_findHeads_56 : decode cX12_findHeads 56 = .ok (.iastore, 1) := by decide +kernel
theorem dX12_findHeads_57 : decode cX12_findHeads 57 = .ok (.aload_n 0, 1) := by decide +kernel
theorem dX12_findHeads_58 : decode cX12_findHeads 58 = .ok (.dup, 1) := by decide +kernel
theorem dX12_findHeads_59 : decode cX12_findHeads 59 = .ok (.getfield 130, 3) := by decide +kernel
theorem dX12_findHeads_62 : decode cX12_findHeads 62 = .ok (.iconst 1, 1) := by decide +kernel
theorem dX12_findHeads_63 : decode cX12_findHeads 63 = .ok (.iadd, 1) := by decide +kernel
theorem dX12_findHeads_64 : decode cX12_findHeads 64 = .ok (.putfield 130, 3) := by decide +kernel
theorem dX12_findHeads_67 : decode cX12_findHeads 67 = .ok (.iinc 1 1, 3) := by decide +kernel
theorem dX12_findHeads_70 : decode cX12_findHeads 70 = .ok (.goto (-59), 3) := by decide +kernel
theorem dX12_findHeads_73 : decode cX12_findHeads 73 = .ok (.iconst 0, 1) := by decide +kernel
theorem dX12_findHeads_74 : decode cX12_findHeads 74 = .ok (.istore_n 1, 1) := by decide +kernel
theorem dX12_findHeads_75 : decode cX12_findHeads 75 = .ok (.iload_n 1, 1) := by decide +kernel
theorem dX12_findHeads_76 : decode cX12_findHeads 76 = .ok (.bipush 30, 2) := by decide +kernel
theorem dX12_findHeads_78 : decode cX12_findHeads 78 = .ok (.if_icmp .ge 16, 3) := by decide +kernel
theorem dX12_findHeads_81 : decode cX12_findHeads 81 = .ok (.aload_n 0, 1) := by decide +kernel
theorem dX12_findHeads_82 : decode cX12_findHeads 82 = .ok (.getfield 48, 3) := by decide +kernel
theorem dX12_findHeads_85 : decode cX12_findHeads 85 = .ok (.iload_n 1, 1) := by decide +kernel
theorem dX12_findHeads_86 : decode cX12_findHeads 86 = .ok (.lconst 0, 1) := by decide +kernel
theorem dX12_findHeads_87 : decode cX12_findHeads 87 = .ok (.lastore, 1) := by decide +kernel
theorem dX12_findHeads_88 : decode cX12_findHeads 88 = .ok (.iinc 1 1, 3) := by decide +kernel
theorem dX12_findHeads_91 : decode cX12_findHeads 91 = .ok (.goto (-16), 3) := by decide +kernel
theorem dX12_findHeads_94 : decode cX12_findHeads 94 = .ok (.iconst 0, 1) := by decide +kernel
theorem dX12_findHeads_95 : decode cX12_findHeads 95 = .ok (.istore_n 1, 1) := by decide +kernel
theorem dX12_findHeads_96 : decode cX12_findHeads 96 = .ok (.iload_n 1, 1) := by decide +kernel
theorem dX12_findHeads_97 : decode cX12_findHeads 97 = .ok (.aload_n 0, 1) := by decide +kernel
theorem dX12_findHeads_98 : decode cX12_findHeads 98 = .ok (.getfield 116, 3) := by decide +kernel
theorem dX12_findHeads_101 : decode cX12_findHeads 101 = .ok (.if_icmp .ge 60, 3) := by decide +kernel
theorem dX12_findHeads_104 : decode cX12_findHeads 104 = .ok (.aload_n 0, 1) := by decide +kernel
theorem dX12_findHeads_105 : decode cX12_findHeads 105 = .ok (.getfield 26, 3) := by decide +kernel
theorem dX12_findHeads_108 : decode cX12_findHeads 108 = .ok (.iload_n 1, 1) := by decide +kernel
theorem dX12_findHeads_109 : decode cX12_findHeads 109 = .ok (.iaload, 1) := by decide +kernel
theorem dX12_findHeads_110 : decode cX12_findHeads 110 = .ok (.ifCond .le 45, 3) := by decide +kernel
theorem dX12_findHeads_113 : decode cX12_findHeads 113 = .ok (.aload_n 0, 1) := by decide +kernel
theorem dX12_findHeads_114 : decode cX12_findHeads 114 = .ok (.aload_n 0, 1) := by decide +kernel
theorem dX12_findHeads_115 : decode cX12_findHeads 115 = .ok (.getfield 17, 3) := by decide +kernel
theorem dX12_findHeads_118 : decode cX12_findHeads 118 = .ok (.iload_n 1, 1) := by decide +kernel
theorem dX12_findHeads_119 : decode cX12_findHeads 119 = .ok (.iaload, 1) := by decide +kernel
theorem dX12_findHeads_120 : decode cX12_findHeads 120 = .ok (.aload_n 0, 1) := by decide +kernel
theorem dX12_findHeads_121 : decode cX12_findHeads 121 = .ok (.getfield 20, 3) := by decide +kernel
theorem dX12_findHeads_124 : decode cX12_findHeads 124 = .ok (.iload_n 1, 1) := by decide +kernel
theorem dX12_findHeads_125 : decode cX12_findHeads 125 = .ok (.iaload, 1) := by decide +kernel
theorem dX12_findHeads_126 : decode cX12_findHeads 126 = .ok (.aload_n 0, 1) := by decide +kernel
theorem dX12_findHeads_127 : decode cX12_findHeads 127 = .ok (.iload_n 1, 1) := by decide +kernel
theorem dX12_findHeads_128 : decode cX12_findHeads 128 = .ok (.invokevirtual 126, 3) := by decide +kernel
theorem dX12_findHeads_131 : decode cX12_findHeads 131 = .ok (.invokevirtual 140, 3) := by decide +kernel
theorem dX12_findHeads_134 : decode cX12_findHeads 134 = .ok (.aload_n 0, 1) := by decide +kernel
theorem dX12_findHeads_135 : decode cX12_findHeads 135 = .ok (.aload_n 0, 1) := by decide +kernel
theorem dX12_findHeads_136 : decode cX12_findHeads 136 = .ok (.getfield 20, 3) := by decide +kernel
theorem dX12_findHeads_139 : decode cX12_findHeads 139 = .ok (.iload_n 1, 1) := by decide +kernel
theorem dX12_findHeads_140 : decode cX12_findHeads 140 = .ok (.iaload, 1) := by decide +kernel
theorem dX12_findHeads_141 : decode cX12_findHeads 141 = .ok (.aload_n 0, 1) := by decide +kernel
theorem dX12_findHeads_142 : decode cX12_findHeads 142 = .ok (.getfield 17, 3) := by decide +kernel
theorem dX12_findHeads_145 : decode cX12_findHeads 145 = .ok (.iload_n 1, 1) := by decide +kernel
theorem dX12_findHeads_146 : decode cX12_findHeads 146 = .ok (.iaload, 1) := by decide +kernel
theorem dX12_findHeads_147 : decode cX12_findHeads 147 = .ok (.aload_n 0, 1) := by decide +kernel
theorem dX12_findHeads_148 : decode cX12_findHeads 148 = .ok (.iload_n 1, 1) := by decide +kernel
theorem dX12_findHeads_149 : decode cX12_findHeads 149 = .ok (.invokevirtual 126, 3) := by decide +kernel
theorem dX12_findHeads_152 : decode cX12_findHeads 152 = .ok (.invokevirtual 140, 3) := by decide +kernel
theorem dX12_findHeads_155 : decode cX12_findHeads 155 = .ok (.iinc 1 1, 3) := by decide +kernel
theorem dX12_findHeads_158 : decode cX12_findHeads 158 = .ok (.goto (-62), 3) := by decide +kernel
theorem dX12_findHeads_161 : decode cX12_findHeads 161 = .ok (.aload_n 0, 1) := by decide +kernel
theorem dX12_findHeads_162 : decode cX12_findHeads 162 = .ok (.aload_n 0, 1) := by decide +kernel
theorem dX12_findHeads_163 : decode cX12_findHeads 163 = .ok (.iconst (-1), 1) := by decide +kernel
theorem dX12_findHeads_164 : decode cX12_findHeads 164 = .ok (.invokevirtual 144, 3) := by decide +kernel
theorem dX12_findHeads_167 : decode cX12_findHeads 167 = .ok (.putfield 147, 3) := by decide +kernel
theorem dX12_findHeads_170 : decode cX12_findHeads 170 = .ok (.iconst 0, 1) := by decide +kernel
theorem dX12_findHeads_171 : decode cX12_findHeads 171 = .ok (.istore_n 1, 1) := by decide +kernel
theorem dX12_findHeads_172 : decode cX12_findHeads 172 = .ok (.iload_n 1, 1) := by decide +kernel
theorem dX12_findHeads_173 : decode cX12_findHeads 173 = .ok (.aload_n 0, 1) := by decide +kernel
theorem dX12_findHeads_174 : decode cX12_findHeads 174 = .ok (.getfield 109, 3) := by decide +kernel
theorem dX12_findHeads_177 : decode cX12_findHeads 177 = .ok (.if_icmp .ge 62, 3) := by decide +kernel
theorem dX12_findHeads_180 : decode cX12_findHeads 180 = .ok (.aload_n 0, 1) := by decide +kernel
theorem dX12_findHeads_181 : decode cX12_findHeads 181 = .ok (.getfield 38, 3) := by decide +kernel
theorem dX12_findHeads_184 : decode cX12_findHeads 184 = .ok (.iload_n 1, 1) := by decide +kernel
theorem dX12_findHeads_185 : decode cX12_findHeads 185 = .ok (.aload_n 0, 1) := by decide +kernel
theorem dX12_findHeads_186 : decode cX12_findHeads 186 = .ok (.getfield 7, 3) := by decide +kernel
theorem dX12_findHeads_189 : decode cX12_findHeads 189 = .ok (.iload_n 1, 1) := by decide +kernel
theorem dX12_findHeads_190 : decode cX12_findHeads 190 = .ok (.baload, 1) := by decide +kernel
theorem dX12_findHeads_191 : decode cX12_findHeads 191 = .ok (.ifCond .eq 18, 3) := by decide +kernel
theorem dX12_findHeads_194 : decode cX12_findHeads 194 = .ok (.aload_n 0, 1) := by decide +kernel
theorem dX12_findHeads_195 : decode cX12_findHeads 195 = .ok (.getfield 13, 3) := by decide +kernel
theorem dX12_findHeads_198 : decode cX12_findHeads 198 = .ok (.iload_n 1, 1) := by decide +kernel
theorem dX12_findHeads_199 : decode cX12_findHeads 199 = .ok (.iaload, 1) := by decide +kernel
theorem dX12_findHeads_200 : decode cX12_findHeads 200 = .ok (.i2l, 1) := by decide +kernel
theorem dX12_findHeads_201 : decode cX12_findHeads 201 = .ok (.aload_n 0, 1) := by decide +kernel
theorem dX12_findHeads_202 : decode cX12_findHeads 202 = .ok (.getfield 147, 3) := by decide +kernel
theorem dX12_findHeads_205 : decode cX12_findHeads 205 = .ok (.lmul, 1) := by decide +kernel
theorem dX12_findHeads_206 : decode cX12_findHeads 206 = .ok (.goto 26, 3) := by decide +kernel
theorem dX12_findHeads_209 : decode cX12_findHeads 209 = .ok (.aload_n 0, 1) := by decide +kernel
theorem dX12_findHeads_210 : decode cX12_findHeads 210 = .ok (.getfield 35, 3) := by decide +kernel
theorem dX12_findHeads_213 : decode cX12_findHeads 213 = .ok (.iload_n 1, 1) := by decide +kernel
theorem dX12_findHeads_214 : decode cX12_findHeads 214 = .ok (.baload, 1) := by decide +kernel
theorem dX12_findHeads_215 : decode cX12_findHeads 215 = .ok (.ifCond .eq 16, 3) := by decide +kernel
theorem dX12_findHeads_218 : decode cX12_findHeads 218 = .ok (.aload_n 0, 1) := by decide +kernel
theorem dX12_findHeads_219 : decode cX12_findHeads 219 = .ok (.aload_n 0, 1) := by decide +kernel
theorem dX12_findHeads_220 : decode cX12_findHeads 220 = .ok (.getfield 45, 3) := by decide +kernel
theorem dX12_findHeads_223 : decode cX12_findHeads 223 = .ok (.iload_n 1, 1) := by decide +kernel
theorem dX12_findHeads_224 : decode cX12_findHeads 224 = .ok (.iaload, 1) := by decide +kernel
theorem dX12_findHeads_225 : decode cX12_findHeads 225 = .ok (.invokevirtual 144, 3) := by decide +kernel
theorem dX12_findHeads_228 : decode cX12_findHeads 228 = .ok (.goto 4, 3) := by decide +kernel
theorem dX12_findHeads_231 : decode cX12_findHeads 231 = .ok (.lconst 0, 1) := by decide +kernel
theorem dX12_findHeads_232 : decode cX12_findHeads 232 = .ok (.lastore, 1) := by decide +kernel
theorem dX12_findHeads_233 : decode cX12_findHeads 233 = .ok (.iinc 1 1, 3) := by decide +kernel
theorem dX12_findHeads_236 : decode cX12_findHeads 236 = .ok (.goto (-64), 3) := by decide +kernel
theorem dX12_findHeads_239 : decode cX12_findHeads 239 = .ok (.return_, 1) := by decide +kernel
theorem dX12_lowest_0 : decode cX12_lowest 0 = .ok (.lload_n 1, 1) := by decide +kernel
theorem dX12_lowest_1 : decode cX12_lowest 1 = .ok (.lconst 0, 1) := by decide +kernel
theorem dX12_lowest_2 : decode cX12_lowest 2 = .ok (.lcmp, 1) := by decide +kernel
theorem dX12_lowest_3 : decode cX12_lowest 3 = .ok (.ifCond .ge 8, 3) := by decide +kernel
theorem dX12_lowest_6 : decode cX12_lowest 6 = .ok (.lload_n 1, 1) := by decide +kernel
theorem dX12_lowest_7 : decode cX12_lowest 7 = .ok (.lneg, 1) := by decide +kernel
theorem dX12_lowest_8 : decode cX12_lowest 8 = .ok (.goto 4, 3) := by decide +kernel
theorem dX12_lowest_11 : decode cX12_lowest 11 = .ok (.lload_n 1, 1) := by decide +kernel
theorem dX12_lowest_12 : decode cX12_lowest 12 = .ok (.lstore 6, 2) := by decide +kernel
theorem dX12_lowest_14 : decode cX12_lowest 14 = .ok (.lload_n 3, 1) := by decide +kernel
theorem dX12_lowest_15 : decode cX12_lowest 15 = .ok (.lstore 8, 2) := by decide +kernel
theorem dX12_lowest_17 : decode cX12_lowest 17 = .ok (.lload 8, 2) := by decide +kernel
theorem dX12_lowest_19 : decode cX12_lowest 19 = .ok (.lconst 0, 1) := by decide +kernel
theorem dX12_lowest_20 : decode cX12_lowest 20 = .ok (.lcmp, 1) := by decide +kernel
theorem dX12_lowest_21 : decode cX12_lowest 21 = .ok (.ifCond .eq 21, 3) := by decide +kernel
theorem dX12_lowest_24 : decode cX12_lowest 24 = .ok (.lload 6, 2) := by decide +kernel
theorem dX12_lowest_26 : decode cX12_lowest 26 = .ok (.lload 8, 2) := by decide +kernel
theorem dX12_lowest_28 : decode cX12_lowest 28 = .ok (.lrem, 1) := by decide +kernel
theorem dX12_lowest_29 : decode cX12_lowest 29 = .ok (.lstore 10, 2) := by decide +kernel
theorem dX12_lowest_31 : decode cX12_lowest 31 = .ok (.lload 8, 2) := by decide +kernel
theorem dX12_lowest_33 : decode cX12_lowest 33 = .ok (.lstore 6, 2) := by decide +kernel
theorem dX12_lowest_35 : decode cX12_lowest 35 = .ok (.lload 10, 2) := by decide +kernel
theorem dX12_lowest_37 : decode cX12_lowest 37 = .ok (.lstore 8, 2) := by decide +kernel
theorem dX12_lowest_39 : decode cX12_lowest 39 = .ok (.goto (-22), 3) := by decide +kernel
theorem dX12_lowest_42 : decode cX12_lowest 42 = .ok (.iload 5, 2) := by decide +kernel
theorem dX12_lowest_44 : decode cX12_lowest 44 = .ok (.ifCond .ne 10, 3) := by decide +kernel
theorem dX12_lowest_47 : decode cX12_lowest 47 = .ok (.lload_n 1, 1) := by decide +kernel
theorem dX12_lowest_48 : decode cX12_lowest 48 = .ok (.lload 6, 2) := by decide +kernel
theorem dX12_lowest_50 : decode cX12_lowest 50 = .ok (.ldiv, 1) := by decide +kernel
theorem dX12_lowest_51 : decode cX12_lowest 51 = .ok (.goto 7, 3) := by decide +kernel
theorem dX12_lowest_54 : decode cX12_lowest 54 = .ok (.lload_n 3, 1) := by decide +kernel
theorem dX12_lowest_55 : decode cX12_lowest 55 = .ok (.lload 6, 2) := by decide +kernel
theorem dX12_lowest_57 : decode cX12_lowest 57 = .ok (.ldiv, 1) := by decide +kernel
theorem dX12_lowest_58 : decode cX12_lowest 58 = .ok (.lreturn, 1) := by decide +kernel
set_option maxRecDepth 20000 in
theorem ggX12_at_X12_noJoint : GoodIn wsX12_at wsX12_noJoint := goodIn_r _ [12, 13, 14, 15, 11, 16, 21, 22, 23, 24, 25, 26, 27, 28, 29, 30, 31, 32, 33, 34, 35, 36, 37, 38, 39, 40, 41, 42, 43, 44, 45, 46, 47, 48, 49, 50, 51, 52, 53, 54, 55, 56, 57, 58, 59] (by decide +kernel) (by decide +kernel)
set_option maxRecDepth 20000 in
theorem gX12_at_X12_noJoint : GoodIn wsX12_at (wsV RX12 119 RX12 yX12_noJoint wsX12_noJoint) := goodIn_app (goodIn_of _ (by decide +kernel)) ggX12_at_X12_noJoint
set_option maxRecDepth 20000 in
theorem ggX12_at_X12_findWet : GoodIn wsX12_at wsX12_findWet := goodIn_r _ [20, 13, 3, 1, 4, 5, 6, 7, 21, 22, 23, 24, 25, 26, 27, 28, 29, 30, 31, 32, 33, 34, 35, 36, 37, 38, 39, 40, 41, 42, 43, 44, 45, 46, 47, 48, 49, 50, 51, 52, 53, 54, 55, 56, 57, 58, 59] (by decide +kernel) (by decide +kernel)
set_option maxRecDepth 20000 in
theorem gX12_at_X12_findWet : GoodIn wsX12_at (wsV RX12 137 RX12 yX12_findWet wsX12_findWet) := goodIn_app (goodIn_of _ (by decide +kernel)) ggX12_at_X12_findWet
theorem dX12_at_0 : decode cX12_at 0 = .ok (.aload_n 0, 1) := by decide +kernel
theorem dX12_at_1 : decode cX12_at 1 = .ok (.iload_n 1, 1) := by decide +kernel
theorem dX12_at_2 : decode cX12_at 2 = .ok (.invokevirtual 119, 3) := by decide +kernel
theorem dX12_at_5 : decode cX12_at 5 = .ok (.ifCond .eq 5, 3) := by decide +kernel
theorem dX12_at_8 : decode cX12_at 8 = .ok (.iconst (-1), 1) := by decide +kernel
theorem dX12_at_9 : decode cX12_at 9 = .ok (.ireturn, 1) := by decide +kernel
theorem dX12_at_10 : decode cX12_at 10 = .ok (.iload_n 2, 1) := by decide +kernel
theorem dX12_at_11 : decode cX12_at 11 = .ok (.tableswitch 146 0 3 #[29, 44, 65, 84], 29) := by decide +kernel
theorem dX12_at_40 : decode cX12_at 40 = .ok (.aload_n 0, 1) := by decide +kernel
theorem dX12_at_41 : decode cX12_at 41 = .ok (.getfield 7, 3) := by decide +kernel
theorem dX12_at_44 : decode cX12_at 44 = .ok (.iload_n 1, 1) := by decide +kernel
theorem dX12_at_45 : decode cX12_at 45 = .ok (.baload, 1) := by decide +kernel
theorem dX12_at_46 : decode cX12_at 46 = .ok (.ifCond .eq 7, 3) := by decide +kernel
theorem dX12_at_49 : decode cX12_at 49 = .ok (.iconst 1, 1) := by decide +kernel
theorem dX12_at_50 : decode cX12_at 50 = .ok (.goto 4, 3) := by decide +kernel
theorem dX12_at_53 : decode cX12_at 53 = .ok (.iconst 0, 1) := by decide +kernel
theorem dX12_at_54 : decode cX12_at 54 = .ok (.ireturn, 1) := by decide +kernel
theorem dX12_at_55 : decode cX12_at 55 = .ok (.aload_n 0, 1) := by decide +kernel
theorem dX12_at_56 : decode cX12_at 56 = .ok (.getfield 7, 3) := by decide +kernel
theorem dX12_at_59 : decode cX12_at 59 = .ok (.iload_n 1, 1) := by decide +kernel
theorem dX12_at_60 : decode cX12_at 60 = .ok (.baload, 1) := by decide +kernel
theorem dX12_at_61 : decode cX12_at 61 = .ok (.ifCond .eq 12, 3) := by decide +kernel
theorem dX12_at_64 : decode cX12_at 64 = .ok (.aload_n 0, 1) := by decide +kernel
theorem dX12_at_65 : decode cX12_at 65 = .ok (.getfield 13, 3) := by decide +kernel
theorem dX12_at_68 : decode cX12_at 68 = .ok (.iload_n 1, 1) := by decide +kernel
theorem dX12_at_69 : decode cX12_at 69 = .ok (.iaload, 1) := by decide +kernel
theorem dX12_at_70 : decode cX12_at 70 = .ok (.goto 5, 3) := by decide +kernel
theorem dX12_at_73 : decode cX12_at 73 = .ok (.bipush (-9), 2) := by decide +kernel
theorem dX12_at_75 : decode cX12_at 75 = .ok (.ireturn, 1) := by decide +kernel
theorem dX12_at_76 : decode cX12_at 76 = .ok (.aload_n 0, 1) := by decide +kernel
theorem dX12_at_77 : decode cX12_at 77 = .ok (.invokevirtual 137, 3) := by decide +kernel
theorem dX12_at_80 : decode cX12_at 80 = .ok (.aload_n 0, 1) := by decide +kernel
theorem dX12_at_81 : decode cX12_at 81 = .ok (.getfield 35, 3) := by decide +kernel
theorem dX12_at_84 : decode cX12_at 84 = .ok (.iload_n 1, 1) := by decide +kernel
theorem dX12_at_85 : decode cX12_at 85 = .ok (.baload, 1) := by decide +kernel
theorem dX12_at_86 : decode cX12_at 86 = .ok (.ifCond .eq 7, 3) := by decide +kernel
theorem dX12_at_89 : decode cX12_at 89 = .ok (.iconst 0, 1) := by decide +kernel
theorem dX12_at_90 : decode cX12_at 90 = .ok (.goto 4, 3) := by decide +kernel
theorem dX12_at_93 : decode cX12_at 93 = .ok (.iconst 1, 1) := by decide +kernel
theorem dX12_at_94 : decode cX12_at 94 = .ok (.ireturn, 1) := by decide +kernel
theorem dX12_at_95 : decode cX12_at 95 = .ok (.iconst 0, 1) := by decide +kernel
theorem dX12_at_96 : decode cX12_at 96 = .ok (.istore_n 3, 1) := by decide +kernel
theorem dX12_at_97 : decode cX12_at 97 = .ok (.iconst 0, 1) := by decide +kernel
theorem dX12_at_98 : decode cX12_at 98 = .ok (.istore 4, 2) := by decide +kernel
theorem dX12_at_100 : decode cX12_at 100 = .ok (.iload 4, 2) := by decide +kernel
theorem dX12_at_102 : decode cX12_at 102 = .ok (.aload_n 0, 1) := by decide +kernel
theorem dX12_at_103 : decode cX12_at 103 = .ok (.getfield 116, 3) := by decide +kernel
theorem dX12_at_106 : decode cX12_at 106 = .ok (.if_icmp .ge 49, 3) := by decide +kernel
theorem dX12_at_109 : decode cX12_at 109 = .ok (.iload_n 3, 1) := by decide +kernel
theorem dX12_at_110 : decode cX12_at 110 = .ok (.aload_n 0, 1) := by decide +kernel
theorem dX12_at_111 : decode cX12_at 111 = .ok (.getfield 26, 3) := by decide +kernel
theorem dX12_at_114 : decode cX12_at 114 = .ok (.iload 4, 2) := by decide +kernel
theorem dX12_at_116 : decode cX12_at 116 = .ok (.iaload, 1) := by decide +kernel
theorem dX12_at_117 : decode cX12_at 117 = .ok (.ifCond .le 29, 3) := by decide +kernel
theorem dX12_at_120 : decode cX12_at 120 = .ok (.aload_n 0, 1) := by decide +kernel
theorem dX12_at_121 : decode cX12_at 121 = .ok (.getfield 17, 3) := by decide +kernel
theorem dX12_at_124 : decode cX12_at 124 = .ok (.iload 4, 2) := by decide +kernel
theorem dX12_at_126 : decode cX12_at 126 = .ok (.iaload, 1) := by decide +kernel
theorem dX12_at_127 : decode cX12_at 127 = .ok (.iload_n 1, 1) := by decide +kernel
theorem dX12_at_128 : decode cX12_at 128 = .ok (.if_icmp .eq 14, 3) := by decide +kernel
theorem dX12_at_131 : decode cX12_at 131 = .ok (.aload_n 0, 1) := by decide +kernel
theorem dX12_at_132 : decode cX12_at 132 = .ok (.getfield 20, 3) := by decide +kernel
theorem dX12_at_135 : decode cX12_at 135 = .ok (.iload 4, 2) := by decide +kernel
theorem dX12_at_137 : decode cX12_at 137 = .ok (.iaload, 1) := by decide +kernel
theorem dX12_at_138 : decode cX12_at 138 = .ok (.iload_n 1, 1) := by decide +kernel
theorem dX12_at_139 : decode cX12_at 139 = .ok (.if_icmp .ne 7, 3) := by decide +kernel
theorem dX12_at_142 : decode cX12_at 142 = .ok (.iconst 1, 1) := by decide +kernel
theorem dX12_at_143 : decode cX12_at 143 = .ok (.goto 4, 3) := by decide +kernel
theorem dX12_at_146 : decode cX12_at 146 = .ok (.iconst 0, 1) := by decide +kernel
theorem dX12_at_147 : decode cX12_at 147 = .ok (.iadd, 1) := by decide +kernel
theorem dX12_at_148 : decode cX12_at 148 = .ok (.istore_n 3, 1) := by decide +kernel
theorem dX12_at_149 : decode cX12_at 149 = .ok (.iinc 4 1, 3) := by decide +kernel
theorem dX12_at_152 : decode cX12_at 152 = .ok (.goto (-52), 3) := by decide +kernel
theorem dX12_at_155 : decode cX12_at 155 = .ok (.iload_n 3, 1) := by decide +kernel
theorem dX12_at_156 : decode cX12_at 156 = .ok (.ireturn, 1) := by decide +kernel
theorem dX12_at_157 : decode cX12_at 157 = .ok (.bipush (-2), 2) := by decide +kernel
theorem dX12_at_159 : decode cX12_at 159 = .ok (.ireturn, 1) := by decide +kernel
set_option maxRecDepth 20000 in
theorem ggX12_head_X12_noJoint : GoodIn wsX12_head wsX12_noJoint := goodIn_r _ [8, 9, 10, 11, 7, 12, 58, 59, 60, 61, 62, 63, 64, 65, 66, 67, 68, 69, 70, 71, 72, 73, 74, 75, 76, 77, 78, 79, 80, 81, 82, 83, 84, 85, 86, 87, 88, 89, 90, 91, 92, 93, 94, 95, 96] (by decide +kernel) (by decide +kernel)
set_option maxRecDepth 20000 in
theorem gX12_head_X12_noJoint : GoodIn wsX12_head (wsV RX12 119 RX12 yX12_noJoint wsX12_noJoint) := goodIn_app (goodIn_of _ (by decide +kernel)) ggX12_head_X12_noJoint
set_option maxRecDepth 20000 in
theorem ggX12_head_X12_among : GoodIn wsX12_head wsX12_among := goodIn_r _ [12] (by decide +kernel) (by decide +kernel)
set_option maxRecDepth 20000 in
theorem gX12_head_X12_among : GoodIn wsX12_head (va_wsS RX12 112 yX12_among wsX12_among) := goodIn_app (goodIn_of _ (by decide +kernel)) ggX12_head_X12_among
set_option maxRecDepth 20000 in
theorem ggX12_head_X12_lost : GoodIn wsX12_head wsX12_lost := goodIn_r _ [15, 16] (by decide +kernel) (by decide +kernel)
set_option maxRecDepth 20000 in
theorem gX12_head_X12_lost : GoodIn wsX12_head (va_wsS RX12 105 yX12_lost wsX12_lost) := goodIn_app (goodIn_of _ (by decide +kernel)) ggX12_head_X12_lost
set_option maxRecDepth 20000 in
theorem ggX12_head_X12_findHeads : GoodIn wsX12_head wsX12_findHeads := goodIn_r _ [20, 21, 9, 1, 22, 23, 24, 25, 26, 27, 28, 29, 3, 2, 30, 31, 32, 33, 7, 34, 35, 36, 37, 38, 39, 40, 41, 42, 43, 44, 45, 46, 47, 48, 49, 50, 51, 52, 53, 58, 59, 60, 61, 62, 63, 64, 65, 66, 67, 68, 69, 70, 71, 72, 73, 74, 75, 76, 77, 78, 79, 80, 81, 82, 83, 84, 85, 86, 87, 88, 89, 90, 91, 92, 93, 94, 95, 96] (by decide +kernel) (by decide +kernel)
set_option maxRecDepth 20000 in
theorem gX12_head_X12_findHeads : GoodIn wsX12_head (wsV RX12 151 RX12 yX12_findHeads wsX12_findHeads) := goodIn_app (goodIn_of _ (by decide +kernel)) ggX12_head_X12_findHeads
set_option maxRecDepth 20000 in
theorem ggX12_head_X12_lowest : GoodIn wsX12_head wsX12_lowest := goodIn_r _ [57] (by decide +kernel) (by decide +kernel)
set_option maxRecDepth 20000 in
theorem gX12_head_X12_lowest : GoodIn wsX12_head (wsV RX12 154 RX12 yX12_lowest wsX12_lowest) := goodIn_app (goodIn_of _ (by decide +kernel)) ggX12_head_X12_lowest
theorem dX12_head_0 : decode cX12_head 0 = .ok (.aload_n 0, 1) := by decide +kernel
theorem dX12_head_1 : decode cX12_head 1 = .ok (.iload_n 1, 1) := by decide +kernel
theorem dX12_head_2 : decode cX12_head 2 = .ok (.invokevirtual 119, 3) := by decide +kernel
theorem dX12_head_5 : decode cX12_head 5 = .ok (.ifCond .ne 12, 3) := by decide +kernel
theorem dX12_head_8 : decode cX12_head 8 = .ok (.iload_n 2, 1) := by decide +kernel
theorem dX12_head_9 : decode cX12_head 9 = .ok (.iconst 0, 1) := by decide +kernel
theorem dX12_head_10 : decode cX12_head 10 = .ok (.iconst 1, 1) := by decide +kernel
theorem dX12_head_11 : decode cX12_head 11 = .ok (.invokestatic 112, 3) := by decide +kernel
theorem dX12_head_14 : decode cX12_head 14 = .ok (.ifCond .ne 7, 3) := by decide +kernel
theorem dX12_head_17 : decode cX12_head 17 = .ok (.invokestatic 105, 3) := by decide +kernel
theorem dX12_head_20 : decode cX12_head 20 = .ok (.lreturn, 1) := by decide +kernel
theorem dX12_head_21 : decode cX12_head 21 = .ok (.aload_n 0, 1) := by decide +kernel
theorem dX12_head_22 : decode cX12_head 22 = .ok (.invokevirtual 151, 3) := by decide +kernel
theorem dX12_head_25 : decode cX12_head 25 = .ok (.aload_n 0, 1) := by decide +kernel
theorem dX12_head_26 : decode cX12_head 26 = .ok (.getfield 35, 3) := by decide +kernel
theorem dX12_head_29 : decode cX12_head 29 = .ok (.iload_n 1, 1) := by decide +kernel
theorem dX12_head_30 : decode cX12_head 30 = .ok (.baload, 1) := by decide +kernel
theorem dX12_head_31 : decode cX12_head 31 = .ok (.ifCond .eq 21, 3) := by decide +kernel
theorem dX12_head_34 : decode cX12_head 34 = .ok (.aload_n 0, 1) := by decide +kernel
theorem dX12_head_35 : decode cX12_head 35 = .ok (.aload_n 0, 1) := by decide +kernel
theorem dX12_head_36 : decode cX12_head 36 = .ok (.getfield 38, 3) := by decide +kernel
theorem dX12_head_39 : decode cX12_head 39 = .ok (.iload_n 1, 1) := by decide +kernel
theorem dX12_head_40 : decode cX12_head 40 = .ok (.laload, 1) := by decide +kernel
theorem dX12_head_41 : decode cX12_head 41 = .ok (.aload_n 0, 1) := by decide +kernel
theorem dX12_head_42 : decode cX12_head 42 = .ok (.getfield 147, 3) := by decide +kernel
theorem dX12_head_45 : decode cX12_head 45 = .ok (.iload_n 2, 1) := by decide +kernel
theorem dX12_head_46 : decode cX12_head 46 = .ok (.invokevirtual 154, 3) := by decide +kernel
theorem dX12_head_49 : decode cX12_head 49 = .ok (.goto 6, 3) := by decide +kernel
theorem dX12_head_52 : decode cX12_head 52 = .ok (.invokestatic 105, 3) := by decide +kernel
theorem dX12_head_55 : decode cX12_head 55 = .ok (.lreturn, 1) := by decide +kernel
set_option maxRecDepth 20000 in
theorem ggX12_flowOf_X12_lets : GoodIn wsX12_flowOf wsX12_lets := goodIn_r _ [10, 11, 1, 12, 13, 14, 15, 16, 17, 18, 19, 20, 21, 22, 23, 24, 25, 26, 27, 28, 29, 30, 31, 32, 33, 34, 35, 36, 37, 38, 39, 40, 41, 42, 43, 44, 45, 46, 47, 48, 49, 50] (by decide +kernel) (by decide +kernel)
set_option maxRecDepth 20000 in
theorem gX12_flowOf_X12_lets : GoodIn wsX12_flowOf (wsV RX12 126 RX12 yX12_lets wsX12_lets) := goodIn_app (goodIn_of _ (by decide +kernel)) ggX12_flowOf_X12_lets
theorem dX12_flowOf_0 : decode cX12_flowOf 0 = .ok (.aload_n 0, 1) := by decide +kernel
theorem dX12_flowOf_1 : decode cX12_flowOf 1 = .ok (.getfield 26, 3) := by decide +kernel
theorem dX12_flowOf_4 : decode cX12_flowOf 4 = .ok (.iload_n 1, 1) := by decide +kernel
theorem dX12_flowOf_5 : decode cX12_flowOf 5 = .ok (.iaload, 1) := by decide +kernel
theorem dX12_flowOf_6 : decode cX12_flowOf 6 = .ok (.ifCond .eq 31, 3) := by decide +kernel
theorem dX12_flowOf_9 : decode cX12_flowOf 9 = .ok (.aload_n 0, 1) := by decide +kernel
theorem dX12_flowOf_10 : decode cX12_flowOf 10 = .ok (.getfield 35, 3) := by decide +kernel
theorem dX12_flowOf_13 : decode cX12_flowOf 13 = .ok (.aload_n 0, 1) := by decide +kernel
theorem dX12_flowOf_14 : decode cX12_flowOf 14 = .ok (.getfield 17, 3) := by decide +kernel
theorem dX12_flowOf_17 : decode cX12_flowOf 17 = .ok (.iload_n 1, 1) := by decide +kernel
theorem dX12_flowOf_18 : decode cX12_flowOf 18 = .ok (.iaload, 1) := by decide +kernel
theorem dX12_flowOf_19 : decode cX12_flowOf 19 = .ok (.baload, 1) := by decide +kernel
theorem dX12_flowOf_20 : decode cX12_flowOf 20 = .ok (.ifCond .eq 17, 3) := by decide +kernel
theorem dX12_flowOf_23 : decode cX12_flowOf 23 = .ok (.aload_n 0, 1) := by decide +kernel
theorem dX12_flowOf_24 : decode cX12_flowOf 24 = .ok (.getfield 35, 3) := by decide +kernel
theorem dX12_flowOf_27 : decode cX12_flowOf 27 = .ok (.aload_n 0, 1) := by decide +kernel
theorem dX12_flowOf_28 : decode cX12_flowOf 28 = .ok (.getfield 20, 3) := by decide +kernel
theorem dX12_flowOf_31 : decode cX12_flowOf 31 = .ok (.iload_n 1, 1) := by decide +kernel
theorem dX12_flowOf_32 : decode cX12_flowOf 32 = .ok (.iaload, 1) := by decide +kernel
theorem dX12_flowOf_33 : decode cX12_flowOf 33 = .ok (.baload, 1) := by decide +kernel
theorem dX12_flowOf_34 : decode cX12_flowOf 34 = .ok (.ifCond .ne 7, 3) := by decide +kernel
theorem dX12_flowOf_37 : decode cX12_flowOf 37 = .ok (.lconst 0, 1) := by decide +kernel
theorem dX12_flowOf_38 : decode cX12_flowOf 38 = .ok (.goto 33, 3) := by decide +kernel
theorem dX12_flowOf_41 : decode cX12_flowOf 41 = .ok (.aload_n 0, 1) := by decide +kernel
theorem dX12_flowOf_42 : decode cX12_flowOf 42 = .ok (.iload_n 1, 1) := by decide +kernel
theorem dX12_flowOf_43 : decode cX12_flowOf 43 = .ok (.invokevirtual 126, 3) := by decide +kernel
theorem dX12_flowOf_46 : decode cX12_flowOf 46 = .ok (.i2l, 1) := by decide +kernel
theorem dX12_flowOf_47 : decode cX12_flowOf 47 = .ok (.aload_n 0, 1) := by decide +kernel
theorem dX12_flowOf_48 : decode cX12_flowOf 48 = .ok (.getfield 38, 3) := by decide +kernel
theorem dX12_flowOf_51 : decode cX12_flowOf 51 = .ok (.aload_n 0, 1) := by decide +kernel
theorem dX12_flowOf_52 : decode cX12_flowOf 52 = .ok (.getfield 17, 3) := by decide +kernel
theorem dX12_flowOf_55 : decode cX12_flowOf 55 = .ok (.iload_n 1, 1) := by decide +kernel
theorem dX12_flowOf_56 : decode cX12_flowOf 56 = .ok (.iaload, 1) := by decide +kernel
theorem dX12_flowOf_57 : decode cX12_flowOf 57 = .ok (.laload, 1) := by decide +kernel
theorem dX12_flowOf_58 : decode cX12_flowOf 58 = .ok (.aload_n 0, 1) := by decide +kernel
theorem dX12_flowOf_59 : decode cX12_flowOf 59 = .ok (.getfield 38, 3) := by decide +kernel
theorem dX12_flowOf_62 : decode cX12_flowOf 62 = .ok (.aload_n 0, 1) := by decide +kernel
theorem dX12_flowOf_63 : decode cX12_flowOf 63 = .ok (.getfield 20, 3) := by decide +kernel
theorem dX12_flowOf_66 : decode cX12_flowOf 66 = .ok (.iload_n 1, 1) := by decide +kernel
theorem dX12_flowOf_67 : decode cX12_flowOf 67 = .ok (.iaload, 1) := by decide +kernel
theorem dX12_flowOf_68 : decode cX12_flowOf 68 = .ok (.laload, 1) := by decide +kernel
theorem dX12_flowOf_69 : decode cX12_flowOf 69 = .ok (.lsub, 1) := by decide +kernel
theorem dX12_flowOf_70 : decode cX12_flowOf 70 = .ok (.lmul, 1) := by decide +kernel
theorem dX12_flowOf_71 : decode cX12_flowOf 71 = .ok (.lreturn, 1) := by decide +kernel
set_option maxRecDepth 20000 in
theorem ggX12_flow_X12_noCrack : GoodIn wsX12_flow wsX12_noCrack := goodIn_r _ [6, 7, 8, 9, 5, 10, 62, 63, 64, 65, 66, 67, 68, 69, 70, 71, 72, 73, 74, 75, 76, 77, 78, 79, 80, 81, 82, 83, 84, 85, 86, 87, 88, 89, 90, 91, 92, 93, 94, 95, 96, 97, 98, 99, 100] (by decide +kernel) (by decide +kernel)
set_option maxRecDepth 20000 in
theorem gX12_flow_X12_noCrack : GoodIn wsX12_flow (wsV RX12 123 RX12 yX12_noCrack wsX12_noCrack) := goodIn_app (goodIn_of _ (by decide +kernel)) ggX12_flow_X12_noCrack
set_option maxRecDepth 20000 in
theorem ggX12_flow_X12_among : GoodIn wsX12_flow wsX12_among := goodIn_r _ [10] (by decide +kernel) (by decide +kernel)
set_option maxRecDepth 20000 in
theorem gX12_flow_X12_among : GoodIn wsX12_flow (va_wsS RX12 112 yX12_among wsX12_among) := goodIn_app (goodIn_of _ (by decide +kernel)) ggX12_flow_X12_among
set_option maxRecDepth 20000 in
theorem ggX12_flow_X12_lost : GoodIn wsX12_flow wsX12_lost := goodIn_r _ [13, 14] (by decide +kernel) (by decide +kernel)
set_option maxRecDepth 20000 in
theorem gX12_flow_X12_lost : GoodIn wsX12_flow (va_wsS RX12 105 yX12_lost wsX12_lost) := goodIn_app (goodIn_of _ (by decide +kernel)) ggX12_flow_X12_lost
set_option maxRecDepth 20000 in
theorem ggX12_flow_X12_findHeads : GoodIn wsX12_flow wsX12_findHeads := goodIn_r _ [18, 19, 20, 21, 22, 23, 24, 25, 7, 26, 27, 28, 1, 29, 30, 31, 32, 33, 5, 34, 35, 36, 37, 38, 39, 40, 41, 42, 43, 44, 45, 46, 47, 48, 49, 50, 51, 52, 53, 62, 63, 64, 65, 66, 67, 68, 69, 70, 71, 72, 73, 74, 75, 76, 77, 78, 79, 80, 81, 82, 83, 84, 85, 86, 87, 88, 89, 90, 91, 92, 93, 94, 95, 96, 97, 98, 99, 100] (by decide +kernel) (by decide +kernel)
set_option maxRecDepth 20000 in
theorem gX12_flow_X12_findHeads : GoodIn wsX12_flow (wsV RX12 151 RX12 yX12_findHeads wsX12_findHeads) := goodIn_app (goodIn_of _ (by decide +kernel)) ggX12_flow_X12_findHeads
set_option maxRecDepth 20000 in
theorem ggX12_flow_X12_flowOf : GoodIn wsX12_flow wsX12_flowOf := goodIn_r _ [57, 26, 21, 27, 28, 29, 35, 36, 37, 5, 38, 39, 62, 63, 64, 65, 66, 67, 68, 69, 70, 71, 72, 73, 74, 75, 76, 77, 78, 79, 80, 81, 82, 83, 84, 85, 86, 87, 88, 89, 90, 91, 92, 93, 94, 95, 96, 97, 98, 99, 100] (by decide +kernel) (by decide +kernel)
set_option maxRecDepth 20000 in
theorem gX12_flow_X12_flowOf : GoodIn wsX12_flow (wsV RX12 158 RX12 yX12_flowOf wsX12_flowOf) := goodIn_app (goodIn_of _ (by decide +kernel)) ggX12_flow_X12_flowOf
set_option maxRecDepth 20000 in
theorem ggX12_flow_X12_lowest : GoodIn wsX12_flow wsX12_lowest := goodIn_r _ [61] (by decide +kernel) (by decide +kernel)
set_option maxRecDepth 20000 in
theorem gX12_flow_X12_lowest : GoodIn wsX12_flow (wsV RX12 154 RX12 yX12_lowest wsX12_lowest) := goodIn_app (goodIn_of _ (by decide +kernel)) ggX12_flow_X12_lowest
theorem dX12_flow_0 : decode cX12_flow 0 = .ok (.aload_n 0, 1) := by decide +kernel
theorem dX12_flow_1 : decode cX12_flow 1 = .ok (.iload_n 1, 1) := by decide +kernel
theorem dX12_flow_2 : decode cX12_flow 2 = .ok (.invokevirtual 123, 3) := by decide +kernel
theorem dX12_flow_5 : decode cX12_flow 5 = .ok (.ifCond .ne 12, 3) := by decide +kernel
theorem dX12_flow_8 : decode cX12_flow 8 = .ok (.iload_n 2, 1) := by decide +kernel
theorem dX12_flow_9 : decode cX12_flow 9 = .ok (.iconst 0, 1) := by decide +kernel
theorem dX12_flow_10 : decode cX12_flow 10 = .ok (.iconst 1, 1) := by decide +kernel
theorem dX12_flow_11 : decode cX12_flow 11 = .ok (.invokestatic 112, 3) := by decide +kernel
theorem dX12_flow_14 : decode cX12_flow 14 = .ok (.ifCond .ne 7, 3) := by decide +kernel
theorem dX12_flow_17 : decode cX12_flow 17 = .ok (.invokestatic 105, 3) := by decide +kernel
theorem dX12_flow_20 : decode cX12_flow 20 = .ok (.lreturn, 1) := by decide +kernel
theorem dX12_flow_21 : decode cX12_flow 21 = .ok (.aload_n 0, 1) := by decide +kernel
theorem dX12_flow_22 : decode cX12_flow 22 = .ok (.invokevirtual 151, 3) := by decide +kernel
theorem dX12_flow_25 : decode cX12_flow 25 = .ok (.aload_n 0, 1) := by decide +kernel
theorem dX12_flow_26 : decode cX12_flow 26 = .ok (.aload_n 0, 1) := by decide +kernel
theorem dX12_flow_27 : decode cX12_flow 27 = .ok (.iload_n 1, 1) := by decide +kernel
theorem dX12_flow_28 : decode cX12_flow 28 = .ok (.invokevirtual 158, 3) := by decide +kernel
theorem dX12_flow_31 : decode cX12_flow 31 = .ok (.aload_n 0, 1) := by decide +kernel
theorem dX12_flow_32 : decode cX12_flow 32 = .ok (.getfield 147, 3) := by decide +kernel
theorem dX12_flow_35 : decode cX12_flow 35 = .ok (.iload_n 2, 1) := by decide +kernel
theorem dX12_flow_36 : decode cX12_flow 36 = .ok (.invokevirtual 154, 3) := by decide +kernel
theorem dX12_flow_39 : decode cX12_flow 39 = .ok (.lreturn, 1) := by decide +kernel
set_option maxRecDepth 20000 in
theorem ggX12_inOf_X12_flowOf : GoodIn wsX12_inOf wsX12_flowOf := goodIn_r _ [8, 9, 10, 2, 3, 11, 12, 13, 14, 7, 15, 16, 17, 18, 19, 20, 21, 22, 23, 24, 25, 26, 27, 28, 29, 30, 31, 32, 33, 34, 35, 36, 37, 38, 39, 40, 41, 42, 43, 44, 45, 46, 47, 48, 49, 50, 51, 52, 53, 54, 55] (by decide +kernel) (by decide +kernel)
set_option maxRecDepth 20000 in
theorem gX12_inOf_X12_flowOf : GoodIn wsX12_inOf (wsV RX12 158 RX12 yX12_flowOf wsX12_flowOf) := goodIn_app (goodIn_of _ (by decide +kernel)) ggX12_inOf_X12_flowOf
theorem dX12_inOf_0 : decode cX12_inOf 0 = .ok (.lconst 0, 1) := by decide +kernel
theorem dX12_inOf_1 : decode cX12_inOf 1 = .ok (.lstore_n 2, 1) := by decide +kernel
theorem dX12_inOf_2 : decode cX12_inOf 2 = .ok (.iconst 0, 1) := by decide +kernel
theorem dX12_inOf_3 : decode cX12_inOf 3 = .ok (.istore 4, 2) := by decide +kernel
theorem dX12_inOf_5 : decode cX12_inOf 5 = .ok (.iload 4, 2) := by decide +kernel
theorem dX12_inOf_7 : decode cX12_inOf 7 = .ok (.aload_n 0, 1) := by decide +kernel
theorem dX12_inOf_8 : decode cX12_inOf 8 = .ok (.getfield 116, 3) := by decide +kernel
theorem dX12_inOf_11 : decode cX12_inOf 11 = .ok (.if_icmp .ge 54, 3) := by decide +kernel
theorem dX12_inOf_14 : decode cX12_inOf 14 = .ok (.lload_n 2, 1) := by decide +kernel
theorem dX12_inOf_15 : decode cX12_inOf 15 = .ok (.aload_n 0, 1) := by decide +kernel
theorem dX12_inOf_16 : decode cX12_inOf 16 = .ok (.getfield 17, 3) := by decide +kernel
theorem dX12_inOf_19 : decode cX12_inOf 19 = .ok (.iload 4, 2) := by decide +kernel
theorem dX12_inOf_21 : decode cX12_inOf 21 = .ok (.iaload, 1) := by decide +kernel
theorem dX12_inOf_22 : decode cX12_inOf 22 = .ok (.iload_n 1, 1) := by decide +kernel
theorem dX12_inOf_23 : decode cX12_inOf 23 = .ok (.if_icmp .ne 12, 3) := by decide +kernel
theorem dX12_inOf_26 : decode cX12_inOf 26 = .ok (.aload_n 0, 1) := by decide +kernel
theorem dX12_inOf_27 : decode cX12_inOf 27 = .ok (.iload 4, 2) := by decide +kernel
theorem dX12_inOf_29 : decode cX12_inOf 29 = .ok (.invokevirtual 158, 3) := by decide +kernel
theorem dX12_inOf_32 : decode cX12_inOf 32 = .ok (.goto 25, 3) := by decide +kernel
theorem dX12_inOf_35 : decode cX12_inOf 35 = .ok (.aload_n 0, 1) := by decide +kernel
theorem dX12_inOf_36 : decode cX12_inOf 36 = .ok (.getfield 20, 3) := by decide +kernel
theorem dX12_inOf_39 : decode cX12_inOf 39 = .ok (.iload 4, 2) := by decide +kernel
theorem dX12_inOf_41 : decode cX12_inOf 41 = .ok (.iaload, 1) := by decide +kernel
theorem dX12_inOf_42 : decode cX12_inOf 42 = .ok (.iload_n 1, 1) := by decide +kernel
theorem dX12_inOf_43 : decode cX12_inOf 43 = .ok (.if_icmp .ne 13, 3) := by decide +kernel
theorem dX12_inOf_46 : decode cX12_inOf 46 = .ok (.aload_n 0, 1) := by decide +kernel
theorem dX12_inOf_47 : decode cX12_inOf 47 = .ok (.iload 4, 2) := by decide +kernel
theorem dX12_inOf_49 : decode cX12_inOf 49 = .ok (.invokevirtual 158, 3) := by decide +kernel
theorem dX12_inOf_52 : decode cX12_inOf 52 = .ok (.lneg, 1) := by decide +kernel
theorem dX12_inOf_53 : decode cX12_inOf 53 = .ok (.goto 4, 3) := by decide +kernel
theorem dX12_inOf_56 : decode cX12_inOf 56 = .ok (.lconst 0, 1) := by decide +kernel
theorem dX12_inOf_57 : decode cX12_inOf 57 = .ok (.ladd, 1) := by decide +kernel
theorem dX12_inOf_58 : decode cX12_inOf 58 = .ok (.lstore_n 2, 1) := by decide +kernel
theorem dX12_inOf_59 : decode cX12_inOf 59 = .ok (.iinc 4 1, 3) := by decide +kernel
theorem dX12_inOf_62 : decode cX12_inOf 62 = .ok (.goto (-57), 3) := by decide +kernel
theorem dX12_inOf_65 : decode cX12_inOf 65 = .ok (.lload_n 2, 1) := by decide +kernel
theorem dX12_inOf_66 : decode cX12_inOf 66 = .ok (.lreturn, 1) := by decide +kernel
set_option maxRecDepth 20000 in
theorem ggX12_in_X12_noJoint : GoodIn wsX12_in wsX12_noJoint := goodIn_r _ [7, 8, 9, 10, 6, 11, 66, 67, 68, 69, 70, 71, 72, 73, 74, 75, 76, 77, 78, 79, 80, 81, 82, 83, 84, 85, 86, 87, 88, 89, 90, 91, 92, 93, 94, 95, 96, 97, 98, 99, 100, 101, 102, 103, 104] (by decide +kernel) (by decide +kernel)
set_option maxRecDepth 20000 in
theorem gX12_in_X12_noJoint : GoodIn wsX12_in (wsV RX12 119 RX12 yX12_noJoint wsX12_noJoint) := goodIn_app (goodIn_of _ (by decide +kernel)) ggX12_in_X12_noJoint
set_option maxRecDepth 20000 in
theorem ggX12_in_X12_among : GoodIn wsX12_in wsX12_among := goodIn_r _ [11] (by decide +kernel) (by decide +kernel)
set_option maxRecDepth 20000 in
theorem gX12_in_X12_among : GoodIn wsX12_in (va_wsS RX12 112 yX12_among wsX12_among) := goodIn_app (goodIn_of _ (by decide +kernel)) ggX12_in_X12_among
set_option maxRecDepth 20000 in
theorem ggX12_in_X12_lost : GoodIn wsX12_in wsX12_lost := goodIn_r _ [14, 15] (by decide +kernel) (by decide +kernel)
set_option maxRecDepth 20000 in
theorem gX12_in_X12_lost : GoodIn wsX12_in (va_wsS RX12 105 yX12_lost wsX12_lost) := goodIn_app (goodIn_of _ (by decide +kernel)) ggX12_in_X12_lost
set_option maxRecDepth 20000 in
theorem ggX12_in_X12_findHeads : GoodIn wsX12_in wsX12_findHeads := goodIn_r _ [19, 20, 8, 21, 1, 22, 23, 24, 25, 26, 27, 28, 2, 29, 30, 31, 32, 33, 6, 34, 35, 36, 37, 38, 39, 40, 41, 42, 43, 44, 45, 46, 47, 48, 49, 50, 51, 52, 53, 66, 67, 68, 69, 70, 71, 72, 73, 74, 75, 76, 77, 78, 79, 80, 81, 82, 83, 84, 85, 86, 87, 88, 89, 90, 91, 92, 93, 94, 95, 96, 97, 98, 99, 100, 101, 102, 103, 104] (by decide +kernel) (by decide +kernel)
set_option maxRecDepth 20000 in
theorem gX12_in_X12_findHeads : GoodIn wsX12_in (wsV RX12 151 RX12 yX12_findHeads wsX12_findHeads) := goodIn_app (goodIn_of _ (by decide +kernel)) ggX12_in_X12_findHeads
set_option maxRecDepth 20000 in
theorem ggX12_in_X12_inOf : GoodIn wsX12_in wsX12_inOf := goodIn_r _ [57, 25, 27, 28, 58, 59, 60, 6, 61, 26, 21, 29, 35, 36, 37, 38, 39, 66, 67, 68, 69, 70, 71, 72, 73, 74, 75, 76, 77, 78, 79, 80, 81, 82, 83, 84, 85, 86, 87, 88, 89, 90, 91, 92, 93, 94, 95, 96, 97, 98, 99, 100, 101, 102, 103, 104] (by decide +kernel) (by decide +kernel)
set_option maxRecDepth 20000 in
theorem gX12_in_X12_inOf : GoodIn wsX12_in (wsV RX12 161 RX12 yX12_inOf wsX12_inOf) := goodIn_app (goodIn_of _ (by decide +kernel)) ggX12_in_X12_inOf
set_option maxRecDepth 20000 in
theorem ggX12_in_X12_lowest : GoodIn wsX12_in wsX12_lowest := goodIn_r _ [65] (by decide +kernel) (by decide +kernel)
set_option maxRecDepth 20000 in
theorem gX12_in_X12_lowest : GoodIn wsX12_in (wsV RX12 154 RX12 yX12_lowest wsX12_lowest) := goodIn_app (goodIn_of _ (by decide +kernel)) ggX12_in_X12_lowest
theorem dX12_in_0 : decode cX12_in 0 = .ok (.aload_n 0, 1) := by decide +kernel
theorem dX12_in_1 : decode cX12_in 1 = .ok (.iload_n 1, 1) := by decide +kernel
theorem dX12_in_2 : decode cX12_in 2 = .ok (.invokevirtual 119, 3) := by decide +kernel
theorem dX12_in_5 : decode cX12_in 5 = .ok (.ifCond .ne 21, 3) := by decide +kernel
theorem dX12_in_8 : decode cX12_in 8 = .ok (.iload_n 2, 1) := by decide +kernel
theorem dX12_in_9 : decode cX12_in 9 = .ok (.iconst 0, 1) := by decide +kernel
theorem dX12_in_10 : decode cX12_in 10 = .ok (.iconst 1, 1) := by decide +kernel
theorem dX12_in_11 : decode cX12_in 11 = .ok (.invokestatic 112, 3) := by decide +kernel
theorem dX12_in_14 : decode cX12_in 14 = .ok (.ifCond .eq 12, 3) := by decide +kernel
theorem dX12_in_17 : decode cX12_in 17 = .ok (.aload_n 0, 1) := by decide +kernel
theorem dX12_in_18 : decode cX12_in 18 = .ok (.getfield 7, 3) := by decide +kernel
theorem dX12_in_21 : decode cX12_in 21 = .ok (.iload_n 1, 1) := by decide +kernel
theorem dX12_in_22 : decode cX12_in 22 = .ok (.baload, 1) := by decide +kernel
theorem dX12_in_23 : decode cX12_in 23 = .ok (.ifCond .ne 7, 3) := by decide +kernel
theorem dX12_in_26 : decode cX12_in 26 = .ok (.invokestatic 105, 3) := by decide +kernel
theorem dX12_in_29 : decode cX12_in 29 = .ok (.lreturn, 1) := by decide +kernel
theorem dX12_in_30 : decode cX12_in 30 = .ok (.aload_n 0, 1) := by decide +kernel
theorem dX12_in_31 : decode cX12_in 31 = .ok (.invokevirtual 151, 3) := by decide +kernel
theorem dX12_in_34 : decode cX12_in 34 = .ok (.aload_n 0, 1) := by decide +kernel
theorem dX12_in_35 : decode cX12_in 35 = .ok (.aload_n 0, 1) := by decide +kernel
theorem dX12_in_36 : decode cX12_in 36 = .ok (.iload_n 1, 1) := by decide +kernel
theorem dX12_in_37 : decode cX12_in 37 = .ok (.invokevirtual 161, 3) := by decide +kernel
theorem dX12_in_40 : decode cX12_in 40 = .ok (.aload_n 0, 1) := by decide +kernel
theorem dX12_in_41 : decode cX12_in 41 = .ok (.getfield 147, 3) := by decide +kernel
theorem dX12_in_44 : decode cX12_in 44 = .ok (.iload_n 2, 1) := by decide +kernel
theorem dX12_in_45 : decode cX12_in 45 = .ok (.invokevirtual 154, 3) := by decide +kernel
theorem dX12_in_48 : decode cX12_in 48 = .ok (.lreturn, 1) := by decide +kernel
set_option maxRecDepth 20000 in
theorem ggX12_work_X12_among : GoodIn wsX12_work wsX12_among := goodIn_r _ [8] (by decide +kernel) (by decide +kernel)
set_option maxRecDepth 20000 in
theorem gX12_work_X12_among : GoodIn wsX12_work (va_wsS RX12 112 yX12_among wsX12_among) := goodIn_app (goodIn_of _ (by decide +kernel)) ggX12_work_X12_among
set_option maxRecDepth 20000 in
theorem ggX12_work_X12_lost : GoodIn wsX12_work wsX12_lost := goodIn_r _ [11, 12] (by decide +kernel) (by decide +kernel)
set_option maxRecDepth 20000 in
theorem gX12_work_X12_lost : GoodIn wsX12_work (va_wsS RX12 105 yX12_lost wsX12_lost) := goodIn_app (goodIn_of _ (by decide +kernel)) ggX12_work_X12_lost
set_option maxRecDepth 20000 in
theorem ggX12_work_X12_findHeads : GoodIn wsX12_work wsX12_findHeads := goodIn_r _ [16, 17, 1, 18, 2, 19, 20, 21, 22, 23, 24, 25, 4, 26, 3, 27, 28, 29, 7, 30, 31, 32, 33, 34, 35, 36, 37, 38, 39, 40, 41, 42, 43, 44, 45, 46, 47, 48, 49, 62, 63, 64, 65, 66, 67, 68, 69, 70, 71, 72, 73, 74, 75, 76, 77, 78, 79, 80, 81, 82, 83, 84, 85, 86, 87, 88, 89, 90, 91, 92, 93, 94, 95, 96, 97, 98, 99, 100] (by decide +kernel) (by decide +kernel)
set_option maxRecDepth 20000 in
theorem gX12_work_X12_findHeads : GoodIn wsX12_work (wsV RX12 151 RX12 yX12_findHeads wsX12_findHeads) := goodIn_app (goodIn_of _ (by decide +kernel)) ggX12_work_X12_findHeads
set_option maxRecDepth 20000 in
theorem ggX12_work_X12_inOf : GoodIn wsX12_work wsX12_inOf := goodIn_r _ [53, 22, 24, 25, 54, 55, 56, 7, 57, 23, 18, 26, 31, 32, 33, 34, 35, 62, 63, 64, 65, 66, 67, 68, 69, 70, 71, 72, 73, 74, 75, 76, 77, 78, 79, 80, 81, 82, 83, 84, 85, 86, 87, 88, 89, 90, 91, 92, 93, 94, 95, 96, 97, 98, 99, 100] (by decide +kernel) (by decide +kernel)
set_option maxRecDepth 20000 in
theorem gX12_work_X12_inOf : GoodIn wsX12_work (wsV RX12 161 RX12 yX12_inOf wsX12_inOf) := goodIn_app (goodIn_of _ (by decide +kernel)) ggX12_work_X12_inOf
set_option maxRecDepth 20000 in
theorem ggX12_work_X12_lowest : GoodIn wsX12_work wsX12_lowest := goodIn_r _ [61] (by decide +kernel) (by decide +kernel)
set_option maxRecDepth 20000 in
theorem gX12_work_X12_lowest : GoodIn wsX12_work (wsV RX12 154 RX12 yX12_lowest wsX12_lowest) := goodIn_app (goodIn_of _ (by decide +kernel)) ggX12_work_X12_lowest
theorem dX12_work_0 : decode cX12_work 0 = .ok (.iload_n 1, 1) := by decide +kernel
theorem dX12_work_1 : decode cX12_work 1 = .ok (.iconst 0, 1) := by decide +kernel
theorem dX12_work_2 : decode cX12_work 2 = .ok (.iconst 1, 1) := by decide +kernel
theorem dX12_work_3 : decode cX12_work 3 = .ok (.invokestatic 112, 3) := by decide +kernel
theorem dX12_work_6 : decode cX12_work 6 = .ok (.ifCond .ne 7, 3) := by decide +kernel
theorem dX12_work_9 : decode cX12_work 9 = .ok (.invokestatic 105, 3) := by decide +kernel
theorem dX12_work_12 : decode cX12_work 12 = .ok (.lreturn, 1) := by decide +kernel
theorem dX12_work_13 : decode cX12_work 13 = .ok (.aload_n 0, 1) := by decide +kernel
theorem dX12_work_14 : decode cX12_work 14 = .ok (.invokevirtual 151, 3) := by decide +kernel
theorem dX12_work_17 : decode cX12_work 17 = .ok (.lconst 0, 1) := by decide +kernel
theorem dX12_work_18 : decode cX12_work 18 = .ok (.lstore_n 2, 1) := by decide +kernel
theorem dX12_work_19 : decode cX12_work 19 = .ok (.iconst 0, 1) := by decide +kernel
theorem dX12_work_20 : decode cX12_work 20 = .ok (.istore 4, 2) := by decide +kernel
theorem dX12_work_22 : decode cX12_work 22 = .ok (.iload 4, 2) := by decide +kernel
theorem dX12_work_24 : decode cX12_work 24 = .ok (.aload_n 0, 1) := by decide +kernel
theorem dX12_work_25 : decode cX12_work 25 = .ok (.getfield 109, 3) := by decide +kernel
theorem dX12_work_28 : decode cX12_work 28 = .ok (.if_icmp .ge 41, 3) := by decide +kernel
theorem dX12_work_31 : decode cX12_work 31 = .ok (.lload_n 2, 1) := by decide +kernel
theorem dX12_work_32 : decode cX12_work 32 = .ok (.aload_n 0, 1) := by decide +kernel
theorem dX12_work_33 : decode cX12_work 33 = .ok (.getfield 7, 3) := by decide +kernel
theorem dX12_work_36 : decode cX12_work 36 = .ok (.iload 4, 2) := by decide +kernel
theorem dX12_work_38 : decode cX12_work 38 = .ok (.baload, 1) := by decide +kernel
theorem dX12_work_39 : decode cX12_work 39 = .ok (.ifCond .eq 21, 3) := by decide +kernel
theorem dX12_work_42 : decode cX12_work 42 = .ok (.aload_n 0, 1) := by decide +kernel
theorem dX12_work_43 : decode cX12_work 43 = .ok (.iload 4, 2) := by decide +kernel
theorem dX12_work_45 : decode cX12_work 45 = .ok (.invokevirtual 161, 3) := by decide +kernel
theorem dX12_work_48 : decode cX12_work 48 = .ok (.aload_n 0, 1) := by decide +kernel
theorem dX12_work_49 : decode cX12_work 49 = .ok (.getfield 13, 3) := by decide +kernel
theorem dX12_work_52 : decode cX12_work 52 = .ok (.iload 4, 2) := by decide +kernel
theorem dX12_work_54 : decode cX12_work 54 = .ok (.iaload, 1) := by decide +kernel
theorem dX12_work_55 : decode cX12_work 55 = .ok (.i2l, 1) := by decide +kernel
theorem dX12_work_56 : decode cX12_work 56 = .ok (.lmul, 1) := by decide +kernel
theorem dX12_work_57 : decode cX12_work 57 = .ok (.goto 4, 3) := by decide +kernel
theorem dX12_work_60 : decode cX12_work 60 = .ok (.lconst 0, 1) := by decide +kernel
theorem dX12_work_61 : decode cX12_work 61 = .ok (.ladd, 1) := by decide +kernel
theorem dX12_work_62 : decode cX12_work 62 = .ok (.lstore_n 2, 1) := by decide +kernel
theorem dX12_work_63 : decode cX12_work 63 = .ok (.iinc 4 1, 3) := by decide +kernel
theorem dX12_work_66 : decode cX12_work 66 = .ok (.goto (-44), 3) := by decide +kernel
theorem dX12_work_69 : decode cX12_work 69 = .ok (.aload_n 0, 1) := by decide +kernel
theorem dX12_work_70 : decode cX12_work 70 = .ok (.lload_n 2, 1) := by decide +kernel
theorem dX12_work_71 : decode cX12_work 71 = .ok (.aload_n 0, 1) := by decide +kernel
theorem dX12_work_72 : decode cX12_work 72 = .ok (.getfield 147, 3) := by decide +kernel
theorem dX12_work_75 : decode cX12_work 75 = .ok (.iload_n 1, 1) := by decide +kernel
theorem dX12_work_76 : decode cX12_work 76 = .ok (.invokevirtual 154, 3) := by decide +kernel
theorem dX12_work_79 : decode cX12_work 79 = .ok (.lreturn, 1) := by decide +kernel
set_option maxRecDepth 20000 in
theorem ggX12_rate_X12_among : GoodIn wsX12_rate wsX12_among := goodIn_r _ [5] (by decide +kernel) (by decide +kernel)
set_option maxRecDepth 20000 in
theorem gX12_rate_X12_among : GoodIn wsX12_rate (va_wsS RX12 112 yX12_among wsX12_among) := goodIn_app (goodIn_of _ (by decide +kernel)) ggX12_rate_X12_among
theorem dX12_rate_0 : decode cX12_rate 0 = .ok (.iload_n 1, 1) := by decide +kernel
theorem dX12_rate_1 : decode cX12_rate 1 = .ok (.iconst 1, 1) := by decide +kernel
theorem dX12_rate_2 : decode cX12_rate 2 = .ok (.bipush 100, 2) := by decide +kernel
theorem dX12_rate_4 : decode cX12_rate 4 = .ok (.invokestatic 112, 3) := by decide +kernel
theorem dX12_rate_7 : decode cX12_rate 7 = .ok (.ifCond .ne 6, 3) := by decide +kernel
theorem dX12_rate_10 : decode cX12_rate 10 = .ok (.bipush (-2), 2) := by decide +kernel
theorem dX12_rate_12 : decode cX12_rate 12 = .ok (.ireturn, 1) := by decide +kernel
theorem dX12_rate_13 : decode cX12_rate 13 = .ok (.aload_n 0, 1) := by decide +kernel
theorem dX12_rate_14 : decode cX12_rate 14 = .ok (.getfield 96, 3) := by decide +kernel
theorem dX12_rate_17 : decode cX12_rate 17 = .ok (.istore_n 2, 1) := by decide +kernel
theorem dX12_rate_18 : decode cX12_rate 18 = .ok (.aload_n 0, 1) := by decide +kernel
theorem dX12_rate_19 : decode cX12_rate 19 = .ok (.iload_n 1, 1) := by decide +kernel
theorem dX12_rate_20 : decode cX12_rate 20 = .ok (.putfield 96, 3) := by decide +kernel
theorem dX12_rate_23 : decode cX12_rate 23 = .ok (.iload_n 2, 1) := by decide +kernel
theorem dX12_rate_24 : decode cX12_rate 24 = .ok (.ireturn, 1) := by decide +kernel
theorem dX12_eatsIn_0 : decode cX12_eatsIn 0 = .ok (.aload_n 0, 1) := by decide +kernel
theorem dX12_eatsIn_1 : decode cX12_eatsIn 1 = .ok (.getfield 23, 3) := by decide +kernel
theorem dX12_eatsIn_4 : decode cX12_eatsIn 4 = .ok (.iload_n 1, 1) := by decide +kernel
theorem dX12_eatsIn_5 : decode cX12_eatsIn 5 = .ok (.iaload, 1) := by decide +kernel
theorem dX12_eatsIn_6 : decode cX12_eatsIn 6 = .ok (.iconst 3, 1) := by decide +kernel
theorem dX12_eatsIn_7 : decode cX12_eatsIn 7 = .ok (.if_icmp .lt 14, 3) := by decide +kernel
theorem dX12_eatsIn_10 : decode cX12_eatsIn 10 = .ok (.iload_n 2, 1) := by decide +kernel
theorem dX12_eatsIn_11 : decode cX12_eatsIn 11 = .ok (.aload_n 0, 1) := by decide +kernel
theorem dX12_eatsIn_12 : decode cX12_eatsIn 12 = .ok (.getfield 29, 3) := by decide +kernel
theorem dX12_eatsIn_15 : decode cX12_eatsIn 15 = .ok (.iload_n 1, 1) := by decide +kernel
theorem dX12_eatsIn_16 : decode cX12_eatsIn 16 = .ok (.iaload, 1) := by decide +kernel
theorem dX12_eatsIn_17 : decode cX12_eatsIn 17 = .ok (.irem, 1) := by decide +kernel
theorem dX12_eatsIn_18 : decode cX12_eatsIn 18 = .ok (.ifCond .ne 7, 3) := by decide +kernel
theorem dX12_eatsIn_21 : decode cX12_eatsIn 21 = .ok (.iconst 1, 1) := by decide +kernel
theorem dX12_eatsIn_22 : decode cX12_eatsIn 22 = .ok (.goto 4, 3) := by decide +kernel
theorem dX12_eatsIn_25 : decode cX12_eatsIn 25 = .ok (.iconst 0, 1) := by decide +kernel
theorem dX12_eatsIn_26 : decode cX12_eatsIn 26 = .ok (.ireturn, 1) := by decide +kernel
set_option maxRecDepth 20000 in
theorem ggX12_eaten_X12_flowOf : GoodIn wsX12_eaten wsX12_flowOf := goodIn_r _ [7, 8, 9, 10, 11, 12, 13, 14, 15, 6, 16, 17, 18, 19, 20, 21, 22, 23, 24, 25, 26, 27, 28, 29, 30, 31, 32, 33, 34, 35, 36, 37, 38, 39, 40, 41, 42, 43, 44, 45, 46, 47, 48, 49, 50, 51, 52, 53, 54, 55, 56] (by decide +kernel) (by decide +kernel)
set_option maxRecDepth 20000 in
theorem gX12_eaten_X12_flowOf : GoodIn wsX12_eaten (wsV RX12 158 RX12 yX12_flowOf wsX12_flowOf) := goodIn_app (goodIn_of _ (by decide +kernel)) ggX12_eaten_X12_flowOf
theorem dX12_eaten_0 : decode cX12_eaten 0 = .ok (.aload_n 0, 1) := by decide +kernel
theorem dX12_eaten_1 : decode cX12_eaten 1 = .ok (.iload_n 1, 1) := by decide +kernel
theorem dX12_eaten_2 : decode cX12_eaten 2 = .ok (.invokevirtual 158, 3) := by decide +kernel
theorem dX12_eaten_5 : decode cX12_eaten 5 = .ok (.lstore_n 2, 1) := by decide +kernel
theorem dX12_eaten_6 : decode cX12_eaten 6 = .ok (.lload_n 2, 1) := by decide +kernel
theorem dX12_eaten_7 : decode cX12_eaten 7 = .ok (.lconst 0, 1) := by decide +kernel
theorem dX12_eaten_8 : decode cX12_eaten 8 = .ok (.lcmp, 1) := by decide +kernel
theorem dX12_eaten_9 : decode cX12_eaten 9 = .ok (.ifCond .ge 8, 3) := by decide +kernel
theorem dX12_eaten_12 : decode cX12_eaten 12 = .ok (.lload_n 2, 1) := by decide +kernel
theorem dX12_eaten_13 : decode cX12_eaten 13 = .ok (.lneg, 1) := by decide +kernel
theorem dX12_eaten_14 : decode cX12_eaten 14 = .ok (.goto 4, 3) := by decide +kernel
theorem dX12_eaten_17 : decode cX12_eaten 17 = .ok (.lload_n 2, 1) := by decide +kernel
theorem dX12_eaten_18 : decode cX12_eaten 18 = .ok (.aload_n 0, 1) := by decide +kernel
theorem dX12_eaten_19 : decode cX12_eaten 19 = .ok (.getfield 96, 3) := by decide +kernel
theorem dX12_eaten_22 : decode cX12_eaten 22 = .ok (.i2l, 1) := by decide +kernel
theorem dX12_eaten_23 : decode cX12_eaten 23 = .ok (.lmul, 1) := by decide +kernel
theorem dX12_eaten_24 : decode cX12_eaten 24 = .ok (.aload_n 0, 1) := by decide +kernel
theorem dX12_eaten_25 : decode cX12_eaten 25 = .ok (.getfield 147, 3) := by decide +kernel
theorem dX12_eaten_28 : decode cX12_eaten 28 = .ok (.ldiv, 1) := by decide +kernel
theorem dX12_eaten_29 : decode cX12_eaten 29 = .ok (.lreturn, 1) := by decide +kernel
set_option maxRecDepth 20000 in
theorem ggX12_eats_X12_noCrack : GoodIn wsX12_eats wsX12_noCrack := goodIn_r _ [6, 7, 8, 9, 5, 10, 69, 70, 71, 72, 73, 74, 75, 76, 77, 78, 79, 80, 81, 82, 83, 84, 85, 86, 87, 88, 89, 90, 91, 92, 93, 94, 95, 96, 97, 98, 99, 100, 101, 102, 103, 104, 105, 106, 107] (by decide +kernel) (by decide +kernel)
set_option maxRecDepth 20000 in
theorem gX12_eats_X12_noCrack : GoodIn wsX12_eats (wsV RX12 123 RX12 yX12_noCrack wsX12_noCrack) := goodIn_app (goodIn_of _ (by decide +kernel)) ggX12_eats_X12_noCrack
set_option maxRecDepth 20000 in
theorem ggX12_eats_X12_lost : GoodIn wsX12_eats wsX12_lost := goodIn_r _ [13, 14] (by decide +kernel) (by decide +kernel)
set_option maxRecDepth 20000 in
theorem gX12_eats_X12_lost : GoodIn wsX12_eats (va_wsS RX12 105 yX12_lost wsX12_lost) := goodIn_app (goodIn_of _ (by decide +kernel)) ggX12_eats_X12_lost
set_option maxRecDepth 20000 in
theorem ggX12_eats_X12_findHeads : GoodIn wsX12_eats wsX12_findHeads := goodIn_r _ [18, 19, 20, 21, 22, 23, 24, 25, 7, 26, 27, 28, 29, 30, 31, 32, 33, 34, 5, 35, 36, 37, 38, 39, 40, 41, 42, 43, 44, 45, 46, 47, 48, 49, 50, 51, 52, 53, 54, 69, 70, 71, 72, 73, 74, 75, 76, 77, 78, 79, 80, 81, 82, 83, 84, 85, 86, 87, 88, 89, 90, 91, 92, 93, 94, 95, 96, 97, 98, 99, 100, 101, 102, 103, 104, 105, 106, 107] (by decide +kernel) (by decide +kernel)
set_option maxRecDepth 20000 in
theorem gX12_eats_X12_findHeads : GoodIn wsX12_eats (wsV RX12 151 RX12 yX12_findHeads wsX12_findHeads) := goodIn_app (goodIn_of _ (by decide +kernel)) ggX12_eats_X12_findHeads
set_option maxRecDepth 20000 in
theorem ggX12_eats_X12_eatsIn : GoodIn wsX12_eats wsX12_eatsIn := goodIn_r _ [58, 40, 59, 69, 70, 71, 72, 73, 74, 75, 76, 77, 78, 79, 80, 81, 82, 83, 84, 85, 86, 87, 88, 89, 90, 91, 92, 93, 94, 95, 96, 97, 98, 99, 100, 101, 102, 103, 104, 105, 106, 107] (by decide +kernel) (by decide +kernel)
set_option maxRecDepth 20000 in
theorem gX12_eats_X12_eatsIn : GoodIn wsX12_eats (wsV RX12 167 RX12 yX12_eatsIn wsX12_eatsIn) := goodIn_app (goodIn_of _ (by decide +kernel)) ggX12_eats_X12_eatsIn
set_option maxRecDepth 20000 in
theorem ggX12_eats_X12_eaten : GoodIn wsX12_eats wsX12_eaten := goodIn_r _ [63, 64, 29, 65, 66, 67, 5, 68, 26, 21, 27, 28, 30, 36, 37, 38, 39, 40, 69, 70, 71, 72, 73, 74, 75, 76, 77, 78, 79, 80, 81, 82, 83, 84, 85, 86, 87, 88, 89, 90, 91, 92, 93, 94, 95, 96, 97, 98, 99, 100, 101, 102, 103, 104, 105, 106, 107] (by decide +kernel) (by decide +kernel)
set_option maxRecDepth 20000 in
theorem gX12_eats_X12_eaten : GoodIn wsX12_eats (wsV RX12 171 RX12 yX12_eaten wsX12_eaten) := goodIn_app (goodIn_of _ (by decide +kernel)) ggX12_eats_X12_eaten
theorem dX12_eats_0 : decode cX12_eats 0 = .ok (.aload_n 0, 1) := by decide +kernel
theorem dX12_eats_1 : decode cX12_eats 1 = .ok (.iload_n 1, 1) := by decide +kernel
theorem dX12_eats_2 : decode cX12_eats 2 = .ok (.invokevirtual 123, 3) := by decide +kernel
theorem dX12_eats_5 : decode cX12_eats 5 = .ok (.ifCond .eq 7, 3) := by decide +kernel
theorem dX12_eats_8 : decode cX12_eats 8 = .ok (.invokestatic 105, 3) := by decide +kernel
theorem dX12_eats_11 : decode cX12_eats 11 = .ok (.lreturn, 1) := by decide +kernel
theorem dX12_eats_12 : decode cX12_eats 12 = .ok (.aload_n 0, 1) := by decide +kernel
theorem dX12_eats_13 : decode cX12_eats 13 = .ok (.invokevirtual 151, 3) := by decide +kernel
theorem dX12_eats_16 : decode cX12_eats 16 = .ok (.aload_n 0, 1) := by decide +kernel
theorem dX12_eats_17 : decode cX12_eats 17 = .ok (.iload_n 1, 1) := by decide +kernel
theorem dX12_eats_18 : decode cX12_eats 18 = .ok (.aload_n 0, 1) := by decide +kernel
theorem dX12_eats_19 : decode cX12_eats 19 = .ok (.getfield 164, 3) := by decide +kernel
theorem dX12_eats_22 : decode cX12_eats 22 = .ok (.iconst 1, 1) := by decide +kernel
theorem dX12_eats_23 : decode cX12_eats 23 = .ok (.iadd, 1) := by decide +kernel
theorem dX12_eats_24 : decode cX12_eats 24 = .ok (.invokevirtual 167, 3) := by decide +kernel
theorem dX12_eats_27 : decode cX12_eats 27 = .ok (.ifCond .eq 11, 3) := by decide +kernel
theorem dX12_eats_30 : decode cX12_eats 30 = .ok (.aload_n 0, 1) := by decide +kernel
theorem dX12_eats_31 : decode cX12_eats 31 = .ok (.iload_n 1, 1) := by decide +kernel
theorem dX12_eats_32 : decode cX12_eats 32 = .ok (.invokevirtual 171, 3) := by decide +kernel
theorem dX12_eats_35 : decode cX12_eats 35 = .ok (.goto 4, 3) := by decide +kernel
theorem dX12_eats_38 : decode cX12_eats 38 = .ok (.lconst 0, 1) := by decide +kernel
theorem dX12_eats_39 : decode cX12_eats 39 = .ok (.lreturn, 1) := by decide +kernel
theorem dX12_changes_0 : decode cX12_changes 0 = .ok (.aload_n 0, 1) := by decide +kernel
theorem dX12_changes_1 : decode cX12_changes 1 = .ok (.getfield 26, 3) := by decide +kernel
theorem dX12_changes_4 : decode cX12_changes 4 = .ok (.iload_n 1, 1) := by decide +kernel
theorem dX12_changes_5 : decode cX12_changes 5 = .ok (.iaload, 1) := by decide +kernel
theorem dX12_changes_6 : decode cX12_changes 6 = .ok (.istore 4, 2) := by decide +kernel
theorem dX12_changes_8 : decode cX12_changes 8 = .ok (.aload_n 0, 1) := by decide +kernel
theorem dX12_changes_9 : decode cX12_changes 9 = .ok (.getfield 23, 3) := by decide +kernel
theorem dX12_changes_12 : decode cX12_changes 12 = .ok (.iload_n 1, 1) := by decide +kernel
theorem dX12_changes_13 : decode cX12_changes 13 = .ok (.iaload, 1) := by decide +kernel
theorem dX12_changes_14 : decode cX12_changes 14 = .ok (.iconst 4, 1) := by decide +kernel
theorem dX12_changes_15 : decode cX12_changes 15 = .ok (.if_icmp .ne 28, 3) := by decide +kernel
theorem dX12_changes_18 : decode cX12_changes 18 = .ok (.aload_n 0, 1) := by decide +kernel
theorem dX12_changes_19 : decode cX12_changes 19 = .ok (.getfield 29, 3) := by decide +kernel
theorem dX12_changes_22 : decode cX12_changes 22 = .ok (.iload_n 1, 1) := by decide +kernel
theorem dX12_changes_23 : decode cX12_changes 23 = .ok (.iaload, 1) := by decide +kernel
theorem dX12_changes_24 : decode cX12_changes 24 = .ok (.iload 4, 2) := by decide +kernel
theorem dX12_changes_26 : decode cX12_changes 26 = .ok (.if_icmp .le 12, 3) := by decide +kernel
theorem dX12_changes_29 : decode cX12_changes 29 = .ok (.aload_n 0, 1) := by decide +kernel
theorem dX12_changes_30 : decode cX12_changes 30 = .ok (.getfield 29, 3) := by decide +kernel
theorem dX12_changes_33 : decode cX12_changes 33 = .ok (.iload_n 1, 1) := by decide +kernel
theorem dX12_changes_34 : decode cX12_changes 34 = .ok (.iaload, 1) := by decide +kernel
theorem dX12_changes_35 : decode cX12_changes 35 = .ok (.goto 10, 3) := by decide +kernel
theorem dX12_changes_38 : decode cX12_changes 38 = .ok (.iload 4, 2) := by decide +kernel
theorem dX12_changes_40 : decode cX12_changes 40 = .ok (.goto 5, 3) := by decide +kernel
theorem dX12_changes_43 : decode cX12_changes 43 = .ok (.bipush 12, 2) := by decide +kernel
theorem dX12_changes_45 : decode cX12_changes 45 = .ok (.istore 5, 2) := by decide +kernel
theorem dX12_changes_47 : decode cX12_changes 47 = .ok (.aload_n 0, 1) := by decide +kernel
theorem dX12_changes_48 : decode cX12_changes 48 = .ok (.getfield 32, 3) := by decide +kernel
theorem dX12_changes_51 : decode cX12_changes 51 = .ok (.iload_n 1, 1) := by decide +kernel
theorem dX12_changes_52 : decode cX12_changes 52 = .ok (.iaload, 1) := by decide +kernel
theorem dX12_changes_53 : decode cX12_changes 53 = .ok (.i2l, 1) := by decide +kernel
theorem dX12_changes_54 : decode cX12_changes 54 = .ok (.lload_n 2, 1) := by decide +kernel
theorem dX12_changes_55 : decode cX12_changes 55 = .ok (.ladd, 1) := by decide +kernel
theorem dX12_changes_56 : decode cX12_changes 56 = .ok (.lstore 6, 2) := by decide +kernel
theorem dX12_changes_58 : decode cX12_changes 58 = .ok (.lload 6, 2) := by decide +kernel
theorem dX12_changes_60 : decode cX12_changes 60 = .ok (.ldc2_w 174, 3) := by decide +kernel
theorem dX12_changes_63 : decode cX12_changes 63 = .ok (.ldiv, 1) := by decide +kernel
theorem dX12_changes_64 : decode cX12_changes 64 = .ok (.lstore 8, 2) := by decide +kernel
theorem dX12_changes_66 : decode cX12_changes 66 = .ok (.aload_n 0, 1) := by decide +kernel
theorem dX12_changes_67 : decode cX12_changes 67 = .ok (.getfield 23, 3) := by decide +kernel
theorem dX12_changes_70 : decode cX12_changes 70 = .ok (.iload_n 1, 1) := by decide +kernel
theorem dX12_changes_71 : decode cX12_changes 71 = .ok (.iaload, 1) := by decide +kernel
theorem dX12_changes_72 : decode cX12_changes 72 = .ok (.iconst 2, 1) := by decide +kernel
theorem dX12_changes_73 : decode cX12_changes 73 = .ok (.if_icmp .ne 31, 3) := by decide +kernel
theorem dX12_changes_76 : decode cX12_changes 76 = .ok (.aload_n 0, 1) := by decide +kernel
theorem dX12_changes_77 : decode cX12_changes 77 = .ok (.getfield 26, 3) := by decide +kernel
theorem dX12_changes_80 : decode cX12_changes 80 = .ok (.iload_n 1, 1) := by decide +kernel
theorem dX12_changes_81 : decode cX12_changes 81 = .ok (.lload 8, 2) := by decide +kernel
theorem dX12_changes_83 : decode cX12_changes 83 = .ok (.iload 4, 2) := by decide +kernel
theorem dX12_changes_85 : decode cX12_changes 85 = .ok (.i2l, 1) := by decide +kernel
theorem dX12_changes_86 : decode cX12_changes 86 = .ok (.lcmp, 1) := by decide +kernel
theorem dX12_changes_87 : decode cX12_changes 87 = .ok (.ifCond .lt 7, 3) := by decide +kernel
theorem dX12_changes_90 : decode cX12_changes 90 = .ok (.iconst 0, 1) := by decide +kernel
theorem dX12_changes_91 : decode cX12_changes 91 = .ok (.goto 9, 3) := by decide +kernel
theorem dX12_changes_94 : decode cX12_changes 94 = .ok (.iload 4, 2) := by decide +kernel
theorem dX12_changes_96 : decode cX12_changes 96 = .ok (.lload 8, 2) := by decide +kernel
theorem dX12_changes_98 : decode cX12_changes 98 = .ok (.l2i, 1) := by decide +kernel
theorem dX12_changes_99 : decode cX12_changes 99 = .ok (.isub, 1) := by decide +kernel
theorem dX12_changes_100 : decode cX12_changes 100 = .ok (.iastore, 1) := by decide +kernel
theorem dX12_changes_101 : decode cX12_changes 101 = .ok (.goto 32, 3) := by decide +kernel
theorem dX12_changes_104 : decode cX12_changes 104 = .ok (.aload_n 0, 1) := by decide +kernel
theorem dX12_changes_105 : decode cX12_changes 105 = .ok (.getfield 26, 3) := by decide +kernel
theorem dX12_changes_108 : decode cX12_changes 108 = .ok (.iload_n 1, 1) := by decide +kernel
theorem dX12_changes_109 : decode cX12_changes 109 = .ok (.lload 8, 2) := by decide +kernel
theorem dX12_changes_111 : decode cX12_changes 111 = .ok (.iload 5, 2) := by decide +kernel
theorem dX12_changes_113 : decode cX12_changes 113 = .ok (.iload 4, 2) := by decide +kernel
theorem dX12_changes_115 : decode cX12_changes 115 = .ok (.isub, 1) := by decide +kernel
theorem dX12_changes_116 : decode cX12_changes 116 = .ok (.i2l, 1) := by decide +kernel
theorem dX12_changes_117 : decode cX12_changes 117 = .ok (.lcmp, 1) := by decide +kernel
theorem dX12_changes_118 : decode cX12_changes 118 = .ok (.ifCond .lt 8, 3) := by decide +kernel
theorem dX12_changes_121 : decode cX12_changes 121 = .ok (.iload 5, 2) := by decide +kernel
theorem dX12_changes_123 : decode cX12_changes 123 = .ok (.goto 9, 3) := by decide +kernel
theorem dX12_changes_126 : decode cX12_changes 126 = .ok (.iload 4, 2) := by decide +kernel
theorem dX12_changes_128 : decode cX12_changes 128 = .ok (.lload 8, 2) := by decide +kernel
theorem dX12_changes_130 : decode cX12_changes 130 = .ok (.l2i, 1) := by decide +kernel
theorem dX12_changes_131 : decode cX12_changes 131 = .ok (.iadd, 1) := by decide +kernel
theorem dX12_changes_132 : decode cX12_changes 132 = .ok (.iastore, 1) := by decide +kernel
theorem dX12_changes_133 : decode cX12_changes 133 = .ok (.aload_n 0, 1) := by decide +kernel
theorem dX12_changes_134 : decode cX12_changes 134 = .ok (.getfield 23, 3) := by decide +kernel
theorem dX12_changes_137 : decode cX12_changes 137 = .ok (.iload_n 1, 1) := by decide +kernel
theorem dX12_changes_138 : decode cX12_changes 138 = .ok (.iaload, 1) := by decide +kernel
theorem dX12_changes_139 : decode cX12_changes 139 = .ok (.iconst 2, 1) := by decide +kernel
theorem dX12_changes_140 : decode cX12_changes 140 = .ok (.if_icmp .ne 20, 3) := by decide +kernel
theorem dX12_changes_143 : decode cX12_changes 143 = .ok (.aload_n 0, 1) := by decide +kernel
theorem dX12_changes_144 : decode cX12_changes 144 = .ok (.getfield 26, 3) := by decide +kernel
theorem dX12_changes_147 : decode cX12_changes 147 = .ok (.iload_n 1, 1) := by decide +kernel
theorem dX12_changes_148 : decode cX12_changes 148 = .ok (.iaload, 1) := by decide +kernel
theorem dX12_changes_149 : decode cX12_changes 149 = .ok (.ifCond .ne 7, 3) := by decide +kernel
theorem dX12_changes_152 : decode cX12_changes 152 = .ok (.iconst 1, 1) := by decide +kernel
theorem dX12_changes_153 : decode cX12_changes 153 = .ok (.goto 23, 3) := by decide +kernel
theorem dX12_changes_156 : decode cX12_changes 156 = .ok (.iconst 0, 1) := by decide +kernel
theorem dX12_changes_157 : decode cX12_changes 157 = .ok (.goto 19, 3) := by decide +kernel
theorem dX12_changes_160 : decode cX12_changes 160 = .ok (.aload_n 0, 1) := by decide +kernel
theorem dX12_changes_161 : decode cX12_changes 161 = .ok (.getfield 26, 3) := by decide +kernel
theorem dX12_changes_164 : decode cX12_changes 164 = .ok (.iload_n 1, 1) := by decide +kernel
theorem dX12_changes_165 : decode cX12_changes 165 = .ok (.iaload, 1) := by decide +kernel
theorem dX12_changes_166 : decode cX12_changes 166 = .ok (.iload 5, 2) := by decide +kernel
theorem dX12_changes_168 : decode cX12_changes 168 = .ok (.if_icmp .ne 7, 3) := by decide +kernel
theorem dX12_changes_171 : decode cX12_changes 171 = .ok (.iconst 1, 1) := by decide +kernel
theorem dX12_changes_172 : decode cX12_changes 172 = .ok (.goto 4, 3) := by decide +kernel
theorem dX12_changes_175 : decode cX12_changes 175 = .ok (.iconst 0, 1) := by decide +kernel
theorem dX12_changes_176 : decode cX12_changes 176 = .ok (.istore 10, 2) := by decide +kernel
theorem dX12_changes_178 : decode cX12_changes 178 = .ok (.aload_n 0, 1) := by decide +kernel
theorem dX12_changes_179 : decode cX12_changes 179 = .ok (.getfield 32, 3) := by decide +kernel
theorem dX12_changes_182 : decode cX12_changes 182 = .ok (.iload_n 1, 1) := by decide +kernel
theorem dX12_changes_183 : decode cX12_changes 183 = .ok (.iload 10, 2) := by decide +kernel
theorem dX12_changes_185 : decode cX12_changes 185 = .ok (.ifCond .eq 7, 3) := by decide +kernel
theorem dX12_changes_188 : decode cX12_changes 188 = .ok (.iconst 0, 1) := by decide +kernel
theorem dX12_changes_189 : decode cX12_changes 189 = .ok (.goto 10, 3) := by decide +kernel
theorem dX12_changes_192 : decode cX12_changes 192 = .ok (.lload 6, 2) := by decide +kernel
theorem dX12_changes_194 : decode cX12_changes 194 = .ok (.ldc2_w 174, 3) := by decide +kernel
theorem dX12_changes_197 : decode cX12_changes 197 = .ok (.lrem, 1) := by decide +kernel
theorem dX12_changes_198 : decode cX12_changes 198 = .ok (.l2i, 1) := by decide +kernel
theorem dX12_changes_199 : decode cX12_changes 199 = .ok (.iastore, 1) := by decide +kernel
theorem dX12_changes_200 : decode cX12_changes 200 = .ok (.aload_n 0, 1) := by decide +kernel
theorem dX12_changes_201 : decode cX12_changes 201 = .ok (.getfield 26, 3) := by decide +kernel
theorem dX12_changes_204 : decode cX12_changes 204 = .ok (.iload_n 1, 1) := by decide +kernel
theorem dX12_changes_205 : decode cX12_changes 205 = .ok (.iaload, 1) := by decide +kernel
theorem dX12_changes_206 : decode cX12_changes 206 = .ok (.iload 4, 2) := by decide +kernel
theorem dX12_changes_208 : decode cX12_changes 208 = .ok (.if_icmp .eq 7, 3) := by decide +kernel
theorem dX12_changes_211 : decode cX12_changes 211 = .ok (.iconst 1, 1) := by decide +kernel
theorem dX12_changes_212 : decode cX12_changes 212 = .ok (.goto 4, 3) := by decide +kernel
theorem dX12_changes_215 : decode cX12_changes 215 = .ok (.iconst 0, 1) := by decide +kernel
theorem dX12_changes_216 : decode cX12_changes 216 = .ok (.ireturn, 1) := by decide +kernel
set_option maxRecDepth 20000 in
theorem ggX12_stepOnce_X12_findHeads : GoodIn wsX12_stepOnce wsX12_findHeads := goodIn_r _ [8, 9, 10, 11, 12, 13, 14, 15, 2, 16, 17, 18, 19, 20, 21, 22, 23, 24, 7, 25, 26, 27, 28, 29, 30, 31, 32, 33, 34, 35, 36, 37, 38, 39, 40, 41, 42, 43, 44, 65, 66, 67, 68, 69, 70, 71, 72, 73, 74, 75, 76, 77, 78, 79, 80, 81, 82, 83, 84, 85, 86, 87, 88, 89, 90, 91, 92, 93, 94, 95, 96, 97, 98, 99, 100, 101, 102, 103] (by decide +kernel) (by decide +kernel)
set_option maxRecDepth 20000 in
theorem gX12_stepOnce_X12_findHeads : GoodIn wsX12_stepOnce (wsV RX12 151 RX12 yX12_findHeads wsX12_findHeads) := goodIn_app (goodIn_of _ (by decide +kernel)) ggX12_stepOnce_X12_findHeads
set_option maxRecDepth 20000 in
theorem ggX12_stepOnce_X12_eaten : GoodIn wsX12_stepOnce wsX12_eaten := goodIn_r _ [48, 49, 19, 50, 51, 52, 7, 53, 16, 11, 17, 18, 20, 26, 27, 28, 29, 30, 65, 66, 67, 68, 69, 70, 71, 72, 73, 74, 75, 76, 77, 78, 79, 80, 81, 82, 83, 84, 85, 86, 87, 88, 89, 90, 91, 92, 93, 94, 95, 96, 97, 98, 99, 100, 101, 102, 103] (by decide +kernel) (by decide +kernel)
set_option maxRecDepth 20000 in
theorem gX12_stepOnce_X12_eaten : GoodIn wsX12_stepOnce (wsV RX12 171 RX12 yX12_eaten wsX12_eaten) := goodIn_app (goodIn_of _ (by decide +kernel)) ggX12_stepOnce_X12_eaten
set_option maxRecDepth 20000 in
theorem ggX12_stepOnce_X12_eatsIn : GoodIn wsX12_stepOnce wsX12_eatsIn := goodIn_r _ [57, 30, 58, 65, 66, 67, 68, 69, 70, 71, 72, 73, 74, 75, 76, 77, 78, 79, 80, 81, 82, 83, 84, 85, 86, 87, 88, 89, 90, 91, 92, 93, 94, 95, 96, 97, 98, 99, 100, 101, 102, 103] (by decide +kernel) (by decide +kernel)
set_option maxRecDepth 20000 in
theorem gX12_stepOnce_X12_eatsIn : GoodIn wsX12_stepOnce (wsV RX12 167 RX12 yX12_eatsIn wsX12_eatsIn) := goodIn_app (goodIn_of _ (by decide +kernel)) ggX12_stepOnce_X12_eatsIn
set_option maxRecDepth 20000 in
theorem ggX12_stepOnce_X12_changes : GoodIn wsX12_stepOnce wsX12_changes := goodIn_r _ [62, 16, 30, 58, 63, 64, 65, 66, 67, 68, 69, 70, 71, 72, 73, 74, 75, 76, 77, 78, 79, 80, 81, 82, 83, 84, 85, 86, 87, 88, 89, 90, 91, 92, 93, 94, 95, 96, 97, 98, 99, 100, 101, 102, 103] (by decide +kernel) (by decide +kernel)
set_option maxRecDepth 20000 in
theorem gX12_stepOnce_X12_changes : GoodIn wsX12_stepOnce (wsV RX12 176 RX12 yX12_changes wsX12_changes) := goodIn_app (goodIn_of _ (by decide +kernel)) ggX12_stepOnce_X12_changes
theorem dX12_stepOnce_0 : decode cX12_stepOnce 0 = .ok (.aload_n 0, 1) := by decide +kernel
theorem dX12_stepOnce_1 : decode cX12_stepOnce 1 = .ok (.invokevirtual 151, 3) := by decide +kernel
theorem dX12_stepOnce_4 : decode cX12_stepOnce 4 = .ok (.aload_n 0, 1) := by decide +kernel
theorem dX12_stepOnce_5 : decode cX12_stepOnce 5 = .ok (.dup, 1) := by decide +kernel
theorem dX12_stepOnce_6 : decode cX12_stepOnce 6 = .ok (.getfield 164, 3) := by decide +kernel
theorem dX12_stepOnce_9 : decode cX12_stepOnce 9 = .ok (.iconst 1, 1) := by decide +kernel
theorem dX12_stepOnce_10 : decode cX12_stepOnce 10 = .ok (.iadd, 1) := by decide +kernel
theorem dX12_stepOnce_11 : decode cX12_stepOnce 11 = .ok (.putfield 164, 3) := by decide +kernel
theorem dX12_stepOnce_14 : decode cX12_stepOnce 14 = .ok (.iconst 0, 1) := by decide +kernel
theorem dX12_stepOnce_15 : decode cX12_stepOnce 15 = .ok (.istore_n 1, 1) := by decide +kernel
theorem dX12_stepOnce_16 : decode cX12_stepOnce 16 = .ok (.iload_n 1, 1) := by decide +kernel
theorem dX12_stepOnce_17 : decode cX12_stepOnce 17 = .ok (.aload_n 0, 1) := by decide +kernel
theorem dX12_stepOnce_18 : decode cX12_stepOnce 18 = .ok (.getfield 116, 3) := by decide +kernel
theorem dX12_stepOnce_21 : decode cX12_stepOnce 21 = .ok (.if_icmp .ge 20, 3) := by decide +kernel
theorem dX12_stepOnce_24 : decode cX12_stepOnce 24 = .ok (.aload_n 0, 1) := by decide +kernel
theorem dX12_stepOnce_25 : decode cX12_stepOnce 25 = .ok (.getfield 57, 3) := by decide +kernel
theorem dX12_stepOnce_28 : decode cX12_stepOnce 28 = .ok (.iload_n 1, 1) := by decide +kernel
theorem dX12_stepOnce_29 : decode cX12_stepOnce 29 = .ok (.aload_n 0, 1) := by decide +kernel
theorem dX12_stepOnce_30 : decode cX12_stepOnce 30 = .ok (.iload_n 1, 1) := by decide +kernel
theorem dX12_stepOnce_31 : decode cX12_stepOnce 31 = .ok (.invokevirtual 171, 3) := by decide +kernel
theorem dX12_stepOnce_34 : decode cX12_stepOnce 34 = .ok (.lastore, 1) := by decide +kernel
theorem dX12_stepOnce_35 : decode cX12_stepOnce 35 = .ok (.iinc 1 1, 3) := by decide +kernel
theorem dX12_stepOnce_38 : decode cX12_stepOnce 38 = .ok (.goto (-22), 3) := by decide +kernel
theorem dX12_stepOnce_41 : decode cX12_stepOnce 41 = .ok (.iconst 0, 1) := by decide +kernel
theorem dX12_stepOnce_42 : decode cX12_stepOnce 42 = .ok (.istore_n 1, 1) := by decide +kernel
theorem dX12_stepOnce_43 : decode cX12_stepOnce 43 = .ok (.iconst 0, 1) := by decide +kernel
theorem dX12_stepOnce_44 : decode cX12_stepOnce 44 = .ok (.istore_n 2, 1) := by decide +kernel
theorem dX12_stepOnce_45 : decode cX12_stepOnce 45 = .ok (.iload_n 2, 1) := by decide +kernel
theorem dX12_stepOnce_46 : decode cX12_stepOnce 46 = .ok (.aload_n 0, 1) := by decide +kernel
theorem dX12_stepOnce_47 : decode cX12_stepOnce 47 = .ok (.getfield 116, 3) := by decide +kernel
theorem dX12_stepOnce_50 : decode cX12_stepOnce 50 = .ok (.if_icmp .ge 43, 3) := by decide +kernel
theorem dX12_stepOnce_53 : decode cX12_stepOnce 53 = .ok (.iload_n 1, 1) := by decide +kernel
theorem dX12_stepOnce_54 : decode cX12_stepOnce 54 = .ok (.aload_n 0, 1) := by decide +kernel
theorem dX12_stepOnce_55 : decode cX12_stepOnce 55 = .ok (.iload_n 2, 1) := by decide +kernel
theorem dX12_stepOnce_56 : decode cX12_stepOnce 56 = .ok (.aload_n 0, 1) := by decide +kernel
theorem dX12_stepOnce_57 : decode cX12_stepOnce 57 = .ok (.getfield 164, 3) := by decide +kernel
theorem dX12_stepOnce_60 : decode cX12_stepOnce 60 = .ok (.invokevirtual 167, 3) := by decide +kernel
theorem dX12_stepOnce_63 : decode cX12_stepOnce 63 = .ok (.ifCond .eq 21, 3) := by decide +kernel
theorem dX12_stepOnce_66 : decode cX12_stepOnce 66 = .ok (.aload_n 0, 1) := by decide +kernel
theorem dX12_stepOnce_67 : decode cX12_stepOnce 67 = .ok (.iload_n 2, 1) := by decide +kernel
theorem dX12_stepOnce_68 : decode cX12_stepOnce 68 = .ok (.aload_n 0, 1) := by decide +kernel
theorem dX12_stepOnce_69 : decode cX12_stepOnce 69 = .ok (.getfield 57, 3) := by decide +kernel
theorem dX12_stepOnce_72 : decode cX12_stepOnce 72 = .ok (.iload_n 2, 1) := by decide +kernel
theorem dX12_stepOnce_73 : decode cX12_stepOnce 73 = .ok (.laload, 1) := by decide +kernel
theorem dX12_stepOnce_74 : decode cX12_stepOnce 74 = .ok (.invokevirtual 176, 3) := by decide +kernel
theorem dX12_stepOnce_77 : decode cX12_stepOnce 77 = .ok (.ifCond .eq 7, 3) := by decide +kernel
theorem dX12_stepOnce_80 : decode cX12_stepOnce 80 = .ok (.iconst 1, 1) := by decide +kernel
theorem dX12_stepOnce_81 : decode cX12_stepOnce 81 = .ok (.goto 4, 3) := by decide +kernel
theorem dX12_stepOnce_84 : decode cX12_stepOnce 84 = .ok (.iconst 0, 1) := by decide +kernel
theorem dX12_stepOnce_85 : decode cX12_stepOnce 85 = .ok (.iadd, 1) := by decide +kernel
theorem dX12_stepOnce_86 : decode cX12_stepOnce 86 = .ok (.istore_n 1, 1) := by decide +kernel
theorem dX12_stepOnce_87 : decode cX12_stepOnce 87 = .ok (.iinc 2 1, 3) := by decide +kernel
theorem dX12_stepOnce_90 : decode cX12_stepOnce 90 = .ok (.goto (-45), 3) := by decide +kernel
theorem dX12_stepOnce_93 : decode cX12_stepOnce 93 = .ok (.iload_n 1, 1) := by decide +kernel
theorem dX12_stepOnce_94 : decode cX12_stepOnce 94 = .ok (.ireturn, 1) := by decide +kernel
set_option maxRecDepth 20000 in
theorem ggX12_step_X12_among : GoodIn wsX12_step wsX12_among := goodIn_r _ [4] (by decide +kernel) (by decide +kernel)
set_option maxRecDepth 20000 in
theorem gX12_step_X12_among : GoodIn wsX12_step (va_wsS RX12 112 yX12_among wsX12_among) := goodIn_app (goodIn_of _ (by decide +kernel)) ggX12_step_X12_among
set_option maxRecDepth 20000 in
theorem ggX12_step_X12_stepOnce : GoodIn wsX12_step wsX12_stepOnce := goodIn_r _ [8, 9, 10, 11, 12, 13, 14, 3, 15, 16, 17, 18, 19, 20, 21, 22, 23, 24, 25, 26, 27, 28, 29, 30, 31, 32, 33, 34, 35, 36, 37, 38, 39, 40, 41, 42, 43, 44, 45, 46, 47, 48, 49, 50, 51, 52, 53, 54, 55, 56, 57, 58, 59, 60, 61, 62, 63, 64, 65, 66, 67, 68, 69, 70, 71, 72, 73, 74, 75, 76, 77, 78, 79, 80, 81, 82, 83, 84, 85, 86, 87, 88, 89, 90, 91, 92, 93, 94, 95, 96, 97, 98, 99, 100, 101, 102, 103, 104, 105, 106, 107, 108, 109, 110] (by decide +kernel) (by decide +kernel)
set_option maxRecDepth 20000 in
theorem gX12_step_X12_stepOnce : GoodIn wsX12_step (wsV RX12 180 RX12 yX12_stepOnce wsX12_stepOnce) := goodIn_app (goodIn_of _ (by decide +kernel)) ggX12_step_X12_stepOnce
theorem dX12_step_0 : decode cX12_step 0 = .ok (.iload_n 1, 1) := by decide +kernel
theorem dX12_step_1 : decode cX12_step 1 = .ok (.iconst 0, 1) := by decide +kernel
theorem dX12_step_2 : decode cX12_step 2 = .ok (.bipush 50, 2) := by decide +kernel
theorem dX12_step_4 : decode cX12_step 4 = .ok (.invokestatic 112, 3) := by decide +kernel
theorem dX12_step_7 : decode cX12_step 7 = .ok (.ifCond .ne 6, 3) := by decide +kernel
theorem dX12_step_10 : decode cX12_step 10 = .ok (.bipush (-2), 2) := by decide +kernel
theorem dX12_step_12 : decode cX12_step 12 = .ok (.ireturn, 1) := by decide +kernel
theorem dX12_step_13 : decode cX12_step 13 = .ok (.iconst 0, 1) := by decide +kernel
theorem dX12_step_14 : decode cX12_step 14 = .ok (.istore_n 2, 1) := by decide +kernel
theorem dX12_step_15 : decode cX12_step 15 = .ok (.iconst 0, 1) := by decide +kernel
theorem dX12_step_16 : decode cX12_step 16 = .ok (.istore_n 3, 1) := by decide +kernel
theorem dX12_step_17 : decode cX12_step 17 = .ok (.iload_n 3, 1) := by decide +kernel
theorem dX12_step_18 : decode cX12_step 18 = .ok (.iload_n 1, 1) := by decide +kernel
theorem dX12_step_19 : decode cX12_step 19 = .ok (.if_icmp .ge 16, 3) := by decide +kernel
theorem dX12_step_22 : decode cX12_step 22 = .ok (.iload_n 2, 1) := by decide +kernel
theorem dX12_step_23 : decode cX12_step 23 = .ok (.aload_n 0, 1) := by decide +kernel
theorem dX12_step_24 : decode cX12_step 24 = .ok (.invokevirtual 180, 3) := by decide +kernel
theorem dX12_step_27 : decode cX12_step 27 = .ok (.iadd, 1) := by decide +kernel
theorem dX12_step_28 : decode cX12_step 28 = .ok (.istore_n 2, 1) := by decide +kernel
theorem dX12_step_29 : decode cX12_step 29 = .ok (.iinc 3 1, 3) := by decide +kernel
theorem dX12_step_32 : decode cX12_step 32 = .ok (.goto (-15), 3) := by decide +kernel
theorem dX12_step_35 : decode cX12_step 35 = .ok (.iload_n 2, 1) := by decide +kernel
theorem dX12_step_36 : decode cX12_step 36 = .ok (.ireturn, 1) := by decide +kernel
theorem dX12_findEnds_0 : decode cX12_findEnds 0 = .ok (.aload_n 0, 1) := by decide +kernel
theorem dX12_findEnds_1 : decode cX12_findEnds 1 = .ok (.iconst (-1), 1) := by decide +kernel
theorem dX12_findEnds_2 : decode cX12_findEnds 2 = .ok (.putfield 184, 3) := by decide +kernel
theorem dX12_findEnds_5 : decode cX12_findEnds 5 = .ok (.aload_n 0, 1) := by decide +kernel
theorem dX12_findEnds_6 : decode cX12_findEnds 6 = .ok (.bipush 101, 2) := by decide +kernel
theorem dX12_findEnds_8 : decode cX12_findEnds 8 = .ok (.putfield 187, 3) := by decide +kernel
theorem dX12_findEnds_11 : decode cX12_findEnds 11 = .ok (.iconst 0, 1) := by decide +kernel
theorem dX12_findEnds_12 : decode cX12_findEnds 12 = .ok (.istore_n 1, 1) := by decide +kernel
theorem dX12_findEnds_13 : decode cX12_findEnds 13 = .ok (.iload_n 1, 1) := by decide +kernel
theorem dX12_findEnds_14 : decode cX12_findEnds 14 = .ok (.aload_n 0, 1) := by decide +kernel
theorem dX12_findEnds_15 : decode cX12_findEnds 15 = .ok (.getfield 109, 3) := by decide +kernel
theorem dX12_findEnds_18 : decode cX12_findEnds 18 = .ok (.if_icmp .ge 87, 3) := by decide +kernel
theorem dX12_findEnds_21 : decode cX12_findEnds 21 = .ok (.aload_n 0, 1) := by decide +kernel
theorem dX12_findEnds_22 : decode cX12_findEnds 22 = .ok (.aload_n 0, 1) := by decide +kernel
theorem dX12_findEnds_23 : decode cX12_findEnds 23 = .ok (.getfield 7, 3) := by decide +kernel
theorem dX12_findEnds_26 : decode cX12_findEnds 26 = .ok (.iload_n 1, 1) := by decide +kernel
theorem dX12_findEnds_27 : decode cX12_findEnds 27 = .ok (.baload, 1) := by decide +kernel
theorem dX12_findEnds_28 : decode cX12_findEnds 28 = .ok (.ifCond .eq 25, 3) := by decide +kernel
theorem dX12_findEnds_31 : decode cX12_findEnds 31 = .ok (.aload_n 0, 1) := by decide +kernel
theorem dX12_findEnds_32 : decode cX12_findEnds 32 = .ok (.getfield 13, 3) := by decide +kernel
theorem dX12_findEnds_35 : decode cX12_findEnds 35 = .ok (.iload_n 1, 1) := by decide +kernel
theorem dX12_findEnds_36 : decode cX12_findEnds 36 = .ok (.iaload, 1) := by decide +kernel
theorem dX12_findEnds_37 : decode cX12_findEnds 37 = .ok (.aload_n 0, 1) := by decide +kernel
theorem dX12_findEnds_38 : decode cX12_findEnds 38 = .ok (.getfield 184, 3) := by decide +kernel
theorem dX12_findEnds_41 : decode cX12_findEnds 41 = .ok (.if_icmp .le 12, 3) := by decide +kernel
theorem dX12_findEnds_44 : decode cX12_findEnds 44 = .ok (.aload_n 0, 1) := by decide +kernel
theorem dX12_findEnds_45 : decode cX12_findEnds 45 = .ok (.getfield 13, 3) := by decide +kernel
theorem dX12_findEnds_48 : decode cX12_findEnds 48 = .ok (.iload_n 1, 1) := by decide +kernel
theorem dX12_findEnds_49 : decode cX12_findEnds 49 = .ok (.iaload, 1) := by decide +kernel
theorem dX12_findEnds_50 : decode cX12_findEnds 50 = .ok (.goto 7, 3) := by decide +kernel
theorem dX12_findEnds_53 : decode cX12_findEnds 53 = .ok (.aload_n 0, 1) := by decide +kernel
theorem dX12_findEnds_54 : decode cX12_findEnds 54 = .ok (.getfield 184, 3) := by decide +kernel
theorem dX12_findEnds_57 : decode cX12_findEnds 57 = .ok (.putfield 184, 3) := by decide +kernel
theorem dX12_findEnds_60 : decode cX12_findEnds 60 = .ok (.aload_n 0, 1) := by decide +kernel
theorem dX12_findEnds_61 : decode cX12_findEnds 61 = .ok (.aload_n 0, 1) := by decide +kernel
theorem dX12_findEnds_62 : decode cX12_findEnds 62 = .ok (.getfield 7, 3) := by decide +kernel
theorem dX12_findEnds_65 : decode cX12_findEnds 65 = .ok (.iload_n 1, 1) := by decide +kernel
theorem dX12_findEnds_66 : decode cX12_findEnds 66 = .ok (.baload, 1) := by decide +kernel
theorem dX12_findEnds_67 : decode cX12_findEnds 67 = .ok (.ifCond .eq 25, 3) := by decide +kernel
theorem dX12_findEnds_70 : decode cX12_findEnds 70 = .ok (.aload_n 0, 1) := by decide +kernel
theorem dX12_findEnds_71 : decode cX12_findEnds 71 = .ok (.getfield 13, 3) := by decide +kernel
theorem dX12_findEnds_74 : decode cX12_findEnds 74 = .ok (.iload_n 1, 1) := by decide +kernel
theorem dX12_findEnds_75 : decode cX12_findEnds 75 = .ok (.iaload, 1) := by decide +kernel
theorem dX12_findEnds_76 : decode cX12_findEnds 76 = .ok (.aload_n 0, 1) := by decide +kernel
theorem dX12_findEnds_77 : decode cX12_findEnds 77 = .ok (.getfield 187, 3) := by decide +kernel
theorem dX12_findEnds_80 : decode cX12_findEnds 80 = .ok (.if_icmp .ge 12, 3) := by decide +kernel
theorem dX12_findEnds_83 : decode cX12_findEnds 83 = .ok (.aload_n 0, 1) := by decide +kernel
theorem dX12_findEnds_84 : decode cX12_findEnds 84 = .ok (.getfield 13, 3) := by decide +kernel
theorem dX12_findEnds_87 : decode cX12_findEnds 87 = .ok (.iload_n 1, 1) := by decide +kernel
theorem dX12_findEnds_88 : decode cX12_findEnds 88 = .ok (.iaload, 1) := by decide +kernel
theorem dX12_findEnds_89 : decode cX12_findEnds 89 = .ok (.goto 7, 3) := by decide +kernel
theorem dX12_findEnds_92 : decode cX12_findEnds 92 = .ok (.aload_n 0, 1) := by decide +kernel
theorem dX12_findEnds_93 : decode cX12_findEnds 93 = .ok (.getfield 187, 3) := by decide +kernel
theorem dX12_findEnds_96 : decode cX12_findEnds 96 = .ok (.putfield 187, 3) := by decide +kernel
theorem dX12_findEnds_99 : decode cX12_findEnds 99 = .ok (.iinc 1 1, 3) := by decide +kernel
theorem dX12_findEnds_102 : decode cX12_findEnds 102 = .ok (.goto (-89), 3) := by decide +kernel
theorem dX12_findEnds_105 : decode cX12_findEnds 105 = .ok (.aload_n 0, 1) := by decide +kernel
theorem dX12_findEnds_106 : decode cX12_findEnds 106 = .ok (.getfield 184, 3) := by decide +kernel
theorem dX12_findEnds_109 : decode cX12_findEnds 109 = .ok (.aload_n 0, 1) := by decide +kernel
theorem dX12_findEnds_110 : decode cX12_findEnds 110 = .ok (.getfield 187, 3) := by decide +kernel
theorem dX12_findEnds_113 : decode cX12_findEnds 113 = .ok (.if_icmp .le 7, 3) := by decide +kernel
theorem dX12_findEnds_116 : decode cX12_findEnds 116 = .ok (.iconst 1, 1) := by decide +kernel
theorem dX12_findEnds_117 : decode cX12_findEnds 117 = .ok (.goto 4, 3) := by decide +kernel
theorem dX12_findEnds_120 : decode cX12_findEnds 120 = .ok (.iconst 0, 1) := by decide +kernel
theorem dX12_findEnds_121 : decode cX12_findEnds 121 = .ok (.ireturn, 1) := by decide +kernel
theorem dX12_waysFrom_0 : decode cX12_waysFrom 0 = .ok (.iconst 0, 1) := by decide +kernel
theorem dX12_waysFrom_1 : decode cX12_waysFrom 1 = .ok (.istore_n 3, 1) := by decide +kernel
theorem dX12_waysFrom_2 : decode cX12_waysFrom 2 = .ok (.iconst 0, 1) := by decide +kernel
theorem dX12_waysFrom_3 : decode cX12_waysFrom 3 = .ok (.istore 4, 2) := by decide +kernel
theorem dX12_waysFrom_5 : decode cX12_waysFrom 5 = .ok (.aload_n 0, 1) := by decide +kernel
theorem dX12_waysFrom_6 : decode cX12_waysFrom 6 = .ok (.getfield 60, 3) := by decide +kernel
theorem dX12_waysFrom_9 : decode cX12_waysFrom 9 = .ok (.iconst 0, 1) := by decide +kernel
theorem dX12_waysFrom_10 : decode cX12_waysFrom 10 = .ok (.iload_n 1, 1) := by decide +kernel
theorem dX12_waysFrom_11 : decode cX12_waysFrom 11 = .ok (.iastore, 1) := by decide +kernel
theorem dX12_waysFrom_12 : decode cX12_waysFrom 12 = .ok (.aload_n 0, 1) := by decide +kernel
theorem dX12_waysFrom_13 : decode cX12_waysFrom 13 = .ok (.getfield 63, 3) := by decide +kernel
theorem dX12_waysFrom_16 : decode cX12_waysFrom 16 = .ok (.iconst 0, 1) := by decide +kernel
theorem dX12_waysFrom_17 : decode cX12_waysFrom 17 = .ok (.iconst (-1), 1) := by decide +kernel
theorem dX12_waysFrom_18 : decode cX12_waysFrom 18 = .ok (.iastore, 1) := by decide +kernel
theorem dX12_waysFrom_19 : decode cX12_waysFrom 19 = .ok (.iconst 0, 1) := by decide +kernel
theorem dX12_waysFrom_20 : decode cX12_waysFrom 20 = .ok (.istore 5, 2) := by decide +kernel
theorem dX12_waysFrom_22 : decode cX12_waysFrom 22 = .ok (.iload 5, 2) := by decide +kernel
theorem dX12_waysFrom_24 : decode cX12_waysFrom 24 = .ok (.bipush 6, 2) := by decide +kernel
theorem dX12_waysFrom_26 : decode cX12_waysFrom 26 = .ok (.if_icmp .ge 27, 3) := by decide +kernel
theorem dX12_waysFrom_29 : decode cX12_waysFrom 29 = .ok (.aload_n 0, 1) := by decide +kernel
theorem dX12_waysFrom_30 : decode cX12_waysFrom 30 = .ok (.getfield 66, 3) := by decide +kernel
theorem dX12_waysFrom_33 : decode cX12_waysFrom 33 = .ok (.iload 5, 2) := by decide +kernel
theorem dX12_waysFrom_35 : decode cX12_waysFrom 35 = .ok (.iload 5, 2) := by decide +kernel
theorem dX12_waysFrom_37 : decode cX12_waysFrom 37 = .ok (.iload_n 1, 1) := by decide +kernel
theorem dX12_waysFrom_38 : decode cX12_waysFrom 38 = .ok (.if_icmp .ne 7, 3) := by decide +kernel
theorem dX12_waysFrom_41 : decode cX12_waysFrom 41 = .ok (.iconst 1, 1) := by decide +kernel
theorem dX12_waysFrom_42 : decode cX12_waysFrom 42 = .ok (.goto 4, 3) := by decide +kernel
theorem dX12_waysFrom_45 : decode cX12_waysFrom 45 = .ok (.iconst 0, 1) := by decide +kernel
theorem dX12_waysFrom_46 : decode cX12_waysFrom 46 = .ok (.bastore, 1) := by decide +kernel
theorem dX12_waysFrom_47 : decode cX12_waysFrom 47 = .ok (.iinc 5 1, 3) := by decide +kernel
theorem dX12_waysFrom_50 : decode cX12_waysFrom 50 = .ok (.goto (-28), 3) := by decide +kernel
theorem dX12_waysFrom_53 : decode cX12_waysFrom 53 = .ok (.iload 4, 2) := by decide +kernel
theorem dX12_waysFrom_55 : decode cX12_waysFrom 55 = .ok (.ifCond .lt 254, 3) := by decide +kernel
theorem dX12_waysFrom_58 : decode cX12_waysFrom 58 = .ok (.aload_n 0, 1) := by decide +kernel
theorem dX12_waysFrom_59 : decode cX12_waysFrom 59 = .ok (.getfield 60, 3) := by decide +kernel
theorem dX12_waysFrom_62 : decode cX12_waysFrom 62 = .ok (.iload 4, 2) := by decide +kernel
theorem dX12_waysFrom_64 : decode cX12_waysFrom 64 = .ok (.iaload, 1) := by decide +kernel
theorem dX12_waysFrom_65 : decode cX12_waysFrom 65 = .ok (.istore 5, 2) := by decide +kernel
theorem dX12_waysFrom_67 : decode cX12_waysFrom 67 = .ok (.aload_n 0, 1) := by decide +kernel
theorem dX12_waysFrom_68 : decode cX12_waysFrom 68 = .ok (.getfield 63, 3) := by decide +kernel
theorem dX12_waysFrom_71 : decode cX12_waysFrom 71 = .ok (.iload 4, 2) := by decide +kernel
theorem dX12_waysFrom_73 : decode cX12_waysFrom 73 = .ok (.iaload, 1) := by decide +kernel
theorem dX12_waysFrom_74 : decode cX12_waysFrom 74 = .ok (.iconst 1, 1) := by decide +kernel
theorem dX12_waysFrom_75 : decode cX12_waysFrom 75 = .ok (.iadd, 1) := by decide +kernel
theorem dX12_waysFrom_76 : decode cX12_waysFrom 76 = .ok (.istore 6, 2) := by decide +kernel
theorem dX12_waysFrom_78 : decode cX12_waysFrom 78 = .ok (.iconst (-1), 1) := by decide +kernel
theorem dX12_waysFrom_79 : decode cX12_waysFrom 79 = .ok (.istore 7, 2) := by decide +kernel
theorem dX12_waysFrom_81 : decode cX12_waysFrom 81 = .ok (.iload 6, 2) := by decide +kernel
theorem dX12_waysFrom_83 : decode cX12_waysFrom 83 = .ok (.aload_n 0, 1) := by decide +kernel
theorem dX12_waysFrom_84 : decode cX12_waysFrom 84 = .ok (.getfield 116, 3) := by decide +kernel
theorem dX12_waysFrom_87 : decode cX12_waysFrom 87 = .ok (.if_icmp .ge 107, 3) := by decide +kernel
theorem dX12_waysFrom_90 : decode cX12_waysFrom 90 = .ok (.iload 7, 2) := by decide +kernel
theorem dX12_waysFrom_92 : decode cX12_waysFrom 92 = .ok (.ifCond .ge 102, 3) := by decide +kernel
theorem dX12_waysFrom_95 : decode cX12_waysFrom 95 = .ok (.aload_n 0, 1) := by decide +kernel
theorem dX12_waysFrom_96 : decode cX12_waysFrom 96 = .ok (.getfield 17, 3) := by decide +kernel
theorem dX12_waysFrom_99 : decode cX12_waysFrom 99 = .ok (.iload 6, 2) := by decide +kernel
theorem dX12_waysFrom_101 : decode cX12_waysFrom 101 = .ok (.iaload, 1) := by decide +kernel
theorem dX12_waysFrom_102 : decode cX12_waysFrom 102 = .ok (.iload 5, 2) := by decide +kernel
theorem dX12_waysFrom_104 : decode cX12_waysFrom 104 = .ok (.if_icmp .ne 13, 3) := by decide +kernel
theorem dX12_waysFrom_107 : decode cX12_waysFrom 107 = .ok (.aload_n 0, 1) := by decide +kernel
theorem dX12_waysFrom_108 : decode cX12_waysFrom 108 = .ok (.getfield 20, 3) := by decide +kernel
theorem dX12_waysFrom_111 : decode cX12_waysFrom 111 = .ok (.iload 6, 2) := by decide +kernel
theorem dX12_waysFrom_113 : decode cX12_waysFrom 113 = .ok (.iaload, 1) := by decide +kernel
theorem dX12_waysFrom_114 : decode cX12_waysFrom 114 = .ok (.goto 26, 3) := by decide +kernel
theorem dX12_waysFrom_117 : decode cX12_waysFrom 117 = .ok (.aload_n 0, 1) := by decide +kernel
theorem dX12_waysFrom_118 : decode cX12_waysFrom 118 = .ok (.getfield 20, 3) := by decide +kernel
theorem dX12_waysFrom_121 : decode cX12_waysFrom 121 = .ok (.iload 6, 2) := by decide +kernel
theorem dX12_waysFrom_123 : decode cX12_waysFrom 123 = .ok (.iaload, 1) := by decide +kernel
theorem dX12_waysFrom_124 : decode cX12_waysFrom 124 = .ok (.iload 5, 2) := by decide +kernel
theorem dX12_waysFrom_126 : decode cX12_waysFrom 126 = .ok (.if_icmp .ne 13, 3) := by decide +kernel
theorem dX12_waysFrom_129 : decode cX12_waysFrom 129 = .ok (.aload_n 0, 1) := by decide +kernel
theorem dX12_waysFrom_130 : decode cX12_waysFrom 130 = .ok (.getfield 17, 3) := by decide +kernel
theorem dX12_waysFrom_133 : decode cX12_waysFrom 133 = .ok (.iload 6, 2) := by decide +kernel
theorem dX12_waysFrom_135 : decode cX12_waysFrom 135 = .ok (.iaload, 1) := by decide +kernel
theorem dX12_waysFrom_136 : decode cX12_waysFrom 136 = .ok (.goto 4, 3) := by decide +kernel
theorem dX12_waysFrom_139 : decode cX12_waysFrom 139 = .ok (.iconst (-1), 1) := by decide +kernel
theorem dX12_waysFrom_140 : decode cX12_waysFrom 140 = .ok (.istore 8, 2) := by decide +kernel
theorem dX12_waysFrom_142 : decode cX12_waysFrom 142 = .ok (.aload_n 0, 1) := by decide +kernel
theorem dX12_waysFrom_143 : decode cX12_waysFrom 143 = .ok (.getfield 26, 3) := by decide +kernel
theorem dX12_waysFrom_146 : decode cX12_waysFrom 146 = .ok (.iload 6, 2) := by decide +kernel
theorem dX12_waysFrom_148 : decode cX12_waysFrom 148 = .ok (.iaload, 1) := by decide +kernel
theorem dX12_waysFrom_149 : decode cX12_waysFrom 149 = .ok (.iload_n 2, 1) := by decide +kernel
theorem dX12_waysFrom_150 : decode cX12_waysFrom 150 = .ok (.if_icmp .lt 23, 3) := by decide +kernel
theorem dX12_waysFrom_153 : decode cX12_waysFrom 153 = .ok (.iload 8, 2) := by decide +kernel
theorem dX12_waysFrom_155 : decode cX12_waysFrom 155 = .ok (.ifCond .lt 18, 3) := by decide +kernel
theorem dX12_waysFrom_158 : decode cX12_waysFrom 158 = .ok (.aload_n 0, 1) := by decide +kernel
theorem dX12_waysFrom_159 : decode cX12_waysFrom 159 = .ok (.getfield 66, 3) := by decide +kernel
theorem dX12_waysFrom_162 : decode cX12_waysFrom 162 = .ok (.iload 8, 2) := by decide +kernel
theorem dX12_waysFrom_164 : decode cX12_waysFrom 164 = .ok (.baload, 1) := by decide +kernel
theorem dX12_waysFrom_165 : decode cX12_waysFrom 165 = .ok (.ifCond .ne 8, 3) := by decide +kernel
theorem dX12_waysFrom_168 : decode cX12_waysFrom 168 = .ok (.iload 8, 2) := by decide +kernel
theorem dX12_waysFrom_170 : decode cX12_waysFrom 170 = .ok (.goto 4, 3) := by decide +kernel
theorem dX12_waysFrom_173 : decode cX12_waysFrom 173 = .ok (.iconst (-1), 1) := by decide +kernel
theorem dX12_waysFrom_174 : decode cX12_waysFrom 174 = .ok (.istore 7, 2) := by decide +kernel
theorem dX12_waysFrom_176 : decode cX12_waysFrom 176 = .ok (.iload 6, 2) := by decide +kernel
theorem dX12_waysFrom_178 : decode cX12_waysFrom 178 = .ok (.iload 7, 2) := by decide +kernel
theorem dX12_waysFrom_180 : decode cX12_waysFrom 180 = .ok (.ifCond .ge 7, 3) := by decide +kernel
theorem dX12_waysFrom_183 : decode cX12_waysFrom 183 = .ok (.iconst 1, 1) := by decide +kernel
theorem dX12_waysFrom_184 : decode cX12_waysFrom 184 = .ok (.goto 4, 3) := by decide +kernel
theorem dX12_waysFrom_187 : decode cX12_waysFrom 187 = .ok (.iconst 0, 1) := by decide +kernel
theorem dX12_waysFrom_188 : decode cX12_waysFrom 188 = .ok (.iadd, 1) := by decide +kernel
theorem dX12_waysFrom_189 : decode cX12_waysFrom 189 = .ok (.istore 6, 2) := by decide +kernel
theorem dX12_waysFrom_191 : decode cX12_waysFrom 191 = .ok (.goto (-110), 3) := by decide +kernel
theorem dX12_waysFrom_194 : decode cX12_waysFrom 194 = .ok (.aload_n 0, 1) := by decide +kernel
theorem dX12_waysFrom_195 : decode cX12_waysFrom 195 = .ok (.getfield 63, 3) := by decide +kernel
theorem dX12_waysFrom_198 : decode cX12_waysFrom 198 = .ok (.iload 4, 2) := by decide +kernel
theorem dX12_waysFrom_200 : decode cX12_waysFrom 200 = .ok (.iload 6, 2) := by decide +kernel
theorem dX12_waysFrom_202 : decode cX12_waysFrom 202 = .ok (.iastore, 1) := by decide +kernel
theorem dX12_waysFrom_203 : decode cX12_waysFrom 203 = .ok (.iload 7, 2) := by decide +kernel
theorem dX12_waysFrom_205 : decode cX12_waysFrom 205 = .ok (.ifCond .ge 17, 3) := by decide +kernel
theorem dX12_waysFrom_208 : decode cX12_waysFrom 208 = .ok (.aload_n 0, 1) := by decide +kernel
theorem dX12_waysFrom_209 : decode cX12_waysFrom 209 = .ok (.getfield 66, 3) := by decide +kernel
theorem dX12_waysFrom_212 : decode cX12_waysFrom 212 = .ok (.iload 5, 2) := by decide +kernel
theorem dX12_waysFrom_214 : decode cX12_waysFrom 214 = .ok (.iconst 0, 1) := by decide +kernel
theorem dX12_waysFrom_215 : decode cX12_waysFrom 215 = .ok (.bastore, 1) := by decide +kernel
theorem dX12_waysFrom_216 : decode cX12_waysFrom 216 = .ok (.iinc 4 (-1), 3) := by decide +kernel
theorem dX12_waysFrom_219 : decode cX12_waysFrom 219 = .ok (.goto 87, 3) := by decide +kernel
theorem dX12_waysFrom_222 : decode cX12_waysFrom 222 = .ok (.aload_n 0, 1) := by decide +kernel
theorem dX12_waysFrom_223 : decode cX12_waysFrom 223 = .ok (.getfield 7, 3) := by decide +kernel
theorem dX12_waysFrom_226 : decode cX12_waysFrom 226 = .ok (.iload 7, 2) := by decide +kernel
theorem dX12_waysFrom_228 : decode cX12_waysFrom 228 = .ok (.baload, 1) := by decide +kernel
theorem dX12_waysFrom_229 : decode cX12_waysFrom 229 = .ok (.ifCond .eq 49, 3) := by decide +kernel
theorem dX12_waysFrom_232 : decode cX12_waysFrom 232 = .ok (.aload_n 0, 1) := by decide +kernel
theorem dX12_waysFrom_233 : decode cX12_waysFrom 233 = .ok (.getfield 13, 3) := by decide +kernel
theorem dX12_waysFrom_236 : decode cX12_waysFrom 236 = .ok (.iload 7, 2) := by decide +kernel
theorem dX12_waysFrom_238 : decode cX12_waysFrom 238 = .ok (.iaload, 1) := by decide +kernel
theorem dX12_waysFrom_239 : decode cX12_waysFrom 239 = .ok (.aload_n 0, 1) := by decide +kernel
theorem dX12_waysFrom_240 : decode cX12_waysFrom 240 = .ok (.getfield 187, 3) := by decide +kernel
theorem dX12_waysFrom_243 : decode cX12_waysFrom 243 = .ok (.if_icmp .ne 35, 3) := by decide +kernel
theorem dX12_waysFrom_246 : decode cX12_waysFrom 246 = .ok (.iinc 3 1, 3) := by decide +kernel
theorem dX12_waysFrom_249 : decode cX12_waysFrom 249 = .ok (.iconst 0, 1) := by decide +kernel
theorem dX12_waysFrom_250 : decode cX12_waysFrom 250 = .ok (.istore 8, 2) := by decide +kernel
theorem dX12_waysFrom_252 : decode cX12_waysFrom 252 = .ok (.iload 8, 2) := by decide +kernel
theorem dX12_waysFrom_254 : decode cX12_waysFrom 254 = .ok (.iload 4, 2) := by decide +kernel
theorem dX12_waysFrom_256 : decode cX12_waysFrom 256 = .ok (.if_icmp .gt 22, 3) := by decide +kernel
theorem dX12_waysFrom_259 : decode cX12_waysFrom 259 = .ok (.aload_n 0, 1) := by decide +kernel
theorem dX12_waysFrom_260 : decode cX12_waysFrom 260 = .ok (.getfield 69, 3) := by decide +kernel
theorem dX12_waysFrom_263 : decode cX12_waysFrom 263 = .ok (.aload_n 0, 1) := by decide +kernel
theorem dX12_waysFrom_264 : decode cX12_waysFrom 264 = .ok (.getfield 63, 3) := by decide +kernel
theorem dX12_waysFrom_267 : decode cX12_waysFrom 267 = .ok (.iload 8, 2) := by decide +kernel
theorem dX12_waysFrom_269 : decode cX12_waysFrom 269 = .ok (.iaload, 1) := by decide +kernel
theorem dX12_waysFrom_270 : decode cX12_waysFrom 270 = .ok (.iconst 1, 1) := by decide +kernel
theorem dX12_waysFrom_271 : decode cX12_waysFrom 271 = .ok (.bastore, 1) := by decide +kernel
theorem dX12_waysFrom_272 : decode cX12_waysFrom 272 = .ok (.iinc 8 1, 3) := by decide +kernel
theorem dX12_waysFrom_275 : decode cX12_waysFrom 275 = .ok (.goto (-23), 3) := by decide +kernel
theorem dX12_waysFrom_278 : decode cX12_waysFrom 278 = .ok (.iinc 4 1, 3) := by decide +kernel
theorem dX12_waysFrom_281 : decode cX12_waysFrom 281 = .ok (.aload_n 0, 1) := by decide +kernel
theorem dX12_waysFrom_282 : decode cX12_waysFrom 282 = .ok (.getfield 60, 3) := by decide +kernel
theorem dX12_waysFrom_285 : decode cX12_waysFrom 285 = .ok (.iload 4, 2) := by decide +kernel
theorem dX12_waysFrom_287 : decode cX12_waysFrom 287 = .ok (.iload 7, 2) := by decide +kernel
theorem dX12_waysFrom_289 : decode cX12_waysFrom 289 = .ok (.iastore, 1) := by decide +kernel
theorem dX12_waysFrom_290 : decode cX12_waysFrom 290 = .ok (.aload_n 0, 1) := by decide +kernel
theorem dX12_waysFrom_291 : decode cX12_waysFrom 291 = .ok (.getfield 63, 3) := by decide +kernel
theorem dX12_waysFrom_294 : decode cX12_waysFrom 294 = .ok (.iload 4, 2) := by decide +kernel
theorem dX12_waysFrom_296 : decode cX12_waysFrom 296 = .ok (.iconst (-1), 1) := by decide +kernel
theorem dX12_waysFrom_297 : decode cX12_waysFrom 297 = .ok (.iastore, 1) := by decide +kernel
theorem dX12_waysFrom_298 : decode cX12_waysFrom 298 = .ok (.aload_n 0, 1) := by decide +kernel
theorem dX12_waysFrom_299 : decode cX12_waysFrom 299 = .ok (.getfield 66, 3) := by decide +kernel
theorem dX12_waysFrom_302 : decode cX12_waysFrom 302 = .ok (.iload 7, 2) := by decide +kernel
theorem dX12_waysFrom_304 : decode cX12_waysFrom 304 = .ok (.iconst 1, 1) := by decide +kernel
theorem dX12_waysFrom_305 : decode cX12_waysFrom 305 = .ok (.bastore, 1) := by decide +kernel
theorem dX12_waysFrom_306 : decode cX12_waysFrom 306 = .ok (.goto (-253), 3) := by decide +kernel
theorem dX12_waysFrom_309 : decode cX12_waysFrom 309 = .ok (.iload_n 3, 1) := by decide +kernel
theorem dX12_waysFrom_310 : decode cX12_waysFrom 310 = .ok (.ireturn, 1) := by decide +kernel
set_option maxRecDepth 20000 in
theorem ggX12_countWays_X12_findEnds : GoodIn wsX12_countWays wsX12_findEnds := goodIn_r _ [10, 5, 11, 2, 3, 4, 23, 24, 25, 26, 27, 28, 29, 30, 31, 32, 33, 34, 35, 36, 37, 38, 39, 40, 41, 42, 43, 44, 45, 46, 47, 48, 49, 50, 51, 52, 53, 54, 55, 56, 57, 58, 59, 60, 61] (by decide +kernel) (by decide +kernel)
set_option maxRecDepth 20000 in
theorem gX12_countWays_X12_findEnds : GoodIn wsX12_countWays (wsV RX12 190 RX12 yX12_findEnds wsX12_findEnds) := goodIn_app (goodIn_of _ (by decide +kernel)) ggX12_countWays_X12_findEnds
set_option maxRecDepth 20000 in
theorem ggX12_countWays_X12_waysFrom : GoodIn wsX12_countWays wsX12_waysFrom := goodIn_r _ [15, 16, 17, 18, 19, 20, 21, 22, 3, 4, 11, 1, 23, 24, 25, 26, 27, 28, 29, 30, 31, 32, 33, 34, 35, 36, 37, 38, 39, 40, 41, 42, 43, 44, 45, 46, 47, 48, 49, 50, 51, 52, 53, 54, 55, 56, 57, 58, 59, 60, 61] (by decide +kernel) (by decide +kernel)
set_option maxRecDepth 20000 in
theorem gX12_countWays_X12_waysFrom : GoodIn wsX12_countWays (wsV RX12 194 RX12 yX12_waysFrom wsX12_waysFrom) := goodIn_app (goodIn_of _ (by decide +kernel)) ggX12_countWays_X12_waysFrom
theorem dX12_countWays_0 : decode cX12_countWays 0 = .ok (.iconst 0, 1) := by decide +kernel
theorem dX12_countWays_1 : decode cX12_countWays 1 = .ok (.istore_n 2, 1) := by decide +kernel
theorem dX12_countWays_2 : decode cX12_countWays 2 = .ok (.iload_n 2, 1) := by decide +kernel
theorem dX12_countWays_3 : decode cX12_countWays 3 = .ok (.bipush 12, 2) := by decide +kernel
theorem dX12_countWays_5 : decode cX12_countWays 5 = .ok (.if_icmp .ge 16, 3) := by decide +kernel
theorem dX12_countWays_8 : decode cX12_countWays 8 = .ok (.aload_n 0, 1) := by decide +kernel
theorem dX12_countWays_9 : decode cX12_countWays 9 = .ok (.getfield 69, 3) := by decide +kernel
theorem dX12_countWays_12 : decode cX12_countWays 12 = .ok (.iload_n 2, 1) := by decide +kernel
theorem dX12_countWays_13 : decode cX12_countWays 13 = .ok (.iconst 0, 1) := by decide +kernel
theorem dX12_countWays_14 : decode cX12_countWays 14 = .ok (.bastore, 1) := by decide +kernel
theorem dX12_countWays_15 : decode cX12_countWays 15 = .ok (.iinc 2 1, 3) := by decide +kernel
theorem dX12_countWays_18 : decode cX12_countWays 18 = .ok (.goto (-16), 3) := by decide +kernel
theorem dX12_countWays_21 : decode cX12_countWays 21 = .ok (.iconst 0, 1) := by decide +kernel
theorem dX12_countWays_22 : decode cX12_countWays 22 = .ok (.istore_n 2, 1) := by decide +kernel
theorem dX12_countWays_23 : decode cX12_countWays 23 = .ok (.aload_n 0, 1) := by decide +kernel
theorem dX12_countWays_24 : decode cX12_countWays 24 = .ok (.invokevirtual 190, 3) := by decide +kernel
theorem dX12_countWays_27 : decode cX12_countWays 27 = .ok (.istore_n 3, 1) := by decide +kernel
theorem dX12_countWays_28 : decode cX12_countWays 28 = .ok (.iconst 0, 1) := by decide +kernel
theorem dX12_countWays_29 : decode cX12_countWays 29 = .ok (.istore 4, 2) := by decide +kernel
theorem dX12_countWays_31 : decode cX12_countWays 31 = .ok (.iload 4, 2) := by decide +kernel
theorem dX12_countWays_33 : decode cX12_countWays 33 = .ok (.aload_n 0, 1) := by decide +kernel
theorem dX12_countWays_34 : decode cX12_countWays 34 = .ok (.getfield 109, 3) := by decide +kernel
theorem dX12_countWays_37 : decode cX12_countWays 37 = .ok (.if_icmp .ge 51, 3) := by decide +kernel
theorem dX12_countWays_40 : decode cX12_countWays 40 = .ok (.iload_n 3, 1) := by decide +kernel
theorem dX12_countWays_41 : decode cX12_countWays 41 = .ok (.ifCond .eq 47, 3) := by decide +kernel
theorem dX12_countWays_44 : decode cX12_countWays 44 = .ok (.iload_n 2, 1) := by decide +kernel
theorem dX12_countWays_45 : decode cX12_countWays 45 = .ok (.aload_n 0, 1) := by decide +kernel
theorem dX12_countWays_46 : decode cX12_countWays 46 = .ok (.getfield 7, 3) := by decide +kernel
theorem dX12_countWays_49 : decode cX12_countWays 49 = .ok (.iload 4, 2) := by decide +kernel
theorem dX12_countWays_51 : decode cX12_countWays 51 = .ok (.baload, 1) := by decide +kernel
theorem dX12_countWays_52 : decode cX12_countWays 52 = .ok (.ifCond .eq 27, 3) := by decide +kernel
theorem dX12_countWays_55 : decode cX12_countWays 55 = .ok (.aload_n 0, 1) := by decide +kernel
theorem dX12_countWays_56 : decode cX12_countWays 56 = .ok (.getfield 13, 3) := by decide +kernel
theorem dX12_countWays_59 : decode cX12_countWays 59 = .ok (.iload 4, 2) := by decide +kernel
theorem dX12_countWays_61 : decode cX12_countWays 61 = .ok (.iaload, 1) := by decide +kernel
theorem dX12_countWays_62 : decode cX12_countWays 62 = .ok (.aload_n 0, 1) := by decide +kernel
theorem dX12_countWays_63 : decode cX12_countWays 63 = .ok (.getfield 184, 3) := by decide +kernel
theorem dX12_countWays_66 : decode cX12_countWays 66 = .ok (.if_icmp .ne 13, 3) := by decide +kernel
theorem dX12_countWays_69 : decode cX12_countWays 69 = .ok (.aload_n 0, 1) := by decide +kernel
theorem dX12_countWays_70 : decode cX12_countWays 70 = .ok (.iload 4, 2) := by decide +kernel
theorem dX12_countWays_72 : decode cX12_countWays 72 = .ok (.iload_n 1, 1) := by decide +kernel
theorem dX12_countWays_73 : decode cX12_countWays 73 = .ok (.invokevirtual 194, 3) := by decide +kernel
theorem dX12_countWays_76 : decode cX12_countWays 76 = .ok (.goto 4, 3) := by decide +kernel
theorem dX12_countWays_79 : decode cX12_countWays 79 = .ok (.iconst 0, 1) := by decide +kernel
theorem dX12_countWays_80 : decode cX12_countWays 80 = .ok (.iadd, 1) := by decide +kernel
theorem dX12_countWays_81 : decode cX12_countWays 81 = .ok (.istore_n 2, 1) := by decide +kernel
theorem dX12_countWays_82 : decode cX12_countWays 82 = .ok (.iinc 4 1, 3) := by decide +kernel
theorem dX12_countWays_85 : decode cX12_countWays 85 = .ok (.goto (-54), 3) := by decide +kernel
theorem dX12_countWays_88 : decode cX12_countWays 88 = .ok (.iload_n 2, 1) := by decide +kernel
theorem dX12_countWays_89 : decode cX12_countWays 89 = .ok (.ireturn, 1) := by decide +kernel
set_option maxRecDepth 20000 in
theorem ggX12_ways_X12_among : GoodIn wsX12_ways wsX12_among := goodIn_r _ [4] (by decide +kernel) (by decide +kernel)
set_option maxRecDepth 20000 in
theorem gX12_ways_X12_among : GoodIn wsX12_ways (va_wsS RX12 112 yX12_among wsX12_among) := goodIn_app (goodIn_of _ (by decide +kernel)) ggX12_ways_X12_among
set_option maxRecDepth 20000 in
theorem ggX12_ways_X12_countWays : GoodIn wsX12_ways wsX12_countWays := goodIn_r _ [8, 9, 10, 11, 12, 13, 14, 15, 16, 3, 17, 18, 19, 20, 21, 22, 23, 24, 25, 26, 27, 28, 29, 30, 31, 32, 33, 34, 35, 36, 37, 38, 39, 40, 41, 42, 43, 44, 45, 46, 47, 48, 49, 50, 51, 52, 53, 54, 55, 56, 57, 58, 59, 60, 61, 62, 63, 64, 65, 66, 67, 68] (by decide +kernel) (by decide +kernel)
set_option maxRecDepth 20000 in
theorem gX12_ways_X12_countWays : GoodIn wsX12_ways (wsV RX12 198 RX12 yX12_countWays wsX12_countWays) := goodIn_app (goodIn_of _ (by decide +kernel)) ggX12_ways_X12_countWays
theorem dX12_ways_0 : decode cX12_ways 0 = .ok (.iload_n 1, 1) := by decide +kernel
theorem dX12_ways_1 : decode cX12_ways 1 = .ok (.iconst 1, 1) := by decide +kernel
theorem dX12_ways_2 : decode cX12_ways 2 = .ok (.bipush 12, 2) := by decide +kernel
theorem dX12_ways_4 : decode cX12_ways 4 = .ok (.invokestatic 112, 3) := by decide +kernel
theorem dX12_ways_7 : decode cX12_ways 7 = .ok (.ifCond .eq 11, 3) := by decide +kernel
theorem dX12_ways_10 : decode cX12_ways 10 = .ok (.aload_n 0, 1) := by decide +kernel
theorem dX12_ways_11 : decode cX12_ways 11 = .ok (.iload_n 1, 1) := by decide +kernel
theorem dX12_ways_12 : decode cX12_ways 12 = .ok (.invokevirtual 198, 3) := by decide +kernel
theorem dX12_ways_15 : decode cX12_ways 15 = .ok (.goto 5, 3) := by decide +kernel
theorem dX12_ways_18 : decode cX12_ways 18 = .ok (.bipush (-2), 2) := by decide +kernel
theorem dX12_ways_20 : decode cX12_ways 20 = .ok (.ireturn, 1) := by decide +kernel
set_option maxRecDepth 20000 in
theorem ggX12_through_X12_noCrack : GoodIn wsX12_through wsX12_noCrack := goodIn_r _ [6, 7, 8, 9, 5, 10, 34, 35, 36, 37, 38, 39, 40, 41, 42, 43, 44, 45, 46, 47, 48, 49, 50, 51, 52, 53, 54, 55, 56, 57, 58, 59, 60, 61, 62, 63, 64, 65, 66, 67, 68, 69, 70, 71, 72] (by decide +kernel) (by decide +kernel)
set_option maxRecDepth 20000 in
theorem gX12_through_X12_noCrack : GoodIn wsX12_through (wsV RX12 123 RX12 yX12_noCrack wsX12_noCrack) := goodIn_app (goodIn_of _ (by decide +kernel)) ggX12_through_X12_noCrack
set_option maxRecDepth 20000 in
theorem ggX12_through_X12_among : GoodIn wsX12_through wsX12_among := goodIn_r _ [10] (by decide +kernel) (by decide +kernel)
set_option maxRecDepth 20000 in
theorem gX12_through_X12_among : GoodIn wsX12_through (va_wsS RX12 112 yX12_among wsX12_among) := goodIn_app (goodIn_of _ (by decide +kernel)) ggX12_through_X12_among
set_option maxRecDepth 20000 in
theorem ggX12_through_X12_countWays : GoodIn wsX12_through wsX12_countWays := goodIn_r _ [14, 1, 15, 16, 17, 18, 19, 20, 21, 5, 22, 23, 24, 25, 26, 27, 28, 29, 30, 7, 31, 32, 33, 34, 35, 36, 37, 38, 39, 40, 41, 42, 43, 44, 45, 46, 47, 48, 49, 50, 51, 52, 53, 54, 55, 56, 57, 58, 59, 60, 61, 62, 63, 64, 65, 66, 67, 68, 69, 70, 71, 72] (by decide +kernel) (by decide +kernel)
set_option maxRecDepth 20000 in
theorem gX12_through_X12_countWays : GoodIn wsX12_through (wsV RX12 198 RX12 yX12_countWays wsX12_countWays) := goodIn_app (goodIn_of _ (by decide +kernel)) ggX12_through_X12_countWays
theorem dX12_through_0 : decode cX12_through 0 = .ok (.aload_n 0, 1) := by decide +kernel
theorem dX12_through_1 : decode cX12_through 1 = .ok (.iload_n 1, 1) := by decide +kernel
theorem dX12_through_2 : decode cX12_through 2 = .ok (.invokevirtual 123, 3) := by decide +kernel
theorem dX12_through_5 : decode cX12_through 5 = .ok (.ifCond .eq 5, 3) := by decide +kernel
theorem dX12_through_8 : decode cX12_through 8 = .ok (.iconst (-1), 1) := by decide +kernel
theorem dX12_through_9 : decode cX12_through 9 = .ok (.ireturn, 1) := by decide +kernel
theorem dX12_through_10 : decode cX12_through 10 = .ok (.iload_n 2, 1) := by decide +kernel
theorem dX12_through_11 : decode cX12_through 11 = .ok (.iconst 1, 1) := by decide +kernel
theorem dX12_through_12 : decode cX12_through 12 = .ok (.bipush 12, 2) := by decide +kernel
theorem dX12_through_14 : decode cX12_through 14 = .ok (.invokestatic 112, 3) := by decide +kernel
theorem dX12_through_17 : decode cX12_through 17 = .ok (.ifCond .ne 6, 3) := by decide +kernel
theorem dX12_through_20 : decode cX12_through 20 = .ok (.bipush (-2), 2) := by decide +kernel
theorem dX12_through_22 : decode cX12_through 22 = .ok (.ireturn, 1) := by decide +kernel
theorem dX12_through_23 : decode cX12_through 23 = .ok (.aload_n 0, 1) := by decide +kernel
theorem dX12_through_24 : decode cX12_through 24 = .ok (.iload_n 2, 1) := by decide +kernel
theorem dX12_through_25 : decode cX12_through 25 = .ok (.invokevirtual 198, 3) := by decide +kernel
theorem dX12_through_28 : decode cX12_through 28 = .ok (.istore_n 3, 1) := by decide +kernel
theorem dX12_through_29 : decode cX12_through 29 = .ok (.aload_n 0, 1) := by decide +kernel
theorem dX12_through_30 : decode cX12_through 30 = .ok (.getfield 69, 3) := by decide +kernel
theorem dX12_through_33 : decode cX12_through 33 = .ok (.iload_n 1, 1) := by decide +kernel
theorem dX12_through_34 : decode cX12_through 34 = .ok (.baload, 1) := by decide +kernel
theorem dX12_through_35 : decode cX12_through 35 = .ok (.ifCond .eq 7, 3) := by decide +kernel
theorem dX12_through_38 : decode cX12_through 38 = .ok (.iconst 1, 1) := by decide +kernel
theorem dX12_through_39 : decode cX12_through 39 = .ok (.goto 4, 3) := by decide +kernel
theorem dX12_through_42 : decode cX12_through 42 = .ok (.iconst 0, 1) := by decide +kernel
theorem dX12_through_43 : decode cX12_through 43 = .ok (.ireturn, 1) := by decide +kernel
set_option maxRecDepth 20000 in
theorem ggX12_open_X12_countWays : GoodIn wsX12_open wsX12_countWays := goodIn_r _ [5, 6, 7, 8, 9, 10, 11, 12, 13, 4, 14, 15, 16, 17, 18, 19, 20, 21, 22, 23, 24, 25, 26, 27, 28, 29, 30, 31, 32, 33, 34, 35, 36, 37, 38, 39, 40, 41, 42, 43, 44, 45, 46, 47, 48, 49, 50, 51, 52, 53, 54, 55, 56, 57, 58, 59, 60, 61, 62, 63, 64, 65] (by decide +kernel) (by decide +kernel)
set_option maxRecDepth 20000 in
theorem gX12_open_X12_countWays : GoodIn wsX12_open (wsV RX12 198 RX12 yX12_countWays wsX12_countWays) := goodIn_app (goodIn_of _ (by decide +kernel)) ggX12_open_X12_countWays
theorem dX12_open_0 : decode cX12_open 0 = .ok (.bipush 12, 2) := by decide +kernel
theorem dX12_open_2 : decode cX12_open 2 = .ok (.istore_n 1, 1) := by decide +kernel
theorem dX12_open_3 : decode cX12_open 3 = .ok (.iload_n 1, 1) := by decide +kernel
theorem dX12_open_4 : decode cX12_open 4 = .ok (.ifCond .le 17, 3) := by decide +kernel
theorem dX12_open_7 : decode cX12_open 7 = .ok (.aload_n 0, 1) := by decide +kernel
theorem dX12_open_8 : decode cX12_open 8 = .ok (.iload_n 1, 1) := by decide +kernel
theorem dX12_open_9 : decode cX12_open 9 = .ok (.invokevirtual 198, 3) := by decide +kernel
theorem dX12_open_12 : decode cX12_open 12 = .ok (.ifCond .ne 9, 3) := by decide +kernel
theorem dX12_open_15 : decode cX12_open 15 = .ok (.iinc 1 (-1), 3) := by decide +kernel
theorem dX12_open_18 : decode cX12_open 18 = .ok (.goto (-15), 3) := by decide +kernel
theorem dX12_open_21 : decode cX12_open 21 = .ok (.iload_n 1, 1) := by decide +kernel
theorem dX12_open_22 : decode cX12_open 22 = .ok (.ireturn, 1) := by decide +kernel
set_option maxRecDepth 20000 in
theorem ggX12_run_X12_among : GoodIn wsX12_run wsX12_among := goodIn_r _ [4] (by decide +kernel) (by decide +kernel)
set_option maxRecDepth 20000 in
theorem gX12_run_X12_among : GoodIn wsX12_run (va_wsS RX12 112 yX12_among wsX12_among) := goodIn_app (goodIn_of _ (by decide +kernel)) ggX12_run_X12_among
set_option maxRecDepth 20000 in
theorem ggX12_run_X12_countWays : GoodIn wsX12_run wsX12_countWays := goodIn_r _ [8, 9, 10, 11, 12, 13, 14, 15, 16, 3, 17, 18, 19, 20, 21, 22, 23, 24, 25, 26, 27, 28, 29, 90, 91, 92, 93, 94, 95, 96, 97, 98, 99, 100, 101, 102, 103, 104, 105, 106, 107, 108, 109, 110, 111, 112, 113, 114, 115, 116, 117, 118, 119, 120, 121, 122, 123, 124, 125, 126, 127, 128] (by decide +kernel) (by decide +kernel)
set_option maxRecDepth 20000 in
theorem gX12_run_X12_countWays : GoodIn wsX12_run (wsV RX12 198 RX12 yX12_countWays wsX12_countWays) := goodIn_app (goodIn_of _ (by decide +kernel)) ggX12_run_X12_countWays
set_option maxRecDepth 20000 in
theorem ggX12_run_X12_stepOnce : GoodIn wsX12_run wsX12_stepOnce := goodIn_r _ [33, 34, 26, 35, 36, 37, 38, 3, 39, 40, 10, 41, 11, 42, 43, 44, 29, 27, 28, 45, 46, 12, 47, 48, 49, 50, 51, 52, 53, 54, 55, 56, 57, 58, 59, 60, 61, 62, 63, 64, 65, 66, 67, 68, 69, 70, 71, 72, 73, 74, 75, 76, 77, 78, 79, 80, 81, 82, 83, 84, 85, 86, 87, 88, 89, 90, 91, 92, 93, 94, 95, 96, 97, 98, 99, 100, 101, 102, 103, 104, 105, 106, 107, 108, 109, 110, 111, 112, 113, 114, 115, 116, 117, 118, 119, 120, 121, 122, 123, 124, 125, 126, 127, 128] (by decide +kernel) (by decide +kernel)
set_option maxRecDepth 20000 in
theorem gX12_run_X12_stepOnce : GoodIn wsX12_run (wsV RX12 180 RX12 yX12_stepOnce wsX12_stepOnce) := goodIn_app (goodIn_of _ (by decide +kernel)) ggX12_run_X12_stepOnce
theorem dX12_run_0 : decode cX12_run 0 = .ok (.iload_n 1, 1) := by decide +kernel
theorem dX12_run_1 : decode cX12_run 1 = .ok (.iconst 1, 1) := by decide +kernel
theorem dX12_run_2 : decode cX12_run 2 = .ok (.bipush 12, 2) := by decide +kernel
theorem dX12_run_4 : decode cX12_run 4 = .ok (.invokestatic 112, 3) := by decide +kernel
theorem dX12_run_7 : decode cX12_run 7 = .ok (.ifCond .ne 6, 3) := by decide +kernel
theorem dX12_run_10 : decode cX12_run 10 = .ok (.bipush (-2), 2) := by decide +kernel
theorem dX12_run_12 : decode cX12_run 12 = .ok (.ireturn, 1) := by decide +kernel
theorem dX12_run_13 : decode cX12_run 13 = .ok (.iconst 0, 1) := by decide +kernel
theorem dX12_run_14 : decode cX12_run 14 = .ok (.istore_n 2, 1) := by decide +kernel
theorem dX12_run_15 : decode cX12_run 15 = .ok (.iload_n 2, 1) := by decide +kernel
theorem dX12_run_16 : decode cX12_run 16 = .ok (.sipush 200, 3) := by decide +kernel
theorem dX12_run_19 : decode cX12_run 19 = .ok (.if_icmp .ge 22, 3) := by decide +kernel
theorem dX12_run_22 : decode cX12_run 22 = .ok (.aload_n 0, 1) := by decide +kernel
theorem dX12_run_23 : decode cX12_run 23 = .ok (.iload_n 1, 1) := by decide +kernel
theorem dX12_run_24 : decode cX12_run 24 = .ok (.invokevirtual 198, 3) := by decide +kernel
theorem dX12_run_27 : decode cX12_run 27 = .ok (.ifCond .ne 14, 3) := by decide +kernel
theorem dX12_run_30 : decode cX12_run 30 = .ok (.aload_n 0, 1) := by decide +kernel
theorem dX12_run_31 : decode cX12_run 31 = .ok (.invokevirtual 180, 3) := by decide +kernel
theorem dX12_run_34 : decode cX12_run 34 = .ok (.istore_n 3, 1) := by decide +kernel
theorem dX12_run_35 : decode cX12_run 35 = .ok (.iinc 2 1, 3) := by decide +kernel
theorem dX12_run_38 : decode cX12_run 38 = .ok (.goto (-23), 3) := by decide +kernel
theorem dX12_run_41 : decode cX12_run 41 = .ok (.aload_n 0, 1) := by decide +kernel
theorem dX12_run_42 : decode cX12_run 42 = .ok (.iload_n 1, 1) := by decide +kernel
theorem dX12_run_43 : decode cX12_run 43 = .ok (.invokevirtual 198, 3) := by decide +kernel
theorem dX12_run_46 : decode cX12_run 46 = .ok (.ifCond .le 7, 3) := by decide +kernel
theorem dX12_run_49 : decode cX12_run 49 = .ok (.iload_n 2, 1) := by decide +kernel
theorem dX12_run_50 : decode cX12_run 50 = .ok (.goto 5, 3) := by decide +kernel
theorem dX12_run_53 : decode cX12_run 53 = .ok (.bipush (-9), 2) := by decide +kernel
theorem dX12_run_55 : decode cX12_run 55 = .ok (.ireturn, 1) := by decide +kernel
set_option maxRecDepth 20000 in
theorem ggX12_told_X12_findWet : GoodIn wsX12_told wsX12_findWet := goodIn_r _ [12, 1, 6, 5, 2, 7, 13, 14, 15, 16, 17, 18, 19, 20, 21, 22, 23, 24, 25, 26, 27, 28, 29, 30, 31, 32, 33, 34, 35, 36, 37, 38, 39, 40, 41, 42, 43, 44, 45, 46, 47, 48, 49, 50, 51, 52, 53] (by decide +kernel) (by decide +kernel)
set_option maxRecDepth 20000 in
theorem gX12_told_X12_findWet : GoodIn wsX12_told (wsV RX12 137 RX12 yX12_findWet wsX12_findWet) := goodIn_app (goodIn_of _ (by decide +kernel)) ggX12_told_X12_findWet
theorem dX12_told_0 : decode cX12_told 0 = .ok (.iconst 0, 1) := by decide +kernel
theorem dX12_told_1 : decode cX12_told 1 = .ok (.istore_n 2, 1) := by decide +kernel
theorem dX12_told_2 : decode cX12_told 2 = .ok (.iload_n 1, 1) := by decide +kernel
theorem dX12_told_3 : decode cX12_told 3 = .ok (.tableswitch 189 0 7 #[45, 50, 55, 60, 65, 100, 139, 139], 45) := by decide +kernel
theorem dX12_told_48 : decode cX12_told 48 = .ok (.aload_n 0, 1) := by decide +kernel
theorem dX12_told_49 : decode cX12_told 49 = .ok (.getfield 109, 3) := by decide +kernel
theorem dX12_told_52 : decode cX12_told 52 = .ok (.ireturn, 1) := by decide +kernel
theorem dX12_told_53 : decode cX12_told 53 = .ok (.aload_n 0, 1) := by decide +kernel
theorem dX12_told_54 : decode cX12_told 54 = .ok (.getfield 116, 3) := by decide +kernel
theorem dX12_told_57 : decode cX12_told 57 = .ok (.ireturn, 1) := by decide +kernel
theorem dX12_told_58 : decode cX12_told 58 = .ok (.aload_n 0, 1) := by decide +kernel
theorem dX12_told_59 : decode cX12_told 59 = .ok (.getfield 164, 3) := by decide +kernel
theorem dX12_told_62 : decode cX12_told 62 = .ok (.ireturn, 1) := by decide +kernel
theorem dX12_told_63 : decode cX12_told 63 = .ok (.aload_n 0, 1) := by decide +kernel
theorem dX12_told_64 : decode cX12_told 64 = .ok (.getfield 96, 3) := by decide +kernel
theorem dX12_told_67 : decode cX12_told 67 = .ok (.ireturn, 1) := by decide +kernel
theorem dX12_told_68 : decode cX12_told 68 = .ok (.iconst 0, 1) := by decide +kernel
theorem dX12_told_69 : decode cX12_told 69 = .ok (.istore_n 3, 1) := by decide +kernel
theorem dX12_told_70 : decode cX12_told 70 = .ok (.iload_n 3, 1) := by decide +kernel
theorem dX12_told_71 : decode cX12_told 71 = .ok (.aload_n 0, 1) := by decide +kernel
theorem dX12_told_72 : decode cX12_told 72 = .ok (.getfield 109, 3) := by decide +kernel
theorem dX12_told_75 : decode cX12_told 75 = .ok (.if_icmp .ge 26, 3) := by decide +kernel
theorem dX12_told_78 : decode cX12_told 78 = .ok (.iload_n 2, 1) := by decide +kernel
theorem dX12_told_79 : decode cX12_told 79 = .ok (.aload_n 0, 1) := by decide +kernel
theorem dX12_told_80 : decode cX12_told 80 = .ok (.getfield 7, 3) := by decide +kernel
theorem dX12_told_83 : decode cX12_told 83 = .ok (.iload_n 3, 1) := by decide +kernel
theorem dX12_told_84 : decode cX12_told 84 = .ok (.baload, 1) := by decide +kernel
theorem dX12_told_85 : decode cX12_told 85 = .ok (.ifCond .eq 7, 3) := by decide +kernel
theorem dX12_told_88 : decode cX12_told 88 = .ok (.iconst 1, 1) := by decide +kernel
theorem dX12_told_89 : decode cX12_told 89 = .ok (.goto 4, 3) := by decide +kernel
theorem dX12_told_92 : decode cX12_told 92 = .ok (.iconst 0, 1) := by decide +kernel
theorem dX12_told_93 : decode cX12_told 93 = .ok (.iadd, 1) := by decide +kernel
theorem dX12_told_94 : decode cX12_told 94 = .ok (.istore_n 2, 1) := by decide +kernel
theorem dX12_told_95 : decode cX12_told 95 = .ok (.iinc 3 1, 3) := by decide +kernel
theorem dX12_told_98 : decode cX12_told 98 = .ok (.goto (-28), 3) := by decide +kernel
theorem dX12_told_101 : decode cX12_told 101 = .ok (.iload_n 2, 1) := by decide +kernel
theorem dX12_told_102 : decode cX12_told 102 = .ok (.ireturn, 1) := by decide +kernel
theorem dX12_told_103 : decode cX12_told 103 = .ok (.aload_n 0, 1) := by decide +kernel
theorem dX12_told_104 : decode cX12_told 104 = .ok (.invokevirtual 137, 3) := by decide +kernel
theorem dX12_told_107 : decode cX12_told 107 = .ok (.iconst 0, 1) := by decide +kernel
theorem dX12_told_108 : decode cX12_told 108 = .ok (.istore_n 3, 1) := by decide +kernel
theorem dX12_told_109 : decode cX12_told 109 = .ok (.iload_n 3, 1) := by decide +kernel
theorem dX12_told_110 : decode cX12_told 110 = .ok (.aload_n 0, 1) := by decide +kernel
theorem dX12_told_111 : decode cX12_told 111 = .ok (.getfield 109, 3) := by decide +kernel
theorem dX12_told_114 : decode cX12_told 114 = .ok (.if_icmp .ge 26, 3) := by decide +kernel
theorem dX12_told_117 : decode cX12_told 117 = .ok (.iload_n 2, 1) := by decide +kernel
theorem dX12_told_118 : decode cX12_told 118 = .ok (.aload_n 0, 1) := by decide +kernel
theorem dX12_told_119 : decode cX12_told 119 = .ok (.getfield 35, 3) := by decide +kernel
theorem dX12_told_122 : decode cX12_told 122 = .ok (.iload_n 3, 1) := by decide +kernel
theorem dX12_told_123 : decode cX12_told 123 = .ok (.baload, 1) := by decide +kernel
theorem dX12_told_124 : decode cX12_told 124 = .ok (.ifCond .eq 7, 3) := by decide +kernel
theorem dX12_told_127 : decode cX12_told 127 = .ok (.iconst 0, 1) := by decide +kernel
theorem dX12_told_128 : decode cX12_told 128 = .ok (.goto 4, 3) := by decide +kernel
theorem dX12_told_131 : decode cX12_told 131 = .ok (.iconst 1, 1) := by decide +kernel
theorem dX12_told_132 : decode cX12_told 132 = .ok (.iadd, 1) := by decide +kernel
theorem dX12_told_133 : decode cX12_told 133 = .ok (.istore_n 2, 1) := by decide +kernel
theorem dX12_told_134 : decode cX12_told 134 = .ok (.iinc 3 1, 3) := by decide +kernel
theorem dX12_told_137 : decode cX12_told 137 = .ok (.goto (-28), 3) := by decide +kernel
theorem dX12_told_140 : decode cX12_told 140 = .ok (.iload_n 2, 1) := by decide +kernel
theorem dX12_told_141 : decode cX12_told 141 = .ok (.ireturn, 1) := by decide +kernel
theorem dX12_told_142 : decode cX12_told 142 = .ok (.iconst 0, 1) := by decide +kernel
theorem dX12_told_143 : decode cX12_told 143 = .ok (.istore_n 3, 1) := by decide +kernel
theorem dX12_told_144 : decode cX12_told 144 = .ok (.iload_n 3, 1) := by decide +kernel
theorem dX12_told_145 : decode cX12_told 145 = .ok (.aload_n 0, 1) := by decide +kernel
theorem dX12_told_146 : decode cX12_told 146 = .ok (.getfield 116, 3) := by decide +kernel
theorem dX12_told_149 : decode cX12_told 149 = .ok (.if_icmp .ge 41, 3) := by decide +kernel
theorem dX12_told_152 : decode cX12_told 152 = .ok (.iload_n 2, 1) := by decide +kernel
theorem dX12_told_153 : decode cX12_told 153 = .ok (.iload_n 1, 1) := by decide +kernel
theorem dX12_told_154 : decode cX12_told 154 = .ok (.bipush 7, 2) := by decide +kernel
theorem dX12_told_156 : decode cX12_told 156 = .ok (.if_icmp .ne 12, 3) := by decide +kernel
theorem dX12_told_159 : decode cX12_told 159 = .ok (.aload_n 0, 1) := by decide +kernel
theorem dX12_told_160 : decode cX12_told 160 = .ok (.getfield 26, 3) := by decide +kernel
theorem dX12_told_163 : decode cX12_told 163 = .ok (.iload_n 3, 1) := by decide +kernel
theorem dX12_told_164 : decode cX12_told 164 = .ok (.iaload, 1) := by decide +kernel
theorem dX12_told_165 : decode cX12_told 165 = .ok (.goto 17, 3) := by decide +kernel
theorem dX12_told_168 : decode cX12_told 168 = .ok (.aload_n 0, 1) := by decide +kernel
theorem dX12_told_169 : decode cX12_told 169 = .ok (.getfield 26, 3) := by decide +kernel
theorem dX12_told_172 : decode cX12_told 172 = .ok (.iload_n 3, 1) := by decide +kernel
theorem dX12_told_173 : decode cX12_told 173 = .ok (.iaload, 1) := by decide +kernel
theorem dX12_told_174 : decode cX12_told 174 = .ok (.ifCond .le 7, 3) := by decide +kernel
theorem dX12_told_177 : decode cX12_told 177 = .ok (.iconst 1, 1) := by decide +kernel
theorem dX12_told_178 : decode cX12_told 178 = .ok (.goto 4, 3) := by decide +kernel
theorem dX12_told_181 : decode cX12_told 181 = .ok (.iconst 0, 1) := by decide +kernel
theorem dX12_told_182 : decode cX12_told 182 = .ok (.iadd, 1) := by decide +kernel
theorem dX12_told_183 : decode cX12_told 183 = .ok (.istore_n 2, 1) := by decide +kernel
theorem dX12_told_184 : decode cX12_told 184 = .ok (.iinc 3 1, 3) := by decide +kernel
theorem dX12_told_187 : decode cX12_told 187 = .ok (.goto (-43), 3) := by decide +kernel
theorem dX12_told_190 : decode cX12_told 190 = .ok (.iload_n 2, 1) := by decide +kernel
theorem dX12_told_191 : decode cX12_told 191 = .ok (.ireturn, 1) := by decide +kernel
theorem dX12_told_192 : decode cX12_told 192 = .ok (.bipush (-2), 2) := by decide +kernel
theorem dX12_told_194 : decode cX12_told 194 = .ok (.ireturn, 1) := by decide +kernel
theorem dX12_keep_0 : decode cX12_keep 0 = .ok (.aload_n 0, 1) := by decide +kernel
theorem dX12_keep_1 : decode cX12_keep 1 = .ok (.getfield 201, 3) := by decide +kernel
theorem dX12_keep_4 : decode cX12_keep 4 = .ok (.bipush 8, 2) := by decide +kernel
theorem dX12_keep_6 : decode cX12_keep 6 = .ok (.if_icmp .ne 95, 3) := by decide +kernel
theorem dX12_keep_9 : decode cX12_keep 9 = .ok (.iconst 0, 1) := by decide +kernel
theorem dX12_keep_10 : decode cX12_keep 10 = .ok (.istore_n 1, 1) := by decide +kernel
theorem dX12_keep_11 : decode cX12_keep 11 = .ok (.iload_n 1, 1) := by decide +kernel
theorem dX12_keep_12 : decode cX12_keep 12 = .ok (.bipush 7, 2) := by decide +kernel
theorem dX12_keep_14 : decode cX12_keep 14 = .ok (.if_icmp .ge 37, 3) := by decide +kernel
theorem dX12_keep_17 : decode cX12_keep 17 = .ok (.aload_n 0, 1) := by decide +kernel
theorem dX12_keep_18 : decode cX12_keep 18 = .ok (.getfield 72, 3) := by decide +kernel
theorem dX12_keep_21 : decode cX12_keep 21 = .ok (.iload_n 1, 1) := by decide +kernel
theorem dX12_keep_22 : decode cX12_keep 22 = .ok (.aload_n 0, 1) := by decide +kernel
theorem dX12_keep_23 : decode cX12_keep 23 = .ok (.getfield 72, 3) := by decide +kernel
theorem dX12_keep_26 : decode cX12_keep 26 = .ok (.iload_n 1, 1) := by decide +kernel
theorem dX12_keep_27 : decode cX12_keep 27 = .ok (.iconst 1, 1) := by decide +kernel
theorem dX12_keep_28 : decode cX12_keep 28 = .ok (.iadd, 1) := by decide +kernel
theorem dX12_keep_29 : decode cX12_keep 29 = .ok (.iaload, 1) := by decide +kernel
theorem dX12_keep_30 : decode cX12_keep 30 = .ok (.iastore, 1) := by decide +kernel
theorem dX12_keep_31 : decode cX12_keep 31 = .ok (.aload_n 0, 1) := by decide +kernel
theorem dX12_keep_32 : decode cX12_keep 32 = .ok (.getfield 75, 3) := by decide +kernel
theorem dX12_keep_35 : decode cX12_keep 35 = .ok (.iload_n 1, 1) := by decide +kernel
theorem dX12_keep_36 : decode cX12_keep 36 = .ok (.aload_n 0, 1) := by decide +kernel
theorem dX12_keep_37 : decode cX12_keep 37 = .ok (.getfield 75, 3) := by decide +kernel
theorem dX12_keep_40 : decode cX12_keep 40 = .ok (.iload_n 1, 1) := by decide +kernel
theorem dX12_keep_41 : decode cX12_keep 41 = .ok (.iconst 1, 1) := by decide +kernel
theorem dX12_keep_42 : decode cX12_keep 42 = .ok (.iadd, 1) := by decide +kernel
theorem dX12_keep_43 : decode cX12_keep 43 = .ok (.iaload, 1) := by decide +kernel
theorem dX12_keep_44 : decode cX12_keep 44 = .ok (.iastore, 1) := by decide +kernel
theorem dX12_keep_45 : decode cX12_keep 45 = .ok (.iinc 1 1, 3) := by decide +kernel
theorem dX12_keep_48 : decode cX12_keep 48 = .ok (.goto (-37), 3) := by decide +kernel
theorem dX12_keep_51 : decode cX12_keep 51 = .ok (.iconst 0, 1) := by decide +kernel
theorem dX12_keep_52 : decode cX12_keep 52 = .ok (.istore_n 1, 1) := by decide +kernel
theorem dX12_keep_53 : decode cX12_keep 53 = .ok (.iload_n 1, 1) := by decide +kernel
theorem dX12_keep_54 : decode cX12_keep 54 = .ok (.bipush 84, 2) := by decide +kernel
theorem dX12_keep_56 : decode cX12_keep 56 = .ok (.if_icmp .ge 39, 3) := by decide +kernel
theorem dX12_keep_59 : decode cX12_keep 59 = .ok (.aload_n 0, 1) := by decide +kernel
theorem dX12_keep_60 : decode cX12_keep 60 = .ok (.getfield 78, 3) := by decide +kernel
theorem dX12_keep_63 : decode cX12_keep 63 = .ok (.iload_n 1, 1) := by decide +kernel
theorem dX12_keep_64 : decode cX12_keep 64 = .ok (.aload_n 0, 1) := by decide +kernel
theorem dX12_keep_65 : decode cX12_keep 65 = .ok (.getfield 78, 3) := by decide +kernel
theorem dX12_keep_68 : decode cX12_keep 68 = .ok (.iload_n 1, 1) := by decide +kernel
theorem dX12_keep_69 : decode cX12_keep 69 = .ok (.bipush 12, 2) := by decide +kernel
theorem dX12_keep_71 : decode cX12_keep 71 = .ok (.iadd, 1) := by decide +kernel
theorem dX12_keep_72 : decode cX12_keep 72 = .ok (.iaload, 1) := by decide +kernel
theorem dX12_keep_73 : decode cX12_keep 73 = .ok (.iastore, 1) := by decide +kernel
theorem dX12_keep_74 : decode cX12_keep 74 = .ok (.aload_n 0, 1) := by decide +kernel
theorem dX12_keep_75 : decode cX12_keep 75 = .ok (.getfield 81, 3) := by decide +kernel
theorem dX12_keep_78 : decode cX12_keep 78 = .ok (.iload_n 1, 1) := by decide +kernel
theorem dX12_keep_79 : decode cX12_keep 79 = .ok (.aload_n 0, 1) := by decide +kernel
theorem dX12_keep_80 : decode cX12_keep 80 = .ok (.getfield 81, 3) := by decide +kernel
theorem dX12_keep_83 : decode cX12_keep 83 = .ok (.iload_n 1, 1) := by decide +kernel
theorem dX12_keep_84 : decode cX12_keep 84 = .ok (.bipush 12, 2) := by decide +kernel
theorem dX12_keep_86 : decode cX12_keep 86 = .ok (.iadd, 1) := by decide +kernel
theorem dX12_keep_87 : decode cX12_keep 87 = .ok (.iaload, 1) := by decide +kernel
theorem dX12_keep_88 : decode cX12_keep 88 = .ok (.iastore, 1) := by decide +kernel
theorem dX12_keep_89 : decode cX12_keep 89 = .ok (.iinc 1 1, 3) := by decide +kernel
theorem dX12_keep_92 : decode cX12_keep 92 = .ok (.goto (-39), 3) := by decide +kernel
theorem dX12_keep_95 : decode cX12_keep 95 = .ok (.aload_n 0, 1) := by decide +kernel
theorem dX12_keep_96 : decode cX12_keep 96 = .ok (.bipush 7, 2) := by decide +kernel
theorem dX12_keep_98 : decode cX12_keep 98 = .ok (.putfield 201, 3) := by decide +kernel
theorem dX12_keep_101 : decode cX12_keep 101 = .ok (.aload_n 0, 1) := by decide +kernel
theorem dX12_keep_102 : decode cX12_keep 102 = .ok (.getfield 72, 3) := by decide +kernel
theorem dX12_keep_105 : decode cX12_keep 105 = .ok (.aload_n 0, 1) := by decide +kernel
theorem dX12_keep_106 : decode cX12_keep 106 = .ok (.getfield 201, 3) := by decide +kernel
theorem dX12_keep_109 : decode cX12_keep 109 = .ok (.aload_n 0, 1) := by decide +kernel
theorem dX12_keep_110 : decode cX12_keep 110 = .ok (.getfield 116, 3) := by decide +kernel
theorem dX12_keep_113 : decode cX12_keep 113 = .ok (.iastore, 1) := by decide +kernel
theorem dX12_keep_114 : decode cX12_keep 114 = .ok (.aload_n 0, 1) := by decide +kernel
theorem dX12_keep_115 : decode cX12_keep 115 = .ok (.getfield 75, 3) := by decide +kernel
theorem dX12_keep_118 : decode cX12_keep 118 = .ok (.aload_n 0, 1) := by decide +kernel
theorem dX12_keep_119 : decode cX12_keep 119 = .ok (.getfield 201, 3) := by decide +kernel
theorem dX12_keep_122 : decode cX12_keep 122 = .ok (.aload_n 0, 1) := by decide +kernel
theorem dX12_keep_123 : decode cX12_keep 123 = .ok (.getfield 164, 3) := by decide +kernel
theorem dX12_keep_126 : decode cX12_keep 126 = .ok (.iastore, 1) := by decide +kernel
theorem dX12_keep_127 : decode cX12_keep 127 = .ok (.iconst 0, 1) := by decide +kernel
theorem dX12_keep_128 : decode cX12_keep 128 = .ok (.istore_n 1, 1) := by decide +kernel
theorem dX12_keep_129 : decode cX12_keep 129 = .ok (.iload_n 1, 1) := by decide +kernel
theorem dX12_keep_130 : decode cX12_keep 130 = .ok (.aload_n 0, 1) := by decide +kernel
theorem dX12_keep_131 : decode cX12_keep 131 = .ok (.getfield 116, 3) := by decide +kernel
theorem dX12_keep_134 : decode cX12_keep 134 = .ok (.if_icmp .ge 49, 3) := by decide +kernel
theorem dX12_keep_137 : decode cX12_keep 137 = .ok (.aload_n 0, 1) := by decide +kernel
theorem dX12_keep_138 : decode cX12_keep 138 = .ok (.getfield 78, 3) := by decide +kernel
theorem dX12_keep_141 : decode cX12_keep 141 = .ok (.bipush 12, 2) := by decide +kernel
theorem dX12_keep_143 : decode cX12_keep 143 = .ok (.aload_n 0, 1) := by decide +kernel
theorem dX12_keep_144 : decode cX12_keep 144 = .ok (.getfield 201, 3) := by decide +kernel
theorem dX12_keep_147 : decode cX12_keep 147 = .ok (.imul, 1) := by decide +kernel
theorem dX12_keep_148 : decode cX12_keep 148 = .ok (.iload_n 1, 1) := by decide +kernel
theorem dX12_keep_149 : decode cX12_keep 149 = .ok (.iadd, 1) := by decide +kernel
theorem dX12_keep_150 : decode cX12_keep 150 = .ok (.aload_n 0, 1) := by decide +kernel
theorem dX12_keep_151 : decode cX12_keep 151 = .ok (.getfield 26, 3) := by decide +kernel
theorem dX12_keep_154 : decode cX12_keep 154 = .ok (.iload_n 1, 1) := by decide +kernel
theorem dX12_keep_155 : decode cX12_keep 155 = .ok (.iaload, 1) := by decide +kernel
theorem dX12_keep_156 : decode cX12_keep 156 = .ok (.iastore, 1) := by decide +kernel
theorem dX12_keep_157 : decode cX12_keep 157 = .ok (.aload_n 0, 1) := by decide +kernel
theorem dX12_keep_158 : decode cX12_keep 158 = .ok (.getfield 81, 3) := by decide +kernel
theorem dX12_keep_161 : decode cX12_keep 161 = .ok (.bipush 12, 2) := by decide +kernel
theorem dX12_keep_163 : decode cX12_keep 163 = .ok (.aload_n 0, 1) := by decide +kernel
theorem dX12_keep_164 : decode cX12_keep 164 = .ok (.getfield 201, 3) := by decide +kernel
theorem dX12_keep_167 : decode cX12_keep 167 = .ok (.imul, 1) := by decide +kernel
theorem dX12_keep_168 : decode cX12_keep 168 = .ok (.iload_n 1, 1) := by decide +kernel
theorem dX12_keep_169 : decode cX12_keep 169 = .ok (.iadd, 1) := by decide +kernel
theorem dX12_keep_170 : decode cX12_keep 170 = .ok (.aload_n 0, 1) := by decide +kernel
theorem dX12_keep_171 : decode cX12_keep 171 = .ok (.getfield 32, 3) := by decide +kernel
theorem dX12_keep_174 : decode cX12_keep 174 = .ok (.iload_n 1, 1) := by decide +kernel
theorem dX12_keep_175 : decode cX12_keep 175 = .ok (.iaload, 1) := by decide +kernel
theorem dX12_keep_176 : decode cX12_keep 176 = .ok (.iastore, 1) := by decide +kernel
theorem dX12_keep_177 : decode cX12_keep 177 = .ok (.iinc 1 1, 3) := by decide +kernel
theorem dX12_keep_180 : decode cX12_keep 180 = .ok (.goto (-51), 3) := by decide +kernel
theorem dX12_keep_183 : decode cX12_keep 183 = .ok (.aload_n 0, 1) := by decide +kernel
theorem dX12_keep_184 : decode cX12_keep 184 = .ok (.dup, 1) := by decide +kernel
theorem dX12_keep_185 : decode cX12_keep 185 = .ok (.getfield 201, 3) := by decide +kernel
theorem dX12_keep_188 : decode cX12_keep 188 = .ok (.iconst 1, 1) := by decide +kernel
theorem dX12_keep_189 : decode cX12_keep 189 = .ok (.iadd, 1) := by decide +kernel
theorem dX12_keep_190 : decode cX12_keep 190 = .ok (.putfield 201, 3) := by decide +kernel
theorem dX12_keep_193 : decode cX12_keep 193 = .ok (.aload_n 0, 1) := by decide +kernel
theorem dX12_keep_194 : decode cX12_keep 194 = .ok (.getfield 201, 3) := by decide +kernel
theorem dX12_keep_197 : decode cX12_keep 197 = .ok (.ireturn, 1) := by decide +kernel
theorem dX12_back_0 : decode cX12_back 0 = .ok (.aload_n 0, 1) := by decide +kernel
theorem dX12_back_1 : decode cX12_back 1 = .ok (.getfield 201, 3) := by decide +kernel
theorem dX12_back_4 : decode cX12_back 4 = .ok (.ifCond .ne 6, 3) := by decide +kernel
theorem dX12_back_7 : decode cX12_back 7 = .ok (.bipush (-3), 2) := by decide +kernel
theorem dX12_back_9 : decode cX12_back 9 = .ok (.ireturn, 1) := by decide +kernel
theorem dX12_back_10 : decode cX12_back 10 = .ok (.aload_n 0, 1) := by decide +kernel
theorem dX12_back_11 : decode cX12_back 11 = .ok (.dup, 1) := by decide +kernel
theorem dX12_back_12 : decode cX12_back 12 = .ok (.getfield 201, 3) := by decide +kernel
theorem dX12_back_15 : decode cX12_back 15 = .ok (.iconst 1, 1) := by decide +kernel
theorem dX12_back_16 : decode cX12_back 16 = .ok (.isub, 1) := by decide +kernel
theorem dX12_back_17 : decode cX12_back 17 = .ok (.putfield 201, 3) := by decide +kernel
theorem dX12_back_20 : decode cX12_back 20 = .ok (.aload_n 0, 1) := by decide +kernel
theorem dX12_back_21 : decode cX12_back 21 = .ok (.aload_n 0, 1) := by decide +kernel
theorem dX12_back_22 : decode cX12_back 22 = .ok (.getfield 75, 3) := by decide +kernel
theorem dX12_back_25 : decode cX12_back 25 = .ok (.aload_n 0, 1) := by decide +kernel
theorem dX12_back_26 : decode cX12_back 26 = .ok (.getfield 201, 3) := by decide +kernel
theorem dX12_back_29 : decode cX12_back 29 = .ok (.iaload, 1) := by decide +kernel
theorem dX12_back_30 : decode cX12_back 30 = .ok (.putfield 164, 3) := by decide +kernel
theorem dX12_back_33 : decode cX12_back 33 = .ok (.iconst 0, 1) := by decide +kernel
theorem dX12_back_34 : decode cX12_back 34 = .ok (.istore_n 1, 1) := by decide +kernel
theorem dX12_back_35 : decode cX12_back 35 = .ok (.iload_n 1, 1) := by decide +kernel
theorem dX12_back_36 : decode cX12_back 36 = .ok (.aload_n 0, 1) := by decide +kernel
theorem dX12_back_37 : decode cX12_back 37 = .ok (.getfield 72, 3) := by decide +kernel
theorem dX12_back_40 : decode cX12_back 40 = .ok (.aload_n 0, 1) := by decide +kernel
theorem dX12_back_41 : decode cX12_back 41 = .ok (.getfield 201, 3) := by decide +kernel
theorem dX12_back_44 : decode cX12_back 44 = .ok (.iaload, 1) := by decide +kernel
theorem dX12_back_45 : decode cX12_back 45 = .ok (.if_icmp .ge 49, 3) := by decide +kernel
theorem dX12_back_48 : decode cX12_back 48 = .ok (.aload_n 0, 1) := by decide +kernel
theorem dX12_back_49 : decode cX12_back 49 = .ok (.getfield 26, 3) := by decide +kernel
theorem dX12_back_52 : decode cX12_back 52 = .ok (.iload_n 1, 1) := by decide +kernel
theorem dX12_back_53 : decode cX12_back 53 = .ok (.aload_n 0, 1) := by decide +kernel
theorem dX12_back_54 : decode cX12_back 54 = .ok (.getfield 78, 3) := by decide +kernel
theorem dX12_back_57 : decode cX12_back 57 = .ok (.bipush 12, 2) := by decide +kernel
theorem dX12_back_59 : decode cX12_back 59 = .ok (.aload_n 0, 1) := by decide +kernel
theorem dX12_back_60 : decode cX12_back 60 = .ok (.getfield 201, 3) := by decide +kernel
theorem dX12_back_63 : decode cX12_back 63 = .ok (.imul, 1) := by decide +kernel
theorem dX12_back_64 : decode cX12_back 64 = .ok (.iload_n 1, 1) := by decide +kernel
theorem dX12_back_65 : decode cX12_back 65 = .ok (.iadd, 1) := by decide +kernel
theorem dX12_back_66 : decode cX12_back 66 = .ok (.iaload, 1) := by decide +kernel
theorem dX12_back_67 : decode cX12_back 67 = .ok (.iastore, 1) := by decide +kernel
theorem dX12_back_68 : decode cX12_back 68 = .ok (.aload_n 0, 1) := by decide +kernel
theorem dX12_back_69 : decode cX12_back 69 = .ok (.getfield 32, 3) := by decide +kernel
theorem dX12_back_72 : decode cX12_back 72 = .ok (.iload_n 1, 1) := by decide +kernel
theorem dX12_back_73 : decode cX12_back 73 = .ok (.aload_n 0, 1) := by decide +kernel
theorem dX12_back_74 : decode cX12_back 74 = .ok (.getfield 81, 3) := by decide +kernel
theorem dX12_back_77 : decode cX12_back 77 = .ok (.bipush 12, 2) := by decide +kernel
theorem dX12_back_79 : decode cX12_back 79 = .ok (.aload_n 0, 1) := by decide +kernel
theorem dX12_back_80 : decode cX12_back 80 = .ok (.getfield 201, 3) := by decide +kernel
theorem dX12_back_83 : decode cX12_back 83 = .ok (.imul, 1) := by decide +kernel
theorem dX12_back_84 : decode cX12_back 84 = .ok (.iload_n 1, 1) := by decide +kernel
theorem dX12_back_85 : decode cX12_back 85 = .ok (.iadd, 1) := by decide +kernel
theorem dX12_back_86 : decode cX12_back 86 = .ok (.iaload, 1) := by decide +kernel
theorem dX12_back_87 : decode cX12_back 87 = .ok (.iastore, 1) := by decide +kernel
theorem dX12_back_88 : decode cX12_back 88 = .ok (.iinc 1 1, 3) := by decide +kernel
theorem dX12_back_91 : decode cX12_back 91 = .ok (.goto (-56), 3) := by decide +kernel
theorem dX12_back_94 : decode cX12_back 94 = .ok (.aload_n 0, 1) := by decide +kernel
theorem dX12_back_95 : decode cX12_back 95 = .ok (.getfield 201, 3) := by decide +kernel
theorem dX12_back_98 : decode cX12_back 98 = .ok (.ireturn, 1) := by decide +kernel
set_option maxRecDepth 20000 in
theorem ggX12_noCore_X12_among : GoodIn wsX12_noCore wsX12_among := goodIn_r _ [4] (by decide +kernel) (by decide +kernel)
set_option maxRecDepth 20000 in
theorem gX12_noCore_X12_among : GoodIn wsX12_noCore (va_wsS RX12 112 yX12_among wsX12_among) := goodIn_app (goodIn_of _ (by decide +kernel)) ggX12_noCore_X12_among
theorem dX12_noCore_0 : decode cX12_noCore 0 = .ok (.iload_n 0, 1) := by decide +kernel
theorem dX12_noCore_1 : decode cX12_noCore 1 = .ok (.iconst 0, 1) := by decide +kernel
theorem dX12_noCore_2 : decode cX12_noCore 2 = .ok (.iconst 3, 1) := by decide +kernel
theorem dX12_noCore_3 : decode cX12_noCore 3 = .ok (.invokestatic 112, 3) := by decide +kernel
theorem dX12_noCore_6 : decode cX12_noCore 6 = .ok (.ifCond .ne 7, 3) := by decide +kernel
theorem dX12_noCore_9 : decode cX12_noCore 9 = .ok (.iconst 1, 1) := by decide +kernel
theorem dX12_noCore_10 : decode cX12_noCore 10 = .ok (.goto 4, 3) := by decide +kernel
theorem dX12_noCore_13 : decode cX12_noCore 13 = .ok (.iconst 0, 1) := by decide +kernel
theorem dX12_noCore_14 : decode cX12_noCore 14 = .ok (.ireturn, 1) := by decide +kernel
set_option maxRecDepth 20000 in
theorem ggX12_core_X12_noCore : GoodIn wsX12_core wsX12_noCore := goodIn_r _ [7, 8, 9, 6, 10] (by decide +kernel) (by decide +kernel)
set_option maxRecDepth 20000 in
theorem gX12_core_X12_noCore : GoodIn wsX12_core (va_wsS RX12 204 yX12_noCore wsX12_noCore) := goodIn_app (goodIn_of _ (by decide +kernel)) ggX12_core_X12_noCore
set_option maxRecDepth 20000 in
theorem ggX12_core_X12_refused : GoodIn wsX12_core wsX12_refused := goodIn_r _ [14, 15, 20, 21, 22, 23, 24, 25, 26, 27, 28, 29, 30, 31, 32, 33, 34, 35, 36, 37, 38, 39, 40, 41, 42, 43, 44, 45, 46, 47, 48, 49, 50, 51, 52, 53, 54, 55, 56, 57, 58] (by decide +kernel) (by decide +kernel)
set_option maxRecDepth 20000 in
theorem gX12_core_X12_refused : GoodIn wsX12_core (wsV RX12 207 RX12 yX12_refused wsX12_refused) := goodIn_app (goodIn_of _ (by decide +kernel)) ggX12_core_X12_refused
set_option maxRecDepth 20000 in
theorem ggX12_core_X12_among : GoodIn wsX12_core wsX12_among := goodIn_r _ [10] (by decide +kernel) (by decide +kernel)
set_option maxRecDepth 20000 in
theorem gX12_core_X12_among : GoodIn wsX12_core (va_wsS RX12 112 yX12_among wsX12_among) := goodIn_app (goodIn_of _ (by decide +kernel)) ggX12_core_X12_among
set_option maxRecDepth 20000 in
theorem ggX12_core_X12_failed : GoodIn wsX12_core wsX12_failed := goodIn_r _ [19, 15, 20, 21, 22, 23, 24, 25, 26, 27, 28, 29, 30, 31, 32, 33, 34, 35, 36, 37, 38, 39, 40, 41, 42, 43, 44, 45, 46, 47, 48, 49, 50, 51, 52, 53, 54, 55, 56, 57, 58] (by decide +kernel) (by decide +kernel)
set_option maxRecDepth 20000 in
theorem gX12_core_X12_failed : GoodIn wsX12_core (wsV RX12 210 RX12 yX12_failed wsX12_failed) := goodIn_app (goodIn_of _ (by decide +kernel)) ggX12_core_X12_failed
theorem dX12_core_0 : decode cX12_core 0 = .ok (.iload_n 1, 1) := by decide +kernel
theorem dX12_core_1 : decode cX12_core 1 = .ok (.invokestatic 204, 3) := by decide +kernel
theorem dX12_core_4 : decode cX12_core 4 = .ok (.ifCond .eq 9, 3) := by decide +kernel
theorem dX12_core_7 : decode cX12_core 7 = .ok (.aload_n 0, 1) := by decide +kernel
theorem dX12_core_8 : decode cX12_core 8 = .ok (.iconst (-1), 1) := by decide +kernel
theorem dX12_core_9 : decode cX12_core 9 = .ok (.invokevirtual 207, 3) := by decide +kernel
theorem dX12_core_12 : decode cX12_core 12 = .ok (.ireturn, 1) := by decide +kernel
theorem dX12_core_13 : decode cX12_core 13 = .ok (.iload_n 2, 1) := by decide +kernel
theorem dX12_core_14 : decode cX12_core 14 = .ok (.iconst 0, 1) := by decide +kernel
theorem dX12_core_15 : decode cX12_core 15 = .ok (.iconst 3, 1) := by decide +kernel
theorem dX12_core_16 : decode cX12_core 16 = .ok (.invokestatic 112, 3) := by decide +kernel
theorem dX12_core_19 : decode cX12_core 19 = .ok (.ifCond .eq 9, 3) := by decide +kernel
theorem dX12_core_22 : decode cX12_core 22 = .ok (.iload_n 3, 1) := by decide +kernel
theorem dX12_core_23 : decode cX12_core 23 = .ok (.bipush 24, 2) := by decide +kernel
theorem dX12_core_25 : decode cX12_core 25 = .ok (.if_icmp .le 10, 3) := by decide +kernel
theorem dX12_core_28 : decode cX12_core 28 = .ok (.aload_n 0, 1) := by decide +kernel
theorem dX12_core_29 : decode cX12_core 29 = .ok (.bipush (-2), 2) := by decide +kernel
theorem dX12_core_31 : decode cX12_core 31 = .ok (.invokevirtual 207, 3) := by decide +kernel
theorem dX12_core_34 : decode cX12_core 34 = .ok (.ireturn, 1) := by decide +kernel
theorem dX12_core_35 : decode cX12_core 35 = .ok (.iload_n 3, 1) := by decide +kernel
theorem dX12_core_36 : decode cX12_core 36 = .ok (.ifCond .ge 9, 3) := by decide +kernel
theorem dX12_core_39 : decode cX12_core 39 = .ok (.aload_n 0, 1) := by decide +kernel
theorem dX12_core_40 : decode cX12_core 40 = .ok (.iconst 4, 1) := by decide +kernel
theorem dX12_core_41 : decode cX12_core 41 = .ok (.invokevirtual 210, 3) := by decide +kernel
theorem dX12_core_44 : decode cX12_core 44 = .ok (.ireturn, 1) := by decide +kernel
theorem dX12_core_45 : decode cX12_core 45 = .ok (.aload_n 0, 1) := by decide +kernel
theorem dX12_core_46 : decode cX12_core 46 = .ok (.getfield 84, 3) := by decide +kernel
theorem dX12_core_49 : decode cX12_core 49 = .ok (.iload_n 1, 1) := by decide +kernel
theorem dX12_core_50 : decode cX12_core 50 = .ok (.iload_n 3, 1) := by decide +kernel
theorem dX12_core_51 : decode cX12_core 51 = .ok (.iastore, 1) := by decide +kernel
theorem dX12_core_52 : decode cX12_core 52 = .ok (.aload_n 0, 1) := by decide +kernel
theorem dX12_core_53 : decode cX12_core 53 = .ok (.getfield 87, 3) := by decide +kernel
theorem dX12_core_56 : decode cX12_core 56 = .ok (.iload_n 1, 1) := by decide +kernel
theorem dX12_core_57 : decode cX12_core 57 = .ok (.iload_n 2, 1) := by decide +kernel
theorem dX12_core_58 : decode cX12_core 58 = .ok (.iastore, 1) := by decide +kernel
theorem dX12_core_59 : decode cX12_core 59 = .ok (.iconst 0, 1) := by decide +kernel
theorem dX12_core_60 : decode cX12_core 60 = .ok (.istore 4, 2) := by decide +kernel
theorem dX12_core_62 : decode cX12_core 62 = .ok (.iload 4, 2) := by decide +kernel
theorem dX12_core_64 : decode cX12_core 64 = .ok (.iload_n 3, 1) := by decide +kernel
theorem dX12_core_65 : decode cX12_core 65 = .ok (.if_icmp .ge 22, 3) := by decide +kernel
theorem dX12_core_68 : decode cX12_core 68 = .ok (.aload_n 0, 1) := by decide +kernel
theorem dX12_core_69 : decode cX12_core 69 = .ok (.getfield 90, 3) := by decide +kernel
theorem dX12_core_72 : decode cX12_core 72 = .ok (.bipush 24, 2) := by decide +kernel
theorem dX12_core_74 : decode cX12_core 74 = .ok (.iload_n 1, 1) := by decide +kernel
theorem dX12_core_75 : decode cX12_core 75 = .ok (.imul, 1) := by decide +kernel
theorem dX12_core_76 : decode cX12_core 76 = .ok (.iload 4, 2) := by decide +kernel
theorem dX12_core_78 : decode cX12_core 78 = .ok (.iadd, 1) := by decide +kernel
theorem dX12_core_79 : decode cX12_core 79 = .ok (.lconst 0, 1) := by decide +kernel
theorem dX12_core_80 : decode cX12_core 80 = .ok (.lastore, 1) := by decide +kernel
theorem dX12_core_81 : decode cX12_core 81 = .ok (.iinc 4 1, 3) := by decide +kernel
theorem dX12_core_84 : decode cX12_core 84 = .ok (.goto (-22), 3) := by decide +kernel
theorem dX12_core_87 : decode cX12_core 87 = .ok (.aload_n 0, 1) := by decide +kernel
theorem dX12_core_88 : decode cX12_core 88 = .ok (.iconst 1, 1) := by decide +kernel
theorem dX12_core_89 : decode cX12_core 89 = .ok (.invokevirtual 207, 3) := by decide +kernel
theorem dX12_core_92 : decode cX12_core 92 = .ok (.ireturn, 1) := by decide +kernel
set_option maxRecDepth 20000 in
theorem ggX12_lose_X12_noCore : GoodIn wsX12_lose wsX12_noCore := goodIn_r _ [5, 6, 7, 4, 8] (by decide +kernel) (by decide +kernel)
set_option maxRecDepth 20000 in
theorem gX12_lose_X12_noCore : GoodIn wsX12_lose (va_wsS RX12 204 yX12_noCore wsX12_noCore) := goodIn_app (goodIn_of _ (by decide +kernel)) ggX12_lose_X12_noCore
theorem dX12_lose_0 : decode cX12_lose 0 = .ok (.iload_n 1, 1) := by decide +kernel
theorem dX12_lose_1 : decode cX12_lose 1 = .ok (.invokestatic 204, 3) := by decide +kernel
theorem dX12_lose_4 : decode cX12_lose 4 = .ok (.ifCond .eq 5, 3) := by decide +kernel
theorem dX12_lose_7 : decode cX12_lose 7 = .ok (.iconst (-1), 1) := by decide +kernel
theorem dX12_lose_8 : decode cX12_lose 8 = .ok (.ireturn, 1) := by decide +kernel
theorem dX12_lose_9 : decode cX12_lose 9 = .ok (.aload_n 0, 1) := by decide +kernel
theorem dX12_lose_10 : decode cX12_lose 10 = .ok (.getfield 84, 3) := by decide +kernel
theorem dX12_lose_13 : decode cX12_lose 13 = .ok (.iload_n 1, 1) := by decide +kernel
theorem dX12_lose_14 : decode cX12_lose 14 = .ok (.iaload, 1) := by decide +kernel
theorem dX12_lose_15 : decode cX12_lose 15 = .ok (.ifCond .ge 7, 3) := by decide +kernel
theorem dX12_lose_18 : decode cX12_lose 18 = .ok (.iconst 0, 1) := by decide +kernel
theorem dX12_lose_19 : decode cX12_lose 19 = .ok (.goto 4, 3) := by decide +kernel
theorem dX12_lose_22 : decode cX12_lose 22 = .ok (.iconst 1, 1) := by decide +kernel
theorem dX12_lose_23 : decode cX12_lose 23 = .ok (.istore_n 2, 1) := by decide +kernel
theorem dX12_lose_24 : decode cX12_lose 24 = .ok (.aload_n 0, 1) := by decide +kernel
theorem dX12_lose_25 : decode cX12_lose 25 = .ok (.getfield 84, 3) := by decide +kernel
theorem dX12_lose_28 : decode cX12_lose 28 = .ok (.iload_n 1, 1) := by decide +kernel
theorem dX12_lose_29 : decode cX12_lose 29 = .ok (.iconst (-1), 1) := by decide +kernel
theorem dX12_lose_30 : decode cX12_lose 30 = .ok (.iastore, 1) := by decide +kernel
theorem dX12_lose_31 : decode cX12_lose 31 = .ok (.iload_n 2, 1) := by decide +kernel
theorem dX12_lose_32 : decode cX12_lose 32 = .ok (.ireturn, 1) := by decide +kernel
set_option maxRecDepth 20000 in
theorem ggX12_noCell_X12_among : GoodIn wsX12_noCell wsX12_among := goodIn_r _ [5] (by decide +kernel) (by decide +kernel)
set_option maxRecDepth 20000 in
theorem gX12_noCell_X12_among : GoodIn wsX12_noCell (va_wsS RX12 112 yX12_among wsX12_among) := goodIn_app (goodIn_of _ (by decide +kernel)) ggX12_noCell_X12_among
theorem dX12_noCell_0 : decode cX12_noCell 0 = .ok (.aload_n 0, 1) := by decide +kernel
theorem dX12_noCell_1 : decode cX12_noCell 1 = .ok (.getfield 84, 3) := by decide +kernel
theorem dX12_noCell_4 : decode cX12_noCell 4 = .ok (.iload_n 1, 1) := by decide +kernel
theorem dX12_noCell_5 : decode cX12_noCell 5 = .ok (.iaload, 1) := by decide +kernel
theorem dX12_noCell_6 : decode cX12_noCell 6 = .ok (.ifCond .ge 7, 3) := by decide +kernel
theorem dX12_noCell_9 : decode cX12_noCell 9 = .ok (.iconst 1, 1) := by decide +kernel
theorem dX12_noCell_10 : decode cX12_noCell 10 = .ok (.goto 24, 3) := by decide +kernel
theorem dX12_noCell_13 : decode cX12_noCell 13 = .ok (.iload_n 2, 1) := by decide +kernel
theorem dX12_noCell_14 : decode cX12_noCell 14 = .ok (.iconst 0, 1) := by decide +kernel
theorem dX12_noCell_15 : decode cX12_noCell 15 = .ok (.aload_n 0, 1) := by decide +kernel
theorem dX12_noCell_16 : decode cX12_noCell 16 = .ok (.getfield 84, 3) := by decide +kernel
theorem dX12_noCell_19 : decode cX12_noCell 19 = .ok (.iload_n 1, 1) := by decide +kernel
theorem dX12_noCell_20 : decode cX12_noCell 20 = .ok (.iaload, 1) := by decide +kernel
theorem dX12_noCell_21 : decode cX12_noCell 21 = .ok (.iconst 1, 1) := by decide +kernel
theorem dX12_noCell_22 : decode cX12_noCell 22 = .ok (.isub, 1) := by decide +kernel
theorem dX12_noCell_23 : decode cX12_noCell 23 = .ok (.invokestatic 112, 3) := by decide +kernel
theorem dX12_noCell_26 : decode cX12_noCell 26 = .ok (.ifCond .eq 7, 3) := by decide +kernel
theorem dX12_noCell_29 : decode cX12_noCell 29 = .ok (.iconst 0, 1) := by decide +kernel
theorem dX12_noCell_30 : decode cX12_noCell 30 = .ok (.goto 4, 3) := by decide +kernel
theorem dX12_noCell_33 : decode cX12_noCell 33 = .ok (.iconst 3, 1) := by decide +kernel
theorem dX12_noCell_34 : decode cX12_noCell 34 = .ok (.ireturn, 1) := by decide +kernel
set_option maxRecDepth 20000 in
theorem ggX12_put_X12_noCore : GoodIn wsX12_put wsX12_noCore := goodIn_r _ [6, 7, 8, 5, 9] (by decide +kernel) (by decide +kernel)
set_option maxRecDepth 20000 in
theorem gX12_put_X12_noCore : GoodIn wsX12_put (va_wsS RX12 204 yX12_noCore wsX12_noCore) := goodIn_app (goodIn_of _ (by decide +kernel)) ggX12_put_X12_noCore
set_option maxRecDepth 20000 in
theorem ggX12_put_X12_refused : GoodIn wsX12_put wsX12_refused := goodIn_r _ [13, 14, 24, 25, 26, 27, 28, 29, 30, 31, 32, 33, 34, 35, 36, 37, 38, 39, 40, 41, 42, 43, 44, 45, 46, 47, 48, 49, 50, 51, 52, 53, 54, 55, 56, 57, 58, 59, 60, 61, 62] (by decide +kernel) (by decide +kernel)
set_option maxRecDepth 20000 in
theorem gX12_put_X12_refused : GoodIn wsX12_put (wsV RX12 207 RX12 yX12_refused wsX12_refused) := goodIn_app (goodIn_of _ (by decide +kernel)) ggX12_put_X12_refused
set_option maxRecDepth 20000 in
theorem ggX12_put_X12_noCell : GoodIn wsX12_put wsX12_noCell := goodIn_r _ [18, 19, 7, 8, 5, 9, 24, 25, 26, 27, 28, 29, 30, 31, 32, 33, 34, 35, 36, 37, 38, 39, 40, 41, 42, 43, 44, 45, 46, 47, 48, 49, 50, 51, 52, 53, 54, 55, 56, 57, 58, 59, 60, 61, 62] (by decide +kernel) (by decide +kernel)
set_option maxRecDepth 20000 in
theorem gX12_put_X12_noCell : GoodIn wsX12_put (wsV RX12 213 RX12 yX12_noCell wsX12_noCell) := goodIn_app (goodIn_of _ (by decide +kernel)) ggX12_put_X12_noCell
set_option maxRecDepth 20000 in
theorem ggX12_put_X12_failed : GoodIn wsX12_put wsX12_failed := goodIn_r _ [23, 14, 24, 25, 26, 27, 28, 29, 30, 31, 32, 33, 34, 35, 36, 37, 38, 39, 40, 41, 42, 43, 44, 45, 46, 47, 48, 49, 50, 51, 52, 53, 54, 55, 56, 57, 58, 59, 60, 61, 62] (by decide +kernel) (by decide +kernel)
set_option maxRecDepth 20000 in
theorem gX12_put_X12_failed : GoodIn wsX12_put (wsV RX12 210 RX12 yX12_failed wsX12_failed) := goodIn_app (goodIn_of _ (by decide +kernel)) ggX12_put_X12_failed
theorem dX12_put_0 : decode cX12_put 0 = .ok (.iload_n 1, 1) := by decide +kernel
theorem dX12_put_1 : decode cX12_put 1 = .ok (.invokestatic 204, 3) := by decide +kernel
theorem dX12_put_4 : decode cX12_put 4 = .ok (.ifCond .eq 9, 3) := by decide +kernel
theorem dX12_put_7 : decode cX12_put 7 = .ok (.aload_n 0, 1) := by decide +kernel
theorem dX12_put_8 : decode cX12_put 8 = .ok (.iconst (-1), 1) := by decide +kernel
theorem dX12_put_9 : decode cX12_put 9 = .ok (.invokevirtual 207, 3) := by decide +kernel
theorem dX12_put_12 : decode cX12_put 12 = .ok (.ireturn, 1) := by decide +kernel
theorem dX12_put_13 : decode cX12_put 13 = .ok (.aload_n 0, 1) := by decide +kernel
theorem dX12_put_14 : decode cX12_put 14 = .ok (.iload_n 1, 1) := by decide +kernel
theorem dX12_put_15 : decode cX12_put 15 = .ok (.iload_n 2, 1) := by decide +kernel
theorem dX12_put_16 : decode cX12_put 16 = .ok (.invokevirtual 213, 3) := by decide +kernel
theorem dX12_put_19 : decode cX12_put 19 = .ok (.ifCond .le 14, 3) := by decide +kernel
theorem dX12_put_22 : decode cX12_put 22 = .ok (.aload_n 0, 1) := by decide +kernel
theorem dX12_put_23 : decode cX12_put 23 = .ok (.aload_n 0, 1) := by decide +kernel
theorem dX12_put_24 : decode cX12_put 24 = .ok (.iload_n 1, 1) := by decide +kernel
theorem dX12_put_25 : decode cX12_put 25 = .ok (.iload_n 2, 1) := by decide +kernel
theorem dX12_put_26 : decode cX12_put 26 = .ok (.invokevirtual 213, 3) := by decide +kernel
theorem dX12_put_29 : decode cX12_put 29 = .ok (.invokevirtual 210, 3) := by decide +kernel
theorem dX12_put_32 : decode cX12_put 32 = .ok (.ireturn, 1) := by decide +kernel
theorem dX12_put_33 : decode cX12_put 33 = .ok (.aload_n 0, 1) := by decide +kernel
theorem dX12_put_34 : decode cX12_put 34 = .ok (.getfield 87, 3) := by decide +kernel
theorem dX12_put_37 : decode cX12_put 37 = .ok (.iload_n 1, 1) := by decide +kernel
theorem dX12_put_38 : decode cX12_put 38 = .ok (.iaload, 1) := by decide +kernel
theorem dX12_put_39 : decode cX12_put 39 = .ok (.istore 5, 2) := by decide +kernel
theorem dX12_put_41 : decode cX12_put 41 = .ok (.aload_n 0, 1) := by decide +kernel
theorem dX12_put_42 : decode cX12_put 42 = .ok (.getfield 90, 3) := by decide +kernel
theorem dX12_put_45 : decode cX12_put 45 = .ok (.bipush 24, 2) := by decide +kernel
theorem dX12_put_47 : decode cX12_put 47 = .ok (.iload_n 1, 1) := by decide +kernel
theorem dX12_put_48 : decode cX12_put 48 = .ok (.imul, 1) := by decide +kernel
theorem dX12_put_49 : decode cX12_put 49 = .ok (.iload_n 2, 1) := by decide +kernel
theorem dX12_put_50 : decode cX12_put 50 = .ok (.iadd, 1) := by decide +kernel
theorem dX12_put_51 : decode cX12_put 51 = .ok (.iload 5, 2) := by decide +kernel
theorem dX12_put_53 : decode cX12_put 53 = .ok (.ifCond .ne 10, 3) := by decide +kernel
theorem dX12_put_56 : decode cX12_put 56 = .ok (.lload_n 3, 1) := by decide +kernel
theorem dX12_put_57 : decode cX12_put 57 = .ok (.l2i, 1) := by decide +kernel
theorem dX12_put_58 : decode cX12_put 58 = .ok (.i2b, 1) := by decide +kernel
theorem dX12_put_59 : decode cX12_put 59 = .ok (.i2l, 1) := by decide +kernel
theorem dX12_put_60 : decode cX12_put 60 = .ok (.goto 29, 3) := by decide +kernel
theorem dX12_put_63 : decode cX12_put 63 = .ok (.iload 5, 2) := by decide +kernel
theorem dX12_put_65 : decode cX12_put 65 = .ok (.iconst 1, 1) := by decide +kernel
theorem dX12_put_66 : decode cX12_put 66 = .ok (.if_icmp .ne 10, 3) := by decide +kernel
theorem dX12_put_69 : decode cX12_put 69 = .ok (.lload_n 3, 1) := by decide +kernel
theorem dX12_put_70 : decode cX12_put 70 = .ok (.l2i, 1) := by decide +kernel
theorem dX12_put_71 : decode cX12_put 71 = .ok (.i2s, 1) := by decide +kernel
theorem dX12_put_72 : decode cX12_put 72 = .ok (.i2l, 1) := by decide +kernel
theorem dX12_put_73 : decode cX12_put 73 = .ok (.goto 16, 3) := by decide +kernel
theorem dX12_put_76 : decode cX12_put 76 = .ok (.iload 5, 2) := by decide +kernel
theorem dX12_put_78 : decode cX12_put 78 = .ok (.iconst 2, 1) := by decide +kernel
theorem dX12_put_79 : decode cX12_put 79 = .ok (.if_icmp .ne 9, 3) := by decide +kernel
theorem dX12_put_82 : decode cX12_put 82 = .ok (.lload_n 3, 1) := by decide +kernel
theorem dX12_put_83 : decode cX12_put 83 = .ok (.l2i, 1) := by decide +kernel
theorem dX12_put_84 : decode cX12_put 84 = .ok (.i2l, 1) := by decide +kernel
theorem dX12_put_85 : decode cX12_put 85 = .ok (.goto 4, 3) := by decide +kernel
theorem dX12_put_88 : decode cX12_put 88 = .ok (.lload_n 3, 1) := by decide +kernel
theorem dX12_put_89 : decode cX12_put 89 = .ok (.lastore, 1) := by decide +kernel
theorem dX12_put_90 : decode cX12_put 90 = .ok (.aload_n 0, 1) := by decide +kernel
theorem dX12_put_91 : decode cX12_put 91 = .ok (.iconst 1, 1) := by decide +kernel
theorem dX12_put_92 : decode cX12_put 92 = .ok (.invokevirtual 207, 3) := by decide +kernel
theorem dX12_put_95 : decode cX12_put 95 = .ok (.ireturn, 1) := by decide +kernel
set_option maxRecDepth 20000 in
theorem ggX12_cell_X12_noCore : GoodIn wsX12_cell wsX12_noCore := goodIn_r _ [8, 9, 10, 7, 11] (by decide +kernel) (by decide +kernel)
set_option maxRecDepth 20000 in
theorem gX12_cell_X12_noCore : GoodIn wsX12_cell (va_wsS RX12 204 yX12_noCore wsX12_noCore) := goodIn_app (goodIn_of _ (by decide +kernel)) ggX12_cell_X12_noCore
set_option maxRecDepth 20000 in
theorem ggX12_cell_X12_among : GoodIn wsX12_cell wsX12_among := goodIn_r _ [11] (by decide +kernel) (by decide +kernel)
set_option maxRecDepth 20000 in
theorem gX12_cell_X12_among : GoodIn wsX12_cell (va_wsS RX12 112 yX12_among wsX12_among) := goodIn_app (goodIn_of _ (by decide +kernel)) ggX12_cell_X12_among
set_option maxRecDepth 20000 in
theorem ggX12_cell_X12_lost : GoodIn wsX12_cell wsX12_lost := goodIn_r _ [14, 15] (by decide +kernel) (by decide +kernel)
set_option maxRecDepth 20000 in
theorem gX12_cell_X12_lost : GoodIn wsX12_cell (va_wsS RX12 105 yX12_lost wsX12_lost) := goodIn_app (goodIn_of _ (by decide +kernel)) ggX12_cell_X12_lost
set_option maxRecDepth 20000 in
theorem ggX12_cell_X12_failedLong : GoodIn wsX12_cell wsX12_failedLong := goodIn_r _ [19, 1, 12, 13, 7, 14, 15, 24, 25, 26, 27, 28, 29, 30, 31, 32, 33, 34, 35, 36, 37, 38, 39, 40, 41, 42, 43, 44, 45, 46, 47, 48, 49, 50, 51, 52, 53, 54, 55, 56, 57, 58, 59, 60, 61, 62] (by decide +kernel) (by decide +kernel)
set_option maxRecDepth 20000 in
theorem gX12_cell_X12_failedLong : GoodIn wsX12_cell (wsV RX12 216 RX12 yX12_failedLong wsX12_failedLong) := goodIn_app (goodIn_of _ (by decide +kernel)) ggX12_cell_X12_failedLong
set_option maxRecDepth 20000 in
theorem ggX12_cell_X12_noCell : GoodIn wsX12_cell wsX12_noCell := goodIn_r _ [23, 2, 9, 10, 7, 11, 24, 25, 26, 27, 28, 29, 30, 31, 32, 33, 34, 35, 36, 37, 38, 39, 40, 41, 42, 43, 44, 45, 46, 47, 48, 49, 50, 51, 52, 53, 54, 55, 56, 57, 58, 59, 60, 61, 62] (by decide +kernel) (by decide +kernel)
set_option maxRecDepth 20000 in
theorem gX12_cell_X12_noCell : GoodIn wsX12_cell (wsV RX12 213 RX12 yX12_noCell wsX12_noCell) := goodIn_app (goodIn_of _ (by decide +kernel)) ggX12_cell_X12_noCell
theorem dX12_cell_0 : decode cX12_cell 0 = .ok (.aload_n 0, 1) := by decide +kernel
theorem dX12_cell_1 : decode cX12_cell 1 = .ok (.iconst 0, 1) := by decide +kernel
theorem dX12_cell_2 : decode cX12_cell 2 = .ok (.putfield 102, 3) := by decide +kernel
theorem dX12_cell_5 : decode cX12_cell 5 = .ok (.iload_n 1, 1) := by decide +kernel
theorem dX12_cell_6 : decode cX12_cell 6 = .ok (.invokestatic 204, 3) := by decide +kernel
theorem dX12_cell_9 : decode cX12_cell 9 = .ok (.ifCond .ne 12, 3) := by decide +kernel
theorem dX12_cell_12 : decode cX12_cell 12 = .ok (.iload_n 3, 1) := by decide +kernel
theorem dX12_cell_13 : decode cX12_cell 13 = .ok (.iconst 0, 1) := by decide +kernel
theorem dX12_cell_14 : decode cX12_cell 14 = .ok (.iconst 3, 1) := by decide +kernel
theorem dX12_cell_15 : decode cX12_cell 15 = .ok (.invokestatic 112, 3) := by decide +kernel
theorem dX12_cell_18 : decode cX12_cell 18 = .ok (.ifCond .ne 7, 3) := by decide +kernel
theorem dX12_cell_21 : decode cX12_cell 21 = .ok (.invokestatic 105, 3) := by decide +kernel
theorem dX12_cell_24 : decode cX12_cell 24 = .ok (.lreturn, 1) := by decide +kernel
theorem dX12_cell_25 : decode cX12_cell 25 = .ok (.aload_n 0, 1) := by decide +kernel
theorem dX12_cell_26 : decode cX12_cell 26 = .ok (.getfield 84, 3) := by decide +kernel
theorem dX12_cell_29 : decode cX12_cell 29 = .ok (.iload_n 1, 1) := by decide +kernel
theorem dX12_cell_30 : decode cX12_cell 30 = .ok (.iaload, 1) := by decide +kernel
theorem dX12_cell_31 : decode cX12_cell 31 = .ok (.ifCond .lt 19, 3) := by decide +kernel
theorem dX12_cell_34 : decode cX12_cell 34 = .ok (.aload_n 0, 1) := by decide +kernel
theorem dX12_cell_35 : decode cX12_cell 35 = .ok (.getfield 87, 3) := by decide +kernel
theorem dX12_cell_38 : decode cX12_cell 38 = .ok (.iload_n 1, 1) := by decide +kernel
theorem dX12_cell_39 : decode cX12_cell 39 = .ok (.iaload, 1) := by decide +kernel
theorem dX12_cell_40 : decode cX12_cell 40 = .ok (.iload_n 3, 1) := by decide +kernel
theorem dX12_cell_41 : decode cX12_cell 41 = .ok (.if_icmp .eq 9, 3) := by decide +kernel
theorem dX12_cell_44 : decode cX12_cell 44 = .ok (.aload_n 0, 1) := by decide +kernel
theorem dX12_cell_45 : decode cX12_cell 45 = .ok (.iconst 2, 1) := by decide +kernel
theorem dX12_cell_46 : decode cX12_cell 46 = .ok (.invokevirtual 216, 3) := by decide +kernel
theorem dX12_cell_49 : decode cX12_cell 49 = .ok (.lreturn, 1) := by decide +kernel
theorem dX12_cell_50 : decode cX12_cell 50 = .ok (.aload_n 0, 1) := by decide +kernel
theorem dX12_cell_51 : decode cX12_cell 51 = .ok (.iload_n 1, 1) := by decide +kernel
theorem dX12_cell_52 : decode cX12_cell 52 = .ok (.iload_n 2, 1) := by decide +kernel
theorem dX12_cell_53 : decode cX12_cell 53 = .ok (.invokevirtual 213, 3) := by decide +kernel
theorem dX12_cell_56 : decode cX12_cell 56 = .ok (.ifCond .le 16, 3) := by decide +kernel
theorem dX12_cell_59 : decode cX12_cell 59 = .ok (.aload_n 0, 1) := by decide +kernel
theorem dX12_cell_60 : decode cX12_cell 60 = .ok (.aload_n 0, 1) := by decide +kernel
theorem dX12_cell_61 : decode cX12_cell 61 = .ok (.iload_n 1, 1) := by decide +kernel
theorem dX12_cell_62 : decode cX12_cell 62 = .ok (.iload_n 2, 1) := by decide +kernel
theorem dX12_cell_63 : decode cX12_cell 63 = .ok (.invokevirtual 213, 3) := by decide +kernel
theorem dX12_cell_66 : decode cX12_cell 66 = .ok (.invokevirtual 216, 3) := by decide +kernel
theorem dX12_cell_69 : decode cX12_cell 69 = .ok (.goto 14, 3) := by decide +kernel
theorem dX12_cell_72 : decode cX12_cell 72 = .ok (.aload_n 0, 1) := by decide +kernel
theorem dX12_cell_73 : decode cX12_cell 73 = .ok (.getfield 90, 3) := by decide +kernel
theorem dX12_cell_76 : decode cX12_cell 76 = .ok (.bipush 24, 2) := by decide +kernel
theorem dX12_cell_78 : decode cX12_cell 78 = .ok (.iload_n 1, 1) := by decide +kernel
theorem dX12_cell_79 : decode cX12_cell 79 = .ok (.imul, 1) := by decide +kernel
theorem dX12_cell_80 : decode cX12_cell 80 = .ok (.iload_n 2, 1) := by decide +kernel
theorem dX12_cell_81 : decode cX12_cell 81 = .ok (.iadd, 1) := by decide +kernel
theorem dX12_cell_82 : decode cX12_cell 82 = .ok (.laload, 1) := by decide +kernel
theorem dX12_cell_83 : decode cX12_cell 83 = .ok (.lreturn, 1) := by decide +kernel
theorem dX12_isBeyond_0 : decode cX12_isBeyond 0 = .ok (.iload_n 0, 1) := by decide +kernel
theorem dX12_isBeyond_1 : decode cX12_isBeyond 1 = .ok (.ifCond .lt 18, 3) := by decide +kernel
theorem dX12_isBeyond_4 : decode cX12_isBeyond 4 = .ok (.iload_n 1, 1) := by decide +kernel
theorem dX12_isBeyond_5 : decode cX12_isBeyond 5 = .ok (.ifCond .lt 14, 3) := by decide +kernel
theorem dX12_isBeyond_8 : decode cX12_isBeyond 8 = .ok (.iload_n 0, 1) := by decide +kernel
theorem dX12_isBeyond_9 : decode cX12_isBeyond 9 = .ok (.i2l, 1) := by decide +kernel
theorem dX12_isBeyond_10 : decode cX12_isBeyond 10 = .ok (.iload_n 1, 1) := by decide +kernel
theorem dX12_isBeyond_11 : decode cX12_isBeyond 11 = .ok (.i2l, 1) := by decide +kernel
theorem dX12_isBeyond_12 : decode cX12_isBeyond 12 = .ok (.ladd, 1) := by decide +kernel
theorem dX12_isBeyond_13 : decode cX12_isBeyond 13 = .ok (.iload_n 2, 1) := by decide +kernel
theorem dX12_isBeyond_14 : decode cX12_isBeyond 14 = .ok (.i2l, 1) := by decide +kernel
theorem dX12_isBeyond_15 : decode cX12_isBeyond 15 = .ok (.lcmp, 1) := by decide +kernel
theorem dX12_isBeyond_16 : decode cX12_isBeyond 16 = .ok (.ifCond .le 7, 3) := by decide +kernel
theorem dX12_isBeyond_19 : decode cX12_isBeyond 19 = .ok (.iconst 1, 1) := by decide +kernel
theorem dX12_isBeyond_20 : decode cX12_isBeyond 20 = .ok (.goto 4, 3) := by decide +kernel
theorem dX12_isBeyond_23 : decode cX12_isBeyond 23 = .ok (.iconst 0, 1) := by decide +kernel
theorem dX12_isBeyond_24 : decode cX12_isBeyond 24 = .ok (.ireturn, 1) := by decide +kernel
set_option maxRecDepth 20000 in
theorem ggX12_copy_X12_noCore : GoodIn wsX12_copy wsX12_noCore := goodIn_r _ [8, 9, 10, 7, 11] (by decide +kernel) (by decide +kernel)
set_option maxRecDepth 20000 in
theorem gX12_copy_X12_noCore : GoodIn wsX12_copy (va_wsS RX12 204 yX12_noCore wsX12_noCore) := goodIn_app (goodIn_of _ (by decide +kernel)) ggX12_copy_X12_noCore
set_option maxRecDepth 20000 in
theorem ggX12_copy_X12_refused : GoodIn wsX12_copy wsX12_refused := goodIn_r _ [15, 16, 24, 25, 26, 27, 28, 29, 30, 31, 32, 33, 34, 35, 36, 37, 38, 39, 40, 41, 42, 43, 44, 45, 46, 47, 48, 49, 50, 51, 52, 53, 54, 55, 56, 57, 58, 59, 60, 61, 62] (by decide +kernel) (by decide +kernel)
set_option maxRecDepth 20000 in
theorem gX12_copy_X12_refused : GoodIn wsX12_copy (wsV RX12 207 RX12 yX12_refused wsX12_refused) := goodIn_app (goodIn_of _ (by decide +kernel)) ggX12_copy_X12_refused
set_option maxRecDepth 20000 in
theorem ggX12_copy_X12_failed : GoodIn wsX12_copy wsX12_failed := goodIn_r _ [20, 16, 24, 25, 26, 27, 28, 29, 30, 31, 32, 33, 34, 35, 36, 37, 38, 39, 40, 41, 42, 43, 44, 45, 46, 47, 48, 49, 50, 51, 52, 53, 54, 55, 56, 57, 58, 59, 60, 61, 62] (by decide +kernel) (by decide +kernel)
set_option maxRecDepth 20000 in
theorem gX12_copy_X12_failed : GoodIn wsX12_copy (wsV RX12 210 RX12 yX12_failed wsX12_failed) := goodIn_app (goodIn_of _ (by decide +kernel)) ggX12_copy_X12_failed
set_option maxRecDepth 20000 in
theorem ggX12_copy_X12_isBeyond : GoodIn wsX12_copy wsX12_isBeyond := goodIn_r _ [23] (by decide +kernel) (by decide +kernel)
set_option maxRecDepth 20000 in
theorem gX12_copy_X12_isBeyond : GoodIn wsX12_copy (va_wsS RX12 219 yX12_isBeyond wsX12_isBeyond) := goodIn_app (goodIn_of _ (by decide +kernel)) ggX12_copy_X12_isBeyond
theorem dX12_copy_0 : decode cX12_copy 0 = .ok (.iload_n 1, 1) := by decide +kernel
theorem dX12_copy_1 : decode cX12_copy 1 = .ok (.invokestatic 204, 3) := by decide +kernel
theorem dX12_copy_4 : decode cX12_copy 4 = .ok (.ifCond .ne 10, 3) := by decide +kernel
theorem dX12_copy_7 : decode cX12_copy 7 = .ok (.iload_n 3, 1) := by decide +kernel
theorem dX12_copy_8 : decode cX12_copy 8 = .ok (.invokestatic 204, 3) := by decide +kernel
theorem dX12_copy_11 : decode cX12_copy 11 = .ok (.ifCond .eq 9, 3) := by decide +kernel
theorem dX12_copy_14 : decode cX12_copy 14 = .ok (.aload_n 0, 1) := by decide +kernel
theorem dX12_copy_15 : decode cX12_copy 15 = .ok (.iconst (-1), 1) := by decide +kernel
theorem dX12_copy_16 : decode cX12_copy 16 = .ok (.invokevirtual 207, 3) := by decide +kernel
theorem dX12_copy_19 : decode cX12_copy 19 = .ok (.ireturn, 1) := by decide +kernel
theorem dX12_copy_20 : decode cX12_copy 20 = .ok (.aload_n 0, 1) := by decide +kernel
theorem dX12_copy_21 : decode cX12_copy 21 = .ok (.getfield 84, 3) := by decide +kernel
theorem dX12_copy_24 : decode cX12_copy 24 = .ok (.iload_n 1, 1) := by decide +kernel
theorem dX12_copy_25 : decode cX12_copy 25 = .ok (.iaload, 1) := by decide +kernel
theorem dX12_copy_26 : decode cX12_copy 26 = .ok (.ifCond .lt 12, 3) := by decide +kernel
theorem dX12_copy_29 : decode cX12_copy 29 = .ok (.aload_n 0, 1) := by decide +kernel
theorem dX12_copy_30 : decode cX12_copy 30 = .ok (.getfield 84, 3) := by decide +kernel
theorem dX12_copy_33 : decode cX12_copy 33 = .ok (.iload_n 3, 1) := by decide +kernel
theorem dX12_copy_34 : decode cX12_copy 34 = .ok (.iaload, 1) := by decide +kernel
theorem dX12_copy_35 : decode cX12_copy 35 = .ok (.ifCond .ge 9, 3) := by decide +kernel
theorem dX12_copy_38 : decode cX12_copy 38 = .ok (.aload_n 0, 1) := by decide +kernel
theorem dX12_copy_39 : decode cX12_copy 39 = .ok (.iconst 1, 1) := by decide +kernel
theorem dX12_copy_40 : decode cX12_copy 40 = .ok (.invokevirtual 210, 3) := by decide +kernel
theorem dX12_copy_43 : decode cX12_copy 43 = .ok (.ireturn, 1) := by decide +kernel
theorem dX12_copy_44 : decode cX12_copy 44 = .ok (.aload_n 0, 1) := by decide +kernel
theorem dX12_copy_45 : decode cX12_copy 45 = .ok (.getfield 87, 3) := by decide +kernel
theorem dX12_copy_48 : decode cX12_copy 48 = .ok (.iload_n 1, 1) := by decide +kernel
theorem dX12_copy_49 : decode cX12_copy 49 = .ok (.iaload, 1) := by decide +kernel
theorem dX12_copy_50 : decode cX12_copy 50 = .ok (.aload_n 0, 1) := by decide +kernel
theorem dX12_copy_51 : decode cX12_copy 51 = .ok (.getfield 87, 3) := by decide +kernel
theorem dX12_copy_54 : decode cX12_copy 54 = .ok (.iload_n 3, 1) := by decide +kernel
theorem dX12_copy_55 : decode cX12_copy 55 = .ok (.iaload, 1) := by decide +kernel
theorem dX12_copy_56 : decode cX12_copy 56 = .ok (.if_icmp .eq 9, 3) := by decide +kernel
theorem dX12_copy_59 : decode cX12_copy 59 = .ok (.aload_n 0, 1) := by decide +kernel
theorem dX12_copy_60 : decode cX12_copy 60 = .ok (.iconst 2, 1) := by decide +kernel
theorem dX12_copy_61 : decode cX12_copy 61 = .ok (.invokevirtual 210, 3) := by decide +kernel
theorem dX12_copy_64 : decode cX12_copy 64 = .ok (.ireturn, 1) := by decide +kernel
theorem dX12_copy_65 : decode cX12_copy 65 = .ok (.iload_n 2, 1) := by decide +kernel
theorem dX12_copy_66 : decode cX12_copy 66 = .ok (.iload 5, 2) := by decide +kernel
theorem dX12_copy_68 : decode cX12_copy 68 = .ok (.aload_n 0, 1) := by decide +kernel
theorem dX12_copy_69 : decode cX12_copy 69 = .ok (.getfield 84, 3) := by decide +kernel
theorem dX12_copy_72 : decode cX12_copy 72 = .ok (.iload_n 1, 1) := by decide +kernel
theorem dX12_copy_73 : decode cX12_copy 73 = .ok (.iaload, 1) := by decide +kernel
theorem dX12_copy_74 : decode cX12_copy 74 = .ok (.invokestatic 219, 3) := by decide +kernel
theorem dX12_copy_77 : decode cX12_copy 77 = .ok (.ifCond .ne 19, 3) := by decide +kernel
theorem dX12_copy_80 : decode cX12_copy 80 = .ok (.iload 4, 2) := by decide +kernel
theorem dX12_copy_82 : decode cX12_copy 82 = .ok (.iload 5, 2) := by decide +kernel
theorem dX12_copy_84 : decode cX12_copy 84 = .ok (.aload_n 0, 1) := by decide +kernel
theorem dX12_copy_85 : decode cX12_copy 85 = .ok (.getfield 84, 3) := by decide +kernel
theorem dX12_copy_88 : decode cX12_copy 88 = .ok (.iload_n 3, 1) := by decide +kernel
theorem dX12_copy_89 : decode cX12_copy 89 = .ok (.iaload, 1) := by decide +kernel
theorem dX12_copy_90 : decode cX12_copy 90 = .ok (.invokestatic 219, 3) := by decide +kernel
theorem dX12_copy_93 : decode cX12_copy 93 = .ok (.ifCond .eq 9, 3) := by decide +kernel
theorem dX12_copy_96 : decode cX12_copy 96 = .ok (.aload_n 0, 1) := by decide +kernel
theorem dX12_copy_97 : decode cX12_copy 97 = .ok (.iconst 3, 1) := by decide +kernel
theorem dX12_copy_98 : decode cX12_copy 98 = .ok (.invokevirtual 210, 3) := by decide +kernel
theorem dX12_copy_101 : decode cX12_copy 101 = .ok (.ireturn, 1) := by decide +kernel
theorem dX12_copy_102 : decode cX12_copy 102 = .ok (.iconst 0, 1) := by decide +kernel
theorem dX12_copy_103 : decode cX12_copy 103 = .ok (.istore 6, 2) := by decide +kernel
theorem dX12_copy_105 : decode cX12_copy 105 = .ok (.iload 6, 2) := by decide +kernel
theorem dX12_copy_107 : decode cX12_copy 107 = .ok (.iload 5, 2) := by decide +kernel
theorem dX12_copy_109 : decode cX12_copy 109 = .ok (.if_icmp .ge 30, 3) := by decide +kernel
theorem dX12_copy_112 : decode cX12_copy 112 = .ok (.aload_n 0, 1) := by decide +kernel
theorem dX12_copy_113 : decode cX12_copy 113 = .ok (.getfield 93, 3) := by decide +kernel
theorem dX12_copy_116 : decode cX12_copy 116 = .ok (.iload 6, 2) := by decide +kernel
theorem dX12_copy_118 : decode cX12_copy 118 = .ok (.aload_n 0, 1) := by decide +kernel
theorem dX12_copy_119 : decode cX12_copy 119 = .ok (.getfield 90, 3) := by decide +kernel
theorem dX12_copy_122 : decode cX12_copy 122 = .ok (.bipush 24, 2) := by decide +kernel
theorem dX12_copy_124 : decode cX12_copy 124 = .ok (.iload_n 1, 1) := by decide +kernel
theorem dX12_copy_125 : decode cX12_copy 125 = .ok (.imul, 1) := by decide +kernel
theorem dX12_copy_126 : decode cX12_copy 126 = .ok (.iload_n 2, 1) := by decide +kernel
theorem dX12_copy_127 : decode cX12_copy 127 = .ok (.iadd, 1) := by decide +kernel
theorem dX12_copy_128 : decode cX12_copy 128 = .ok (.iload 6, 2) := by decide +kernel
theorem dX12_copy_130 : decode cX12_copy 130 = .ok (.iadd, 1) := by decide +kernel
theorem dX12_copy_131 : decode cX12_copy 131 = .ok (.laload, 1) := by decide +kernel
theorem dX12_copy_132 : decode cX12_copy 132 = .ok (.lastore, 1) := by decide +kernel
theorem dX12_copy_133 : decode cX12_copy 133 = .ok (.iinc 6 1, 3) := by decide +kernel
theorem dX12_copy_136 : decode cX12_copy 136 = .ok (.goto (-31), 3) := by decide +kernel
theorem dX12_copy_139 : decode cX12_copy 139 = .ok (.iconst 0, 1) := by decide +kernel
theorem dX12_copy_140 : decode cX12_copy 140 = .ok (.istore 6, 2) := by decide +kernel
theorem dX12_copy_142 : decode cX12_copy 142 = .ok (.iload 6, 2) := by decide +kernel
theorem dX12_copy_144 : decode cX12_copy 144 = .ok (.iload 5, 2) := by decide +kernel
theorem dX12_copy_146 : decode cX12_copy 146 = .ok (.if_icmp .ge 31, 3) := by decide +kernel
theorem dX12_copy_149 : decode cX12_copy 149 = .ok (.aload_n 0, 1) := by decide +kernel
theorem dX12_copy_150 : decode cX12_copy 150 = .ok (.getfield 90, 3) := by decide +kernel
theorem dX12_copy_153 : decode cX12_copy 153 = .ok (.bipush 24, 2) := by decide +kernel
theorem dX12_copy_155 : decode cX12_copy 155 = .ok (.iload_n 3, 1) := by decide +kernel
theorem dX12_copy_156 : decode cX12_copy 156 = .ok (.imul, 1) := by decide +kernel
theorem dX12_copy_157 : decode cX12_copy 157 = .ok (.iload 4, 2) := by decide +kernel
theorem dX12_copy_159 : decode cX12_copy 159 = .ok (.iadd, 1) := by decide +kernel
theorem dX12_copy_160 : decode cX12_copy 160 = .ok (.iload 6, 2) := by decide +kernel
theorem dX12_copy_162 : decode cX12_copy 162 = .ok (.iadd, 1) := by decide +kernel
theorem dX12_copy_163 : decode cX12_copy 163 = .ok (.aload_n 0, 1) := by decide +kernel
theorem dX12_copy_164 : decode cX12_copy 164 = .ok (.getfield 93, 3) := by decide +kernel
theorem dX12_copy_167 : decode cX12_copy 167 = .ok (.iload 6, 2) := by decide +kernel
theorem dX12_copy_169 : decode cX12_copy 169 = .ok (.laload, 1) := by decide +kernel
theorem dX12_copy_170 : decode cX12_copy 170 = .ok (.lastore, 1) := by decide +kernel
theorem dX12_copy_171 : decode cX12_copy 171 = .ok (.iinc 6 1, 3) := by decide +kernel
theorem dX12_copy_174 : decode cX12_copy 174 = .ok (.goto (-32), 3) := by decide +kernel
theorem dX12_copy_177 : decode cX12_copy 177 = .ok (.aload_n 0, 1) := by decide +kernel
theorem dX12_copy_178 : decode cX12_copy 178 = .ok (.iload 5, 2) := by decide +kernel
theorem dX12_copy_180 : decode cX12_copy 180 = .ok (.invokevirtual 207, 3) := by decide +kernel
theorem dX12_copy_183 : decode cX12_copy 183 = .ok (.ireturn, 1) := by decide +kernel
set_option maxRecDepth 20000 in
theorem ggX12_widths_X12_noCore : GoodIn wsX12_widths wsX12_noCore := goodIn_r _ [11, 12, 13, 10, 14] (by decide +kernel) (by decide +kernel)
set_option maxRecDepth 20000 in
theorem gX12_widths_X12_noCore : GoodIn wsX12_widths (va_wsS RX12 204 yX12_noCore wsX12_noCore) := goodIn_app (goodIn_of _ (by decide +kernel)) ggX12_widths_X12_noCore
set_option maxRecDepth 20000 in
theorem ggX12_widths_X12_noCrack : GoodIn wsX12_widths wsX12_noCrack := goodIn_r _ [18, 3, 12, 13, 10, 14, 31, 32, 33, 34, 35, 36, 37, 38, 39, 40, 41, 42, 43, 44, 45, 46, 47, 48, 49, 50, 51, 52, 53, 54, 55, 56, 57, 58, 59, 60, 61, 62, 63, 64, 65, 66, 67, 68, 69] (by decide +kernel) (by decide +kernel)
set_option maxRecDepth 20000 in
theorem gX12_widths_X12_noCrack : GoodIn wsX12_widths (wsV RX12 123 RX12 yX12_noCrack wsX12_noCrack) := goodIn_app (goodIn_of _ (by decide +kernel)) ggX12_widths_X12_noCrack
set_option maxRecDepth 20000 in
theorem ggX12_widths_X12_refused : GoodIn wsX12_widths wsX12_refused := goodIn_r _ [22, 23, 31, 32, 33, 34, 35, 36, 37, 38, 39, 40, 41, 42, 43, 44, 45, 46, 47, 48, 49, 50, 51, 52, 53, 54, 55, 56, 57, 58, 59, 60, 61, 62, 63, 64, 65, 66, 67, 68, 69] (by decide +kernel) (by decide +kernel)
set_option maxRecDepth 20000 in
theorem gX12_widths_X12_refused : GoodIn wsX12_widths (wsV RX12 207 RX12 yX12_refused wsX12_refused) := goodIn_app (goodIn_of _ (by decide +kernel)) ggX12_widths_X12_refused
set_option maxRecDepth 20000 in
theorem ggX12_widths_X12_among : GoodIn wsX12_widths wsX12_among := goodIn_r _ [14] (by decide +kernel) (by decide +kernel)
set_option maxRecDepth 20000 in
theorem gX12_widths_X12_among : GoodIn wsX12_widths (va_wsS RX12 112 yX12_among wsX12_among) := goodIn_app (goodIn_of _ (by decide +kernel)) ggX12_widths_X12_among
set_option maxRecDepth 20000 in
theorem ggX12_widths_X12_failed : GoodIn wsX12_widths wsX12_failed := goodIn_r _ [27, 23, 31, 32, 33, 34, 35, 36, 37, 38, 39, 40, 41, 42, 43, 44, 45, 46, 47, 48, 49, 50, 51, 52, 53, 54, 55, 56, 57, 58, 59, 60, 61, 62, 63, 64, 65, 66, 67, 68, 69] (by decide +kernel) (by decide +kernel)
set_option maxRecDepth 20000 in
theorem gX12_widths_X12_failed : GoodIn wsX12_widths (wsV RX12 210 RX12 yX12_failed wsX12_failed) := goodIn_app (goodIn_of _ (by decide +kernel)) ggX12_widths_X12_failed
set_option maxRecDepth 20000 in
theorem ggX12_widths_X12_isBeyond : GoodIn wsX12_widths wsX12_isBeyond := goodIn_r _ [30] (by decide +kernel) (by decide +kernel)
set_option maxRecDepth 20000 in
theorem gX12_widths_X12_isBeyond : GoodIn wsX12_widths (va_wsS RX12 219 yX12_isBeyond wsX12_isBeyond) := goodIn_app (goodIn_of _ (by decide +kernel)) ggX12_widths_X12_isBeyond
theorem dX12_widths_0 : decode cX12_widths 0 = .ok (.iload_n 1, 1) := by decide +kernel
theorem dX12_widths_1 : decode cX12_widths 1 = .ok (.invokestatic 204, 3) := by decide +kernel
theorem dX12_widths_4 : decode cX12_widths 4 = .ok (.ifCond .ne 12, 3) := by decide +kernel
theorem dX12_widths_7 : decode cX12_widths 7 = .ok (.aload_n 0, 1) := by decide +kernel
theorem dX12_widths_8 : decode cX12_widths 8 = .ok (.iload 5, 2) := by decide +kernel
theorem dX12_widths_10 : decode cX12_widths 10 = .ok (.invokevirtual 123, 3) := by decide +kernel
theorem dX12_widths_13 : decode cX12_widths 13 = .ok (.ifCond .eq 9, 3) := by decide +kernel
theorem dX12_widths_16 : decode cX12_widths 16 = .ok (.aload_n 0, 1) := by decide +kernel
theorem dX12_widths_17 : decode cX12_widths 17 = .ok (.iconst (-1), 1) := by decide +kernel
theorem dX12_widths_18 : decode cX12_widths 18 = .ok (.invokevirtual 207, 3) := by decide +kernel
theorem dX12_widths_21 : decode cX12_widths 21 = .ok (.ireturn, 1) := by decide +kernel
theorem dX12_widths_22 : decode cX12_widths 22 = .ok (.iload_n 2, 1) := by decide +kernel
theorem dX12_widths_23 : decode cX12_widths 23 = .ok (.iconst 0, 1) := by decide +kernel
theorem dX12_widths_24 : decode cX12_widths 24 = .ok (.iconst 3, 1) := by decide +kernel
theorem dX12_widths_25 : decode cX12_widths 25 = .ok (.invokestatic 112, 3) := by decide +kernel
theorem dX12_widths_28 : decode cX12_widths 28 = .ok (.ifCond .ne 10, 3) := by decide +kernel
theorem dX12_widths_31 : decode cX12_widths 31 = .ok (.aload_n 0, 1) := by decide +kernel
theorem dX12_widths_32 : decode cX12_widths 32 = .ok (.bipush (-2), 2) := by decide +kernel
theorem dX12_widths_34 : decode cX12_widths 34 = .ok (.invokevirtual 207, 3) := by decide +kernel
theorem dX12_widths_37 : decode cX12_widths 37 = .ok (.ireturn, 1) := by decide +kernel
theorem dX12_widths_38 : decode cX12_widths 38 = .ok (.aload_n 0, 1) := by decide +kernel
theorem dX12_widths_39 : decode cX12_widths 39 = .ok (.getfield 84, 3) := by decide +kernel
theorem dX12_widths_42 : decode cX12_widths 42 = .ok (.iload_n 1, 1) := by decide +kernel
theorem dX12_widths_43 : decode cX12_widths 43 = .ok (.iaload, 1) := by decide +kernel
theorem dX12_widths_44 : decode cX12_widths 44 = .ok (.ifCond .lt 19, 3) := by decide +kernel
theorem dX12_widths_47 : decode cX12_widths 47 = .ok (.aload_n 0, 1) := by decide +kernel
theorem dX12_widths_48 : decode cX12_widths 48 = .ok (.getfield 87, 3) := by decide +kernel
theorem dX12_widths_51 : decode cX12_widths 51 = .ok (.iload_n 1, 1) := by decide +kernel
theorem dX12_widths_52 : decode cX12_widths 52 = .ok (.iaload, 1) := by decide +kernel
theorem dX12_widths_53 : decode cX12_widths 53 = .ok (.iload_n 2, 1) := by decide +kernel
theorem dX12_widths_54 : decode cX12_widths 54 = .ok (.if_icmp .eq 9, 3) := by decide +kernel
theorem dX12_widths_57 : decode cX12_widths 57 = .ok (.aload_n 0, 1) := by decide +kernel
theorem dX12_widths_58 : decode cX12_widths 58 = .ok (.iconst 2, 1) := by decide +kernel
theorem dX12_widths_59 : decode cX12_widths 59 = .ok (.invokevirtual 210, 3) := by decide +kernel
theorem dX12_widths_62 : decode cX12_widths 62 = .ok (.ireturn, 1) := by decide +kernel
theorem dX12_widths_63 : decode cX12_widths 63 = .ok (.aload_n 0, 1) := by decide +kernel
theorem dX12_widths_64 : decode cX12_widths 64 = .ok (.getfield 84, 3) := by decide +kernel
theorem dX12_widths_67 : decode cX12_widths 67 = .ok (.iload_n 1, 1) := by decide +kernel
theorem dX12_widths_68 : decode cX12_widths 68 = .ok (.iaload, 1) := by decide +kernel
theorem dX12_widths_69 : decode cX12_widths 69 = .ok (.ifCond .ge 9, 3) := by decide +kernel
theorem dX12_widths_72 : decode cX12_widths 72 = .ok (.aload_n 0, 1) := by decide +kernel
theorem dX12_widths_73 : decode cX12_widths 73 = .ok (.iconst 1, 1) := by decide +kernel
theorem dX12_widths_74 : decode cX12_widths 74 = .ok (.invokevirtual 210, 3) := by decide +kernel
theorem dX12_widths_77 : decode cX12_widths 77 = .ok (.ireturn, 1) := by decide +kernel
theorem dX12_widths_78 : decode cX12_widths 78 = .ok (.iload 4, 2) := by decide +kernel
theorem dX12_widths_80 : decode cX12_widths 80 = .ok (.ifCond .ge 9, 3) := by decide +kernel
theorem dX12_widths_83 : decode cX12_widths 83 = .ok (.aload_n 0, 1) := by decide +kernel
theorem dX12_widths_84 : decode cX12_widths 84 = .ok (.iconst 4, 1) := by decide +kernel
theorem dX12_widths_85 : decode cX12_widths 85 = .ok (.invokevirtual 210, 3) := by decide +kernel
theorem dX12_widths_88 : decode cX12_widths 88 = .ok (.ireturn, 1) := by decide +kernel
theorem dX12_widths_89 : decode cX12_widths 89 = .ok (.iload_n 3, 1) := by decide +kernel
theorem dX12_widths_90 : decode cX12_widths 90 = .ok (.iload 4, 2) := by decide +kernel
theorem dX12_widths_92 : decode cX12_widths 92 = .ok (.aload_n 0, 1) := by decide +kernel
theorem dX12_widths_93 : decode cX12_widths 93 = .ok (.getfield 84, 3) := by decide +kernel
theorem dX12_widths_96 : decode cX12_widths 96 = .ok (.iload_n 1, 1) := by decide +kernel
theorem dX12_widths_97 : decode cX12_widths 97 = .ok (.iaload, 1) := by decide +kernel
theorem dX12_widths_98 : decode cX12_widths 98 = .ok (.invokestatic 219, 3) := by decide +kernel
theorem dX12_widths_101 : decode cX12_widths 101 = .ok (.ifCond .ne 17, 3) := by decide +kernel
theorem dX12_widths_104 : decode cX12_widths 104 = .ok (.iload 5, 2) := by decide +kernel
theorem dX12_widths_106 : decode cX12_widths 106 = .ok (.iload 4, 2) := by decide +kernel
theorem dX12_widths_108 : decode cX12_widths 108 = .ok (.aload_n 0, 1) := by decide +kernel
theorem dX12_widths_109 : decode cX12_widths 109 = .ok (.getfield 116, 3) := by decide +kernel
theorem dX12_widths_112 : decode cX12_widths 112 = .ok (.invokestatic 219, 3) := by decide +kernel
theorem dX12_widths_115 : decode cX12_widths 115 = .ok (.ifCond .eq 9, 3) := by decide +kernel
theorem dX12_widths_118 : decode cX12_widths 118 = .ok (.aload_n 0, 1) := by decide +kernel
theorem dX12_widths_119 : decode cX12_widths 119 = .ok (.iconst 3, 1) := by decide +kernel
theorem dX12_widths_120 : decode cX12_widths 120 = .ok (.invokevirtual 210, 3) := by decide +kernel
theorem dX12_widths_123 : decode cX12_widths 123 = .ok (.ireturn, 1) := by decide +kernel
theorem dX12_widths_124 : decode cX12_widths 124 = .ok (.iconst 0, 1) := by decide +kernel
theorem dX12_widths_125 : decode cX12_widths 125 = .ok (.istore 6, 2) := by decide +kernel
theorem dX12_widths_127 : decode cX12_widths 127 = .ok (.iload 6, 2) := by decide +kernel
theorem dX12_widths_129 : decode cX12_widths 129 = .ok (.iload 4, 2) := by decide +kernel
theorem dX12_widths_131 : decode cX12_widths 131 = .ok (.if_icmp .ge 48, 3) := by decide +kernel
theorem dX12_widths_134 : decode cX12_widths 134 = .ok (.aload_n 0, 1) := by decide +kernel
theorem dX12_widths_135 : decode cX12_widths 135 = .ok (.getfield 90, 3) := by decide +kernel
theorem dX12_widths_138 : decode cX12_widths 138 = .ok (.bipush 24, 2) := by decide +kernel
theorem dX12_widths_140 : decode cX12_widths 140 = .ok (.iload_n 1, 1) := by decide +kernel
theorem dX12_widths_141 : decode cX12_widths 141 = .ok (.imul, 1) := by decide +kernel
theorem dX12_widths_142 : decode cX12_widths 142 = .ok (.iload_n 3, 1) := by decide +kernel
theorem dX12_widths_143 : decode cX12_widths 143 = .ok (.iadd, 1) := by decide +kernel
theorem dX12_widths_144 : decode cX12_widths 144 = .ok (.iload 6, 2) := by decide +kernel
theorem dX12_widths_146 : decode cX12_widths 146 = .ok (.iadd, 1) := by decide +kernel
theorem dX12_widths_147 : decode cX12_widths 147 = .ok (.laload, 1) := by decide +kernel
theorem dX12_widths_148 : decode cX12_widths 148 = .ok (.lstore 7, 2) := by decide +kernel
theorem dX12_widths_150 : decode cX12_widths 150 = .ok (.lload 7, 2) := by decide +kernel
theorem dX12_widths_152 : decode cX12_widths 152 = .ok (.lconst 0, 1) := by decide +kernel
theorem dX12_widths_153 : decode cX12_widths 153 = .ok (.lcmp, 1) := by decide +kernel
theorem dX12_widths_154 : decode cX12_widths 154 = .ok (.ifCond .lt 12, 3) := by decide +kernel
theorem dX12_widths_157 : decode cX12_widths 157 = .ok (.lload 7, 2) := by decide +kernel
theorem dX12_widths_159 : decode cX12_widths 159 = .ok (.ldc2_w 222, 3) := by decide +kernel
theorem dX12_widths_162 : decode cX12_widths 162 = .ok (.lcmp, 1) := by decide +kernel
theorem dX12_widths_163 : decode cX12_widths 163 = .ok (.ifCond .le 10, 3) := by decide +kernel
theorem dX12_widths_166 : decode cX12_widths 166 = .ok (.aload_n 0, 1) := by decide +kernel
theorem dX12_widths_167 : decode cX12_widths 167 = .ok (.bipush (-2), 2) := by decide +kernel
theorem dX12_widths_169 : decode cX12_widths 169 = .ok (.invokevirtual 207, 3) := by decide +kernel
theorem dX12_widths_172 : decode cX12_widths 172 = .ok (.ireturn, 1) := by decide +kernel
theorem dX12_widths_173 : decode cX12_widths 173 = .ok (.iinc 6 1, 3) := by decide +kernel
theorem dX12_widths_176 : decode cX12_widths 176 = .ok (.goto (-49), 3) := by decide +kernel
theorem dX12_widths_179 : decode cX12_widths 179 = .ok (.iconst 0, 1) := by decide +kernel
theorem dX12_widths_180 : decode cX12_widths 180 = .ok (.istore 6, 2) := by decide +kernel
theorem dX12_widths_182 : decode cX12_widths 182 = .ok (.iload 6, 2) := by decide +kernel
theorem dX12_widths_184 : decode cX12_widths 184 = .ok (.iload 4, 2) := by decide +kernel
theorem dX12_widths_186 : decode cX12_widths 186 = .ok (.if_icmp .ge 45, 3) := by decide +kernel
theorem dX12_widths_189 : decode cX12_widths 189 = .ok (.aload_n 0, 1) := by decide +kernel
theorem dX12_widths_190 : decode cX12_widths 190 = .ok (.getfield 26, 3) := by decide +kernel
theorem dX12_widths_193 : decode cX12_widths 193 = .ok (.iload 5, 2) := by decide +kernel
theorem dX12_widths_195 : decode cX12_widths 195 = .ok (.iload 6, 2) := by decide +kernel
theorem dX12_widths_197 : decode cX12_widths 197 = .ok (.iadd, 1) := by decide +kernel
theorem dX12_widths_198 : decode cX12_widths 198 = .ok (.aload_n 0, 1) := by decide +kernel
theorem dX12_widths_199 : decode cX12_widths 199 = .ok (.getfield 90, 3) := by decide +kernel
theorem dX12_widths_202 : decode cX12_widths 202 = .ok (.bipush 24, 2) := by decide +kernel
theorem dX12_widths_204 : decode cX12_widths 204 = .ok (.iload_n 1, 1) := by decide +kernel
theorem dX12_widths_205 : decode cX12_widths 205 = .ok (.imul, 1) := by decide +kernel
theorem dX12_widths_206 : decode cX12_widths 206 = .ok (.iload_n 3, 1) := by decide +kernel
theorem dX12_widths_207 : decode cX12_widths 207 = .ok (.iadd, 1) := by decide +kernel
theorem dX12_widths_208 : decode cX12_widths 208 = .ok (.iload 6, 2) := by decide +kernel
theorem dX12_widths_210 : decode cX12_widths 210 = .ok (.iadd, 1) := by decide +kernel
theorem dX12_widths_211 : decode cX12_widths 211 = .ok (.laload, 1) := by decide +kernel
theorem dX12_widths_212 : decode cX12_widths 212 = .ok (.l2i, 1) := by decide +kernel
theorem dX12_widths_213 : decode cX12_widths 213 = .ok (.iastore, 1) := by decide +kernel
theorem dX12_widths_214 : decode cX12_widths 214 = .ok (.aload_n 0, 1) := by decide +kernel
theorem dX12_widths_215 : decode cX12_widths 215 = .ok (.getfield 32, 3) := by decide +kernel
theorem dX12_widths_218 : decode cX12_widths 218 = .ok (.iload 5, 2) := by decide +kernel
theorem dX12_widths_220 : decode cX12_widths 220 = .ok (.iload 6, 2) := by decide +kernel
theorem dX12_widths_222 : decode cX12_widths 222 = .ok (.iadd, 1) := by decide +kernel
theorem dX12_widths_223 : decode cX12_widths 223 = .ok (.iconst 0, 1) := by decide +kernel
theorem dX12_widths_224 : decode cX12_widths 224 = .ok (.iastore, 1) := by decide +kernel
theorem dX12_widths_225 : decode cX12_widths 225 = .ok (.iinc 6 1, 3) := by decide +kernel
theorem dX12_widths_228 : decode cX12_widths 228 = .ok (.goto (-46), 3) := by decide +kernel
theorem dX12_widths_231 : decode cX12_widths 231 = .ok (.aload_n 0, 1) := by decide +kernel
theorem dX12_widths_232 : decode cX12_widths 232 = .ok (.iload 4, 2) := by decide +kernel
theorem dX12_widths_234 : decode cX12_widths 234 = .ok (.invokevirtual 207, 3) := by decide +kernel
theorem dX12_widths_237 : decode cX12_widths 237 = .ok (.ireturn, 1) := by decide +kernel
theorem dX12_traced_0 : decode cX12_traced 0 = .ok (.aload_n 0, 1) := by decide +kernel
theorem dX12_traced_1 : decode cX12_traced 1 = .ok (.bipush 31, 2) := by decide +kernel
theorem dX12_traced_3 : decode cX12_traced 3 = .ok (.aload_n 0, 1) := by decide +kernel
theorem dX12_traced_4 : decode cX12_traced 4 = .ok (.getfield 224, 3) := by decide +kernel
theorem dX12_traced_7 : decode cX12_traced 7 = .ok (.imul, 1) := by decide +kernel
theorem dX12_traced_8 : decode cX12_traced 8 = .ok (.iload_n 1, 1) := by decide +kernel
theorem dX12_traced_9 : decode cX12_traced 9 = .ok (.iadd, 1) := by decide +kernel
theorem dX12_traced_10 : decode cX12_traced 10 = .ok (.putfield 224, 3) := by decide +kernel
theorem dX12_traced_13 : decode cX12_traced 13 = .ok (.return_, 1) := by decide +kernel
set_option maxRecDepth 20000 in
theorem ggX12_tell_X12_noCrack : GoodIn wsX12_tell wsX12_noCrack := goodIn_r _ [8, 9, 10, 11, 7, 12, 18, 19, 20, 21, 22, 23, 24, 25, 26, 27, 28, 29, 30, 31, 32, 33, 34, 35, 36, 37, 38, 39, 40, 41, 42, 43, 44, 45, 46, 47, 48, 49, 50, 51, 52, 53, 54, 55, 56] (by decide +kernel) (by decide +kernel)
set_option maxRecDepth 20000 in
theorem gX12_tell_X12_noCrack : GoodIn wsX12_tell (wsV RX12 123 RX12 yX12_noCrack wsX12_noCrack) := goodIn_app (goodIn_of _ (by decide +kernel)) ggX12_tell_X12_noCrack
set_option maxRecDepth 20000 in
theorem ggX12_tell_X12_traced : GoodIn wsX12_tell wsX12_traced := goodIn_r _ [16, 17, 18, 19, 20, 21, 22, 23, 24, 25, 26, 27, 28, 29, 30, 31, 32, 33, 34, 35, 36, 37, 38, 39, 40, 41, 42, 43, 44, 45, 46, 47, 48, 49, 50, 51, 52, 53, 54, 55, 56] (by decide +kernel) (by decide +kernel)
set_option maxRecDepth 20000 in
theorem gX12_tell_X12_traced : GoodIn wsX12_tell (wsV RX12 227 RX12 yX12_traced wsX12_traced) := goodIn_app (goodIn_of _ (by decide +kernel)) ggX12_tell_X12_traced
theorem dX12_tell_0 : decode cX12_tell 0 = .ok (.aload_n 0, 1) := by decide +kernel
theorem dX12_tell_1 : decode cX12_tell 1 = .ok (.iload_n 1, 1) := by decide +kernel
theorem dX12_tell_2 : decode cX12_tell 2 = .ok (.invokevirtual 123, 3) := by decide +kernel
theorem dX12_tell_5 : decode cX12_tell 5 = .ok (.ifCond .eq 5, 3) := by decide +kernel
theorem dX12_tell_8 : decode cX12_tell 8 = .ok (.iconst (-1), 1) := by decide +kernel
theorem dX12_tell_9 : decode cX12_tell 9 = .ok (.ireturn, 1) := by decide +kernel
theorem dX12_tell_10 : decode cX12_tell 10 = .ok (.aload_n 0, 1) := by decide +kernel
theorem dX12_tell_11 : decode cX12_tell 11 = .ok (.getfield 23, 3) := by decide +kernel
theorem dX12_tell_14 : decode cX12_tell 14 = .ok (.iload_n 1, 1) := by decide +kernel
theorem dX12_tell_15 : decode cX12_tell 15 = .ok (.iaload, 1) := by decide +kernel
theorem dX12_tell_16 : decode cX12_tell 16 = .ok (.istore_n 2, 1) := by decide +kernel
theorem dX12_tell_17 : decode cX12_tell 17 = .ok (.iload_n 2, 1) := by decide +kernel
theorem dX12_tell_18 : decode cX12_tell 18 = .ok (.ifCond .eq 26, 3) := by decide +kernel
theorem dX12_tell_21 : decode cX12_tell 21 = .ok (.aload_n 0, 1) := by decide +kernel
theorem dX12_tell_22 : decode cX12_tell 22 = .ok (.iload_n 2, 1) := by decide +kernel
theorem dX12_tell_23 : decode cX12_tell 23 = .ok (.iconst 2, 1) := by decide +kernel
theorem dX12_tell_24 : decode cX12_tell 24 = .ok (.if_icmp .ne 7, 3) := by decide +kernel
theorem dX12_tell_27 : decode cX12_tell 27 = .ok (.iconst 3, 1) := by decide +kernel
theorem dX12_tell_28 : decode cX12_tell 28 = .ok (.goto 13, 3) := by decide +kernel
theorem dX12_tell_31 : decode cX12_tell 31 = .ok (.iload_n 2, 1) := by decide +kernel
theorem dX12_tell_32 : decode cX12_tell 32 = .ok (.iconst 4, 1) := by decide +kernel
theorem dX12_tell_33 : decode cX12_tell 33 = .ok (.if_icmp .ne 7, 3) := by decide +kernel
theorem dX12_tell_36 : decode cX12_tell 36 = .ok (.iconst 4, 1) := by decide +kernel
theorem dX12_tell_37 : decode cX12_tell 37 = .ok (.goto 4, 3) := by decide +kernel
theorem dX12_tell_40 : decode cX12_tell 40 = .ok (.iconst 2, 1) := by decide +kernel
theorem dX12_tell_41 : decode cX12_tell 41 = .ok (.invokevirtual 227, 3) := by decide +kernel
theorem dX12_tell_44 : decode cX12_tell 44 = .ok (.aload_n 0, 1) := by decide +kernel
theorem dX12_tell_45 : decode cX12_tell 45 = .ok (.iconst 1, 1) := by decide +kernel
theorem dX12_tell_46 : decode cX12_tell 46 = .ok (.invokevirtual 227, 3) := by decide +kernel
theorem dX12_tell_49 : decode cX12_tell 49 = .ok (.aload_n 0, 1) := by decide +kernel
theorem dX12_tell_50 : decode cX12_tell 50 = .ok (.getfield 26, 3) := by decide +kernel
theorem dX12_tell_53 : decode cX12_tell 53 = .ok (.iload_n 1, 1) := by decide +kernel
theorem dX12_tell_54 : decode cX12_tell 54 = .ok (.iaload, 1) := by decide +kernel
theorem dX12_tell_55 : decode cX12_tell 55 = .ok (.istore_n 3, 1) := by decide +kernel
theorem dX12_tell_56 : decode cX12_tell 56 = .ok (.iload_n 2, 1) := by decide +kernel
theorem dX12_tell_57 : decode cX12_tell 57 = .ok (.ifCond .ne 7, 3) := by decide +kernel
theorem dX12_tell_60 : decode cX12_tell 60 = .ok (.iload_n 3, 1) := by decide +kernel
theorem dX12_tell_61 : decode cX12_tell 61 = .ok (.goto 35, 3) := by decide +kernel
theorem dX12_tell_64 : decode cX12_tell 64 = .ok (.iload_n 2, 1) := by decide +kernel
theorem dX12_tell_65 : decode cX12_tell 65 = .ok (.iconst 2, 1) := by decide +kernel
theorem dX12_tell_66 : decode cX12_tell 66 = .ok (.if_icmp .ne 10, 3) := by decide +kernel
theorem dX12_tell_69 : decode cX12_tell 69 = .ok (.iload_n 3, 1) := by decide +kernel
theorem dX12_tell_70 : decode cX12_tell 70 = .ok (.bipush 20, 2) := by decide +kernel
theorem dX12_tell_72 : decode cX12_tell 72 = .ok (.isub, 1) := by decide +kernel
theorem dX12_tell_73 : decode cX12_tell 73 = .ok (.goto 23, 3) := by decide +kernel
theorem dX12_tell_76 : decode cX12_tell 76 = .ok (.iload_n 2, 1) := by decide +kernel
theorem dX12_tell_77 : decode cX12_tell 77 = .ok (.iconst 4, 1) := by decide +kernel
theorem dX12_tell_78 : decode cX12_tell 78 = .ok (.if_icmp .ne 14, 3) := by decide +kernel
theorem dX12_tell_81 : decode cX12_tell 81 = .ok (.iload_n 3, 1) := by decide +kernel
theorem dX12_tell_82 : decode cX12_tell 82 = .ok (.aload_n 0, 1) := by decide +kernel
theorem dX12_tell_83 : decode cX12_tell 83 = .ok (.getfield 29, 3) := by decide +kernel
theorem dX12_tell_86 : decode cX12_tell 86 = .ok (.iload_n 1, 1) := by decide +kernel
theorem dX12_tell_87 : decode cX12_tell 87 = .ok (.iaload, 1) := by decide +kernel
theorem dX12_tell_88 : decode cX12_tell 88 = .ok (.iadd, 1) := by decide +kernel
theorem dX12_tell_89 : decode cX12_tell 89 = .ok (.goto 7, 3) := by decide +kernel
theorem dX12_tell_92 : decode cX12_tell 92 = .ok (.bipush 10, 2) := by decide +kernel
theorem dX12_tell_94 : decode cX12_tell 94 = .ok (.iload_n 3, 1) := by decide +kernel
theorem dX12_tell_95 : decode cX12_tell 95 = .ok (.imul, 1) := by decide +kernel
theorem dX12_tell_96 : decode cX12_tell 96 = .ok (.ireturn, 1) := by decide +kernel
set_option maxRecDepth 20000 in
theorem ggX12_judge_X12_noCrack : GoodIn wsX12_judge wsX12_noCrack := goodIn_r _ [7, 8, 9, 10, 6, 11, 17, 18, 19, 20, 21, 22, 23, 24, 25, 26, 27, 28, 29, 30, 31, 32, 33, 34, 35, 36, 37, 38, 39, 40, 41, 42, 43, 44, 45, 46, 47, 48, 49, 50, 51, 52, 53, 54, 55] (by decide +kernel) (by decide +kernel)
set_option maxRecDepth 20000 in
theorem gX12_judge_X12_noCrack : GoodIn wsX12_judge (wsV RX12 123 RX12 yX12_noCrack wsX12_noCrack) := goodIn_app (goodIn_of _ (by decide +kernel)) ggX12_judge_X12_noCrack
set_option maxRecDepth 20000 in
theorem ggX12_judge_X12_traced : GoodIn wsX12_judge wsX12_traced := goodIn_r _ [15, 16, 17, 18, 19, 20, 21, 22, 23, 24, 25, 26, 27, 28, 29, 30, 31, 32, 33, 34, 35, 36, 37, 38, 39, 40, 41, 42, 43, 44, 45, 46, 47, 48, 49, 50, 51, 52, 53, 54, 55] (by decide +kernel) (by decide +kernel)
set_option maxRecDepth 20000 in
theorem gX12_judge_X12_traced : GoodIn wsX12_judge (wsV RX12 227 RX12 yX12_traced wsX12_traced) := goodIn_app (goodIn_of _ (by decide +kernel)) ggX12_judge_X12_traced
theorem dX12_judge_0 : decode cX12_judge 0 = .ok (.aload_n 0, 1) := by decide +kernel
theorem dX12_judge_1 : decode cX12_judge 1 = .ok (.iload_n 1, 1) := by decide +kernel
theorem dX12_judge_2 : decode cX12_judge 2 = .ok (.invokevirtual 123, 3) := by decide +kernel
theorem dX12_judge_5 : decode cX12_judge 5 = .ok (.ifCond .eq 5, 3) := by decide +kernel
theorem dX12_judge_8 : decode cX12_judge 8 = .ok (.iconst (-1), 1) := by decide +kernel
theorem dX12_judge_9 : decode cX12_judge 9 = .ok (.ireturn, 1) := by decide +kernel
theorem dX12_judge_10 : decode cX12_judge 10 = .ok (.aload_n 0, 1) := by decide +kernel
theorem dX12_judge_11 : decode cX12_judge 11 = .ok (.getfield 23, 3) := by decide +kernel
theorem dX12_judge_14 : decode cX12_judge 14 = .ok (.iload_n 1, 1) := by decide +kernel
theorem dX12_judge_15 : decode cX12_judge 15 = .ok (.iaload, 1) := by decide +kernel
theorem dX12_judge_16 : decode cX12_judge 16 = .ok (.iconst 3, 1) := by decide +kernel
theorem dX12_judge_17 : decode cX12_judge 17 = .ok (.if_icmp .lt 7, 3) := by decide +kernel
theorem dX12_judge_20 : decode cX12_judge 20 = .ok (.iconst 1, 1) := by decide +kernel
theorem dX12_judge_21 : decode cX12_judge 21 = .ok (.goto 4, 3) := by decide +kernel
theorem dX12_judge_24 : decode cX12_judge 24 = .ok (.iconst 0, 1) := by decide +kernel
theorem dX12_judge_25 : decode cX12_judge 25 = .ok (.istore_n 2, 1) := by decide +kernel
theorem dX12_judge_26 : decode cX12_judge 26 = .ok (.aload_n 0, 1) := by decide +kernel
theorem dX12_judge_27 : decode cX12_judge 27 = .ok (.iload_n 2, 1) := by decide +kernel
theorem dX12_judge_28 : decode cX12_judge 28 = .ok (.ifCond .eq 8, 3) := by decide +kernel
theorem dX12_judge_31 : decode cX12_judge 31 = .ok (.bipush 6, 2) := by decide +kernel
theorem dX12_judge_33 : decode cX12_judge 33 = .ok (.goto 4, 3) := by decide +kernel
theorem dX12_judge_36 : decode cX12_judge 36 = .ok (.iconst 5, 1) := by decide +kernel
theorem dX12_judge_37 : decode cX12_judge 37 = .ok (.invokevirtual 227, 3) := by decide +kernel
theorem dX12_judge_40 : decode cX12_judge 40 = .ok (.iload_n 2, 1) := by decide +kernel
theorem dX12_judge_41 : decode cX12_judge 41 = .ok (.ifCond .eq 12, 3) := by decide +kernel
theorem dX12_judge_44 : decode cX12_judge 44 = .ok (.aload_n 0, 1) := by decide +kernel
theorem dX12_judge_45 : decode cX12_judge 45 = .ok (.getfield 29, 3) := by decide +kernel
theorem dX12_judge_48 : decode cX12_judge 48 = .ok (.iload_n 1, 1) := by decide +kernel
theorem dX12_judge_49 : decode cX12_judge 49 = .ok (.iaload, 1) := by decide +kernel
theorem dX12_judge_50 : decode cX12_judge 50 = .ok (.goto 12, 3) := by decide +kernel
theorem dX12_judge_53 : decode cX12_judge 53 = .ok (.bipush 100, 2) := by decide +kernel
theorem dX12_judge_55 : decode cX12_judge 55 = .ok (.aload_n 0, 1) := by decide +kernel
theorem dX12_judge_56 : decode cX12_judge 56 = .ok (.getfield 23, 3) := by decide +kernel
theorem dX12_judge_59 : decode cX12_judge 59 = .ok (.iload_n 1, 1) := by decide +kernel
theorem dX12_judge_60 : decode cX12_judge 60 = .ok (.iaload, 1) := by decide +kernel
theorem dX12_judge_61 : decode cX12_judge 61 = .ok (.iadd, 1) := by decide +kernel
theorem dX12_judge_62 : decode cX12_judge 62 = .ok (.ireturn, 1) := by decide +kernel
set_option maxRecDepth 20000 in
theorem ggX12_as_X12_noCrack : GoodIn wsX12_as wsX12_noCrack := goodIn_r _ [6, 7, 8, 9, 5, 10, 20, 21, 22, 23, 24, 25, 26, 27, 28, 29, 30, 31, 32, 33, 34, 35, 36, 37, 38, 39, 40, 41, 42, 43, 44, 45, 46, 47, 48, 49, 50, 51, 52, 53, 54, 55, 56, 57, 58] (by decide +kernel) (by decide +kernel)
set_option maxRecDepth 20000 in
theorem gX12_as_X12_noCrack : GoodIn wsX12_as (wsV RX12 123 RX12 yX12_noCrack wsX12_noCrack) := goodIn_app (goodIn_of _ (by decide +kernel)) ggX12_as_X12_noCrack
set_option maxRecDepth 20000 in
theorem ggX12_as_X12_refused : GoodIn wsX12_as wsX12_refused := goodIn_r _ [14, 15, 20, 21, 22, 23, 24, 25, 26, 27, 28, 29, 30, 31, 32, 33, 34, 35, 36, 37, 38, 39, 40, 41, 42, 43, 44, 45, 46, 47, 48, 49, 50, 51, 52, 53, 54, 55, 56, 57, 58] (by decide +kernel) (by decide +kernel)
set_option maxRecDepth 20000 in
theorem gX12_as_X12_refused : GoodIn wsX12_as (wsV RX12 207 RX12 yX12_refused wsX12_refused) := goodIn_app (goodIn_of _ (by decide +kernel)) ggX12_as_X12_refused
set_option maxRecDepth 20000 in
theorem ggX12_as_X12_among : GoodIn wsX12_as wsX12_among := goodIn_r _ [10] (by decide +kernel) (by decide +kernel)
set_option maxRecDepth 20000 in
theorem gX12_as_X12_among : GoodIn wsX12_as (va_wsS RX12 112 yX12_among wsX12_among) := goodIn_app (goodIn_of _ (by decide +kernel)) ggX12_as_X12_among
set_option maxRecDepth 20000 in
theorem ggX12_as_X12_failed : GoodIn wsX12_as wsX12_failed := goodIn_r _ [19, 15, 20, 21, 22, 23, 24, 25, 26, 27, 28, 29, 30, 31, 32, 33, 34, 35, 36, 37, 38, 39, 40, 41, 42, 43, 44, 45, 46, 47, 48, 49, 50, 51, 52, 53, 54, 55, 56, 57, 58] (by decide +kernel) (by decide +kernel)
set_option maxRecDepth 20000 in
theorem gX12_as_X12_failed : GoodIn wsX12_as (wsV RX12 210 RX12 yX12_failed wsX12_failed) := goodIn_app (goodIn_of _ (by decide +kernel)) ggX12_as_X12_failed
theorem dX12_as_0 : decode cX12_as 0 = .ok (.aload_n 0, 1) := by decide +kernel
theorem dX12_as_1 : decode cX12_as 1 = .ok (.iload_n 1, 1) := by decide +kernel
theorem dX12_as_2 : decode cX12_as 2 = .ok (.invokevirtual 123, 3) := by decide +kernel
theorem dX12_as_5 : decode cX12_as 5 = .ok (.ifCond .eq 9, 3) := by decide +kernel
theorem dX12_as_8 : decode cX12_as 8 = .ok (.aload_n 0, 1) := by decide +kernel
theorem dX12_as_9 : decode cX12_as 9 = .ok (.iconst (-1), 1) := by decide +kernel
theorem dX12_as_10 : decode cX12_as 10 = .ok (.invokevirtual 207, 3) := by decide +kernel
theorem dX12_as_13 : decode cX12_as 13 = .ok (.ireturn, 1) := by decide +kernel
theorem dX12_as_14 : decode cX12_as 14 = .ok (.iload_n 2, 1) := by decide +kernel
theorem dX12_as_15 : decode cX12_as 15 = .ok (.iconst 0, 1) := by decide +kernel
theorem dX12_as_16 : decode cX12_as 16 = .ok (.iconst 4, 1) := by decide +kernel
theorem dX12_as_17 : decode cX12_as 17 = .ok (.invokestatic 112, 3) := by decide +kernel
theorem dX12_as_20 : decode cX12_as 20 = .ok (.ifCond .ne 10, 3) := by decide +kernel
theorem dX12_as_23 : decode cX12_as 23 = .ok (.aload_n 0, 1) := by decide +kernel
theorem dX12_as_24 : decode cX12_as 24 = .ok (.bipush (-2), 2) := by decide +kernel
theorem dX12_as_26 : decode cX12_as 26 = .ok (.invokevirtual 207, 3) := by decide +kernel
theorem dX12_as_29 : decode cX12_as 29 = .ok (.ireturn, 1) := by decide +kernel
theorem dX12_as_30 : decode cX12_as 30 = .ok (.aload_n 0, 1) := by decide +kernel
theorem dX12_as_31 : decode cX12_as 31 = .ok (.getfield 23, 3) := by decide +kernel
theorem dX12_as_34 : decode cX12_as 34 = .ok (.iload_n 1, 1) := by decide +kernel
theorem dX12_as_35 : decode cX12_as 35 = .ok (.iaload, 1) := by decide +kernel
theorem dX12_as_36 : decode cX12_as 36 = .ok (.istore_n 3, 1) := by decide +kernel
theorem dX12_as_37 : decode cX12_as 37 = .ok (.iload_n 2, 1) := by decide +kernel
theorem dX12_as_38 : decode cX12_as 38 = .ok (.ifCond .eq 28, 3) := by decide +kernel
theorem dX12_as_41 : decode cX12_as 41 = .ok (.iload_n 2, 1) := by decide +kernel
theorem dX12_as_42 : decode cX12_as 42 = .ok (.iload_n 3, 1) := by decide +kernel
theorem dX12_as_43 : decode cX12_as 43 = .ok (.if_icmp .eq 23, 3) := by decide +kernel
theorem dX12_as_46 : decode cX12_as 46 = .ok (.iload_n 2, 1) := by decide +kernel
theorem dX12_as_47 : decode cX12_as 47 = .ok (.iconst 1, 1) := by decide +kernel
theorem dX12_as_48 : decode cX12_as 48 = .ok (.if_icmp .ne 8, 3) := by decide +kernel
theorem dX12_as_51 : decode cX12_as 51 = .ok (.iload_n 3, 1) := by decide +kernel
theorem dX12_as_52 : decode cX12_as 52 = .ok (.iconst 3, 1) := by decide +kernel
theorem dX12_as_53 : decode cX12_as 53 = .ok (.if_icmp .ge 13, 3) := by decide +kernel
theorem dX12_as_56 : decode cX12_as 56 = .ok (.iload_n 2, 1) := by decide +kernel
theorem dX12_as_57 : decode cX12_as 57 = .ok (.iconst 3, 1) := by decide +kernel
theorem dX12_as_58 : decode cX12_as 58 = .ok (.if_icmp .ne 12, 3) := by decide +kernel
theorem dX12_as_61 : decode cX12_as 61 = .ok (.iload_n 3, 1) := by decide +kernel
theorem dX12_as_62 : decode cX12_as 62 = .ok (.iconst 4, 1) := by decide +kernel
theorem dX12_as_63 : decode cX12_as 63 = .ok (.if_icmp .ne 7, 3) := by decide +kernel
theorem dX12_as_66 : decode cX12_as 66 = .ok (.iconst 1, 1) := by decide +kernel
theorem dX12_as_67 : decode cX12_as 67 = .ok (.goto 4, 3) := by decide +kernel
theorem dX12_as_70 : decode cX12_as 70 = .ok (.iconst 0, 1) := by decide +kernel
theorem dX12_as_71 : decode cX12_as 71 = .ok (.istore 4, 2) := by decide +kernel
theorem dX12_as_73 : decode cX12_as 73 = .ok (.iload 4, 2) := by decide +kernel
theorem dX12_as_75 : decode cX12_as 75 = .ok (.ifCond .eq 11, 3) := by decide +kernel
theorem dX12_as_78 : decode cX12_as 78 = .ok (.aload_n 0, 1) := by decide +kernel
theorem dX12_as_79 : decode cX12_as 79 = .ok (.iconst 1, 1) := by decide +kernel
theorem dX12_as_80 : decode cX12_as 80 = .ok (.invokevirtual 207, 3) := by decide +kernel
theorem dX12_as_83 : decode cX12_as 83 = .ok (.goto 8, 3) := by decide +kernel
theorem dX12_as_86 : decode cX12_as 86 = .ok (.aload_n 0, 1) := by decide +kernel
theorem dX12_as_87 : decode cX12_as 87 = .ok (.iconst 2, 1) := by decide +kernel
theorem dX12_as_88 : decode cX12_as 88 = .ok (.invokevirtual 210, 3) := by decide +kernel
theorem dX12_as_91 : decode cX12_as 91 = .ok (.ireturn, 1) := by decide +kernel
theorem dX12_trace_0 : decode cX12_trace 0 = .ok (.aload_n 0, 1) := by decide +kernel
theorem dX12_trace_1 : decode cX12_trace 1 = .ok (.getfield 224, 3) := by decide +kernel
theorem dX12_trace_4 : decode cX12_trace 4 = .ok (.ireturn, 1) := by decide +kernel
theorem dX12_fault_0 : decode cX12_fault 0 = .ok (.aload_n 0, 1) := by decide +kernel
theorem dX12_fault_1 : decode cX12_fault 1 = .ok (.getfield 102, 3) := by decide +kernel
theorem dX12_fault_4 : decode cX12_fault 4 = .ok (.ireturn, 1) := by decide +kernel
