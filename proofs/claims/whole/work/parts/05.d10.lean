theorem dX10_init_0 : decode cX10_init 0 = .ok (.aload_n 0, 1) := by decide +kernel
theorem dX10_init_1 : decode cX10_init 1 = .ok (.invokespecial 1, 3) := by decide +kernel
theorem dX10_init_4 : decode cX10_init 4 = .ok (.aload_n 0, 1) := by decide +kernel
theorem dX10_init_5 : decode cX10_init 5 = .ok (.sipush 144, 3) := by decide +kernel
theorem dX10_init_8 : decode cX10_init 8 = .ok (.newarray .int, 2) := by decide +kernel
theorem dX10_init_10 : decode cX10_init 10 = .ok (.putfield 7, 3) := by decide +kernel
theorem dX10_init_13 : decode cX10_init 13 = .ok (.aload_n 0, 1) := by decide +kernel
theorem dX10_init_14 : decode cX10_init 14 = .ok (.sipush 144, 3) := by decide +kernel
theorem dX10_init_17 : decode cX10_init 17 = .ok (.newarray .int, 2) := by decide +kernel
theorem dX10_init_19 : decode cX10_init 19 = .ok (.putfield 13, 3) := by decide +kernel
theorem dX10_init_22 : decode cX10_init 22 = .ok (.aload_n 0, 1) := by decide +kernel
theorem dX10_init_23 : decode cX10_init 23 = .ok (.bipush 12, 2) := by decide +kernel
theorem dX10_init_25 : decode cX10_init 25 = .ok (.newarray .int, 2) := by decide +kernel
theorem dX10_init_27 : decode cX10_init 27 = .ok (.putfield 16, 3) := by decide +kernel
theorem dX10_init_30 : decode cX10_init 30 = .ok (.aload_n 0, 1) := by decide +kernel
theorem dX10_init_31 : decode cX10_init 31 = .ok (.bipush 12, 2) := by decide +kernel
theorem dX10_init_33 : decode cX10_init 33 = .ok (.newarray .boolean, 2) := by decide +kernel
theorem dX10_init_35 : decode cX10_init 35 = .ok (.putfield 19, 3) := by decide +kernel
theorem dX10_init_38 : decode cX10_init 38 = .ok (.aload_n 0, 1) := by decide +kernel
theorem dX10_init_39 : decode cX10_init 39 = .ok (.bipush 30, 2) := by decide +kernel
theorem dX10_init_41 : decode cX10_init 41 = .ok (.newarray .int, 2) := by decide +kernel
theorem dX10_init_43 : decode cX10_init 43 = .ok (.putfield 23, 3) := by decide +kernel
theorem dX10_init_46 : decode cX10_init 46 = .ok (.aload_n 0, 1) := by decide +kernel
theorem dX10_init_47 : decode cX10_init 47 = .ok (.iconst 5, 1) := by decide +kernel
theorem dX10_init_48 : decode cX10_init 48 = .ok (.newarray .int, 2) := by decide +kernel
theorem dX10_init_50 : decode cX10_init 50 = .ok (.putfield 26, 3) := by decide +kernel
theorem dX10_init_53 : decode cX10_init 53 = .ok (.aload_n 0, 1) := by decide +kernel
theorem dX10_init_54 : decode cX10_init 54 = .ok (.bipush 24, 2) := by decide +kernel
theorem dX10_init_56 : decode cX10_init 56 = .ok (.newarray .int, 2) := by decide +kernel
theorem dX10_init_58 : decode cX10_init 58 = .ok (.putfield 29, 3) := by decide +kernel
theorem dX10_init_61 : decode cX10_init 61 = .ok (.aload_n 0, 1) := by decide +kernel
theorem dX10_init_62 : decode cX10_init 62 = .ok (.bipush 24, 2) := by decide +kernel
theorem dX10_init_64 : decode cX10_init 64 = .ok (.newarray .int, 2) := by decide +kernel
theorem dX10_init_66 : decode cX10_init 66 = .ok (.putfield 32, 3) := by decide +kernel
theorem dX10_init_69 : decode cX10_init 69 = .ok (.aload_n 0, 1) := by decide +kernel
theorem dX10_init_70 : decode cX10_init 70 = .ok (.bipush 24, 2) := by decide +kernel
theorem dX10_init_72 : decode cX10_init 72 = .ok (.newarray .int, 2) := by decide +kernel
theorem dX10_init_74 : decode cX10_init 74 = .ok (.putfield 35, 3) := by decide +kernel
theorem dX10_init_77 : decode cX10_init 77 = .ok (.aload_n 0, 1) := by decide +kernel
theorem dX10_init_78 : decode cX10_init 78 = .ok (.sipush 480, 3) := by decide +kernel
theorem dX10_init_81 : decode cX10_init 81 = .ok (.newarray .int, 2) := by decide +kernel
theorem dX10_init_83 : decode cX10_init 83 = .ok (.putfield 38, 3) := by decide +kernel
theorem dX10_init_86 : decode cX10_init 86 = .ok (.aload_n 0, 1) := by decide +kernel
theorem dX10_init_87 : decode cX10_init 87 = .ok (.sipush 480, 3) := by decide +kernel
theorem dX10_init_90 : decode cX10_init 90 = .ok (.newarray .int, 2) := by decide +kernel
theorem dX10_init_92 : decode cX10_init 92 = .ok (.putfield 41, 3) := by decide +kernel
theorem dX10_init_95 : decode cX10_init 95 = .ok (.aload_n 0, 1) := by decide +kernel
theorem dX10_init_96 : decode cX10_init 96 = .ok (.bipush 24, 2) := by decide +kernel
theorem dX10_init_98 : decode cX10_init 98 = .ok (.newarray .int, 2) := by decide +kernel
theorem dX10_init_100 : decode cX10_init 100 = .ok (.putfield 44, 3) := by decide +kernel
theorem dX10_init_103 : decode cX10_init 103 = .ok (.aload_n 0, 1) := by decide +kernel
theorem dX10_init_104 : decode cX10_init 104 = .ok (.sipush 288, 3) := by decide +kernel
theorem dX10_init_107 : decode cX10_init 107 = .ok (.newarray .int, 2) := by decide +kernel
theorem dX10_init_109 : decode cX10_init 109 = .ok (.putfield 47, 3) := by decide +kernel
theorem dX10_init_112 : decode cX10_init 112 = .ok (.aload_n 0, 1) := by decide +kernel
theorem dX10_init_113 : decode cX10_init 113 = .ok (.sipush 288, 3) := by decide +kernel
theorem dX10_init_116 : decode cX10_init 116 = .ok (.newarray .int, 2) := by decide +kernel
theorem dX10_init_118 : decode cX10_init 118 = .ok (.putfield 50, 3) := by decide +kernel
theorem dX10_init_121 : decode cX10_init 121 = .ok (.aload_n 0, 1) := by decide +kernel
theorem dX10_init_122 : decode cX10_init 122 = .ok (.sipush 144, 3) := by decide +kernel
theorem dX10_init_125 : decode cX10_init 125 = .ok (.newarray .int, 2) := by decide +kernel
theorem dX10_init_127 : decode cX10_init 127 = .ok (.putfield 53, 3) := by decide +kernel
theorem dX10_init_130 : decode cX10_init 130 = .ok (.aload_n 0, 1) := by decide +kernel
theorem dX10_init_131 : decode cX10_init 131 = .ok (.sipush 144, 3) := by decide +kernel
theorem dX10_init_134 : decode cX10_init 134 = .ok (.newarray .int, 2) := by decide +kernel
theorem dX10_init_136 : decode cX10_init 136 = .ok (.putfield 56, 3) := by decide +kernel
theorem dX10_init_139 : decode cX10_init 139 = .ok (.aload_n 0, 1) := by decide +kernel
theorem dX10_init_140 : decode cX10_init 140 = .ok (.bipush 6, 2) := by decide +kernel
theorem dX10_init_142 : decode cX10_init 142 = .ok (.newarray .int, 2) := by decide +kernel
theorem dX10_init_144 : decode cX10_init 144 = .ok (.putfield 59, 3) := by decide +kernel
theorem dX10_init_147 : decode cX10_init 147 = .ok (.aload_n 0, 1) := by decide +kernel
theorem dX10_init_148 : decode cX10_init 148 = .ok (.bipush 24, 2) := by decide +kernel
theorem dX10_init_150 : decode cX10_init 150 = .ok (.newarray .int, 2) := by decide +kernel
theorem dX10_init_152 : decode cX10_init 152 = .ok (.putfield 62, 3) := by decide +kernel
theorem dX10_init_155 : decode cX10_init 155 = .ok (.aload_n 0, 1) := by decide +kernel
theorem dX10_init_156 : decode cX10_init 156 = .ok (.bipush 6, 2) := by decide +kernel
theorem dX10_init_158 : decode cX10_init 158 = .ok (.newarray .int, 2) := by decide +kernel
theorem dX10_init_160 : decode cX10_init 160 = .ok (.putfield 65, 3) := by decide +kernel
theorem dX10_init_163 : decode cX10_init 163 = .ok (.aload_n 0, 1) := by decide +kernel
theorem dX10_init_164 : decode cX10_init 164 = .ok (.bipush 6, 2) := by decide +kernel
theorem dX10_init_166 : decode cX10_init 166 = .ok (.newarray .int, 2) := by decide +kernel
theorem dX10_init_168 : decode cX10_init 168 = .ok (.putfield 68, 3) := by decide +kernel
theorem dX10_init_171 : decode cX10_init 171 = .ok (.aload_n 0, 1) := by decide +kernel
theorem dX10_init_172 : decode cX10_init 172 = .ok (.iload_n 1, 1) := by decide +kernel
theorem dX10_init_173 : decode cX10_init 173 = .ok (.iconst 2, 1) := by decide +kernel
theorem dX10_init_174 : decode cX10_init 174 = .ok (.if_icmp .ge 7, 3) := by decide +kernel
theorem dX10_init_177 : decode cX10_init 177 = .ok (.iconst 2, 1) := by decide +kernel
theorem dX10_init_178 : decode cX10_init 178 = .ok (.goto 15, 3) := by decide +kernel
theorem dX10_init_181 : decode cX10_init 181 = .ok (.iload_n 1, 1) := by decide +kernel
theorem dX10_init_182 : decode cX10_init 182 = .ok (.bipush 12, 2) := by decide +kernel
theorem dX10_init_184 : decode cX10_init 184 = .ok (.if_icmp .le 8, 3) := by decide +kernel
theorem dX10_init_187 : decode cX10_init 187 = .ok (.bipush 12, 2) := by decide +kernel
theorem dX10_init_189 : decode cX10_init 189 = .ok (.goto 4, 3) := by decide +kernel
theorem dX10_init_192 : decode cX10_init 192 = .ok (.iload_n 1, 1) := by decide +kernel
theorem dX10_init_193 : decode cX10_init 193 = .ok (.putfield 71, 3) := by decide +kernel
theorem dX10_init_196 : decode cX10_init 196 = .ok (.aload_n 0, 1) := by decide +kernel
theorem dX10_init_197 : decode cX10_init 197 = .ok (.iload_n 2, 1) := by decide +kernel
theorem dX10_init_198 : decode cX10_init 198 = .ok (.iconst 2, 1) := by decide +kernel
theorem dX10_init_199 : decode cX10_init 199 = .ok (.if_icmp .ge 7, 3) := by decide +kernel
theorem dX10_init_202 : decode cX10_init 202 = .ok (.iconst 2, 1) := by decide +kernel
theorem dX10_init_203 : decode cX10_init 203 = .ok (.goto 15, 3) := by decide +kernel
theorem dX10_init_206 : decode cX10_init 206 = .ok (.iload_n 2, 1) := by decide +kernel
theorem dX10_init_207 : decode cX10_init 207 = .ok (.bipush 12, 2) := by decide +kernel
theorem dX10_init_209 : decode cX10_init 209 = .ok (.if_icmp .le 8, 3) := by decide +kernel
theorem dX10_init_212 : decode cX10_init 212 = .ok (.bipush 12, 2) := by decide +kernel
theorem dX10_init_214 : decode cX10_init 214 = .ok (.goto 4, 3) := by decide +kernel
theorem dX10_init_217 : decode cX10_init 217 = .ok (.iload_n 2, 1) := by decide +kernel
theorem dX10_init_218 : decode cX10_init 218 = .ok (.putfield 75, 3) := by decide +kernel
theorem dX10_init_221 : decode cX10_init 221 = .ok (.iconst 0, 1) := by decide +kernel
theorem dX10_init_222 : decode cX10_init 222 = .ok (.istore_n 3, 1) := by decide +kernel
theorem dX10_init_223 : decode cX10_init 223 = .ok (.iload_n 3, 1) := by decide +kernel
theorem dX10_init_224 : decode cX10_init 224 = .ok (.bipush 24, 2) := by decide +kernel
theorem dX10_init_226 : decode cX10_init 226 = .ok (.if_icmp .ge 16, 3) := by decide +kernel
theorem dX10_init_229 : decode cX10_init 229 = .ok (.aload_n 0, 1) := by decide +kernel
theorem dX10_init_230 : decode cX10_init 230 = .ok (.getfield 35, 3) := by decide +kernel
theorem dX10_init_233 : decode cX10_init 233 = .ok (.iload_n 3, 1) := by decide +kernel
theorem dX10_init_234 : decode cX10_init 234 = .ok (.iconst (-1), 1) := by decide +kernel
theorem dX10_init_235 : decode cX10_init 235 = .ok (.iastore, 1) := by decide +kernel
theorem dX10_init_236 : decode cX10_init 236 = .ok (.iinc 3 1, 3) := by decide +kernel
theorem dX10_init_239 : decode cX10_init 239 = .ok (.goto (-16), 3) := by decide +kernel
theorem dX10_init_242 : decode cX10_init 242 = .ok (.return_, 1) := by decide +kernel
theorem dX10_thrown_0 : decode cX10_thrown 0 = .ok (.aload_n 0, 1) := by decide +kernel
theorem dX10_thrown_1 : decode cX10_thrown 1 = .ok (.getfield 78, 3) := by decide +kernel
theorem dX10_thrown_4 : decode cX10_thrown 4 = .ok (.ireturn, 1) := by decide +kernel
theorem dX10_in_0 : decode cX10_in 0 = .ok (.iload_n 0, 1) := by decide +kernel
theorem dX10_in_1 : decode cX10_in 1 = .ok (.iload_n 1, 1) := by decide +kernel
theorem dX10_in_2 : decode cX10_in 2 = .ok (.if_icmp .lt 12, 3) := by decide +kernel
theorem dX10_in_5 : decode cX10_in 5 = .ok (.iload_n 0, 1) := by decide +kernel
theorem dX10_in_6 : decode cX10_in 6 = .ok (.iload_n 2, 1) := by decide +kernel
theorem dX10_in_7 : decode cX10_in 7 = .ok (.if_icmp .gt 7, 3) := by decide +kernel
theorem dX10_in_10 : decode cX10_in 10 = .ok (.iconst 1, 1) := by decide +kernel
theorem dX10_in_11 : decode cX10_in 11 = .ok (.goto 4, 3) := by decide +kernel
theorem dX10_in_14 : decode cX10_in 14 = .ok (.iconst 0, 1) := by decide +kernel
theorem dX10_in_15 : decode cX10_in 15 = .ok (.ireturn, 1) := by decide +kernel
theorem dX10_asked_0 : decode cX10_asked 0 = .ok (.aload_n 0, 1) := by decide +kernel
theorem dX10_asked_1 : decode cX10_asked 1 = .ok (.iload_n 1, 1) := by decide +kernel
theorem dX10_asked_2 : decode cX10_asked 2 = .ok (.ifCond .eq 7, 3) := by decide +kernel
theorem dX10_asked_5 : decode cX10_asked 5 = .ok (.iconst 0, 1) := by decide +kernel
theorem dX10_asked_6 : decode cX10_asked 6 = .ok (.goto 4, 3) := by decide +kernel
theorem dX10_asked_9 : decode cX10_asked 9 = .ok (.iconst 1, 1) := by decide +kernel
theorem dX10_asked_10 : decode cX10_asked 10 = .ok (.putfield 78, 3) := by decide +kernel
theorem dX10_asked_13 : decode cX10_asked 13 = .ok (.iload_n 1, 1) := by decide +kernel
theorem dX10_asked_14 : decode cX10_asked 14 = .ok (.ireturn, 1) := by decide +kernel
theorem dX10_asked__0 : decode cX10_asked_ 0 = .ok (.aload_n 0, 1) := by decide +kernel
theorem dX10_asked__1 : decode cX10_asked_ 1 = .ok (.iload_n 1, 1) := by decide +kernel
theorem dX10_asked__2 : decode cX10_asked_ 2 = .ok (.ifCond .ne 7, 3) := by decide +kernel
theorem dX10_asked__5 : decode cX10_asked_ 5 = .ok (.iconst 1, 1) := by decide +kernel
theorem dX10_asked__6 : decode cX10_asked_ 6 = .ok (.goto 12, 3) := by decide +kernel
theorem dX10_asked__9 : decode cX10_asked_ 9 = .ok (.iload_n 2, 1) := by decide +kernel
theorem dX10_asked__10 : decode cX10_asked_ 10 = .ok (.ifCond .eq 7, 3) := by decide +kernel
theorem dX10_asked__13 : decode cX10_asked_ 13 = .ok (.iconst 0, 1) := by decide +kernel
theorem dX10_asked__14 : decode cX10_asked_ 14 = .ok (.goto 4, 3) := by decide +kernel
theorem dX10_asked__17 : decode cX10_asked_ 17 = .ok (.iconst 2, 1) := by decide +kernel
theorem dX10_asked__18 : decode cX10_asked_ 18 = .ok (.putfield 78, 3) := by decide +kernel
theorem dX10_asked__21 : decode cX10_asked_ 21 = .ok (.aload_n 0, 1) := by decide +kernel
theorem dX10_asked__22 : decode cX10_asked_ 22 = .ok (.getfield 78, 3) := by decide +kernel
theorem dX10_asked__25 : decode cX10_asked_ 25 = .ok (.ifCond .ne 7, 3) := by decide +kernel
theorem dX10_asked__28 : decode cX10_asked_ 28 = .ok (.iconst 1, 1) := by decide +kernel
theorem dX10_asked__29 : decode cX10_asked_ 29 = .ok (.goto 4, 3) := by decide +kernel
theorem dX10_asked__32 : decode cX10_asked_ 32 = .ok (.iconst 0, 1) := by decide +kernel
theorem dX10_asked__33 : decode cX10_asked_ 33 = .ok (.ireturn, 1) := by decide +kernel
theorem dX10_asked___0 : decode cX10_asked__ 0 = .ok (.aload_n 0, 1) := by decide +kernel
theorem dX10_asked___1 : decode cX10_asked__ 1 = .ok (.iload_n 1, 1) := by decide +kernel
theorem dX10_asked___2 : decode cX10_asked__ 2 = .ok (.ifCond .ne 7, 3) := by decide +kernel
theorem dX10_asked___5 : decode cX10_asked__ 5 = .ok (.iconst 1, 1) := by decide +kernel
theorem dX10_asked___6 : decode cX10_asked__ 6 = .ok (.goto 20, 3) := by decide +kernel
theorem dX10_asked___9 : decode cX10_asked__ 9 = .ok (.iload_n 2, 1) := by decide +kernel
theorem dX10_asked___10 : decode cX10_asked__ 10 = .ok (.ifCond .ne 7, 3) := by decide +kernel
theorem dX10_asked___13 : decode cX10_asked__ 13 = .ok (.iconst 2, 1) := by decide +kernel
theorem dX10_asked___14 : decode cX10_asked__ 14 = .ok (.goto 12, 3) := by decide +kernel
theorem dX10_asked___17 : decode cX10_asked__ 17 = .ok (.iload_n 3, 1) := by decide +kernel
theorem dX10_asked___18 : decode cX10_asked__ 18 = .ok (.ifCond .eq 7, 3) := by decide +kernel
theorem dX10_asked___21 : decode cX10_asked__ 21 = .ok (.iconst 0, 1) := by decide +kernel
theorem dX10_asked___22 : decode cX10_asked__ 22 = .ok (.goto 4, 3) := by decide +kernel
theorem dX10_asked___25 : decode cX10_asked__ 25 = .ok (.iconst 3, 1) := by decide +kernel
theorem dX10_asked___26 : decode cX10_asked__ 26 = .ok (.putfield 78, 3) := by decide +kernel
theorem dX10_asked___29 : decode cX10_asked__ 29 = .ok (.aload_n 0, 1) := by decide +kernel
theorem dX10_asked___30 : decode cX10_asked__ 30 = .ok (.getfield 78, 3) := by decide +kernel
theorem dX10_asked___33 : decode cX10_asked__ 33 = .ok (.ifCond .ne 7, 3) := by decide +kernel
theorem dX10_asked___36 : decode cX10_asked__ 36 = .ok (.iconst 1, 1) := by decide +kernel
theorem dX10_asked___37 : decode cX10_asked__ 37 = .ok (.goto 4, 3) := by decide +kernel
theorem dX10_asked___40 : decode cX10_asked__ 40 = .ok (.iconst 0, 1) := by decide +kernel
theorem dX10_asked___41 : decode cX10_asked__ 41 = .ok (.ireturn, 1) := by decide +kernel
theorem dX10_isCell_0 : decode cX10_isCell 0 = .ok (.iload_n 1, 1) := by decide +kernel
theorem dX10_isCell_1 : decode cX10_isCell 1 = .ok (.iconst 0, 1) := by decide +kernel
theorem dX10_isCell_2 : decode cX10_isCell 2 = .ok (.aload_n 0, 1) := by decide +kernel
theorem dX10_isCell_3 : decode cX10_isCell 3 = .ok (.getfield 71, 3) := by decide +kernel
theorem dX10_isCell_6 : decode cX10_isCell 6 = .ok (.iconst 1, 1) := by decide +kernel
theorem dX10_isCell_7 : decode cX10_isCell 7 = .ok (.isub, 1) := by decide +kernel
theorem dX10_isCell_8 : decode cX10_isCell 8 = .ok (.invokestatic 81, 3) := by decide +kernel
theorem dX10_isCell_11 : decode cX10_isCell 11 = .ok (.ifCond .eq 21, 3) := by decide +kernel
theorem dX10_isCell_14 : decode cX10_isCell 14 = .ok (.iload_n 2, 1) := by decide +kernel
theorem dX10_isCell_15 : decode cX10_isCell 15 = .ok (.iconst 0, 1) := by decide +kernel
theorem dX10_isCell_16 : decode cX10_isCell 16 = .ok (.aload_n 0, 1) := by decide +kernel
theorem dX10_isCell_17 : decode cX10_isCell 17 = .ok (.getfield 75, 3) := by decide +kernel
theorem dX10_isCell_20 : decode cX10_isCell 20 = .ok (.iconst 1, 1) := by decide +kernel
theorem dX10_isCell_21 : decode cX10_isCell 21 = .ok (.isub, 1) := by decide +kernel
theorem dX10_isCell_22 : decode cX10_isCell 22 = .ok (.invokestatic 81, 3) := by decide +kernel
theorem dX10_isCell_25 : decode cX10_isCell 25 = .ok (.ifCond .eq 7, 3) := by decide +kernel
theorem dX10_isCell_28 : decode cX10_isCell 28 = .ok (.iconst 1, 1) := by decide +kernel
theorem dX10_isCell_29 : decode cX10_isCell 29 = .ok (.goto 4, 3) := by decide +kernel
theorem dX10_isCell_32 : decode cX10_isCell 32 = .ok (.iconst 0, 1) := by decide +kernel
theorem dX10_isCell_33 : decode cX10_isCell 33 = .ok (.ireturn, 1) := by decide +kernel
theorem dX10_isControl_0 : decode cX10_isControl 0 = .ok (.iload_n 1, 1) := by decide +kernel
theorem dX10_isControl_1 : decode cX10_isControl 1 = .ok (.iconst 0, 1) := by decide +kernel
theorem dX10_isControl_2 : decode cX10_isControl 2 = .ok (.aload_n 0, 1) := by decide +kernel
theorem dX10_isControl_3 : decode cX10_isControl 3 = .ok (.getfield 85, 3) := by decide +kernel
theorem dX10_isControl_6 : decode cX10_isControl 6 = .ok (.iconst 1, 1) := by decide +kernel
theorem dX10_isControl_7 : decode cX10_isControl 7 = .ok (.isub, 1) := by decide +kernel
theorem dX10_isControl_8 : decode cX10_isControl 8 = .ok (.invokestatic 81, 3) := by decide +kernel
theorem dX10_isControl_11 : decode cX10_isControl 11 = .ok (.ireturn, 1) := by decide +kernel
theorem dX10_isClass_0 : decode cX10_isClass 0 = .ok (.iload_n 0, 1) := by decide +kernel
theorem dX10_isClass_1 : decode cX10_isClass 1 = .ok (.iconst 0, 1) := by decide +kernel
theorem dX10_isClass_2 : decode cX10_isClass 2 = .ok (.iconst 4, 1) := by decide +kernel
theorem dX10_isClass_3 : decode cX10_isClass 3 = .ok (.invokestatic 81, 3) := by decide +kernel
theorem dX10_isClass_6 : decode cX10_isClass 6 = .ok (.ireturn, 1) := by decide +kernel
theorem dX10_isRunner_0 : decode cX10_isRunner 0 = .ok (.iload_n 1, 1) := by decide +kernel
theorem dX10_isRunner_1 : decode cX10_isRunner 1 = .ok (.iconst 0, 1) := by decide +kernel
theorem dX10_isRunner_2 : decode cX10_isRunner 2 = .ok (.aload_n 0, 1) := by decide +kernel
theorem dX10_isRunner_3 : decode cX10_isRunner 3 = .ok (.getfield 88, 3) := by decide +kernel
theorem dX10_isRunner_6 : decode cX10_isRunner 6 = .ok (.iconst 1, 1) := by decide +kernel
theorem dX10_isRunner_7 : decode cX10_isRunner 7 = .ok (.isub, 1) := by decide +kernel
theorem dX10_isRunner_8 : decode cX10_isRunner 8 = .ok (.invokestatic 81, 3) := by decide +kernel
theorem dX10_isRunner_11 : decode cX10_isRunner 11 = .ok (.ireturn, 1) := by decide +kernel
theorem dX10_setHeight_0 : decode cX10_setHeight 0 = .ok (.aload_n 0, 1) := by decide +kernel
theorem dX10_setHeight_1 : decode cX10_setHeight 1 = .ok (.aload_n 0, 1) := by decide +kernel
theorem dX10_setHeight_2 : decode cX10_setHeight 2 = .ok (.iload_n 1, 1) := by decide +kernel
theorem dX10_setHeight_3 : decode cX10_setHeight 3 = .ok (.iload_n 2, 1) := by decide +kernel
theorem dX10_setHeight_4 : decode cX10_setHeight 4 = .ok (.invokevirtual 91, 3) := by decide +kernel
theorem dX10_setHeight_7 : decode cX10_setHeight 7 = .ok (.iload_n 3, 1) := by decide +kernel
theorem dX10_setHeight_8 : decode cX10_setHeight 8 = .ok (.iconst 0, 1) := by decide +kernel
theorem dX10_setHeight_9 : decode cX10_setHeight 9 = .ok (.sipush 255, 3) := by decide +kernel
theorem dX10_setHeight_12 : decode cX10_setHeight 12 = .ok (.invokestatic 81, 3) := by decide +kernel
theorem dX10_setHeight_15 : decode cX10_setHeight 15 = .ok (.invokevirtual 95, 3) := by decide +kernel
theorem dX10_setHeight_18 : decode cX10_setHeight 18 = .ok (.ifCond .ne 5, 3) := by decide +kernel
theorem dX10_setHeight_21 : decode cX10_setHeight 21 = .ok (.iconst 0, 1) := by decide +kernel
theorem dX10_setHeight_22 : decode cX10_setHeight 22 = .ok (.ireturn, 1) := by decide +kernel
theorem dX10_setHeight_23 : decode cX10_setHeight 23 = .ok (.aload_n 0, 1) := by decide +kernel
theorem dX10_setHeight_24 : decode cX10_setHeight 24 = .ok (.getfield 7, 3) := by decide +kernel
theorem dX10_setHeight_27 : decode cX10_setHeight 27 = .ok (.bipush 12, 2) := by decide +kernel
theorem dX10_setHeight_29 : decode cX10_setHeight 29 = .ok (.iload_n 2, 1) := by decide +kernel
theorem dX10_setHeight_30 : decode cX10_setHeight 30 = .ok (.imul, 1) := by decide +kernel
theorem dX10_setHeight_31 : decode cX10_setHeight 31 = .ok (.iload_n 1, 1) := by decide +kernel
theorem dX10_setHeight_32 : decode cX10_setHeight 32 = .ok (.iadd, 1) := by decide +kernel
theorem dX10_setHeight_33 : decode cX10_setHeight 33 = .ok (.iaload, 1) := by decide +kernel
theorem dX10_setHeight_34 : decode cX10_setHeight 34 = .ok (.istore 4, 2) := by decide +kernel
theorem dX10_setHeight_36 : decode cX10_setHeight 36 = .ok (.aload_n 0, 1) := by decide +kernel
theorem dX10_setHeight_37 : decode cX10_setHeight 37 = .ok (.getfield 7, 3) := by decide +kernel
theorem dX10_setHeight_40 : decode cX10_setHeight 40 = .ok (.bipush 12, 2) := by decide +kernel
theorem dX10_setHeight_42 : decode cX10_setHeight 42 = .ok (.iload_n 2, 1) := by decide +kernel
theorem dX10_setHeight_43 : decode cX10_setHeight 43 = .ok (.imul, 1) := by decide +kernel
theorem dX10_setHeight_44 : decode cX10_setHeight 44 = .ok (.iload_n 1, 1) := by decide +kernel
theorem dX10_setHeight_45 : decode cX10_setHeight 45 = .ok (.iadd, 1) := by decide +kernel
theorem dX10_setHeight_46 : decode cX10_setHeight 46 = .ok (.iload_n 3, 1) := by decide +kernel
theorem dX10_setHeight_47 : decode cX10_setHeight 47 = .ok (.iastore, 1) := by decide +kernel
theorem dX10_setHeight_48 : decode cX10_setHeight 48 = .ok (.iload 4, 2) := by decide +kernel
theorem dX10_setHeight_50 : decode cX10_setHeight 50 = .ok (.ireturn, 1) := by decide +kernel
theorem dX10_apart_0 : decode cX10_apart 0 = .ok (.iload_n 0, 1) := by decide +kernel
theorem dX10_apart_1 : decode cX10_apart 1 = .ok (.iload_n 1, 1) := by decide +kernel
theorem dX10_apart_2 : decode cX10_apart 2 = .ok (.if_icmp .ge 9, 3) := by decide +kernel
theorem dX10_apart_5 : decode cX10_apart 5 = .ok (.iload_n 1, 1) := by decide +kernel
theorem dX10_apart_6 : decode cX10_apart 6 = .ok (.iload_n 0, 1) := by decide +kernel
theorem dX10_apart_7 : decode cX10_apart 7 = .ok (.isub, 1) := by decide +kernel
theorem dX10_apart_8 : decode cX10_apart 8 = .ok (.goto 6, 3) := by decide +kernel
theorem dX10_apart_11 : decode cX10_apart 11 = .ok (.iload_n 0, 1) := by decide +kernel
theorem dX10_apart_12 : decode cX10_apart 12 = .ok (.iload_n 1, 1) := by decide +kernel
theorem dX10_apart_13 : decode cX10_apart 13 = .ok (.isub, 1) := by decide +kernel
theorem dX10_apart_14 : decode cX10_apart 14 = .ok (.ireturn, 1) := by decide +kernel
theorem dX10_hill_0 : decode cX10_hill 0 = .ok (.aload_n 0, 1) := by decide +kernel
theorem dX10_hill_1 : decode cX10_hill 1 = .ok (.aload_n 0, 1) := by decide +kernel
theorem dX10_hill_2 : decode cX10_hill 2 = .ok (.iload_n 1, 1) := by decide +kernel
theorem dX10_hill_3 : decode cX10_hill 3 = .ok (.iload_n 2, 1) := by decide +kernel
theorem dX10_hill_4 : decode cX10_hill 4 = .ok (.invokevirtual 91, 3) := by decide +kernel
theorem dX10_hill_7 : decode cX10_hill 7 = .ok (.iload_n 3, 1) := by decide +kernel
theorem dX10_hill_8 : decode cX10_hill 8 = .ok (.iconst 0, 1) := by decide +kernel
theorem dX10_hill_9 : decode cX10_hill 9 = .ok (.sipush 255, 3) := by decide +kernel
theorem dX10_hill_12 : decode cX10_hill 12 = .ok (.invokestatic 81, 3) := by decide +kernel
theorem dX10_hill_15 : decode cX10_hill 15 = .ok (.ifCond .eq 19, 3) := by decide +kernel
theorem dX10_hill_18 : decode cX10_hill 18 = .ok (.iload 4, 2) := by decide +kernel
theorem dX10_hill_20 : decode cX10_hill 20 = .ok (.iconst 1, 1) := by decide +kernel
theorem dX10_hill_21 : decode cX10_hill 21 = .ok (.sipush 255, 3) := by decide +kernel
theorem dX10_hill_24 : decode cX10_hill 24 = .ok (.invokestatic 81, 3) := by decide +kernel
theorem dX10_hill_27 : decode cX10_hill 27 = .ok (.ifCond .eq 7, 3) := by decide +kernel
theorem dX10_hill_30 : decode cX10_hill 30 = .ok (.iconst 1, 1) := by decide +kernel
theorem dX10_hill_31 : decode cX10_hill 31 = .ok (.goto 4, 3) := by decide +kernel
theorem dX10_hill_34 : decode cX10_hill 34 = .ok (.iconst 0, 1) := by decide +kernel
theorem dX10_hill_35 : decode cX10_hill 35 = .ok (.invokevirtual 95, 3) := by decide +kernel
theorem dX10_hill_38 : decode cX10_hill 38 = .ok (.ifCond .ne 5, 3) := by decide +kernel
theorem dX10_hill_41 : decode cX10_hill 41 = .ok (.iconst 0, 1) := by decide +kernel
theorem dX10_hill_42 : decode cX10_hill 42 = .ok (.ireturn, 1) := by decide +kernel
theorem dX10_hill_43 : decode cX10_hill 43 = .ok (.iconst 0, 1) := by decide +kernel
theorem dX10_hill_44 : decode cX10_hill 44 = .ok (.istore 5, 2) := by decide +kernel
theorem dX10_hill_46 : decode cX10_hill 46 = .ok (.iconst 0, 1) := by decide +kernel
theorem dX10_hill_47 : decode cX10_hill 47 = .ok (.istore 6, 2) := by decide +kernel
theorem dX10_hill_49 : decode cX10_hill 49 = .ok (.iload 6, 2) := by decide +kernel
theorem dX10_hill_51 : decode cX10_hill 51 = .ok (.sipush 144, 3) := by decide +kernel
theorem dX10_hill_54 : decode cX10_hill 54 = .ok (.if_icmp .ge 103, 3) := by decide +kernel
theorem dX10_hill_57 : decode cX10_hill 57 = .ok (.iload 6, 2) := by decide +kernel
theorem dX10_hill_59 : decode cX10_hill 59 = .ok (.bipush 12, 2) := by decide +kernel
theorem dX10_hill_61 : decode cX10_hill 61 = .ok (.irem, 1) := by decide +kernel
theorem dX10_hill_62 : decode cX10_hill 62 = .ok (.iload_n 1, 1) := by decide +kernel
theorem dX10_hill_63 : decode cX10_hill 63 = .ok (.invokestatic 99, 3) := by decide +kernel
theorem dX10_hill_66 : decode cX10_hill 66 = .ok (.iload 6, 2) := by decide +kernel
theorem dX10_hill_68 : decode cX10_hill 68 = .ok (.bipush 12, 2) := by decide +kernel
theorem dX10_hill_70 : decode cX10_hill 70 = .ok (.idiv, 1) := by decide +kernel
theorem dX10_hill_71 : decode cX10_hill 71 = .ok (.iload_n 2, 1) := by decide +kernel
theorem dX10_hill_72 : decode cX10_hill 72 = .ok (.invokestatic 99, 3) := by decide +kernel
theorem dX10_hill_75 : decode cX10_hill 75 = .ok (.if_icmp .le 15, 3) := by decide +kernel
theorem dX10_hill_78 : decode cX10_hill 78 = .ok (.iload 6, 2) := by decide +kernel
theorem dX10_hill_80 : decode cX10_hill 80 = .ok (.bipush 12, 2) := by decide +kernel
theorem dX10_hill_82 : decode cX10_hill 82 = .ok (.irem, 1) := by decide +kernel
theorem dX10_hill_83 : decode cX10_hill 83 = .ok (.iload_n 1, 1) := by decide +kernel
theorem dX10_hill_84 : decode cX10_hill 84 = .ok (.invokestatic 99, 3) := by decide +kernel
theorem dX10_hill_87 : decode cX10_hill 87 = .ok (.goto 12, 3) := by decide +kernel
theorem dX10_hill_90 : decode cX10_hill 90 = .ok (.iload 6, 2) := by decide +kernel
theorem dX10_hill_92 : decode cX10_hill 92 = .ok (.bipush 12, 2) := by decide +kernel
theorem dX10_hill_94 : decode cX10_hill 94 = .ok (.idiv, 1) := by decide +kernel
theorem dX10_hill_95 : decode cX10_hill 95 = .ok (.iload_n 2, 1) := by decide +kernel
theorem dX10_hill_96 : decode cX10_hill 96 = .ok (.invokestatic 99, 3) := by decide +kernel
theorem dX10_hill_99 : decode cX10_hill 99 = .ok (.istore 7, 2) := by decide +kernel
theorem dX10_hill_101 : decode cX10_hill 101 = .ok (.iload_n 3, 1) := by decide +kernel
theorem dX10_hill_102 : decode cX10_hill 102 = .ok (.iload 4, 2) := by decide +kernel
theorem dX10_hill_104 : decode cX10_hill 104 = .ok (.iload 7, 2) := by decide +kernel
theorem dX10_hill_106 : decode cX10_hill 106 = .ok (.imul, 1) := by decide +kernel
theorem dX10_hill_107 : decode cX10_hill 107 = .ok (.isub, 1) := by decide +kernel
theorem dX10_hill_108 : decode cX10_hill 108 = .ok (.istore 8, 2) := by decide +kernel
theorem dX10_hill_110 : decode cX10_hill 110 = .ok (.aload_n 0, 1) := by decide +kernel
theorem dX10_hill_111 : decode cX10_hill 111 = .ok (.iload 6, 2) := by decide +kernel
theorem dX10_hill_113 : decode cX10_hill 113 = .ok (.bipush 12, 2) := by decide +kernel
theorem dX10_hill_115 : decode cX10_hill 115 = .ok (.irem, 1) := by decide +kernel
theorem dX10_hill_116 : decode cX10_hill 116 = .ok (.iload 6, 2) := by decide +kernel
theorem dX10_hill_118 : decode cX10_hill 118 = .ok (.bipush 12, 2) := by decide +kernel
theorem dX10_hill_120 : decode cX10_hill 120 = .ok (.idiv, 1) := by decide +kernel
theorem dX10_hill_121 : decode cX10_hill 121 = .ok (.invokevirtual 91, 3) := by decide +kernel
theorem dX10_hill_124 : decode cX10_hill 124 = .ok (.ifCond .eq 27, 3) := by decide +kernel
theorem dX10_hill_127 : decode cX10_hill 127 = .ok (.iload 8, 2) := by decide +kernel
theorem dX10_hill_129 : decode cX10_hill 129 = .ok (.aload_n 0, 1) := by decide +kernel
theorem dX10_hill_130 : decode cX10_hill 130 = .ok (.getfield 7, 3) := by decide +kernel
theorem dX10_hill_133 : decode cX10_hill 133 = .ok (.iload 6, 2) := by decide +kernel
theorem dX10_hill_135 : decode cX10_hill 135 = .ok (.iaload, 1) := by decide +kernel
theorem dX10_hill_136 : decode cX10_hill 136 = .ok (.if_icmp .le 15, 3) := by decide +kernel
theorem dX10_hill_139 : decode cX10_hill 139 = .ok (.aload_n 0, 1) := by decide +kernel
theorem dX10_hill_140 : decode cX10_hill 140 = .ok (.getfield 7, 3) := by decide +kernel
theorem dX10_hill_143 : decode cX10_hill 143 = .ok (.iload 6, 2) := by decide +kernel
theorem dX10_hill_145 : decode cX10_hill 145 = .ok (.iload 8, 2) := by decide +kernel
theorem dX10_hill_147 : decode cX10_hill 147 = .ok (.iastore, 1) := by decide +kernel
theorem dX10_hill_148 : decode cX10_hill 148 = .ok (.iinc 5 1, 3) := by decide +kernel
theorem dX10_hill_151 : decode cX10_hill 151 = .ok (.iinc 6 1, 3) := by decide +kernel
theorem dX10_hill_154 : decode cX10_hill 154 = .ok (.goto (-105), 3) := by decide +kernel
theorem dX10_hill_157 : decode cX10_hill 157 = .ok (.iload 5, 2) := by decide +kernel
theorem dX10_hill_159 : decode cX10_hill 159 = .ok (.ireturn, 1) := by decide +kernel
theorem dX10_setGround_0 : decode cX10_setGround 0 = .ok (.aload_n 0, 1) := by decide +kernel
theorem dX10_setGround_1 : decode cX10_setGround 1 = .ok (.aload_n 0, 1) := by decide +kernel
theorem dX10_setGround_2 : decode cX10_setGround 2 = .ok (.iload_n 1, 1) := by decide +kernel
theorem dX10_setGround_3 : decode cX10_setGround 3 = .ok (.iload_n 2, 1) := by decide +kernel
theorem dX10_setGround_4 : decode cX10_setGround 4 = .ok (.invokevirtual 91, 3) := by decide +kernel
theorem dX10_setGround_7 : decode cX10_setGround 7 = .ok (.ifCond .eq 17, 3) := by decide +kernel
theorem dX10_setGround_10 : decode cX10_setGround 10 = .ok (.aload_n 0, 1) := by decide +kernel
theorem dX10_setGround_11 : decode cX10_setGround 11 = .ok (.iload_n 3, 1) := by decide +kernel
theorem dX10_setGround_12 : decode cX10_setGround 12 = .ok (.iload 4, 2) := by decide +kernel
theorem dX10_setGround_14 : decode cX10_setGround 14 = .ok (.invokevirtual 91, 3) := by decide +kernel
theorem dX10_setGround_17 : decode cX10_setGround 17 = .ok (.ifCond .eq 7, 3) := by decide +kernel
theorem dX10_setGround_20 : decode cX10_setGround 20 = .ok (.iconst 1, 1) := by decide +kernel
theorem dX10_setGround_21 : decode cX10_setGround 21 = .ok (.goto 4, 3) := by decide +kernel
theorem dX10_setGround_24 : decode cX10_setGround 24 = .ok (.iconst 0, 1) := by decide +kernel
theorem dX10_setGround_25 : decode cX10_setGround 25 = .ok (.iload_n 3, 1) := by decide +kernel
theorem dX10_setGround_26 : decode cX10_setGround 26 = .ok (.iload_n 1, 1) := by decide +kernel
theorem dX10_setGround_27 : decode cX10_setGround 27 = .ok (.if_icmp .lt 23, 3) := by decide +kernel
theorem dX10_setGround_30 : decode cX10_setGround 30 = .ok (.iload 4, 2) := by decide +kernel
theorem dX10_setGround_32 : decode cX10_setGround 32 = .ok (.iload_n 2, 1) := by decide +kernel
theorem dX10_setGround_33 : decode cX10_setGround 33 = .ok (.if_icmp .lt 17, 3) := by decide +kernel
theorem dX10_setGround_36 : decode cX10_setGround 36 = .ok (.iload 5, 2) := by decide +kernel
theorem dX10_setGround_38 : decode cX10_setGround 38 = .ok (.iconst 0, 1) := by decide +kernel
theorem dX10_setGround_39 : decode cX10_setGround 39 = .ok (.iconst 4, 1) := by decide +kernel
theorem dX10_setGround_40 : decode cX10_setGround 40 = .ok (.invokestatic 81, 3) := by decide +kernel
theorem dX10_setGround_43 : decode cX10_setGround 43 = .ok (.ifCond .eq 7, 3) := by decide +kernel
theorem dX10_setGround_46 : decode cX10_setGround 46 = .ok (.iconst 1, 1) := by decide +kernel
theorem dX10_setGround_47 : decode cX10_setGround 47 = .ok (.goto 4, 3) := by decide +kernel
theorem dX10_setGround_50 : decode cX10_setGround 50 = .ok (.iconst 0, 1) := by decide +kernel
theorem dX10_setGround_51 : decode cX10_setGround 51 = .ok (.invokevirtual 95, 3) := by decide +kernel
theorem dX10_setGround_54 : decode cX10_setGround 54 = .ok (.ifCond .ne 5, 3) := by decide +kernel
theorem dX10_setGround_57 : decode cX10_setGround 57 = .ok (.iconst 0, 1) := by decide +kernel
theorem dX10_setGround_58 : decode cX10_setGround 58 = .ok (.ireturn, 1) := by decide +kernel
theorem dX10_setGround_59 : decode cX10_setGround 59 = .ok (.iconst 0, 1) := by decide +kernel
theorem dX10_setGround_60 : decode cX10_setGround 60 = .ok (.istore 6, 2) := by decide +kernel
theorem dX10_setGround_62 : decode cX10_setGround 62 = .ok (.iconst 0, 1) := by decide +kernel
theorem dX10_setGround_63 : decode cX10_setGround 63 = .ok (.istore 7, 2) := by decide +kernel
theorem dX10_setGround_65 : decode cX10_setGround 65 = .ok (.iload 7, 2) := by decide +kernel
theorem dX10_setGround_67 : decode cX10_setGround 67 = .ok (.sipush 144, 3) := by decide +kernel
theorem dX10_setGround_70 : decode cX10_setGround 70 = .ok (.if_icmp .ge 67, 3) := by decide +kernel
theorem dX10_setGround_73 : decode cX10_setGround 73 = .ok (.iload 7, 2) := by decide +kernel
theorem dX10_setGround_75 : decode cX10_setGround 75 = .ok (.bipush 12, 2) := by decide +kernel
theorem dX10_setGround_77 : decode cX10_setGround 77 = .ok (.irem, 1) := by decide +kernel
theorem dX10_setGround_78 : decode cX10_setGround 78 = .ok (.iload_n 1, 1) := by decide +kernel
theorem dX10_setGround_79 : decode cX10_setGround 79 = .ok (.iload_n 3, 1) := by decide +kernel
theorem dX10_setGround_80 : decode cX10_setGround 80 = .ok (.invokestatic 81, 3) := by decide +kernel
theorem dX10_setGround_83 : decode cX10_setGround 83 = .ok (.ifCond .eq 48, 3) := by decide +kernel
theorem dX10_setGround_86 : decode cX10_setGround 86 = .ok (.iload 7, 2) := by decide +kernel
theorem dX10_setGround_88 : decode cX10_setGround 88 = .ok (.bipush 12, 2) := by decide +kernel
theorem dX10_setGround_90 : decode cX10_setGround 90 = .ok (.idiv, 1) := by decide +kernel
theorem dX10_setGround_91 : decode cX10_setGround 91 = .ok (.iload_n 2, 1) := by decide +kernel
theorem dX10_setGround_92 : decode cX10_setGround 92 = .ok (.iload 4, 2) := by decide +kernel
theorem dX10_setGround_94 : decode cX10_setGround 94 = .ok (.invokestatic 81, 3) := by decide +kernel
theorem dX10_setGround_97 : decode cX10_setGround 97 = .ok (.ifCond .eq 34, 3) := by decide +kernel
theorem dX10_setGround_100 : decode cX10_setGround 100 = .ok (.iload 6, 2) := by decide +kernel
theorem dX10_setGround_102 : decode cX10_setGround 102 = .ok (.aload_n 0, 1) := by decide +kernel
theorem dX10_setGround_103 : decode cX10_setGround 103 = .ok (.getfield 13, 3) := by decide +kernel
theorem dX10_setGround_106 : decode cX10_setGround 106 = .ok (.iload 7, 2) := by decide +kernel
theorem dX10_setGround_108 : decode cX10_setGround 108 = .ok (.iaload, 1) := by decide +kernel
theorem dX10_setGround_109 : decode cX10_setGround 109 = .ok (.iload 5, 2) := by decide +kernel
theorem dX10_setGround_111 : decode cX10_setGround 111 = .ok (.if_icmp .ne 7, 3) := by decide +kernel
theorem dX10_setGround_114 : decode cX10_setGround 114 = .ok (.iconst 0, 1) := by decide +kernel
theorem dX10_setGround_115 : decode cX10_setGround 115 = .ok (.goto 4, 3) := by decide +kernel
theorem dX10_setGround_118 : decode cX10_setGround 118 = .ok (.iconst 1, 1) := by decide +kernel
theorem dX10_setGround_119 : decode cX10_setGround 119 = .ok (.iadd, 1) := by decide +kernel
theorem dX10_setGround_120 : decode cX10_setGround 120 = .ok (.istore 6, 2) := by decide +kernel
theorem dX10_setGround_122 : decode cX10_setGround 122 = .ok (.aload_n 0, 1) := by decide +kernel
theorem dX10_setGround_123 : decode cX10_setGround 123 = .ok (.getfield 13, 3) := by decide +kernel
theorem dX10_setGround_126 : decode cX10_setGround 126 = .ok (.iload 7, 2) := by decide +kernel
theorem dX10_setGround_128 : decode cX10_setGround 128 = .ok (.iload 5, 2) := by decide +kernel
theorem dX10_setGround_130 : decode cX10_setGround 130 = .ok (.iastore, 1) := by decide +kernel
theorem dX10_setGround_131 : decode cX10_setGround 131 = .ok (.iinc 7 1, 3) := by decide +kernel
theorem dX10_setGround_134 : decode cX10_setGround 134 = .ok (.goto (-69), 3) := by decide +kernel
theorem dX10_setGround_137 : decode cX10_setGround 137 = .ok (.iload 6, 2) := by decide +kernel
theorem dX10_setGround_139 : decode cX10_setGround 139 = .ok (.ireturn, 1) := by decide +kernel
theorem dX10_cell_0 : decode cX10_cell 0 = .ok (.aload_n 0, 1) := by decide +kernel
theorem dX10_cell_1 : decode cX10_cell 1 = .ok (.aload_n 0, 1) := by decide +kernel
theorem dX10_cell_2 : decode cX10_cell 2 = .ok (.iload_n 1, 1) := by decide +kernel
theorem dX10_cell_3 : decode cX10_cell 3 = .ok (.iload_n 2, 1) := by decide +kernel
theorem dX10_cell_4 : decode cX10_cell 4 = .ok (.invokevirtual 91, 3) := by decide +kernel
theorem dX10_cell_7 : decode cX10_cell 7 = .ok (.invokevirtual 103, 3) := by decide +kernel
theorem dX10_cell_10 : decode cX10_cell 10 = .ok (.ifCond .eq 32, 3) := by decide +kernel
theorem dX10_cell_13 : decode cX10_cell 13 = .ok (.bipush 10, 2) := by decide +kernel
theorem dX10_cell_15 : decode cX10_cell 15 = .ok (.aload_n 0, 1) := by decide +kernel
theorem dX10_cell_16 : decode cX10_cell 16 = .ok (.getfield 7, 3) := by decide +kernel
theorem dX10_cell_19 : decode cX10_cell 19 = .ok (.bipush 12, 2) := by decide +kernel
theorem dX10_cell_21 : decode cX10_cell 21 = .ok (.iload_n 2, 1) := by decide +kernel
theorem dX10_cell_22 : decode cX10_cell 22 = .ok (.imul, 1) := by decide +kernel
theorem dX10_cell_23 : decode cX10_cell 23 = .ok (.iload_n 1, 1) := by decide +kernel
theorem dX10_cell_24 : decode cX10_cell 24 = .ok (.iadd, 1) := by decide +kernel
theorem dX10_cell_25 : decode cX10_cell 25 = .ok (.iaload, 1) := by decide +kernel
theorem dX10_cell_26 : decode cX10_cell 26 = .ok (.imul, 1) := by decide +kernel
theorem dX10_cell_27 : decode cX10_cell 27 = .ok (.aload_n 0, 1) := by decide +kernel
theorem dX10_cell_28 : decode cX10_cell 28 = .ok (.getfield 13, 3) := by decide +kernel
theorem dX10_cell_31 : decode cX10_cell 31 = .ok (.bipush 12, 2) := by decide +kernel
theorem dX10_cell_33 : decode cX10_cell 33 = .ok (.iload_n 2, 1) := by decide +kernel
theorem dX10_cell_34 : decode cX10_cell 34 = .ok (.imul, 1) := by decide +kernel
theorem dX10_cell_35 : decode cX10_cell 35 = .ok (.iload_n 1, 1) := by decide +kernel
theorem dX10_cell_36 : decode cX10_cell 36 = .ok (.iadd, 1) := by decide +kernel
theorem dX10_cell_37 : decode cX10_cell 37 = .ok (.iaload, 1) := by decide +kernel
theorem dX10_cell_38 : decode cX10_cell 38 = .ok (.iadd, 1) := by decide +kernel
theorem dX10_cell_39 : decode cX10_cell 39 = .ok (.goto 4, 3) := by decide +kernel
theorem dX10_cell_42 : decode cX10_cell 42 = .ok (.iconst 0, 1) := by decide +kernel
theorem dX10_cell_43 : decode cX10_cell 43 = .ok (.ireturn, 1) := by decide +kernel
theorem dX10_isGap_0 : decode cX10_isGap 0 = .ok (.iload_n 1, 1) := by decide +kernel
theorem dX10_isGap_1 : decode cX10_isGap 1 = .ok (.sipush 144, 3) := by decide +kernel
theorem dX10_isGap_4 : decode cX10_isGap 4 = .ok (.irem, 1) := by decide +kernel
theorem dX10_isGap_5 : decode cX10_isGap 5 = .ok (.istore_n 3, 1) := by decide +kernel
theorem dX10_isGap_6 : decode cX10_isGap 6 = .ok (.iload_n 1, 1) := by decide +kernel
theorem dX10_isGap_7 : decode cX10_isGap 7 = .ok (.sipush 144, 3) := by decide +kernel
theorem dX10_isGap_10 : decode cX10_isGap 10 = .ok (.if_icmp .ge 9, 3) := by decide +kernel
theorem dX10_isGap_13 : decode cX10_isGap 13 = .ok (.iload_n 3, 1) := by decide +kernel
theorem dX10_isGap_14 : decode cX10_isGap 14 = .ok (.iconst 1, 1) := by decide +kernel
theorem dX10_isGap_15 : decode cX10_isGap 15 = .ok (.iadd, 1) := by decide +kernel
theorem dX10_isGap_16 : decode cX10_isGap 16 = .ok (.goto 7, 3) := by decide +kernel
theorem dX10_isGap_19 : decode cX10_isGap 19 = .ok (.iload_n 3, 1) := by decide +kernel
theorem dX10_isGap_20 : decode cX10_isGap 20 = .ok (.bipush 12, 2) := by decide +kernel
theorem dX10_isGap_22 : decode cX10_isGap 22 = .ok (.iadd, 1) := by decide +kernel
theorem dX10_isGap_23 : decode cX10_isGap 23 = .ok (.istore 4, 2) := by decide +kernel
theorem dX10_isGap_25 : decode cX10_isGap 25 = .ok (.aload_n 0, 1) := by decide +kernel
theorem dX10_isGap_26 : decode cX10_isGap 26 = .ok (.iload_n 3, 1) := by decide +kernel
theorem dX10_isGap_27 : decode cX10_isGap 27 = .ok (.bipush 12, 2) := by decide +kernel
theorem dX10_isGap_29 : decode cX10_isGap 29 = .ok (.irem, 1) := by decide +kernel
theorem dX10_isGap_30 : decode cX10_isGap 30 = .ok (.iload_n 3, 1) := by decide +kernel
theorem dX10_isGap_31 : decode cX10_isGap 31 = .ok (.bipush 12, 2) := by decide +kernel
theorem dX10_isGap_33 : decode cX10_isGap 33 = .ok (.idiv, 1) := by decide +kernel
theorem dX10_isGap_34 : decode cX10_isGap 34 = .ok (.invokevirtual 91, 3) := by decide +kernel
theorem dX10_isGap_37 : decode cX10_isGap 37 = .ok (.ifCond .eq 43, 3) := by decide +kernel
theorem dX10_isGap_40 : decode cX10_isGap 40 = .ok (.iload_n 1, 1) := by decide +kernel
theorem dX10_isGap_41 : decode cX10_isGap 41 = .ok (.sipush 144, 3) := by decide +kernel
theorem dX10_isGap_44 : decode cX10_isGap 44 = .ok (.if_icmp .ge 19, 3) := by decide +kernel
theorem dX10_isGap_47 : decode cX10_isGap 47 = .ok (.iload_n 3, 1) := by decide +kernel
theorem dX10_isGap_48 : decode cX10_isGap 48 = .ok (.bipush 12, 2) := by decide +kernel
theorem dX10_isGap_50 : decode cX10_isGap 50 = .ok (.irem, 1) := by decide +kernel
theorem dX10_isGap_51 : decode cX10_isGap 51 = .ok (.iconst 1, 1) := by decide +kernel
theorem dX10_isGap_52 : decode cX10_isGap 52 = .ok (.iadd, 1) := by decide +kernel
theorem dX10_isGap_53 : decode cX10_isGap 53 = .ok (.aload_n 0, 1) := by decide +kernel
theorem dX10_isGap_54 : decode cX10_isGap 54 = .ok (.getfield 71, 3) := by decide +kernel
theorem dX10_isGap_57 : decode cX10_isGap 57 = .ok (.if_icmp .ge 23, 3) := by decide +kernel
theorem dX10_isGap_60 : decode cX10_isGap 60 = .ok (.goto 16, 3) := by decide +kernel
theorem dX10_isGap_63 : decode cX10_isGap 63 = .ok (.iload_n 3, 1) := by decide +kernel
theorem dX10_isGap_64 : decode cX10_isGap 64 = .ok (.bipush 12, 2) := by decide +kernel
theorem dX10_isGap_66 : decode cX10_isGap 66 = .ok (.idiv, 1) := by decide +kernel
theorem dX10_isGap_67 : decode cX10_isGap 67 = .ok (.iconst 1, 1) := by decide +kernel
theorem dX10_isGap_68 : decode cX10_isGap 68 = .ok (.iadd, 1) := by decide +kernel
theorem dX10_isGap_69 : decode cX10_isGap 69 = .ok (.aload_n 0, 1) := by decide +kernel
theorem dX10_isGap_70 : decode cX10_isGap 70 = .ok (.getfield 75, 3) := by decide +kernel
theorem dX10_isGap_73 : decode cX10_isGap 73 = .ok (.if_icmp .ge 7, 3) := by decide +kernel
theorem dX10_isGap_76 : decode cX10_isGap 76 = .ok (.iconst 1, 1) := by decide +kernel
theorem dX10_isGap_77 : decode cX10_isGap 77 = .ok (.goto 4, 3) := by decide +kernel
theorem dX10_isGap_80 : decode cX10_isGap 80 = .ok (.iconst 0, 1) := by decide +kernel
theorem dX10_isGap_81 : decode cX10_isGap 81 = .ok (.istore 5, 2) := by decide +kernel
theorem dX10_isGap_83 : decode cX10_isGap 83 = .ok (.iload 5, 2) := by decide +kernel
theorem dX10_isGap_85 : decode cX10_isGap 85 = .ok (.ifCond .eq 41, 3) := by decide +kernel
theorem dX10_isGap_88 : decode cX10_isGap 88 = .ok (.aload_n 0, 1) := by decide +kernel
theorem dX10_isGap_89 : decode cX10_isGap 89 = .ok (.getfield 7, 3) := by decide +kernel
theorem dX10_isGap_92 : decode cX10_isGap 92 = .ok (.iload_n 3, 1) := by decide +kernel
theorem dX10_isGap_93 : decode cX10_isGap 93 = .ok (.iaload, 1) := by decide +kernel
theorem dX10_isGap_94 : decode cX10_isGap 94 = .ok (.iload_n 2, 1) := by decide +kernel
theorem dX10_isGap_95 : decode cX10_isGap 95 = .ok (.if_icmp .lt 7, 3) := by decide +kernel
theorem dX10_isGap_98 : decode cX10_isGap 98 = .ok (.iconst 1, 1) := by decide +kernel
theorem dX10_isGap_99 : decode cX10_isGap 99 = .ok (.goto 4, 3) := by decide +kernel
theorem dX10_isGap_102 : decode cX10_isGap 102 = .ok (.iconst 0, 1) := by decide +kernel
theorem dX10_isGap_103 : decode cX10_isGap 103 = .ok (.aload_n 0, 1) := by decide +kernel
theorem dX10_isGap_104 : decode cX10_isGap 104 = .ok (.getfield 7, 3) := by decide +kernel
theorem dX10_isGap_107 : decode cX10_isGap 107 = .ok (.iload 4, 2) := by decide +kernel
theorem dX10_isGap_109 : decode cX10_isGap 109 = .ok (.iaload, 1) := by decide +kernel
theorem dX10_isGap_110 : decode cX10_isGap 110 = .ok (.iload_n 2, 1) := by decide +kernel
theorem dX10_isGap_111 : decode cX10_isGap 111 = .ok (.if_icmp .lt 7, 3) := by decide +kernel
theorem dX10_isGap_114 : decode cX10_isGap 114 = .ok (.iconst 1, 1) := by decide +kernel
theorem dX10_isGap_115 : decode cX10_isGap 115 = .ok (.goto 4, 3) := by decide +kernel
theorem dX10_isGap_118 : decode cX10_isGap 118 = .ok (.iconst 0, 1) := by decide +kernel
theorem dX10_isGap_119 : decode cX10_isGap 119 = .ok (.if_icmp .eq 7, 3) := by decide +kernel
theorem dX10_isGap_122 : decode cX10_isGap 122 = .ok (.iconst 1, 1) := by decide +kernel
theorem dX10_isGap_123 : decode cX10_isGap 123 = .ok (.goto 4, 3) := by decide +kernel
theorem dX10_isGap_126 : decode cX10_isGap 126 = .ok (.iconst 0, 1) := by decide +kernel
theorem dX10_isGap_127 : decode cX10_isGap 127 = .ok (.ireturn, 1) := by decide +kernel
theorem dX10_joins_0 : decode cX10_joins 0 = .ok (.aload_n 0, 1) := by decide +kernel
theorem dX10_joins_1 : decode cX10_joins 1 = .ok (.getfield 47, 3) := by decide +kernel
theorem dX10_joins_4 : decode cX10_joins 4 = .ok (.iload_n 2, 1) := by decide +kernel
theorem dX10_joins_5 : decode cX10_joins 5 = .ok (.iaload, 1) := by decide +kernel
theorem dX10_joins_6 : decode cX10_joins 6 = .ok (.istore_n 3, 1) := by decide +kernel
theorem dX10_joins_7 : decode cX10_joins 7 = .ok (.aload_n 0, 1) := by decide +kernel
theorem dX10_joins_8 : decode cX10_joins 8 = .ok (.getfield 47, 3) := by decide +kernel
theorem dX10_joins_11 : decode cX10_joins 11 = .ok (.iload_n 1, 1) := by decide +kernel
theorem dX10_joins_12 : decode cX10_joins 12 = .ok (.iaload, 1) := by decide +kernel
theorem dX10_joins_13 : decode cX10_joins 13 = .ok (.istore 4, 2) := by decide +kernel
theorem dX10_joins_15 : decode cX10_joins 15 = .ok (.iconst 0, 1) := by decide +kernel
theorem dX10_joins_16 : decode cX10_joins 16 = .ok (.istore 5, 2) := by decide +kernel
theorem dX10_joins_18 : decode cX10_joins 18 = .ok (.iload 5, 2) := by decide +kernel
theorem dX10_joins_20 : decode cX10_joins 20 = .ok (.sipush 288, 3) := by decide +kernel
theorem dX10_joins_23 : decode cX10_joins 23 = .ok (.if_icmp .ge 39, 3) := by decide +kernel
theorem dX10_joins_26 : decode cX10_joins 26 = .ok (.aload_n 0, 1) := by decide +kernel
theorem dX10_joins_27 : decode cX10_joins 27 = .ok (.getfield 47, 3) := by decide +kernel
theorem dX10_joins_30 : decode cX10_joins 30 = .ok (.iload 5, 2) := by decide +kernel
theorem dX10_joins_32 : decode cX10_joins 32 = .ok (.aload_n 0, 1) := by decide +kernel
theorem dX10_joins_33 : decode cX10_joins 33 = .ok (.getfield 47, 3) := by decide +kernel
theorem dX10_joins_36 : decode cX10_joins 36 = .ok (.iload 5, 2) := by decide +kernel
theorem dX10_joins_38 : decode cX10_joins 38 = .ok (.iaload, 1) := by decide +kernel
theorem dX10_joins_39 : decode cX10_joins 39 = .ok (.iload_n 3, 1) := by decide +kernel
theorem dX10_joins_40 : decode cX10_joins 40 = .ok (.if_icmp .ne 8, 3) := by decide +kernel
theorem dX10_joins_43 : decode cX10_joins 43 = .ok (.iload 4, 2) := by decide +kernel
theorem dX10_joins_45 : decode cX10_joins 45 = .ok (.goto 10, 3) := by decide +kernel
theorem dX10_joins_48 : decode cX10_joins 48 = .ok (.aload_n 0, 1) := by decide +kernel
theorem dX10_joins_49 : decode cX10_joins 49 = .ok (.getfield 47, 3) := by decide +kernel
theorem dX10_joins_52 : decode cX10_joins 52 = .ok (.iload 5, 2) := by decide +kernel
theorem dX10_joins_54 : decode cX10_joins 54 = .ok (.iaload, 1) := by decide +kernel
theorem dX10_joins_55 : decode cX10_joins 55 = .ok (.iastore, 1) := by decide +kernel
theorem dX10_joins_56 : decode cX10_joins 56 = .ok (.iinc 5 1, 3) := by decide +kernel
theorem dX10_joins_59 : decode cX10_joins 59 = .ok (.goto (-41), 3) := by decide +kernel
theorem dX10_joins_62 : decode cX10_joins 62 = .ok (.return_, 1) := by decide +kernel
theorem dX10_joinsSquare_0 : decode cX10_joinsSquare 0 = .ok (.iload_n 1, 1) := by decide +kernel
theorem dX10_joinsSquare_1 : decode cX10_joinsSquare 1 = .ok (.istore_n 3, 1) := by decide +kernel
theorem dX10_joinsSquare_2 : decode cX10_joinsSquare 2 = .ok (.iload_n 1, 1) := by decide +kernel
theorem dX10_joinsSquare_3 : decode cX10_joinsSquare 3 = .ok (.bipush 12, 2) := by decide +kernel
theorem dX10_joinsSquare_5 : decode cX10_joinsSquare 5 = .ok (.iadd, 1) := by decide +kernel
theorem dX10_joinsSquare_6 : decode cX10_joinsSquare 6 = .ok (.istore 4, 2) := by decide +kernel
theorem dX10_joinsSquare_8 : decode cX10_joinsSquare 8 = .ok (.sipush 144, 3) := by decide +kernel
theorem dX10_joinsSquare_11 : decode cX10_joinsSquare 11 = .ok (.iload_n 1, 1) := by decide +kernel
theorem dX10_joinsSquare_12 : decode cX10_joinsSquare 12 = .ok (.iadd, 1) := by decide +kernel
theorem dX10_joinsSquare_13 : decode cX10_joinsSquare 13 = .ok (.istore 5, 2) := by decide +kernel
theorem dX10_joinsSquare_15 : decode cX10_joinsSquare 15 = .ok (.sipush 144, 3) := by decide +kernel
theorem dX10_joinsSquare_18 : decode cX10_joinsSquare 18 = .ok (.iload_n 1, 1) := by decide +kernel
theorem dX10_joinsSquare_19 : decode cX10_joinsSquare 19 = .ok (.iadd, 1) := by decide +kernel
theorem dX10_joinsSquare_20 : decode cX10_joinsSquare 20 = .ok (.iconst 1, 1) := by decide +kernel
theorem dX10_joinsSquare_21 : decode cX10_joinsSquare 21 = .ok (.iadd, 1) := by decide +kernel
theorem dX10_joinsSquare_22 : decode cX10_joinsSquare 22 = .ok (.istore 6, 2) := by decide +kernel
theorem dX10_joinsSquare_24 : decode cX10_joinsSquare 24 = .ok (.aload_n 0, 1) := by decide +kernel
theorem dX10_joinsSquare_25 : decode cX10_joinsSquare 25 = .ok (.iload_n 3, 1) := by decide +kernel
theorem dX10_joinsSquare_26 : decode cX10_joinsSquare 26 = .ok (.iload_n 2, 1) := by decide +kernel
theorem dX10_joinsSquare_27 : decode cX10_joinsSquare 27 = .ok (.invokevirtual 106, 3) := by decide +kernel
theorem dX10_joinsSquare_30 : decode cX10_joinsSquare 30 = .ok (.ifCond .eq 7, 3) := by decide +kernel
theorem dX10_joinsSquare_33 : decode cX10_joinsSquare 33 = .ok (.iconst 1, 1) := by decide +kernel
theorem dX10_joinsSquare_34 : decode cX10_joinsSquare 34 = .ok (.goto 4, 3) := by decide +kernel
theorem dX10_joinsSquare_37 : decode cX10_joinsSquare 37 = .ok (.iconst 0, 1) := by decide +kernel
theorem dX10_joinsSquare_38 : decode cX10_joinsSquare 38 = .ok (.aload_n 0, 1) := by decide +kernel
theorem dX10_joinsSquare_39 : decode cX10_joinsSquare 39 = .ok (.iload 4, 2) := by decide +kernel
theorem dX10_joinsSquare_41 : decode cX10_joinsSquare 41 = .ok (.iload_n 2, 1) := by decide +kernel
theorem dX10_joinsSquare_42 : decode cX10_joinsSquare 42 = .ok (.invokevirtual 106, 3) := by decide +kernel
theorem dX10_joinsSquare_45 : decode cX10_joinsSquare 45 = .ok (.ifCond .eq 7, 3) := by decide +kernel
theorem dX10_joinsSquare_48 : decode cX10_joinsSquare 48 = .ok (.iconst 1, 1) := by decide +kernel
theorem dX10_joinsSquare_49 : decode cX10_joinsSquare 49 = .ok (.goto 4, 3) := by decide +kernel
theorem dX10_joinsSquare_52 : decode cX10_joinsSquare 52 = .ok (.iconst 0, 1) := by decide +kernel
theorem dX10_joinsSquare_53 : decode cX10_joinsSquare 53 = .ok (.iadd, 1) := by decide +kernel
theorem dX10_joinsSquare_54 : decode cX10_joinsSquare 54 = .ok (.aload_n 0, 1) := by decide +kernel
theorem dX10_joinsSquare_55 : decode cX10_joinsSquare 55 = .ok (.iload 5, 2) := by decide +kernel
theorem dX10_joinsSquare_57 : decode cX10_joinsSquare 57 = .ok (.iload_n 2, 1) := by decide +kernel
theorem dX10_joinsSquare_58 : decode cX10_joinsSquare 58 = .ok (.invokevirtual 106, 3) := by decide +kernel
theorem dX10_joinsSquare_61 : decode cX10_joinsSquare 61 = .ok (.ifCond .eq 7, 3) := by decide +kernel
theorem dX10_joinsSquare_64 : decode cX10_joinsSquare 64 = .ok (.iconst 1, 1) := by decide +kernel
theorem dX10_joinsSquare_65 : decode cX10_joinsSquare 65 = .ok (.goto 4, 3) := by decide +kernel
theorem dX10_joinsSquare_68 : decode cX10_joinsSquare 68 = .ok (.iconst 0, 1) := by decide +kernel
theorem dX10_joinsSquare_69 : decode cX10_joinsSquare 69 = .ok (.iadd, 1) := by decide +kernel
theorem dX10_joinsSquare_70 : decode cX10_joinsSquare 70 = .ok (.aload_n 0, 1) := by decide +kernel
theorem dX10_joinsSquare_71 : decode cX10_joinsSquare 71 = .ok (.iload 6, 2) := by decide +kernel
theorem dX10_joinsSquare_73 : decode cX10_joinsSquare 73 = .ok (.iload_n 2, 1) := by decide +kernel
theorem dX10_joinsSquare_74 : decode cX10_joinsSquare 74 = .ok (.invokevirtual 106, 3) := by decide +kernel
theorem dX10_joinsSquare_77 : decode cX10_joinsSquare 77 = .ok (.ifCond .eq 7, 3) := by decide +kernel
theorem dX10_joinsSquare_80 : decode cX10_joinsSquare 80 = .ok (.iconst 1, 1) := by decide +kernel
theorem dX10_joinsSquare_81 : decode cX10_joinsSquare 81 = .ok (.goto 4, 3) := by decide +kernel
theorem dX10_joinsSquare_84 : decode cX10_joinsSquare 84 = .ok (.iconst 0, 1) := by decide +kernel
theorem dX10_joinsSquare_85 : decode cX10_joinsSquare 85 = .ok (.iadd, 1) := by decide +kernel
theorem dX10_joinsSquare_86 : decode cX10_joinsSquare 86 = .ok (.istore 7, 2) := by decide +kernel
theorem dX10_joinsSquare_88 : decode cX10_joinsSquare 88 = .ok (.iload 7, 2) := by decide +kernel
theorem dX10_joinsSquare_90 : decode cX10_joinsSquare 90 = .ok (.iconst 4, 1) := by decide +kernel
theorem dX10_joinsSquare_91 : decode cX10_joinsSquare 91 = .ok (.if_icmp .ne 120, 3) := by decide +kernel
theorem dX10_joinsSquare_94 : decode cX10_joinsSquare 94 = .ok (.aload_n 0, 1) := by decide +kernel
theorem dX10_joinsSquare_95 : decode cX10_joinsSquare 95 = .ok (.getfield 7, 3) := by decide +kernel
theorem dX10_joinsSquare_98 : decode cX10_joinsSquare 98 = .ok (.iload_n 1, 1) := by decide +kernel
theorem dX10_joinsSquare_99 : decode cX10_joinsSquare 99 = .ok (.iaload, 1) := by decide +kernel
theorem dX10_joinsSquare_100 : decode cX10_joinsSquare 100 = .ok (.aload_n 0, 1) := by decide +kernel
theorem dX10_joinsSquare_101 : decode cX10_joinsSquare 101 = .ok (.getfield 7, 3) := by decide +kernel
theorem dX10_joinsSquare_104 : decode cX10_joinsSquare 104 = .ok (.iload_n 1, 1) := by decide +kernel
theorem dX10_joinsSquare_105 : decode cX10_joinsSquare 105 = .ok (.iconst 1, 1) := by decide +kernel
theorem dX10_joinsSquare_106 : decode cX10_joinsSquare 106 = .ok (.iadd, 1) := by decide +kernel
theorem dX10_joinsSquare_107 : decode cX10_joinsSquare 107 = .ok (.iaload, 1) := by decide +kernel
theorem dX10_joinsSquare_108 : decode cX10_joinsSquare 108 = .ok (.iadd, 1) := by decide +kernel
theorem dX10_joinsSquare_109 : decode cX10_joinsSquare 109 = .ok (.aload_n 0, 1) := by decide +kernel
theorem dX10_joinsSquare_110 : decode cX10_joinsSquare 110 = .ok (.getfield 7, 3) := by decide +kernel
theorem dX10_joinsSquare_113 : decode cX10_joinsSquare 113 = .ok (.iload_n 1, 1) := by decide +kernel
theorem dX10_joinsSquare_114 : decode cX10_joinsSquare 114 = .ok (.bipush 12, 2) := by decide +kernel
theorem dX10_joinsSquare_116 : decode cX10_joinsSquare 116 = .ok (.iadd, 1) := by decide +kernel
theorem dX10_joinsSquare_117 : decode cX10_joinsSquare 117 = .ok (.iaload, 1) := by decide +kernel
theorem dX10_joinsSquare_118 : decode cX10_joinsSquare 118 = .ok (.iadd, 1) := by decide +kernel
theorem dX10_joinsSquare_119 : decode cX10_joinsSquare 119 = .ok (.aload_n 0, 1) := by decide +kernel
theorem dX10_joinsSquare_120 : decode cX10_joinsSquare 120 = .ok (.getfield 7, 3) := by decide +kernel
theorem dX10_joinsSquare_123 : decode cX10_joinsSquare 123 = .ok (.iload_n 1, 1) := by decide +kernel
theorem dX10_joinsSquare_124 : decode cX10_joinsSquare 124 = .ok (.bipush 13, 2) := by decide +kernel
theorem dX10_joinsSquare_126 : decode cX10_joinsSquare 126 = .ok (.iadd, 1) := by decide +kernel
theorem dX10_joinsSquare_127 : decode cX10_joinsSquare 127 = .ok (.iaload, 1) := by decide +kernel
theorem dX10_joinsSquare_128 : decode cX10_joinsSquare 128 = .ok (.iadd, 1) := by decide +kernel
theorem dX10_joinsSquare_129 : decode cX10_joinsSquare 129 = .ok (.istore 8, 2) := by decide +kernel
theorem dX10_joinsSquare_131 : decode cX10_joinsSquare 131 = .ok (.iload 8, 2) := by decide +kernel
theorem dX10_joinsSquare_133 : decode cX10_joinsSquare 133 = .ok (.iconst 4, 1) := by decide +kernel
theorem dX10_joinsSquare_134 : decode cX10_joinsSquare 134 = .ok (.iload_n 2, 1) := by decide +kernel
theorem dX10_joinsSquare_135 : decode cX10_joinsSquare 135 = .ok (.imul, 1) := by decide +kernel
theorem dX10_joinsSquare_136 : decode cX10_joinsSquare 136 = .ok (.if_icmp .lt 7, 3) := by decide +kernel
theorem dX10_joinsSquare_139 : decode cX10_joinsSquare 139 = .ok (.iconst 1, 1) := by decide +kernel
theorem dX10_joinsSquare_140 : decode cX10_joinsSquare 140 = .ok (.goto 4, 3) := by decide +kernel
theorem dX10_joinsSquare_143 : decode cX10_joinsSquare 143 = .ok (.iconst 0, 1) := by decide +kernel
theorem dX10_joinsSquare_144 : decode cX10_joinsSquare 144 = .ok (.istore 9, 2) := by decide +kernel
theorem dX10_joinsSquare_146 : decode cX10_joinsSquare 146 = .ok (.aload_n 0, 1) := by decide +kernel
theorem dX10_joinsSquare_147 : decode cX10_joinsSquare 147 = .ok (.getfield 7, 3) := by decide +kernel
theorem dX10_joinsSquare_150 : decode cX10_joinsSquare 150 = .ok (.iload_n 1, 1) := by decide +kernel
theorem dX10_joinsSquare_151 : decode cX10_joinsSquare 151 = .ok (.iaload, 1) := by decide +kernel
theorem dX10_joinsSquare_152 : decode cX10_joinsSquare 152 = .ok (.iload_n 2, 1) := by decide +kernel
theorem dX10_joinsSquare_153 : decode cX10_joinsSquare 153 = .ok (.if_icmp .ge 7, 3) := by decide +kernel
theorem dX10_joinsSquare_156 : decode cX10_joinsSquare 156 = .ok (.iconst 1, 1) := by decide +kernel
theorem dX10_joinsSquare_157 : decode cX10_joinsSquare 157 = .ok (.goto 4, 3) := by decide +kernel
theorem dX10_joinsSquare_160 : decode cX10_joinsSquare 160 = .ok (.iconst 0, 1) := by decide +kernel
theorem dX10_joinsSquare_161 : decode cX10_joinsSquare 161 = .ok (.iload 9, 2) := by decide +kernel
theorem dX10_joinsSquare_163 : decode cX10_joinsSquare 163 = .ok (.if_icmp .ne 7, 3) := by decide +kernel
theorem dX10_joinsSquare_166 : decode cX10_joinsSquare 166 = .ok (.iconst 1, 1) := by decide +kernel
theorem dX10_joinsSquare_167 : decode cX10_joinsSquare 167 = .ok (.goto 4, 3) := by decide +kernel
theorem dX10_joinsSquare_170 : decode cX10_joinsSquare 170 = .ok (.iconst 0, 1) := by decide +kernel
theorem dX10_joinsSquare_171 : decode cX10_joinsSquare 171 = .ok (.istore 10, 2) := by decide +kernel
theorem dX10_joinsSquare_173 : decode cX10_joinsSquare 173 = .ok (.aload_n 0, 1) := by decide +kernel
theorem dX10_joinsSquare_174 : decode cX10_joinsSquare 174 = .ok (.iload_n 3, 1) := by decide +kernel
theorem dX10_joinsSquare_175 : decode cX10_joinsSquare 175 = .ok (.iload 10, 2) := by decide +kernel
theorem dX10_joinsSquare_177 : decode cX10_joinsSquare 177 = .ok (.ifCond .eq 8, 3) := by decide +kernel
theorem dX10_joinsSquare_180 : decode cX10_joinsSquare 180 = .ok (.iload 5, 2) := by decide +kernel
theorem dX10_joinsSquare_182 : decode cX10_joinsSquare 182 = .ok (.goto 5, 3) := by decide +kernel
theorem dX10_joinsSquare_185 : decode cX10_joinsSquare 185 = .ok (.iload 6, 2) := by decide +kernel
theorem dX10_joinsSquare_187 : decode cX10_joinsSquare 187 = .ok (.invokevirtual 109, 3) := by decide +kernel
theorem dX10_joinsSquare_190 : decode cX10_joinsSquare 190 = .ok (.aload_n 0, 1) := by decide +kernel
theorem dX10_joinsSquare_191 : decode cX10_joinsSquare 191 = .ok (.iload 4, 2) := by decide +kernel
theorem dX10_joinsSquare_193 : decode cX10_joinsSquare 193 = .ok (.iload 10, 2) := by decide +kernel
theorem dX10_joinsSquare_195 : decode cX10_joinsSquare 195 = .ok (.ifCond .eq 8, 3) := by decide +kernel
theorem dX10_joinsSquare_198 : decode cX10_joinsSquare 198 = .ok (.iload 6, 2) := by decide +kernel
theorem dX10_joinsSquare_200 : decode cX10_joinsSquare 200 = .ok (.goto 5, 3) := by decide +kernel
theorem dX10_joinsSquare_203 : decode cX10_joinsSquare 203 = .ok (.iload 5, 2) := by decide +kernel
theorem dX10_joinsSquare_205 : decode cX10_joinsSquare 205 = .ok (.invokevirtual 109, 3) := by decide +kernel
theorem dX10_joinsSquare_208 : decode cX10_joinsSquare 208 = .ok (.goto 83, 3) := by decide +kernel
theorem dX10_joinsSquare_211 : decode cX10_joinsSquare 211 = .ok (.iload 7, 2) := by decide +kernel
theorem dX10_joinsSquare_213 : decode cX10_joinsSquare 213 = .ok (.iconst 2, 1) := by decide +kernel
theorem dX10_joinsSquare_214 : decode cX10_joinsSquare 214 = .ok (.if_icmp .ne 77, 3) := by decide +kernel
theorem dX10_joinsSquare_217 : decode cX10_joinsSquare 217 = .ok (.aload_n 0, 1) := by decide +kernel
theorem dX10_joinsSquare_218 : decode cX10_joinsSquare 218 = .ok (.iload_n 3, 1) := by decide +kernel
theorem dX10_joinsSquare_219 : decode cX10_joinsSquare 219 = .ok (.iload_n 2, 1) := by decide +kernel
theorem dX10_joinsSquare_220 : decode cX10_joinsSquare 220 = .ok (.invokevirtual 106, 3) := by decide +kernel
theorem dX10_joinsSquare_223 : decode cX10_joinsSquare 223 = .ok (.ifCond .eq 7, 3) := by decide +kernel
theorem dX10_joinsSquare_226 : decode cX10_joinsSquare 226 = .ok (.iload_n 3, 1) := by decide +kernel
theorem dX10_joinsSquare_227 : decode cX10_joinsSquare 227 = .ok (.goto 20, 3) := by decide +kernel
theorem dX10_joinsSquare_230 : decode cX10_joinsSquare 230 = .ok (.aload_n 0, 1) := by decide +kernel
theorem dX10_joinsSquare_231 : decode cX10_joinsSquare 231 = .ok (.iload 4, 2) := by decide +kernel
theorem dX10_joinsSquare_233 : decode cX10_joinsSquare 233 = .ok (.iload_n 2, 1) := by decide +kernel
theorem dX10_joinsSquare_234 : decode cX10_joinsSquare 234 = .ok (.invokevirtual 106, 3) := by decide +kernel
theorem dX10_joinsSquare_237 : decode cX10_joinsSquare 237 = .ok (.ifCond .eq 8, 3) := by decide +kernel
theorem dX10_joinsSquare_240 : decode cX10_joinsSquare 240 = .ok (.iload 4, 2) := by decide +kernel
theorem dX10_joinsSquare_242 : decode cX10_joinsSquare 242 = .ok (.goto 5, 3) := by decide +kernel
theorem dX10_joinsSquare_245 : decode cX10_joinsSquare 245 = .ok (.iload 5, 2) := by decide +kernel
theorem dX10_joinsSquare_247 : decode cX10_joinsSquare 247 = .ok (.istore 8, 2) := by decide +kernel
theorem dX10_joinsSquare_249 : decode cX10_joinsSquare 249 = .ok (.aload_n 0, 1) := by decide +kernel
theorem dX10_joinsSquare_250 : decode cX10_joinsSquare 250 = .ok (.iload 6, 2) := by decide +kernel
theorem dX10_joinsSquare_252 : decode cX10_joinsSquare 252 = .ok (.iload_n 2, 1) := by decide +kernel
theorem dX10_joinsSquare_253 : decode cX10_joinsSquare 253 = .ok (.invokevirtual 106, 3) := by decide +kernel
theorem dX10_joinsSquare_256 : decode cX10_joinsSquare 256 = .ok (.ifCond .eq 8, 3) := by decide +kernel
theorem dX10_joinsSquare_259 : decode cX10_joinsSquare 259 = .ok (.iload 6, 2) := by decide +kernel
theorem dX10_joinsSquare_261 : decode cX10_joinsSquare 261 = .ok (.goto 20, 3) := by decide +kernel
theorem dX10_joinsSquare_264 : decode cX10_joinsSquare 264 = .ok (.aload_n 0, 1) := by decide +kernel
theorem dX10_joinsSquare_265 : decode cX10_joinsSquare 265 = .ok (.iload 5, 2) := by decide +kernel
theorem dX10_joinsSquare_267 : decode cX10_joinsSquare 267 = .ok (.iload_n 2, 1) := by decide +kernel
theorem dX10_joinsSquare_268 : decode cX10_joinsSquare 268 = .ok (.invokevirtual 106, 3) := by decide +kernel
theorem dX10_joinsSquare_271 : decode cX10_joinsSquare 271 = .ok (.ifCond .eq 8, 3) := by decide +kernel
theorem dX10_joinsSquare_274 : decode cX10_joinsSquare 274 = .ok (.iload 5, 2) := by decide +kernel
theorem dX10_joinsSquare_276 : decode cX10_joinsSquare 276 = .ok (.goto 5, 3) := by decide +kernel
theorem dX10_joinsSquare_279 : decode cX10_joinsSquare 279 = .ok (.iload 4, 2) := by decide +kernel
theorem dX10_joinsSquare_281 : decode cX10_joinsSquare 281 = .ok (.istore 9, 2) := by decide +kernel
theorem dX10_joinsSquare_283 : decode cX10_joinsSquare 283 = .ok (.aload_n 0, 1) := by decide +kernel
theorem dX10_joinsSquare_284 : decode cX10_joinsSquare 284 = .ok (.iload 8, 2) := by decide +kernel
theorem dX10_joinsSquare_286 : decode cX10_joinsSquare 286 = .ok (.iload 9, 2) := by decide +kernel
theorem dX10_joinsSquare_288 : decode cX10_joinsSquare 288 = .ok (.invokevirtual 109, 3) := by decide +kernel
theorem dX10_joinsSquare_291 : decode cX10_joinsSquare 291 = .ok (.return_, 1) := by decide +kernel
theorem dX10_findsLines_0 : decode cX10_findsLines 0 = .ok (.iconst 0, 1) := by decide +kernel
theorem dX10_findsLines_1 : decode cX10_findsLines 1 = .ok (.istore_n 2, 1) := by decide +kernel
theorem dX10_findsLines_2 : decode cX10_findsLines 2 = .ok (.iload_n 2, 1) := by decide +kernel
theorem dX10_findsLines_3 : decode cX10_findsLines 3 = .ok (.sipush 288, 3) := by decide +kernel
theorem dX10_findsLines_6 : decode cX10_findsLines 6 = .ok (.if_icmp .ge 36, 3) := by decide +kernel
theorem dX10_findsLines_9 : decode cX10_findsLines 9 = .ok (.aload_n 0, 1) := by decide +kernel
theorem dX10_findsLines_10 : decode cX10_findsLines 10 = .ok (.getfield 47, 3) := by decide +kernel
theorem dX10_findsLines_13 : decode cX10_findsLines 13 = .ok (.iload_n 2, 1) := by decide +kernel
theorem dX10_findsLines_14 : decode cX10_findsLines 14 = .ok (.aload_n 0, 1) := by decide +kernel
theorem dX10_findsLines_15 : decode cX10_findsLines 15 = .ok (.iload_n 2, 1) := by decide +kernel
theorem dX10_findsLines_16 : decode cX10_findsLines 16 = .ok (.iload_n 1, 1) := by decide +kernel
theorem dX10_findsLines_17 : decode cX10_findsLines 17 = .ok (.invokevirtual 106, 3) := by decide +kernel
theorem dX10_findsLines_20 : decode cX10_findsLines 20 = .ok (.ifCond .eq 7, 3) := by decide +kernel
theorem dX10_findsLines_23 : decode cX10_findsLines 23 = .ok (.iload_n 2, 1) := by decide +kernel
theorem dX10_findsLines_24 : decode cX10_findsLines 24 = .ok (.goto 4, 3) := by decide +kernel
theorem dX10_findsLines_27 : decode cX10_findsLines 27 = .ok (.iconst (-1), 1) := by decide +kernel
theorem dX10_findsLines_28 : decode cX10_findsLines 28 = .ok (.iastore, 1) := by decide +kernel
theorem dX10_findsLines_29 : decode cX10_findsLines 29 = .ok (.aload_n 0, 1) := by decide +kernel
theorem dX10_findsLines_30 : decode cX10_findsLines 30 = .ok (.getfield 50, 3) := by decide +kernel
theorem dX10_findsLines_33 : decode cX10_findsLines 33 = .ok (.iload_n 2, 1) := by decide +kernel
theorem dX10_findsLines_34 : decode cX10_findsLines 34 = .ok (.iconst 0, 1) := by decide +kernel
theorem dX10_findsLines_35 : decode cX10_findsLines 35 = .ok (.iastore, 1) := by decide +kernel
theorem dX10_findsLines_36 : decode cX10_findsLines 36 = .ok (.iinc 2 1, 3) := by decide +kernel
theorem dX10_findsLines_39 : decode cX10_findsLines 39 = .ok (.goto (-37), 3) := by decide +kernel
theorem dX10_findsLines_42 : decode cX10_findsLines 42 = .ok (.iconst 0, 1) := by decide +kernel
theorem dX10_findsLines_43 : decode cX10_findsLines 43 = .ok (.istore_n 2, 1) := by decide +kernel
theorem dX10_findsLines_44 : decode cX10_findsLines 44 = .ok (.iload_n 2, 1) := by decide +kernel
theorem dX10_findsLines_45 : decode cX10_findsLines 45 = .ok (.sipush 144, 3) := by decide +kernel
theorem dX10_findsLines_48 : decode cX10_findsLines 48 = .ok (.if_icmp .ge 41, 3) := by decide +kernel
theorem dX10_findsLines_51 : decode cX10_findsLines 51 = .ok (.iload_n 2, 1) := by decide +kernel
theorem dX10_findsLines_52 : decode cX10_findsLines 52 = .ok (.bipush 12, 2) := by decide +kernel
theorem dX10_findsLines_54 : decode cX10_findsLines 54 = .ok (.irem, 1) := by decide +kernel
theorem dX10_findsLines_55 : decode cX10_findsLines 55 = .ok (.iconst 1, 1) := by decide +kernel
theorem dX10_findsLines_56 : decode cX10_findsLines 56 = .ok (.iadd, 1) := by decide +kernel
theorem dX10_findsLines_57 : decode cX10_findsLines 57 = .ok (.aload_n 0, 1) := by decide +kernel
theorem dX10_findsLines_58 : decode cX10_findsLines 58 = .ok (.getfield 71, 3) := by decide +kernel
theorem dX10_findsLines_61 : decode cX10_findsLines 61 = .ok (.if_icmp .ge 22, 3) := by decide +kernel
theorem dX10_findsLines_64 : decode cX10_findsLines 64 = .ok (.iload_n 2, 1) := by decide +kernel
theorem dX10_findsLines_65 : decode cX10_findsLines 65 = .ok (.bipush 12, 2) := by decide +kernel
theorem dX10_findsLines_67 : decode cX10_findsLines 67 = .ok (.idiv, 1) := by decide +kernel
theorem dX10_findsLines_68 : decode cX10_findsLines 68 = .ok (.iconst 1, 1) := by decide +kernel
theorem dX10_findsLines_69 : decode cX10_findsLines 69 = .ok (.iadd, 1) := by decide +kernel
theorem dX10_findsLines_70 : decode cX10_findsLines 70 = .ok (.aload_n 0, 1) := by decide +kernel
theorem dX10_findsLines_71 : decode cX10_findsLines 71 = .ok (.getfield 75, 3) := by decide +kernel
theorem dX10_findsLines_74 : decode cX10_findsLines 74 = .ok (.if_icmp .ge 9, 3) := by decide +kernel
theorem dX10_findsLines_77 : decode cX10_findsLines 77 = .ok (.aload_n 0, 1) := by decide +kernel
theorem dX10_findsLines_78 : decode cX10_findsLines 78 = .ok (.iload_n 2, 1) := by decide +kernel
theorem dX10_findsLines_79 : decode cX10_findsLines 79 = .ok (.iload_n 1, 1) := by decide +kernel
theorem dX10_findsLines_80 : decode cX10_findsLines 80 = .ok (.invokevirtual 113, 3) := by decide +kernel
theorem dX10_findsLines_83 : decode cX10_findsLines 83 = .ok (.iinc 2 1, 3) := by decide +kernel
theorem dX10_findsLines_86 : decode cX10_findsLines 86 = .ok (.goto (-42), 3) := by decide +kernel
theorem dX10_findsLines_89 : decode cX10_findsLines 89 = .ok (.iconst 0, 1) := by decide +kernel
theorem dX10_findsLines_90 : decode cX10_findsLines 90 = .ok (.istore_n 2, 1) := by decide +kernel
theorem dX10_findsLines_91 : decode cX10_findsLines 91 = .ok (.iload_n 2, 1) := by decide +kernel
theorem dX10_findsLines_92 : decode cX10_findsLines 92 = .ok (.sipush 288, 3) := by decide +kernel
theorem dX10_findsLines_95 : decode cX10_findsLines 95 = .ok (.if_icmp .ge 34, 3) := by decide +kernel
theorem dX10_findsLines_98 : decode cX10_findsLines 98 = .ok (.aload_n 0, 1) := by decide +kernel
theorem dX10_findsLines_99 : decode cX10_findsLines 99 = .ok (.getfield 47, 3) := by decide +kernel
theorem dX10_findsLines_102 : decode cX10_findsLines 102 = .ok (.iload_n 2, 1) := by decide +kernel
theorem dX10_findsLines_103 : decode cX10_findsLines 103 = .ok (.iaload, 1) := by decide +kernel
theorem dX10_findsLines_104 : decode cX10_findsLines 104 = .ok (.iconst (-1), 1) := by decide +kernel
theorem dX10_findsLines_105 : decode cX10_findsLines 105 = .ok (.if_icmp .eq 18, 3) := by decide +kernel
theorem dX10_findsLines_108 : decode cX10_findsLines 108 = .ok (.aload_n 0, 1) := by decide +kernel
theorem dX10_findsLines_109 : decode cX10_findsLines 109 = .ok (.getfield 50, 3) := by decide +kernel
theorem dX10_findsLines_112 : decode cX10_findsLines 112 = .ok (.aload_n 0, 1) := by decide +kernel
theorem dX10_findsLines_113 : decode cX10_findsLines 113 = .ok (.getfield 47, 3) := by decide +kernel
theorem dX10_findsLines_116 : decode cX10_findsLines 116 = .ok (.iload_n 2, 1) := by decide +kernel
theorem dX10_findsLines_117 : decode cX10_findsLines 117 = .ok (.iaload, 1) := by decide +kernel
theorem dX10_findsLines_118 : decode cX10_findsLines 118 = .ok (.dup2, 1) := by decide +kernel
theorem dX10_findsLines_119 : decode cX10_findsLines 119 = .ok (.iaload, 1) := by decide +kernel
theorem dX10_findsLines_120 : decode cX10_findsLines 120 = .ok (.iconst 1, 1) := by decide +kernel
theorem dX10_findsLines_121 : decode cX10_findsLines 121 = .ok (.iadd, 1) := by decide +kernel
theorem dX10_findsLines_122 : decode cX10_findsLines 122 = .ok (.iastore, 1) := by decide +kernel
theorem dX10_findsLines_123 : decode cX10_findsLines 123 = .ok (.iinc 2 1, 3) := by decide +kernel
theorem dX10_findsLines_126 : decode cX10_findsLines 126 = .ok (.goto (-35), 3) := by decide +kernel
theorem dX10_findsLines_129 : decode cX10_findsLines 129 = .ok (.return_, 1) := by decide +kernel
theorem dX10_isInside_0 : decode cX10_isInside 0 = .ok (.iload_n 1, 1) := by decide +kernel
theorem dX10_isInside_1 : decode cX10_isInside 1 = .ok (.sipush 144, 3) := by decide +kernel
theorem dX10_isInside_4 : decode cX10_isInside 4 = .ok (.irem, 1) := by decide +kernel
theorem dX10_isInside_5 : decode cX10_isInside 5 = .ok (.istore_n 2, 1) := by decide +kernel
theorem dX10_isInside_6 : decode cX10_isInside 6 = .ok (.iload_n 1, 1) := by decide +kernel
theorem dX10_isInside_7 : decode cX10_isInside 7 = .ok (.sipush 144, 3) := by decide +kernel
theorem dX10_isInside_10 : decode cX10_isInside 10 = .ok (.if_icmp .ge 20, 3) := by decide +kernel
theorem dX10_isInside_13 : decode cX10_isInside 13 = .ok (.iload_n 2, 1) := by decide +kernel
theorem dX10_isInside_14 : decode cX10_isInside 14 = .ok (.bipush 12, 2) := by decide +kernel
theorem dX10_isInside_16 : decode cX10_isInside 16 = .ok (.idiv, 1) := by decide +kernel
theorem dX10_isInside_17 : decode cX10_isInside 17 = .ok (.iconst 1, 1) := by decide +kernel
theorem dX10_isInside_18 : decode cX10_isInside 18 = .ok (.aload_n 0, 1) := by decide +kernel
theorem dX10_isInside_19 : decode cX10_isInside 19 = .ok (.getfield 75, 3) := by decide +kernel
theorem dX10_isInside_22 : decode cX10_isInside 22 = .ok (.iconst 2, 1) := by decide +kernel
theorem dX10_isInside_23 : decode cX10_isInside 23 = .ok (.isub, 1) := by decide +kernel
theorem dX10_isInside_24 : decode cX10_isInside 24 = .ok (.invokestatic 81, 3) := by decide +kernel
theorem dX10_isInside_27 : decode cX10_isInside 27 = .ok (.goto 17, 3) := by decide +kernel
theorem dX10_isInside_30 : decode cX10_isInside 30 = .ok (.iload_n 2, 1) := by decide +kernel
theorem dX10_isInside_31 : decode cX10_isInside 31 = .ok (.bipush 12, 2) := by decide +kernel
theorem dX10_isInside_33 : decode cX10_isInside 33 = .ok (.irem, 1) := by decide +kernel
theorem dX10_isInside_34 : decode cX10_isInside 34 = .ok (.iconst 1, 1) := by decide +kernel
theorem dX10_isInside_35 : decode cX10_isInside 35 = .ok (.aload_n 0, 1) := by decide +kernel
theorem dX10_isInside_36 : decode cX10_isInside 36 = .ok (.getfield 71, 3) := by decide +kernel
theorem dX10_isInside_39 : decode cX10_isInside 39 = .ok (.iconst 2, 1) := by decide +kernel
theorem dX10_isInside_40 : decode cX10_isInside 40 = .ok (.isub, 1) := by decide +kernel
theorem dX10_isInside_41 : decode cX10_isInside 41 = .ok (.invokestatic 81, 3) := by decide +kernel
theorem dX10_isInside_44 : decode cX10_isInside 44 = .ok (.ireturn, 1) := by decide +kernel
theorem dX10_isLevel_0 : decode cX10_isLevel 0 = .ok (.iload_n 0, 1) := by decide +kernel
theorem dX10_isLevel_1 : decode cX10_isLevel 1 = .ok (.iconst 1, 1) := by decide +kernel
theorem dX10_isLevel_2 : decode cX10_isLevel 2 = .ok (.sipush 255, 3) := by decide +kernel
theorem dX10_isLevel_5 : decode cX10_isLevel 5 = .ok (.invokestatic 81, 3) := by decide +kernel
theorem dX10_isLevel_8 : decode cX10_isLevel 8 = .ok (.ireturn, 1) := by decide +kernel
theorem dX10_lines_0 : decode cX10_lines 0 = .ok (.iconst 0, 1) := by decide +kernel
theorem dX10_lines_1 : decode cX10_lines 1 = .ok (.istore_n 2, 1) := by decide +kernel
theorem dX10_lines_2 : decode cX10_lines 2 = .ok (.aload_n 0, 1) := by decide +kernel
theorem dX10_lines_3 : decode cX10_lines 3 = .ok (.iload_n 1, 1) := by decide +kernel
theorem dX10_lines_4 : decode cX10_lines 4 = .ok (.invokestatic 116, 3) := by decide +kernel
theorem dX10_lines_7 : decode cX10_lines 7 = .ok (.invokevirtual 103, 3) := by decide +kernel
theorem dX10_lines_10 : decode cX10_lines 10 = .ok (.ifCond .eq 40, 3) := by decide +kernel
theorem dX10_lines_13 : decode cX10_lines 13 = .ok (.aload_n 0, 1) := by decide +kernel
theorem dX10_lines_14 : decode cX10_lines 14 = .ok (.iload_n 1, 1) := by decide +kernel
theorem dX10_lines_15 : decode cX10_lines 15 = .ok (.invokevirtual 120, 3) := by decide +kernel
theorem dX10_lines_18 : decode cX10_lines 18 = .ok (.iconst 0, 1) := by decide +kernel
theorem dX10_lines_19 : decode cX10_lines 19 = .ok (.istore_n 3, 1) := by decide +kernel
theorem dX10_lines_20 : decode cX10_lines 20 = .ok (.iload_n 3, 1) := by decide +kernel
theorem dX10_lines_21 : decode cX10_lines 21 = .ok (.sipush 288, 3) := by decide +kernel
theorem dX10_lines_24 : decode cX10_lines 24 = .ok (.if_icmp .ge 26, 3) := by decide +kernel
theorem dX10_lines_27 : decode cX10_lines 27 = .ok (.iload_n 2, 1) := by decide +kernel
theorem dX10_lines_28 : decode cX10_lines 28 = .ok (.aload_n 0, 1) := by decide +kernel
theorem dX10_lines_29 : decode cX10_lines 29 = .ok (.getfield 50, 3) := by decide +kernel
theorem dX10_lines_32 : decode cX10_lines 32 = .ok (.iload_n 3, 1) := by decide +kernel
theorem dX10_lines_33 : decode cX10_lines 33 = .ok (.iaload, 1) := by decide +kernel
theorem dX10_lines_34 : decode cX10_lines 34 = .ok (.ifCond .le 7, 3) := by decide +kernel
theorem dX10_lines_37 : decode cX10_lines 37 = .ok (.iconst 1, 1) := by decide +kernel
theorem dX10_lines_38 : decode cX10_lines 38 = .ok (.goto 4, 3) := by decide +kernel
theorem dX10_lines_41 : decode cX10_lines 41 = .ok (.iconst 0, 1) := by decide +kernel
theorem dX10_lines_42 : decode cX10_lines 42 = .ok (.iadd, 1) := by decide +kernel
theorem dX10_lines_43 : decode cX10_lines 43 = .ok (.istore_n 2, 1) := by decide +kernel
theorem dX10_lines_44 : decode cX10_lines 44 = .ok (.iinc 3 1, 3) := by decide +kernel
theorem dX10_lines_47 : decode cX10_lines 47 = .ok (.goto (-27), 3) := by decide +kernel
theorem dX10_lines_50 : decode cX10_lines 50 = .ok (.iload_n 2, 1) := by decide +kernel
theorem dX10_lines_51 : decode cX10_lines 51 = .ok (.ireturn, 1) := by decide +kernel
theorem dX10_rings_0 : decode cX10_rings 0 = .ok (.iconst 0, 1) := by decide +kernel
theorem dX10_rings_1 : decode cX10_rings 1 = .ok (.istore_n 2, 1) := by decide +kernel
theorem dX10_rings_2 : decode cX10_rings 2 = .ok (.aload_n 0, 1) := by decide +kernel
theorem dX10_rings_3 : decode cX10_rings 3 = .ok (.iload_n 1, 1) := by decide +kernel
theorem dX10_rings_4 : decode cX10_rings 4 = .ok (.invokestatic 116, 3) := by decide +kernel
theorem dX10_rings_7 : decode cX10_rings 7 = .ok (.invokevirtual 103, 3) := by decide +kernel
theorem dX10_rings_10 : decode cX10_rings 10 = .ok (.ifCond .eq 101, 3) := by decide +kernel
theorem dX10_rings_13 : decode cX10_rings 13 = .ok (.aload_n 0, 1) := by decide +kernel
theorem dX10_rings_14 : decode cX10_rings 14 = .ok (.iload_n 1, 1) := by decide +kernel
theorem dX10_rings_15 : decode cX10_rings 15 = .ok (.invokevirtual 120, 3) := by decide +kernel
theorem dX10_rings_18 : decode cX10_rings 18 = .ok (.iconst 0, 1) := by decide +kernel
theorem dX10_rings_19 : decode cX10_rings 19 = .ok (.istore_n 3, 1) := by decide +kernel
theorem dX10_rings_20 : decode cX10_rings 20 = .ok (.iload_n 3, 1) := by decide +kernel
theorem dX10_rings_21 : decode cX10_rings 21 = .ok (.sipush 288, 3) := by decide +kernel
theorem dX10_rings_24 : decode cX10_rings 24 = .ok (.if_icmp .ge 87, 3) := by decide +kernel
theorem dX10_rings_27 : decode cX10_rings 27 = .ok (.aload_n 0, 1) := by decide +kernel
theorem dX10_rings_28 : decode cX10_rings 28 = .ok (.getfield 50, 3) := by decide +kernel
theorem dX10_rings_31 : decode cX10_rings 31 = .ok (.iload_n 3, 1) := by decide +kernel
theorem dX10_rings_32 : decode cX10_rings 32 = .ok (.iaload, 1) := by decide +kernel
theorem dX10_rings_33 : decode cX10_rings 33 = .ok (.ifCond .le 7, 3) := by decide +kernel
theorem dX10_rings_36 : decode cX10_rings 36 = .ok (.iconst 1, 1) := by decide +kernel
theorem dX10_rings_37 : decode cX10_rings 37 = .ok (.goto 4, 3) := by decide +kernel
theorem dX10_rings_40 : decode cX10_rings 40 = .ok (.iconst 0, 1) := by decide +kernel
theorem dX10_rings_41 : decode cX10_rings 41 = .ok (.istore 4, 2) := by decide +kernel
theorem dX10_rings_43 : decode cX10_rings 43 = .ok (.iconst 0, 1) := by decide +kernel
theorem dX10_rings_44 : decode cX10_rings 44 = .ok (.istore 5, 2) := by decide +kernel
theorem dX10_rings_46 : decode cX10_rings 46 = .ok (.iload 5, 2) := by decide +kernel
theorem dX10_rings_48 : decode cX10_rings 48 = .ok (.sipush 288, 3) := by decide +kernel
theorem dX10_rings_51 : decode cX10_rings 51 = .ok (.if_icmp .ge 41, 3) := by decide +kernel
theorem dX10_rings_54 : decode cX10_rings 54 = .ok (.iload 4, 2) := by decide +kernel
theorem dX10_rings_56 : decode cX10_rings 56 = .ok (.ifCond .eq 27, 3) := by decide +kernel
theorem dX10_rings_59 : decode cX10_rings 59 = .ok (.aload_n 0, 1) := by decide +kernel
theorem dX10_rings_60 : decode cX10_rings 60 = .ok (.getfield 47, 3) := by decide +kernel
theorem dX10_rings_63 : decode cX10_rings 63 = .ok (.iload 5, 2) := by decide +kernel
theorem dX10_rings_65 : decode cX10_rings 65 = .ok (.iaload, 1) := by decide +kernel
theorem dX10_rings_66 : decode cX10_rings 66 = .ok (.iload_n 3, 1) := by decide +kernel
theorem dX10_rings_67 : decode cX10_rings 67 = .ok (.if_icmp .ne 12, 3) := by decide +kernel
theorem dX10_rings_70 : decode cX10_rings 70 = .ok (.aload_n 0, 1) := by decide +kernel
theorem dX10_rings_71 : decode cX10_rings 71 = .ok (.iload 5, 2) := by decide +kernel
theorem dX10_rings_73 : decode cX10_rings 73 = .ok (.invokevirtual 124, 3) := by decide +kernel
theorem dX10_rings_76 : decode cX10_rings 76 = .ok (.ifCond .eq 7, 3) := by decide +kernel
theorem dX10_rings_79 : decode cX10_rings 79 = .ok (.iconst 1, 1) := by decide +kernel
theorem dX10_rings_80 : decode cX10_rings 80 = .ok (.goto 4, 3) := by decide +kernel
theorem dX10_rings_83 : decode cX10_rings 83 = .ok (.iconst 0, 1) := by decide +kernel
theorem dX10_rings_84 : decode cX10_rings 84 = .ok (.istore 4, 2) := by decide +kernel
theorem dX10_rings_86 : decode cX10_rings 86 = .ok (.iinc 5 1, 3) := by decide +kernel
theorem dX10_rings_89 : decode cX10_rings 89 = .ok (.goto (-43), 3) := by decide +kernel
theorem dX10_rings_92 : decode cX10_rings 92 = .ok (.iload_n 2, 1) := by decide +kernel
theorem dX10_rings_93 : decode cX10_rings 93 = .ok (.iload 4, 2) := by decide +kernel
theorem dX10_rings_95 : decode cX10_rings 95 = .ok (.ifCond .eq 7, 3) := by decide +kernel
theorem dX10_rings_98 : decode cX10_rings 98 = .ok (.iconst 1, 1) := by decide +kernel
theorem dX10_rings_99 : decode cX10_rings 99 = .ok (.goto 4, 3) := by decide +kernel
theorem dX10_rings_102 : decode cX10_rings 102 = .ok (.iconst 0, 1) := by decide +kernel
theorem dX10_rings_103 : decode cX10_rings 103 = .ok (.iadd, 1) := by decide +kernel
theorem dX10_rings_104 : decode cX10_rings 104 = .ok (.istore_n 2, 1) := by decide +kernel
theorem dX10_rings_105 : decode cX10_rings 105 = .ok (.iinc 3 1, 3) := by decide +kernel
theorem dX10_rings_108 : decode cX10_rings 108 = .ok (.goto (-88), 3) := by decide +kernel
theorem dX10_rings_111 : decode cX10_rings 111 = .ok (.iload_n 2, 1) := by decide +kernel
theorem dX10_rings_112 : decode cX10_rings 112 = .ok (.ireturn, 1) := by decide +kernel
theorem dX10_longest_0 : decode cX10_longest 0 = .ok (.iconst 0, 1) := by decide +kernel
theorem dX10_longest_1 : decode cX10_longest 1 = .ok (.istore_n 2, 1) := by decide +kernel
theorem dX10_longest_2 : decode cX10_longest 2 = .ok (.aload_n 0, 1) := by decide +kernel
theorem dX10_longest_3 : decode cX10_longest 3 = .ok (.iload_n 1, 1) := by decide +kernel
theorem dX10_longest_4 : decode cX10_longest 4 = .ok (.invokestatic 116, 3) := by decide +kernel
theorem dX10_longest_7 : decode cX10_longest 7 = .ok (.invokevirtual 103, 3) := by decide +kernel
theorem dX10_longest_10 : decode cX10_longest 10 = .ok (.ifCond .eq 44, 3) := by decide +kernel
theorem dX10_longest_13 : decode cX10_longest 13 = .ok (.aload_n 0, 1) := by decide +kernel
theorem dX10_longest_14 : decode cX10_longest 14 = .ok (.iload_n 1, 1) := by decide +kernel
theorem dX10_longest_15 : decode cX10_longest 15 = .ok (.invokevirtual 120, 3) := by decide +kernel
theorem dX10_longest_18 : decode cX10_longest 18 = .ok (.iconst 0, 1) := by decide +kernel
theorem dX10_longest_19 : decode cX10_longest 19 = .ok (.istore_n 3, 1) := by decide +kernel
theorem dX10_longest_20 : decode cX10_longest 20 = .ok (.iload_n 3, 1) := by decide +kernel
theorem dX10_longest_21 : decode cX10_longest 21 = .ok (.sipush 288, 3) := by decide +kernel
theorem dX10_longest_24 : decode cX10_longest 24 = .ok (.if_icmp .ge 30, 3) := by decide +kernel
theorem dX10_longest_27 : decode cX10_longest 27 = .ok (.aload_n 0, 1) := by decide +kernel
theorem dX10_longest_28 : decode cX10_longest 28 = .ok (.getfield 50, 3) := by decide +kernel
theorem dX10_longest_31 : decode cX10_longest 31 = .ok (.iload_n 3, 1) := by decide +kernel
theorem dX10_longest_32 : decode cX10_longest 32 = .ok (.iaload, 1) := by decide +kernel
theorem dX10_longest_33 : decode cX10_longest 33 = .ok (.iload_n 2, 1) := by decide +kernel
theorem dX10_longest_34 : decode cX10_longest 34 = .ok (.if_icmp .le 12, 3) := by decide +kernel
theorem dX10_longest_37 : decode cX10_longest 37 = .ok (.aload_n 0, 1) := by decide +kernel
theorem dX10_longest_38 : decode cX10_longest 38 = .ok (.getfield 50, 3) := by decide +kernel
theorem dX10_longest_41 : decode cX10_longest 41 = .ok (.iload_n 3, 1) := by decide +kernel
theorem dX10_longest_42 : decode cX10_longest 42 = .ok (.iaload, 1) := by decide +kernel
theorem dX10_longest_43 : decode cX10_longest 43 = .ok (.goto 4, 3) := by decide +kernel
theorem dX10_longest_46 : decode cX10_longest 46 = .ok (.iload_n 2, 1) := by decide +kernel
theorem dX10_longest_47 : decode cX10_longest 47 = .ok (.istore_n 2, 1) := by decide +kernel
theorem dX10_longest_48 : decode cX10_longest 48 = .ok (.iinc 3 1, 3) := by decide +kernel
theorem dX10_longest_51 : decode cX10_longest 51 = .ok (.goto (-31), 3) := by decide +kernel
theorem dX10_longest_54 : decode cX10_longest 54 = .ok (.iload_n 2, 1) := by decide +kernel
theorem dX10_longest_55 : decode cX10_longest 55 = .ok (.ireturn, 1) := by decide +kernel
theorem dX10_price_0 : decode cX10_price 0 = .ok (.iload_n 0, 1) := by decide +kernel
theorem dX10_price_1 : decode cX10_price 1 = .ok (.iconst 1, 1) := by decide +kernel
theorem dX10_price_2 : decode cX10_price 2 = .ok (.if_icmp .ne 8, 3) := by decide +kernel
theorem dX10_price_5 : decode cX10_price 5 = .ok (.bipush 12, 2) := by decide +kernel
theorem dX10_price_7 : decode cX10_price 7 = .ok (.goto 25, 3) := by decide +kernel
theorem dX10_price_10 : decode cX10_price 10 = .ok (.iload_n 0, 1) := by decide +kernel
theorem dX10_price_11 : decode cX10_price 11 = .ok (.iconst 2, 1) := by decide +kernel
theorem dX10_price_12 : decode cX10_price 12 = .ok (.if_icmp .ne 8, 3) := by decide +kernel
theorem dX10_price_15 : decode cX10_price 15 = .ok (.bipush 20, 2) := by decide +kernel
theorem dX10_price_17 : decode cX10_price 17 = .ok (.goto 15, 3) := by decide +kernel
theorem dX10_price_20 : decode cX10_price 20 = .ok (.iload_n 0, 1) := by decide +kernel
theorem dX10_price_21 : decode cX10_price 21 = .ok (.iconst 3, 1) := by decide +kernel
theorem dX10_price_22 : decode cX10_price 22 = .ok (.if_icmp .ne 8, 3) := by decide +kernel
theorem dX10_price_25 : decode cX10_price 25 = .ok (.bipush 40, 2) := by decide +kernel
theorem dX10_price_27 : decode cX10_price 27 = .ok (.goto 5, 3) := by decide +kernel
theorem dX10_price_30 : decode cX10_price 30 = .ok (.bipush 10, 2) := by decide +kernel
theorem dX10_price_32 : decode cX10_price 32 = .ok (.ireturn, 1) := by decide +kernel
theorem dX10_falls_0 : decode cX10_falls 0 = .ok (.aload_n 0, 1) := by decide +kernel
theorem dX10_falls_1 : decode cX10_falls 1 = .ok (.getfield 53, 3) := by decide +kernel
theorem dX10_falls_4 : decode cX10_falls 4 = .ok (.iload_n 1, 1) := by decide +kernel
theorem dX10_falls_5 : decode cX10_falls 5 = .ok (.iaload, 1) := by decide +kernel
theorem dX10_falls_6 : decode cX10_falls 6 = .ok (.ldc 127, 2) := by decide +kernel
theorem dX10_falls_8 : decode cX10_falls 8 = .ok (.if_icmp .eq 17, 3) := by decide +kernel
theorem dX10_falls_11 : decode cX10_falls 11 = .ok (.iload_n 3, 1) := by decide +kernel
theorem dX10_falls_12 : decode cX10_falls 12 = .ok (.ifCond .ne 15, 3) := by decide +kernel
theorem dX10_falls_15 : decode cX10_falls 15 = .ok (.aload_n 0, 1) := by decide +kernel
theorem dX10_falls_16 : decode cX10_falls 16 = .ok (.getfield 13, 3) := by decide +kernel
theorem dX10_falls_19 : decode cX10_falls 19 = .ok (.iload_n 2, 1) := by decide +kernel
theorem dX10_falls_20 : decode cX10_falls 20 = .ok (.iaload, 1) := by decide +kernel
theorem dX10_falls_21 : decode cX10_falls 21 = .ok (.iconst 4, 1) := by decide +kernel
theorem dX10_falls_22 : decode cX10_falls 22 = .ok (.if_icmp .ne 5, 3) := by decide +kernel
theorem dX10_falls_25 : decode cX10_falls 25 = .ok (.iconst 0, 1) := by decide +kernel
theorem dX10_falls_26 : decode cX10_falls 26 = .ok (.ireturn, 1) := by decide +kernel
theorem dX10_falls_27 : decode cX10_falls 27 = .ok (.aload_n 0, 1) := by decide +kernel
theorem dX10_falls_28 : decode cX10_falls 28 = .ok (.getfield 7, 3) := by decide +kernel
theorem dX10_falls_31 : decode cX10_falls 31 = .ok (.iload_n 2, 1) := by decide +kernel
theorem dX10_falls_32 : decode cX10_falls 32 = .ok (.iaload, 1) := by decide +kernel
theorem dX10_falls_33 : decode cX10_falls 33 = .ok (.aload_n 0, 1) := by decide +kernel
theorem dX10_falls_34 : decode cX10_falls 34 = .ok (.getfield 7, 3) := by decide +kernel
theorem dX10_falls_37 : decode cX10_falls 37 = .ok (.iload_n 1, 1) := by decide +kernel
theorem dX10_falls_38 : decode cX10_falls 38 = .ok (.iaload, 1) := by decide +kernel
theorem dX10_falls_39 : decode cX10_falls 39 = .ok (.if_icmp .le 19, 3) := by decide +kernel
theorem dX10_falls_42 : decode cX10_falls 42 = .ok (.aload_n 0, 1) := by decide +kernel
theorem dX10_falls_43 : decode cX10_falls 43 = .ok (.getfield 7, 3) := by decide +kernel
theorem dX10_falls_46 : decode cX10_falls 46 = .ok (.iload_n 2, 1) := by decide +kernel
theorem dX10_falls_47 : decode cX10_falls 47 = .ok (.iaload, 1) := by decide +kernel
theorem dX10_falls_48 : decode cX10_falls 48 = .ok (.aload_n 0, 1) := by decide +kernel
theorem dX10_falls_49 : decode cX10_falls 49 = .ok (.getfield 7, 3) := by decide +kernel
theorem dX10_falls_52 : decode cX10_falls 52 = .ok (.iload_n 1, 1) := by decide +kernel
theorem dX10_falls_53 : decode cX10_falls 53 = .ok (.iaload, 1) := by decide +kernel
theorem dX10_falls_54 : decode cX10_falls 54 = .ok (.isub, 1) := by decide +kernel
theorem dX10_falls_55 : decode cX10_falls 55 = .ok (.goto 4, 3) := by decide +kernel
theorem dX10_falls_58 : decode cX10_falls 58 = .ok (.iconst 0, 1) := by decide +kernel
theorem dX10_falls_59 : decode cX10_falls 59 = .ok (.istore 4, 2) := by decide +kernel
theorem dX10_falls_61 : decode cX10_falls 61 = .ok (.aload_n 0, 1) := by decide +kernel
theorem dX10_falls_62 : decode cX10_falls 62 = .ok (.getfield 53, 3) := by decide +kernel
theorem dX10_falls_65 : decode cX10_falls 65 = .ok (.iload_n 1, 1) := by decide +kernel
theorem dX10_falls_66 : decode cX10_falls 66 = .ok (.iaload, 1) := by decide +kernel
theorem dX10_falls_67 : decode cX10_falls 67 = .ok (.aload_n 0, 1) := by decide +kernel
theorem dX10_falls_68 : decode cX10_falls 68 = .ok (.getfield 13, 3) := by decide +kernel
theorem dX10_falls_71 : decode cX10_falls 71 = .ok (.iload_n 2, 1) := by decide +kernel
theorem dX10_falls_72 : decode cX10_falls 72 = .ok (.iaload, 1) := by decide +kernel
theorem dX10_falls_73 : decode cX10_falls 73 = .ok (.invokestatic 128, 3) := by decide +kernel
theorem dX10_falls_76 : decode cX10_falls 76 = .ok (.iadd, 1) := by decide +kernel
theorem dX10_falls_77 : decode cX10_falls 77 = .ok (.iconst 4, 1) := by decide +kernel
theorem dX10_falls_78 : decode cX10_falls 78 = .ok (.iload 4, 2) := by decide +kernel
theorem dX10_falls_80 : decode cX10_falls 80 = .ok (.imul, 1) := by decide +kernel
theorem dX10_falls_81 : decode cX10_falls 81 = .ok (.iadd, 1) := by decide +kernel
theorem dX10_falls_82 : decode cX10_falls 82 = .ok (.istore 5, 2) := by decide +kernel
theorem dX10_falls_84 : decode cX10_falls 84 = .ok (.iload 5, 2) := by decide +kernel
theorem dX10_falls_86 : decode cX10_falls 86 = .ok (.aload_n 0, 1) := by decide +kernel
theorem dX10_falls_87 : decode cX10_falls 87 = .ok (.getfield 53, 3) := by decide +kernel
theorem dX10_falls_90 : decode cX10_falls 90 = .ok (.iload_n 2, 1) := by decide +kernel
theorem dX10_falls_91 : decode cX10_falls 91 = .ok (.iaload, 1) := by decide +kernel
theorem dX10_falls_92 : decode cX10_falls 92 = .ok (.if_icmp .lt 32, 3) := by decide +kernel
theorem dX10_falls_95 : decode cX10_falls 95 = .ok (.iload 5, 2) := by decide +kernel
theorem dX10_falls_97 : decode cX10_falls 97 = .ok (.aload_n 0, 1) := by decide +kernel
theorem dX10_falls_98 : decode cX10_falls 98 = .ok (.getfield 53, 3) := by decide +kernel
theorem dX10_falls_101 : decode cX10_falls 101 = .ok (.iload_n 2, 1) := by decide +kernel
theorem dX10_falls_102 : decode cX10_falls 102 = .ok (.iaload, 1) := by decide +kernel
theorem dX10_falls_103 : decode cX10_falls 103 = .ok (.if_icmp .ne 25, 3) := by decide +kernel
theorem dX10_falls_106 : decode cX10_falls 106 = .ok (.aload_n 0, 1) := by decide +kernel
theorem dX10_falls_107 : decode cX10_falls 107 = .ok (.getfield 56, 3) := by decide +kernel
theorem dX10_falls_110 : decode cX10_falls 110 = .ok (.iload_n 1, 1) := by decide +kernel
theorem dX10_falls_111 : decode cX10_falls 111 = .ok (.iaload, 1) := by decide +kernel
theorem dX10_falls_112 : decode cX10_falls 112 = .ok (.iload 4, 2) := by decide +kernel
theorem dX10_falls_114 : decode cX10_falls 114 = .ok (.iadd, 1) := by decide +kernel
theorem dX10_falls_115 : decode cX10_falls 115 = .ok (.aload_n 0, 1) := by decide +kernel
theorem dX10_falls_116 : decode cX10_falls 116 = .ok (.getfield 56, 3) := by decide +kernel
theorem dX10_falls_119 : decode cX10_falls 119 = .ok (.iload_n 2, 1) := by decide +kernel
theorem dX10_falls_120 : decode cX10_falls 120 = .ok (.iaload, 1) := by decide +kernel
theorem dX10_falls_121 : decode cX10_falls 121 = .ok (.if_icmp .ge 7, 3) := by decide +kernel
theorem dX10_falls_124 : decode cX10_falls 124 = .ok (.iconst 1, 1) := by decide +kernel
theorem dX10_falls_125 : decode cX10_falls 125 = .ok (.goto 4, 3) := by decide +kernel
theorem dX10_falls_128 : decode cX10_falls 128 = .ok (.iconst 0, 1) := by decide +kernel
theorem dX10_falls_129 : decode cX10_falls 129 = .ok (.istore 6, 2) := by decide +kernel
theorem dX10_falls_131 : decode cX10_falls 131 = .ok (.iload 6, 2) := by decide +kernel
theorem dX10_falls_133 : decode cX10_falls 133 = .ok (.ifCond .eq 26, 3) := by decide +kernel
theorem dX10_falls_136 : decode cX10_falls 136 = .ok (.aload_n 0, 1) := by decide +kernel
theorem dX10_falls_137 : decode cX10_falls 137 = .ok (.getfield 53, 3) := by decide +kernel
theorem dX10_falls_140 : decode cX10_falls 140 = .ok (.iload_n 2, 1) := by decide +kernel
theorem dX10_falls_141 : decode cX10_falls 141 = .ok (.iload 5, 2) := by decide +kernel
theorem dX10_falls_143 : decode cX10_falls 143 = .ok (.iastore, 1) := by decide +kernel
theorem dX10_falls_144 : decode cX10_falls 144 = .ok (.aload_n 0, 1) := by decide +kernel
theorem dX10_falls_145 : decode cX10_falls 145 = .ok (.getfield 56, 3) := by decide +kernel
theorem dX10_falls_148 : decode cX10_falls 148 = .ok (.iload_n 2, 1) := by decide +kernel
theorem dX10_falls_149 : decode cX10_falls 149 = .ok (.aload_n 0, 1) := by decide +kernel
theorem dX10_falls_150 : decode cX10_falls 150 = .ok (.getfield 56, 3) := by decide +kernel
theorem dX10_falls_153 : decode cX10_falls 153 = .ok (.iload_n 1, 1) := by decide +kernel
theorem dX10_falls_154 : decode cX10_falls 154 = .ok (.iaload, 1) := by decide +kernel
theorem dX10_falls_155 : decode cX10_falls 155 = .ok (.iload 4, 2) := by decide +kernel
theorem dX10_falls_157 : decode cX10_falls 157 = .ok (.iadd, 1) := by decide +kernel
theorem dX10_falls_158 : decode cX10_falls 158 = .ok (.iastore, 1) := by decide +kernel
theorem dX10_falls_159 : decode cX10_falls 159 = .ok (.iload 6, 2) := by decide +kernel
theorem dX10_falls_161 : decode cX10_falls 161 = .ok (.ireturn, 1) := by decide +kernel
theorem dX10_finds_0 : decode cX10_finds 0 = .ok (.iconst 0, 1) := by decide +kernel
theorem dX10_finds_1 : decode cX10_finds 1 = .ok (.istore_n 3, 1) := by decide +kernel
theorem dX10_finds_2 : decode cX10_finds 2 = .ok (.iload_n 3, 1) := by decide +kernel
theorem dX10_finds_3 : decode cX10_finds 3 = .ok (.sipush 144, 3) := by decide +kernel
theorem dX10_finds_6 : decode cX10_finds 6 = .ok (.if_icmp .ge 25, 3) := by decide +kernel
theorem dX10_finds_9 : decode cX10_finds 9 = .ok (.aload_n 0, 1) := by decide +kernel
theorem dX10_finds_10 : decode cX10_finds 10 = .ok (.getfield 53, 3) := by decide +kernel
theorem dX10_finds_13 : decode cX10_finds 13 = .ok (.iload_n 3, 1) := by decide +kernel
theorem dX10_finds_14 : decode cX10_finds 14 = .ok (.ldc 127, 2) := by decide +kernel
theorem dX10_finds_16 : decode cX10_finds 16 = .ok (.iastore, 1) := by decide +kernel
theorem dX10_finds_17 : decode cX10_finds 17 = .ok (.aload_n 0, 1) := by decide +kernel
theorem dX10_finds_18 : decode cX10_finds 18 = .ok (.getfield 56, 3) := by decide +kernel
theorem dX10_finds_21 : decode cX10_finds 21 = .ok (.iload_n 3, 1) := by decide +kernel
theorem dX10_finds_22 : decode cX10_finds 22 = .ok (.ldc 127, 2) := by decide +kernel
theorem dX10_finds_24 : decode cX10_finds 24 = .ok (.iastore, 1) := by decide +kernel
theorem dX10_finds_25 : decode cX10_finds 25 = .ok (.iinc 3 1, 3) := by decide +kernel
theorem dX10_finds_28 : decode cX10_finds 28 = .ok (.goto (-26), 3) := by decide +kernel
theorem dX10_finds_31 : decode cX10_finds 31 = .ok (.aload_n 0, 1) := by decide +kernel
theorem dX10_finds_32 : decode cX10_finds 32 = .ok (.getfield 53, 3) := by decide +kernel
theorem dX10_finds_35 : decode cX10_finds 35 = .ok (.iload_n 1, 1) := by decide +kernel
theorem dX10_finds_36 : decode cX10_finds 36 = .ok (.iconst 0, 1) := by decide +kernel
theorem dX10_finds_37 : decode cX10_finds 37 = .ok (.iastore, 1) := by decide +kernel
theorem dX10_finds_38 : decode cX10_finds 38 = .ok (.aload_n 0, 1) := by decide +kernel
theorem dX10_finds_39 : decode cX10_finds 39 = .ok (.getfield 56, 3) := by decide +kernel
theorem dX10_finds_42 : decode cX10_finds 42 = .ok (.iload_n 1, 1) := by decide +kernel
theorem dX10_finds_43 : decode cX10_finds 43 = .ok (.iconst 0, 1) := by decide +kernel
theorem dX10_finds_44 : decode cX10_finds 44 = .ok (.iastore, 1) := by decide +kernel
theorem dX10_finds_45 : decode cX10_finds 45 = .ok (.iconst 1, 1) := by decide +kernel
theorem dX10_finds_46 : decode cX10_finds 46 = .ok (.istore_n 3, 1) := by decide +kernel
theorem dX10_finds_47 : decode cX10_finds 47 = .ok (.iload_n 3, 1) := by decide +kernel
theorem dX10_finds_48 : decode cX10_finds 48 = .ok (.ifCond .eq 177, 3) := by decide +kernel
theorem dX10_finds_51 : decode cX10_finds 51 = .ok (.iconst 0, 1) := by decide +kernel
theorem dX10_finds_52 : decode cX10_finds 52 = .ok (.istore_n 3, 1) := by decide +kernel
theorem dX10_finds_53 : decode cX10_finds 53 = .ok (.iconst 0, 1) := by decide +kernel
theorem dX10_finds_54 : decode cX10_finds 54 = .ok (.istore 4, 2) := by decide +kernel
theorem dX10_finds_56 : decode cX10_finds 56 = .ok (.iload 4, 2) := by decide +kernel
theorem dX10_finds_58 : decode cX10_finds 58 = .ok (.sipush 144, 3) := by decide +kernel
theorem dX10_finds_61 : decode cX10_finds 61 = .ok (.if_icmp .ge 161, 3) := by decide +kernel
theorem dX10_finds_64 : decode cX10_finds 64 = .ok (.aload_n 0, 1) := by decide +kernel
theorem dX10_finds_65 : decode cX10_finds 65 = .ok (.iload 4, 2) := by decide +kernel
theorem dX10_finds_67 : decode cX10_finds 67 = .ok (.bipush 12, 2) := by decide +kernel
theorem dX10_finds_69 : decode cX10_finds 69 = .ok (.irem, 1) := by decide +kernel
theorem dX10_finds_70 : decode cX10_finds 70 = .ok (.iload 4, 2) := by decide +kernel
theorem dX10_finds_72 : decode cX10_finds 72 = .ok (.bipush 12, 2) := by decide +kernel
theorem dX10_finds_74 : decode cX10_finds 74 = .ok (.idiv, 1) := by decide +kernel
theorem dX10_finds_75 : decode cX10_finds 75 = .ok (.invokevirtual 91, 3) := by decide +kernel
theorem dX10_finds_78 : decode cX10_finds 78 = .ok (.istore 5, 2) := by decide +kernel
theorem dX10_finds_80 : decode cX10_finds 80 = .ok (.iload 5, 2) := by decide +kernel
theorem dX10_finds_82 : decode cX10_finds 82 = .ok (.ifCond .eq 65, 3) := by decide +kernel
theorem dX10_finds_85 : decode cX10_finds 85 = .ok (.iload 4, 2) := by decide +kernel
theorem dX10_finds_87 : decode cX10_finds 87 = .ok (.bipush 12, 2) := by decide +kernel
theorem dX10_finds_89 : decode cX10_finds 89 = .ok (.irem, 1) := by decide +kernel
theorem dX10_finds_90 : decode cX10_finds 90 = .ok (.iconst 1, 1) := by decide +kernel
theorem dX10_finds_91 : decode cX10_finds 91 = .ok (.iadd, 1) := by decide +kernel
theorem dX10_finds_92 : decode cX10_finds 92 = .ok (.aload_n 0, 1) := by decide +kernel
theorem dX10_finds_93 : decode cX10_finds 93 = .ok (.getfield 71, 3) := by decide +kernel
theorem dX10_finds_96 : decode cX10_finds 96 = .ok (.if_icmp .ge 51, 3) := by decide +kernel
theorem dX10_finds_99 : decode cX10_finds 99 = .ok (.aload_n 0, 1) := by decide +kernel
theorem dX10_finds_100 : decode cX10_finds 100 = .ok (.iload 4, 2) := by decide +kernel
theorem dX10_finds_102 : decode cX10_finds 102 = .ok (.iload 4, 2) := by decide +kernel
theorem dX10_finds_104 : decode cX10_finds 104 = .ok (.iconst 1, 1) := by decide +kernel
theorem dX10_finds_105 : decode cX10_finds 105 = .ok (.iadd, 1) := by decide +kernel
theorem dX10_finds_106 : decode cX10_finds 106 = .ok (.iload_n 2, 1) := by decide +kernel
theorem dX10_finds_107 : decode cX10_finds 107 = .ok (.invokevirtual 132, 3) := by decide +kernel
theorem dX10_finds_110 : decode cX10_finds 110 = .ok (.ifCond .ne 7, 3) := by decide +kernel
theorem dX10_finds_113 : decode cX10_finds 113 = .ok (.iload_n 3, 1) := by decide +kernel
theorem dX10_finds_114 : decode cX10_finds 114 = .ok (.ifCond .eq 7, 3) := by decide +kernel
theorem dX10_finds_117 : decode cX10_finds 117 = .ok (.iconst 1, 1) := by decide +kernel
theorem dX10_finds_118 : decode cX10_finds 118 = .ok (.goto 4, 3) := by decide +kernel
theorem dX10_finds_121 : decode cX10_finds 121 = .ok (.iconst 0, 1) := by decide +kernel
theorem dX10_finds_122 : decode cX10_finds 122 = .ok (.istore_n 3, 1) := by decide +kernel
theorem dX10_finds_123 : decode cX10_finds 123 = .ok (.aload_n 0, 1) := by decide +kernel
theorem dX10_finds_124 : decode cX10_finds 124 = .ok (.iload 4, 2) := by decide +kernel
theorem dX10_finds_126 : decode cX10_finds 126 = .ok (.iconst 1, 1) := by decide +kernel
theorem dX10_finds_127 : decode cX10_finds 127 = .ok (.iadd, 1) := by decide +kernel
theorem dX10_finds_128 : decode cX10_finds 128 = .ok (.iload 4, 2) := by decide +kernel
theorem dX10_finds_130 : decode cX10_finds 130 = .ok (.iload_n 2, 1) := by decide +kernel
theorem dX10_finds_131 : decode cX10_finds 131 = .ok (.invokevirtual 132, 3) := by decide +kernel
theorem dX10_finds_134 : decode cX10_finds 134 = .ok (.ifCond .ne 7, 3) := by decide +kernel
theorem dX10_finds_137 : decode cX10_finds 137 = .ok (.iload_n 3, 1) := by decide +kernel
theorem dX10_finds_138 : decode cX10_finds 138 = .ok (.ifCond .eq 7, 3) := by decide +kernel
theorem dX10_finds_141 : decode cX10_finds 141 = .ok (.iconst 1, 1) := by decide +kernel
theorem dX10_finds_142 : decode cX10_finds 142 = .ok (.goto 4, 3) := by decide +kernel
theorem dX10_finds_145 : decode cX10_finds 145 = .ok (.iconst 0, 1) := by decide +kernel
theorem dX10_finds_146 : decode cX10_finds 146 = .ok (.istore_n 3, 1) := by decide +kernel
theorem dX10_finds_147 : decode cX10_finds 147 = .ok (.iload 5, 2) := by decide +kernel
theorem dX10_finds_149 : decode cX10_finds 149 = .ok (.ifCond .eq 67, 3) := by decide +kernel
theorem dX10_finds_152 : decode cX10_finds 152 = .ok (.iload 4, 2) := by decide +kernel
theorem dX10_finds_154 : decode cX10_finds 154 = .ok (.bipush 12, 2) := by decide +kernel
theorem dX10_finds_156 : decode cX10_finds 156 = .ok (.idiv, 1) := by decide +kernel
theorem dX10_finds_157 : decode cX10_finds 157 = .ok (.iconst 1, 1) := by decide +kernel
theorem dX10_finds_158 : decode cX10_finds 158 = .ok (.iadd, 1) := by decide +kernel
theorem dX10_finds_159 : decode cX10_finds 159 = .ok (.aload_n 0, 1) := by decide +kernel
theorem dX10_finds_160 : decode cX10_finds 160 = .ok (.getfield 75, 3) := by decide +kernel
theorem dX10_finds_163 : decode cX10_finds 163 = .ok (.if_icmp .ge 53, 3) := by decide +kernel
theorem dX10_finds_166 : decode cX10_finds 166 = .ok (.aload_n 0, 1) := by decide +kernel
theorem dX10_finds_167 : decode cX10_finds 167 = .ok (.iload 4, 2) := by decide +kernel
theorem dX10_finds_169 : decode cX10_finds 169 = .ok (.iload 4, 2) := by decide +kernel
theorem dX10_finds_171 : decode cX10_finds 171 = .ok (.bipush 12, 2) := by decide +kernel
theorem dX10_finds_173 : decode cX10_finds 173 = .ok (.iadd, 1) := by decide +kernel
theorem dX10_finds_174 : decode cX10_finds 174 = .ok (.iload_n 2, 1) := by decide +kernel
theorem dX10_finds_175 : decode cX10_finds 175 = .ok (.invokevirtual 132, 3) := by decide +kernel
theorem dX10_finds_178 : decode cX10_finds 178 = .ok (.ifCond .ne 7, 3) := by decide +kernel
theorem dX10_finds_181 : decode cX10_finds 181 = .ok (.iload_n 3, 1) := by decide +kernel
theorem dX10_finds_182 : decode cX10_finds 182 = .ok (.ifCond .eq 7, 3) := by decide +kernel
theorem dX10_finds_185 : decode cX10_finds 185 = .ok (.iconst 1, 1) := by decide +kernel
theorem dX10_finds_186 : decode cX10_finds 186 = .ok (.goto 4, 3) := by decide +kernel
theorem dX10_finds_189 : decode cX10_finds 189 = .ok (.iconst 0, 1) := by decide +kernel
theorem dX10_finds_190 : decode cX10_finds 190 = .ok (.istore_n 3, 1) := by decide +kernel
theorem dX10_finds_191 : decode cX10_finds 191 = .ok (.aload_n 0, 1) := by decide +kernel
theorem dX10_finds_192 : decode cX10_finds 192 = .ok (.iload 4, 2) := by decide +kernel
theorem dX10_finds_194 : decode cX10_finds 194 = .ok (.bipush 12, 2) := by decide +kernel
theorem dX10_finds_196 : decode cX10_finds 196 = .ok (.iadd, 1) := by decide +kernel
theorem dX10_finds_197 : decode cX10_finds 197 = .ok (.iload 4, 2) := by decide +kernel
theorem dX10_finds_199 : decode cX10_finds 199 = .ok (.iload_n 2, 1) := by decide +kernel
theorem dX10_finds_200 : decode cX10_finds 200 = .ok (.invokevirtual 132, 3) := by decide +kernel
theorem dX10_finds_203 : decode cX10_finds 203 = .ok (.ifCond .ne 7, 3) := by decide +kernel
theorem dX10_finds_206 : decode cX10_finds 206 = .ok (.iload_n 3, 1) := by decide +kernel
theorem dX10_finds_207 : decode cX10_finds 207 = .ok (.ifCond .eq 7, 3) := by decide +kernel
theorem dX10_finds_210 : decode cX10_finds 210 = .ok (.iconst 1, 1) := by decide +kernel
theorem dX10_finds_211 : decode cX10_finds 211 = .ok (.goto 4, 3) := by decide +kernel
theorem dX10_finds_214 : decode cX10_finds 214 = .ok (.iconst 0, 1) := by decide +kernel
theorem dX10_finds_215 : decode cX10_finds 215 = .ok (.istore_n 3, 1) := by decide +kernel
theorem dX10_finds_216 : decode cX10_finds 216 = .ok (.iinc 4 1, 3) := by decide +kernel
theorem dX10_finds_219 : decode cX10_finds 219 = .ok (.goto (-163), 3) := by decide +kernel
theorem dX10_finds_222 : decode cX10_finds 222 = .ok (.goto (-175), 3) := by decide +kernel
theorem dX10_finds_225 : decode cX10_finds 225 = .ok (.return_, 1) := by decide +kernel
theorem dX10_control_0 : decode cX10_control 0 = .ok (.aload_n 0, 1) := by decide +kernel
theorem dX10_control_1 : decode cX10_control 1 = .ok (.iload_n 1, 1) := by decide +kernel
theorem dX10_control_2 : decode cX10_control 2 = .ok (.iload_n 2, 1) := by decide +kernel
theorem dX10_control_3 : decode cX10_control 3 = .ok (.invokevirtual 91, 3) := by decide +kernel
theorem dX10_control_6 : decode cX10_control 6 = .ok (.istore_n 3, 1) := by decide +kernel
theorem dX10_control_7 : decode cX10_control 7 = .ok (.iload_n 3, 1) := by decide +kernel
theorem dX10_control_8 : decode cX10_control 8 = .ok (.ifCond .eq 31, 3) := by decide +kernel
theorem dX10_control_11 : decode cX10_control 11 = .ok (.aload_n 0, 1) := by decide +kernel
theorem dX10_control_12 : decode cX10_control 12 = .ok (.getfield 85, 3) := by decide +kernel
theorem dX10_control_15 : decode cX10_control 15 = .ok (.bipush 12, 2) := by decide +kernel
theorem dX10_control_17 : decode cX10_control 17 = .ok (.if_icmp .ge 22, 3) := by decide +kernel
theorem dX10_control_20 : decode cX10_control 20 = .ok (.aload_n 0, 1) := by decide +kernel
theorem dX10_control_21 : decode cX10_control 21 = .ok (.getfield 13, 3) := by decide +kernel
theorem dX10_control_24 : decode cX10_control 24 = .ok (.bipush 12, 2) := by decide +kernel
theorem dX10_control_26 : decode cX10_control 26 = .ok (.iload_n 2, 1) := by decide +kernel
theorem dX10_control_27 : decode cX10_control 27 = .ok (.imul, 1) := by decide +kernel
theorem dX10_control_28 : decode cX10_control 28 = .ok (.iload_n 1, 1) := by decide +kernel
theorem dX10_control_29 : decode cX10_control 29 = .ok (.iadd, 1) := by decide +kernel
theorem dX10_control_30 : decode cX10_control 30 = .ok (.iaload, 1) := by decide +kernel
theorem dX10_control_31 : decode cX10_control 31 = .ok (.iconst 4, 1) := by decide +kernel
theorem dX10_control_32 : decode cX10_control 32 = .ok (.if_icmp .eq 7, 3) := by decide +kernel
theorem dX10_control_35 : decode cX10_control 35 = .ok (.iconst 1, 1) := by decide +kernel
theorem dX10_control_36 : decode cX10_control 36 = .ok (.goto 4, 3) := by decide +kernel
theorem dX10_control_39 : decode cX10_control 39 = .ok (.iconst 0, 1) := by decide +kernel
theorem dX10_control_40 : decode cX10_control 40 = .ok (.istore 4, 2) := by decide +kernel
theorem dX10_control_42 : decode cX10_control 42 = .ok (.iconst 0, 1) := by decide +kernel
theorem dX10_control_43 : decode cX10_control 43 = .ok (.istore 5, 2) := by decide +kernel
theorem dX10_control_45 : decode cX10_control 45 = .ok (.iload 5, 2) := by decide +kernel
theorem dX10_control_47 : decode cX10_control 47 = .ok (.aload_n 0, 1) := by decide +kernel
theorem dX10_control_48 : decode cX10_control 48 = .ok (.getfield 85, 3) := by decide +kernel
theorem dX10_control_51 : decode cX10_control 51 = .ok (.if_icmp .ge 37, 3) := by decide +kernel
theorem dX10_control_54 : decode cX10_control 54 = .ok (.iload 4, 2) := by decide +kernel
theorem dX10_control_56 : decode cX10_control 56 = .ok (.ifCond .eq 23, 3) := by decide +kernel
theorem dX10_control_59 : decode cX10_control 59 = .ok (.aload_n 0, 1) := by decide +kernel
theorem dX10_control_60 : decode cX10_control 60 = .ok (.getfield 16, 3) := by decide +kernel
theorem dX10_control_63 : decode cX10_control 63 = .ok (.iload 5, 2) := by decide +kernel
theorem dX10_control_65 : decode cX10_control 65 = .ok (.iaload, 1) := by decide +kernel
theorem dX10_control_66 : decode cX10_control 66 = .ok (.bipush 12, 2) := by decide +kernel
theorem dX10_control_68 : decode cX10_control 68 = .ok (.iload_n 2, 1) := by decide +kernel
theorem dX10_control_69 : decode cX10_control 69 = .ok (.imul, 1) := by decide +kernel
theorem dX10_control_70 : decode cX10_control 70 = .ok (.iload_n 1, 1) := by decide +kernel
theorem dX10_control_71 : decode cX10_control 71 = .ok (.iadd, 1) := by decide +kernel
theorem dX10_control_72 : decode cX10_control 72 = .ok (.if_icmp .eq 7, 3) := by decide +kernel
theorem dX10_control_75 : decode cX10_control 75 = .ok (.iconst 1, 1) := by decide +kernel
theorem dX10_control_76 : decode cX10_control 76 = .ok (.goto 4, 3) := by decide +kernel
theorem dX10_control_79 : decode cX10_control 79 = .ok (.iconst 0, 1) := by decide +kernel
theorem dX10_control_80 : decode cX10_control 80 = .ok (.istore 4, 2) := by decide +kernel
theorem dX10_control_82 : decode cX10_control 82 = .ok (.iinc 5 1, 3) := by decide +kernel
theorem dX10_control_85 : decode cX10_control 85 = .ok (.goto (-40), 3) := by decide +kernel
theorem dX10_control_88 : decode cX10_control 88 = .ok (.aload_n 0, 1) := by decide +kernel
theorem dX10_control_89 : decode cX10_control 89 = .ok (.iload_n 3, 1) := by decide +kernel
theorem dX10_control_90 : decode cX10_control 90 = .ok (.iload 4, 2) := by decide +kernel
theorem dX10_control_92 : decode cX10_control 92 = .ok (.invokevirtual 95, 3) := by decide +kernel
theorem dX10_control_95 : decode cX10_control 95 = .ok (.ifCond .ne 5, 3) := by decide +kernel
theorem dX10_control_98 : decode cX10_control 98 = .ok (.iconst 0, 1) := by decide +kernel
theorem dX10_control_99 : decode cX10_control 99 = .ok (.ireturn, 1) := by decide +kernel
theorem dX10_control_100 : decode cX10_control 100 = .ok (.aload_n 0, 1) := by decide +kernel
theorem dX10_control_101 : decode cX10_control 101 = .ok (.getfield 16, 3) := by decide +kernel
theorem dX10_control_104 : decode cX10_control 104 = .ok (.aload_n 0, 1) := by decide +kernel
theorem dX10_control_105 : decode cX10_control 105 = .ok (.getfield 85, 3) := by decide +kernel
theorem dX10_control_108 : decode cX10_control 108 = .ok (.bipush 12, 2) := by decide +kernel
theorem dX10_control_110 : decode cX10_control 110 = .ok (.iload_n 2, 1) := by decide +kernel
theorem dX10_control_111 : decode cX10_control 111 = .ok (.imul, 1) := by decide +kernel
theorem dX10_control_112 : decode cX10_control 112 = .ok (.iload_n 1, 1) := by decide +kernel
theorem dX10_control_113 : decode cX10_control 113 = .ok (.iadd, 1) := by decide +kernel
theorem dX10_control_114 : decode cX10_control 114 = .ok (.iastore, 1) := by decide +kernel
theorem dX10_control_115 : decode cX10_control 115 = .ok (.aload_n 0, 1) := by decide +kernel
theorem dX10_control_116 : decode cX10_control 116 = .ok (.dup, 1) := by decide +kernel
theorem dX10_control_117 : decode cX10_control 117 = .ok (.getfield 85, 3) := by decide +kernel
theorem dX10_control_120 : decode cX10_control 120 = .ok (.iconst 1, 1) := by decide +kernel
theorem dX10_control_121 : decode cX10_control 121 = .ok (.iadd, 1) := by decide +kernel
theorem dX10_control_122 : decode cX10_control 122 = .ok (.putfield 85, 3) := by decide +kernel
theorem dX10_control_125 : decode cX10_control 125 = .ok (.aload_n 0, 1) := by decide +kernel
theorem dX10_control_126 : decode cX10_control 126 = .ok (.getfield 85, 3) := by decide +kernel
theorem dX10_control_129 : decode cX10_control 129 = .ok (.iconst 1, 1) := by decide +kernel
theorem dX10_control_130 : decode cX10_control 130 = .ok (.isub, 1) := by decide +kernel
theorem dX10_control_131 : decode cX10_control 131 = .ok (.ireturn, 1) := by decide +kernel
theorem dX10_costOf_0 : decode cX10_costOf 0 = .ok (.aload_n 0, 1) := by decide +kernel
theorem dX10_costOf_1 : decode cX10_costOf 1 = .ok (.aload_n 0, 1) := by decide +kernel
theorem dX10_costOf_2 : decode cX10_costOf 2 = .ok (.getfield 16, 3) := by decide +kernel
theorem dX10_costOf_5 : decode cX10_costOf 5 = .ok (.iload_n 1, 1) := by decide +kernel
theorem dX10_costOf_6 : decode cX10_costOf 6 = .ok (.iaload, 1) := by decide +kernel
theorem dX10_costOf_7 : decode cX10_costOf 7 = .ok (.iconst 0, 1) := by decide +kernel
theorem dX10_costOf_8 : decode cX10_costOf 8 = .ok (.invokevirtual 136, 3) := by decide +kernel
theorem dX10_costOf_11 : decode cX10_costOf 11 = .ok (.aload_n 0, 1) := by decide +kernel
theorem dX10_costOf_12 : decode cX10_costOf 12 = .ok (.getfield 53, 3) := by decide +kernel
theorem dX10_costOf_15 : decode cX10_costOf 15 = .ok (.aload_n 0, 1) := by decide +kernel
theorem dX10_costOf_16 : decode cX10_costOf 16 = .ok (.getfield 16, 3) := by decide +kernel
theorem dX10_costOf_19 : decode cX10_costOf 19 = .ok (.iload_n 2, 1) := by decide +kernel
theorem dX10_costOf_20 : decode cX10_costOf 20 = .ok (.iaload, 1) := by decide +kernel
theorem dX10_costOf_21 : decode cX10_costOf 21 = .ok (.iaload, 1) := by decide +kernel
theorem dX10_costOf_22 : decode cX10_costOf 22 = .ok (.ldc 127, 2) := by decide +kernel
theorem dX10_costOf_24 : decode cX10_costOf 24 = .ok (.if_icmp .ne 7, 3) := by decide +kernel
theorem dX10_costOf_27 : decode cX10_costOf 27 = .ok (.iconst (-1), 1) := by decide +kernel
theorem dX10_costOf_28 : decode cX10_costOf 28 = .ok (.goto 14, 3) := by decide +kernel
theorem dX10_costOf_31 : decode cX10_costOf 31 = .ok (.aload_n 0, 1) := by decide +kernel
theorem dX10_costOf_32 : decode cX10_costOf 32 = .ok (.getfield 53, 3) := by decide +kernel
theorem dX10_costOf_35 : decode cX10_costOf 35 = .ok (.aload_n 0, 1) := by decide +kernel
theorem dX10_costOf_36 : decode cX10_costOf 36 = .ok (.getfield 16, 3) := by decide +kernel
theorem dX10_costOf_39 : decode cX10_costOf 39 = .ok (.iload_n 2, 1) := by decide +kernel
theorem dX10_costOf_40 : decode cX10_costOf 40 = .ok (.iaload, 1) := by decide +kernel
theorem dX10_costOf_41 : decode cX10_costOf 41 = .ok (.iaload, 1) := by decide +kernel
theorem dX10_costOf_42 : decode cX10_costOf 42 = .ok (.ireturn, 1) := by decide +kernel
theorem dX10_cost_0 : decode cX10_cost 0 = .ok (.aload_n 0, 1) := by decide +kernel
theorem dX10_cost_1 : decode cX10_cost 1 = .ok (.aload_n 0, 1) := by decide +kernel
theorem dX10_cost_2 : decode cX10_cost 2 = .ok (.iload_n 1, 1) := by decide +kernel
theorem dX10_cost_3 : decode cX10_cost 3 = .ok (.invokevirtual 140, 3) := by decide +kernel
theorem dX10_cost_6 : decode cX10_cost 6 = .ok (.ifCond .eq 15, 3) := by decide +kernel
theorem dX10_cost_9 : decode cX10_cost 9 = .ok (.aload_n 0, 1) := by decide +kernel
theorem dX10_cost_10 : decode cX10_cost 10 = .ok (.iload_n 2, 1) := by decide +kernel
theorem dX10_cost_11 : decode cX10_cost 11 = .ok (.invokevirtual 140, 3) := by decide +kernel
theorem dX10_cost_14 : decode cX10_cost 14 = .ok (.ifCond .eq 7, 3) := by decide +kernel
theorem dX10_cost_17 : decode cX10_cost 17 = .ok (.iconst 1, 1) := by decide +kernel
theorem dX10_cost_18 : decode cX10_cost 18 = .ok (.goto 4, 3) := by decide +kernel
theorem dX10_cost_21 : decode cX10_cost 21 = .ok (.iconst 0, 1) := by decide +kernel
theorem dX10_cost_22 : decode cX10_cost 22 = .ok (.invokevirtual 103, 3) := by decide +kernel
theorem dX10_cost_25 : decode cX10_cost 25 = .ok (.ifCond .eq 12, 3) := by decide +kernel
theorem dX10_cost_28 : decode cX10_cost 28 = .ok (.aload_n 0, 1) := by decide +kernel
theorem dX10_cost_29 : decode cX10_cost 29 = .ok (.iload_n 1, 1) := by decide +kernel
theorem dX10_cost_30 : decode cX10_cost 30 = .ok (.iload_n 2, 1) := by decide +kernel
theorem dX10_cost_31 : decode cX10_cost 31 = .ok (.invokevirtual 143, 3) := by decide +kernel
theorem dX10_cost_34 : decode cX10_cost 34 = .ok (.goto 4, 3) := by decide +kernel
theorem dX10_cost_37 : decode cX10_cost 37 = .ok (.iconst 0, 1) := by decide +kernel
theorem dX10_cost_38 : decode cX10_cost 38 = .ok (.ireturn, 1) := by decide +kernel
theorem dX10_costByCells_0 : decode cX10_costByCells 0 = .ok (.aload_n 0, 1) := by decide +kernel
theorem dX10_costByCells_1 : decode cX10_costByCells 1 = .ok (.iload_n 1, 1) := by decide +kernel
theorem dX10_costByCells_2 : decode cX10_costByCells 2 = .ok (.iload_n 2, 1) := by decide +kernel
theorem dX10_costByCells_3 : decode cX10_costByCells 3 = .ok (.invokevirtual 146, 3) := by decide +kernel
theorem dX10_costByCells_6 : decode cX10_costByCells 6 = .ok (.ireturn, 1) := by decide +kernel
theorem dX10_climb_0 : decode cX10_climb 0 = .ok (.aload_n 0, 1) := by decide +kernel
theorem dX10_climb_1 : decode cX10_climb 1 = .ok (.aload_n 0, 1) := by decide +kernel
theorem dX10_climb_2 : decode cX10_climb 2 = .ok (.iload_n 1, 1) := by decide +kernel
theorem dX10_climb_3 : decode cX10_climb 3 = .ok (.invokevirtual 140, 3) := by decide +kernel
theorem dX10_climb_6 : decode cX10_climb 6 = .ok (.ifCond .eq 15, 3) := by decide +kernel
theorem dX10_climb_9 : decode cX10_climb 9 = .ok (.aload_n 0, 1) := by decide +kernel
theorem dX10_climb_10 : decode cX10_climb 10 = .ok (.iload_n 2, 1) := by decide +kernel
theorem dX10_climb_11 : decode cX10_climb 11 = .ok (.invokevirtual 140, 3) := by decide +kernel
theorem dX10_climb_14 : decode cX10_climb 14 = .ok (.ifCond .eq 7, 3) := by decide +kernel
theorem dX10_climb_17 : decode cX10_climb 17 = .ok (.iconst 1, 1) := by decide +kernel
theorem dX10_climb_18 : decode cX10_climb 18 = .ok (.goto 4, 3) := by decide +kernel
theorem dX10_climb_21 : decode cX10_climb 21 = .ok (.iconst 0, 1) := by decide +kernel
theorem dX10_climb_22 : decode cX10_climb 22 = .ok (.invokevirtual 103, 3) := by decide +kernel
theorem dX10_climb_25 : decode cX10_climb 25 = .ok (.ifCond .ne 5, 3) := by decide +kernel
theorem dX10_climb_28 : decode cX10_climb 28 = .ok (.iconst 0, 1) := by decide +kernel
theorem dX10_climb_29 : decode cX10_climb 29 = .ok (.ireturn, 1) := by decide +kernel
theorem dX10_climb_30 : decode cX10_climb 30 = .ok (.aload_n 0, 1) := by decide +kernel
theorem dX10_climb_31 : decode cX10_climb 31 = .ok (.iload_n 1, 1) := by decide +kernel
theorem dX10_climb_32 : decode cX10_climb 32 = .ok (.iload_n 2, 1) := by decide +kernel
theorem dX10_climb_33 : decode cX10_climb 33 = .ok (.invokevirtual 143, 3) := by decide +kernel
theorem dX10_climb_36 : decode cX10_climb 36 = .ok (.iconst (-1), 1) := by decide +kernel
theorem dX10_climb_37 : decode cX10_climb 37 = .ok (.if_icmp .ne 7, 3) := by decide +kernel
theorem dX10_climb_40 : decode cX10_climb 40 = .ok (.iconst (-1), 1) := by decide +kernel
theorem dX10_climb_41 : decode cX10_climb 41 = .ok (.goto 14, 3) := by decide +kernel
theorem dX10_climb_44 : decode cX10_climb 44 = .ok (.aload_n 0, 1) := by decide +kernel
theorem dX10_climb_45 : decode cX10_climb 45 = .ok (.getfield 56, 3) := by decide +kernel
theorem dX10_climb_48 : decode cX10_climb 48 = .ok (.aload_n 0, 1) := by decide +kernel
theorem dX10_climb_49 : decode cX10_climb 49 = .ok (.getfield 16, 3) := by decide +kernel
theorem dX10_climb_52 : decode cX10_climb 52 = .ok (.iload_n 2, 1) := by decide +kernel
theorem dX10_climb_53 : decode cX10_climb 53 = .ok (.iaload, 1) := by decide +kernel
theorem dX10_climb_54 : decode cX10_climb 54 = .ok (.iaload, 1) := by decide +kernel
theorem dX10_climb_55 : decode cX10_climb 55 = .ok (.ireturn, 1) := by decide +kernel
theorem dX10_tempts_0 : decode cX10_tempts 0 = .ok (.aload_n 0, 1) := by decide +kernel
theorem dX10_tempts_1 : decode cX10_tempts 1 = .ok (.aload_n 0, 1) := by decide +kernel
theorem dX10_tempts_2 : decode cX10_tempts 2 = .ok (.iload_n 1, 1) := by decide +kernel
theorem dX10_tempts_3 : decode cX10_tempts 3 = .ok (.invokevirtual 140, 3) := by decide +kernel
theorem dX10_tempts_6 : decode cX10_tempts 6 = .ok (.ifCond .eq 15, 3) := by decide +kernel
theorem dX10_tempts_9 : decode cX10_tempts 9 = .ok (.aload_n 0, 1) := by decide +kernel
theorem dX10_tempts_10 : decode cX10_tempts 10 = .ok (.iload_n 2, 1) := by decide +kernel
theorem dX10_tempts_11 : decode cX10_tempts 11 = .ok (.invokevirtual 140, 3) := by decide +kernel
theorem dX10_tempts_14 : decode cX10_tempts 14 = .ok (.ifCond .eq 7, 3) := by decide +kernel
theorem dX10_tempts_17 : decode cX10_tempts 17 = .ok (.iconst 1, 1) := by decide +kernel
theorem dX10_tempts_18 : decode cX10_tempts 18 = .ok (.goto 4, 3) := by decide +kernel
theorem dX10_tempts_21 : decode cX10_tempts 21 = .ok (.iconst 0, 1) := by decide +kernel
theorem dX10_tempts_22 : decode cX10_tempts 22 = .ok (.invokevirtual 103, 3) := by decide +kernel
theorem dX10_tempts_25 : decode cX10_tempts 25 = .ok (.ifCond .eq 8, 3) := by decide +kernel
theorem dX10_tempts_28 : decode cX10_tempts 28 = .ok (.iload_n 1, 1) := by decide +kernel
theorem dX10_tempts_29 : decode cX10_tempts 29 = .ok (.iload_n 2, 1) := by decide +kernel
theorem dX10_tempts_30 : decode cX10_tempts 30 = .ok (.if_icmp .ne 5, 3) := by decide +kernel
theorem dX10_tempts_33 : decode cX10_tempts 33 = .ok (.iconst 0, 1) := by decide +kernel
theorem dX10_tempts_34 : decode cX10_tempts 34 = .ok (.ireturn, 1) := by decide +kernel
theorem dX10_tempts_35 : decode cX10_tempts 35 = .ok (.aload_n 0, 1) := by decide +kernel
theorem dX10_tempts_36 : decode cX10_tempts 36 = .ok (.iload_n 1, 1) := by decide +kernel
theorem dX10_tempts_37 : decode cX10_tempts 37 = .ok (.iload_n 2, 1) := by decide +kernel
theorem dX10_tempts_38 : decode cX10_tempts 38 = .ok (.invokevirtual 143, 3) := by decide +kernel
theorem dX10_tempts_41 : decode cX10_tempts 41 = .ok (.istore_n 3, 1) := by decide +kernel
theorem dX10_tempts_42 : decode cX10_tempts 42 = .ok (.aload_n 0, 1) := by decide +kernel
theorem dX10_tempts_43 : decode cX10_tempts 43 = .ok (.aload_n 0, 1) := by decide +kernel
theorem dX10_tempts_44 : decode cX10_tempts 44 = .ok (.getfield 16, 3) := by decide +kernel
theorem dX10_tempts_47 : decode cX10_tempts 47 = .ok (.iload_n 1, 1) := by decide +kernel
theorem dX10_tempts_48 : decode cX10_tempts 48 = .ok (.iaload, 1) := by decide +kernel
theorem dX10_tempts_49 : decode cX10_tempts 49 = .ok (.iconst 1, 1) := by decide +kernel
theorem dX10_tempts_50 : decode cX10_tempts 50 = .ok (.invokevirtual 136, 3) := by decide +kernel
theorem dX10_tempts_53 : decode cX10_tempts 53 = .ok (.iload_n 3, 1) := by decide +kernel
theorem dX10_tempts_54 : decode cX10_tempts 54 = .ok (.iconst (-1), 1) := by decide +kernel
theorem dX10_tempts_55 : decode cX10_tempts 55 = .ok (.if_icmp .eq 18, 3) := by decide +kernel
theorem dX10_tempts_58 : decode cX10_tempts 58 = .ok (.aload_n 0, 1) := by decide +kernel
theorem dX10_tempts_59 : decode cX10_tempts 59 = .ok (.getfield 53, 3) := by decide +kernel
theorem dX10_tempts_62 : decode cX10_tempts 62 = .ok (.aload_n 0, 1) := by decide +kernel
theorem dX10_tempts_63 : decode cX10_tempts 63 = .ok (.getfield 16, 3) := by decide +kernel
theorem dX10_tempts_66 : decode cX10_tempts 66 = .ok (.iload_n 2, 1) := by decide +kernel
theorem dX10_tempts_67 : decode cX10_tempts 67 = .ok (.iaload, 1) := by decide +kernel
theorem dX10_tempts_68 : decode cX10_tempts 68 = .ok (.iaload, 1) := by decide +kernel
theorem dX10_tempts_69 : decode cX10_tempts 69 = .ok (.iload_n 3, 1) := by decide +kernel
theorem dX10_tempts_70 : decode cX10_tempts 70 = .ok (.if_icmp .ge 7, 3) := by decide +kernel
theorem dX10_tempts_73 : decode cX10_tempts 73 = .ok (.iconst 1, 1) := by decide +kernel
theorem dX10_tempts_74 : decode cX10_tempts 74 = .ok (.goto 4, 3) := by decide +kernel
theorem dX10_tempts_77 : decode cX10_tempts 77 = .ok (.iconst 0, 1) := by decide +kernel
theorem dX10_tempts_78 : decode cX10_tempts 78 = .ok (.ireturn, 1) := by decide +kernel
theorem dX10_visit_0 : decode cX10_visit 0 = .ok (.iload_n 1, 1) := by decide +kernel
theorem dX10_visit_1 : decode cX10_visit 1 = .ok (.invokestatic 148, 3) := by decide +kernel
theorem dX10_visit_4 : decode cX10_visit 4 = .ok (.ifCond .eq 15, 3) := by decide +kernel
theorem dX10_visit_7 : decode cX10_visit 7 = .ok (.aload_n 0, 1) := by decide +kernel
theorem dX10_visit_8 : decode cX10_visit 8 = .ok (.iload_n 2, 1) := by decide +kernel
theorem dX10_visit_9 : decode cX10_visit 9 = .ok (.invokevirtual 140, 3) := by decide +kernel
theorem dX10_visit_12 : decode cX10_visit 12 = .ok (.ifCond .eq 7, 3) := by decide +kernel
theorem dX10_visit_15 : decode cX10_visit 15 = .ok (.iconst 1, 1) := by decide +kernel
theorem dX10_visit_16 : decode cX10_visit 16 = .ok (.goto 4, 3) := by decide +kernel
theorem dX10_visit_19 : decode cX10_visit 19 = .ok (.iconst 0, 1) := by decide +kernel
theorem dX10_visit_20 : decode cX10_visit 20 = .ok (.istore_n 3, 1) := by decide +kernel
theorem dX10_visit_21 : decode cX10_visit 21 = .ok (.iload_n 3, 1) := by decide +kernel
theorem dX10_visit_22 : decode cX10_visit 22 = .ok (.ifCond .eq 25, 3) := by decide +kernel
theorem dX10_visit_25 : decode cX10_visit 25 = .ok (.aload_n 0, 1) := by decide +kernel
theorem dX10_visit_26 : decode cX10_visit 26 = .ok (.getfield 26, 3) := by decide +kernel
theorem dX10_visit_29 : decode cX10_visit 29 = .ok (.iload_n 1, 1) := by decide +kernel
theorem dX10_visit_30 : decode cX10_visit 30 = .ok (.iaload, 1) := by decide +kernel
theorem dX10_visit_31 : decode cX10_visit 31 = .ok (.bipush 6, 2) := by decide +kernel
theorem dX10_visit_33 : decode cX10_visit 33 = .ok (.if_icmp .ge 14, 3) := by decide +kernel
theorem dX10_visit_36 : decode cX10_visit 36 = .ok (.aload_n 0, 1) := by decide +kernel
theorem dX10_visit_37 : decode cX10_visit 37 = .ok (.getfield 151, 3) := by decide +kernel
theorem dX10_visit_40 : decode cX10_visit 40 = .ok (.ifCond .ne 7, 3) := by decide +kernel
theorem dX10_visit_43 : decode cX10_visit 43 = .ok (.iconst 1, 1) := by decide +kernel
theorem dX10_visit_44 : decode cX10_visit 44 = .ok (.goto 4, 3) := by decide +kernel
theorem dX10_visit_47 : decode cX10_visit 47 = .ok (.iconst 0, 1) := by decide +kernel
theorem dX10_visit_48 : decode cX10_visit 48 = .ok (.istore 4, 2) := by decide +kernel
theorem dX10_visit_50 : decode cX10_visit 50 = .ok (.iconst 0, 1) := by decide +kernel
theorem dX10_visit_51 : decode cX10_visit 51 = .ok (.istore 5, 2) := by decide +kernel
theorem dX10_visit_53 : decode cX10_visit 53 = .ok (.iload 4, 2) := by decide +kernel
theorem dX10_visit_55 : decode cX10_visit 55 = .ok (.ifCond .eq 43, 3) := by decide +kernel
theorem dX10_visit_58 : decode cX10_visit 58 = .ok (.iload 5, 2) := by decide +kernel
theorem dX10_visit_60 : decode cX10_visit 60 = .ok (.aload_n 0, 1) := by decide +kernel
theorem dX10_visit_61 : decode cX10_visit 61 = .ok (.getfield 26, 3) := by decide +kernel
theorem dX10_visit_64 : decode cX10_visit 64 = .ok (.iload_n 1, 1) := by decide +kernel
theorem dX10_visit_65 : decode cX10_visit 65 = .ok (.iaload, 1) := by decide +kernel
theorem dX10_visit_66 : decode cX10_visit 66 = .ok (.if_icmp .ge 32, 3) := by decide +kernel
theorem dX10_visit_69 : decode cX10_visit 69 = .ok (.aload_n 0, 1) := by decide +kernel
theorem dX10_visit_70 : decode cX10_visit 70 = .ok (.getfield 23, 3) := by decide +kernel
theorem dX10_visit_73 : decode cX10_visit 73 = .ok (.bipush 6, 2) := by decide +kernel
theorem dX10_visit_75 : decode cX10_visit 75 = .ok (.iload_n 1, 1) := by decide +kernel
theorem dX10_visit_76 : decode cX10_visit 76 = .ok (.imul, 1) := by decide +kernel
theorem dX10_visit_77 : decode cX10_visit 77 = .ok (.iload 5, 2) := by decide +kernel
theorem dX10_visit_79 : decode cX10_visit 79 = .ok (.iadd, 1) := by decide +kernel
theorem dX10_visit_80 : decode cX10_visit 80 = .ok (.iaload, 1) := by decide +kernel
theorem dX10_visit_81 : decode cX10_visit 81 = .ok (.iload_n 2, 1) := by decide +kernel
theorem dX10_visit_82 : decode cX10_visit 82 = .ok (.if_icmp .eq 7, 3) := by decide +kernel
theorem dX10_visit_85 : decode cX10_visit 85 = .ok (.iconst 1, 1) := by decide +kernel
theorem dX10_visit_86 : decode cX10_visit 86 = .ok (.goto 4, 3) := by decide +kernel
theorem dX10_visit_89 : decode cX10_visit 89 = .ok (.iconst 0, 1) := by decide +kernel
theorem dX10_visit_90 : decode cX10_visit 90 = .ok (.istore 4, 2) := by decide +kernel
theorem dX10_visit_92 : decode cX10_visit 92 = .ok (.iinc 5 1, 3) := by decide +kernel
theorem dX10_visit_95 : decode cX10_visit 95 = .ok (.goto (-42), 3) := by decide +kernel
theorem dX10_visit_98 : decode cX10_visit 98 = .ok (.aload_n 0, 1) := by decide +kernel
theorem dX10_visit_99 : decode cX10_visit 99 = .ok (.iload_n 3, 1) := by decide +kernel
theorem dX10_visit_100 : decode cX10_visit 100 = .ok (.iload 4, 2) := by decide +kernel
theorem dX10_visit_102 : decode cX10_visit 102 = .ok (.invokevirtual 95, 3) := by decide +kernel
theorem dX10_visit_105 : decode cX10_visit 105 = .ok (.ifCond .ne 5, 3) := by decide +kernel
theorem dX10_visit_108 : decode cX10_visit 108 = .ok (.iconst 0, 1) := by decide +kernel
theorem dX10_visit_109 : decode cX10_visit 109 = .ok (.ireturn, 1) := by decide +kernel
theorem dX10_visit_110 : decode cX10_visit 110 = .ok (.aload_n 0, 1) := by decide +kernel
theorem dX10_visit_111 : decode cX10_visit 111 = .ok (.getfield 23, 3) := by decide +kernel
theorem dX10_visit_114 : decode cX10_visit 114 = .ok (.bipush 6, 2) := by decide +kernel
theorem dX10_visit_116 : decode cX10_visit 116 = .ok (.iload_n 1, 1) := by decide +kernel
theorem dX10_visit_117 : decode cX10_visit 117 = .ok (.imul, 1) := by decide +kernel
theorem dX10_visit_118 : decode cX10_visit 118 = .ok (.aload_n 0, 1) := by decide +kernel
theorem dX10_visit_119 : decode cX10_visit 119 = .ok (.getfield 26, 3) := by decide +kernel
theorem dX10_visit_122 : decode cX10_visit 122 = .ok (.iload_n 1, 1) := by decide +kernel
theorem dX10_visit_123 : decode cX10_visit 123 = .ok (.iaload, 1) := by decide +kernel
theorem dX10_visit_124 : decode cX10_visit 124 = .ok (.iadd, 1) := by decide +kernel
theorem dX10_visit_125 : decode cX10_visit 125 = .ok (.iload_n 2, 1) := by decide +kernel
theorem dX10_visit_126 : decode cX10_visit 126 = .ok (.iastore, 1) := by decide +kernel
theorem dX10_visit_127 : decode cX10_visit 127 = .ok (.aload_n 0, 1) := by decide +kernel
theorem dX10_visit_128 : decode cX10_visit 128 = .ok (.getfield 26, 3) := by decide +kernel
theorem dX10_visit_131 : decode cX10_visit 131 = .ok (.iload_n 1, 1) := by decide +kernel
theorem dX10_visit_132 : decode cX10_visit 132 = .ok (.dup2, 1) := by decide +kernel
theorem dX10_visit_133 : decode cX10_visit 133 = .ok (.iaload, 1) := by decide +kernel
theorem dX10_visit_134 : decode cX10_visit 134 = .ok (.iconst 1, 1) := by decide +kernel
theorem dX10_visit_135 : decode cX10_visit 135 = .ok (.iadd, 1) := by decide +kernel
theorem dX10_visit_136 : decode cX10_visit 136 = .ok (.iastore, 1) := by decide +kernel
theorem dX10_visit_137 : decode cX10_visit 137 = .ok (.aload_n 0, 1) := by decide +kernel
theorem dX10_visit_138 : decode cX10_visit 138 = .ok (.getfield 26, 3) := by decide +kernel
theorem dX10_visit_141 : decode cX10_visit 141 = .ok (.iload_n 1, 1) := by decide +kernel
theorem dX10_visit_142 : decode cX10_visit 142 = .ok (.iaload, 1) := by decide +kernel
theorem dX10_visit_143 : decode cX10_visit 143 = .ok (.ireturn, 1) := by decide +kernel
theorem dX10_sumOf_0 : decode cX10_sumOf 0 = .ok (.iload_n 1, 1) := by decide +kernel
theorem dX10_sumOf_1 : decode cX10_sumOf 1 = .ok (.iconst 2, 1) := by decide +kernel
theorem dX10_sumOf_2 : decode cX10_sumOf 2 = .ok (.if_icmp .ge 7, 3) := by decide +kernel
theorem dX10_sumOf_5 : decode cX10_sumOf 5 = .ok (.iconst (-1), 1) := by decide +kernel
theorem dX10_sumOf_6 : decode cX10_sumOf 6 = .ok (.goto 4, 3) := by decide +kernel
theorem dX10_sumOf_9 : decode cX10_sumOf 9 = .ok (.iconst 0, 1) := by decide +kernel
theorem dX10_sumOf_10 : decode cX10_sumOf 10 = .ok (.istore_n 3, 1) := by decide +kernel
theorem dX10_sumOf_11 : decode cX10_sumOf 11 = .ok (.iconst 0, 1) := by decide +kernel
theorem dX10_sumOf_12 : decode cX10_sumOf 12 = .ok (.istore 4, 2) := by decide +kernel
theorem dX10_sumOf_14 : decode cX10_sumOf 14 = .ok (.iload 4, 2) := by decide +kernel
theorem dX10_sumOf_16 : decode cX10_sumOf 16 = .ok (.iconst 1, 1) := by decide +kernel
theorem dX10_sumOf_17 : decode cX10_sumOf 17 = .ok (.iadd, 1) := by decide +kernel
theorem dX10_sumOf_18 : decode cX10_sumOf 18 = .ok (.iload_n 1, 1) := by decide +kernel
theorem dX10_sumOf_19 : decode cX10_sumOf 19 = .ok (.if_icmp .ge 77, 3) := by decide +kernel
theorem dX10_sumOf_22 : decode cX10_sumOf 22 = .ok (.iload_n 3, 1) := by decide +kernel
theorem dX10_sumOf_23 : decode cX10_sumOf 23 = .ok (.iconst (-1), 1) := by decide +kernel
theorem dX10_sumOf_24 : decode cX10_sumOf 24 = .ok (.if_icmp .eq 72, 3) := by decide +kernel
theorem dX10_sumOf_27 : decode cX10_sumOf 27 = .ok (.aload_n 0, 1) := by decide +kernel
theorem dX10_sumOf_28 : decode cX10_sumOf 28 = .ok (.aload_n 0, 1) := by decide +kernel
theorem dX10_sumOf_29 : decode cX10_sumOf 29 = .ok (.getfield 65, 3) := by decide +kernel
theorem dX10_sumOf_32 : decode cX10_sumOf 32 = .ok (.iload 4, 2) := by decide +kernel
theorem dX10_sumOf_34 : decode cX10_sumOf 34 = .ok (.iaload, 1) := by decide +kernel
theorem dX10_sumOf_35 : decode cX10_sumOf 35 = .ok (.aload_n 0, 1) := by decide +kernel
theorem dX10_sumOf_36 : decode cX10_sumOf 36 = .ok (.getfield 65, 3) := by decide +kernel
theorem dX10_sumOf_39 : decode cX10_sumOf 39 = .ok (.iload 4, 2) := by decide +kernel
theorem dX10_sumOf_41 : decode cX10_sumOf 41 = .ok (.iconst 1, 1) := by decide +kernel
theorem dX10_sumOf_42 : decode cX10_sumOf 42 = .ok (.iadd, 1) := by decide +kernel
theorem dX10_sumOf_43 : decode cX10_sumOf 43 = .ok (.iaload, 1) := by decide +kernel
theorem dX10_sumOf_44 : decode cX10_sumOf 44 = .ok (.invokevirtual 143, 3) := by decide +kernel
theorem dX10_sumOf_47 : decode cX10_sumOf 47 = .ok (.istore 5, 2) := by decide +kernel
theorem dX10_sumOf_49 : decode cX10_sumOf 49 = .ok (.iload 5, 2) := by decide +kernel
theorem dX10_sumOf_51 : decode cX10_sumOf 51 = .ok (.iconst (-1), 1) := by decide +kernel
theorem dX10_sumOf_52 : decode cX10_sumOf 52 = .ok (.if_icmp .ne 7, 3) := by decide +kernel
theorem dX10_sumOf_55 : decode cX10_sumOf 55 = .ok (.iconst (-1), 1) := by decide +kernel
theorem dX10_sumOf_56 : decode cX10_sumOf 56 = .ok (.goto 33, 3) := by decide +kernel
theorem dX10_sumOf_59 : decode cX10_sumOf 59 = .ok (.iload_n 3, 1) := by decide +kernel
theorem dX10_sumOf_60 : decode cX10_sumOf 60 = .ok (.iload_n 2, 1) := by decide +kernel
theorem dX10_sumOf_61 : decode cX10_sumOf 61 = .ok (.ifCond .eq 25, 3) := by decide +kernel
theorem dX10_sumOf_64 : decode cX10_sumOf 64 = .ok (.aload_n 0, 1) := by decide +kernel
theorem dX10_sumOf_65 : decode cX10_sumOf 65 = .ok (.getfield 56, 3) := by decide +kernel
theorem dX10_sumOf_68 : decode cX10_sumOf 68 = .ok (.aload_n 0, 1) := by decide +kernel
theorem dX10_sumOf_69 : decode cX10_sumOf 69 = .ok (.getfield 16, 3) := by decide +kernel
theorem dX10_sumOf_72 : decode cX10_sumOf 72 = .ok (.aload_n 0, 1) := by decide +kernel
theorem dX10_sumOf_73 : decode cX10_sumOf 73 = .ok (.getfield 65, 3) := by decide +kernel
theorem dX10_sumOf_76 : decode cX10_sumOf 76 = .ok (.iload 4, 2) := by decide +kernel
theorem dX10_sumOf_78 : decode cX10_sumOf 78 = .ok (.iconst 1, 1) := by decide +kernel
theorem dX10_sumOf_79 : decode cX10_sumOf 79 = .ok (.iadd, 1) := by decide +kernel
theorem dX10_sumOf_80 : decode cX10_sumOf 80 = .ok (.iaload, 1) := by decide +kernel
theorem dX10_sumOf_81 : decode cX10_sumOf 81 = .ok (.iaload, 1) := by decide +kernel
theorem dX10_sumOf_82 : decode cX10_sumOf 82 = .ok (.iaload, 1) := by decide +kernel
theorem dX10_sumOf_83 : decode cX10_sumOf 83 = .ok (.goto 5, 3) := by decide +kernel
theorem dX10_sumOf_86 : decode cX10_sumOf 86 = .ok (.iload 5, 2) := by decide +kernel
theorem dX10_sumOf_88 : decode cX10_sumOf 88 = .ok (.iadd, 1) := by decide +kernel
theorem dX10_sumOf_89 : decode cX10_sumOf 89 = .ok (.istore_n 3, 1) := by decide +kernel
theorem dX10_sumOf_90 : decode cX10_sumOf 90 = .ok (.iinc 4 1, 3) := by decide +kernel
theorem dX10_sumOf_93 : decode cX10_sumOf 93 = .ok (.goto (-79), 3) := by decide +kernel
theorem dX10_sumOf_96 : decode cX10_sumOf 96 = .ok (.iload_n 3, 1) := by decide +kernel
theorem dX10_sumOf_97 : decode cX10_sumOf 97 = .ok (.ireturn, 1) := by decide +kernel
theorem dX10_sumOfCourse_0 : decode cX10_sumOfCourse 0 = .ok (.iconst 0, 1) := by decide +kernel
theorem dX10_sumOfCourse_1 : decode cX10_sumOfCourse 1 = .ok (.istore_n 3, 1) := by decide +kernel
theorem dX10_sumOfCourse_2 : decode cX10_sumOfCourse 2 = .ok (.iload_n 3, 1) := by decide +kernel
theorem dX10_sumOfCourse_3 : decode cX10_sumOfCourse 3 = .ok (.aload_n 0, 1) := by decide +kernel
theorem dX10_sumOfCourse_4 : decode cX10_sumOfCourse 4 = .ok (.getfield 26, 3) := by decide +kernel
theorem dX10_sumOfCourse_7 : decode cX10_sumOfCourse 7 = .ok (.iload_n 1, 1) := by decide +kernel
theorem dX10_sumOfCourse_8 : decode cX10_sumOfCourse 8 = .ok (.iaload, 1) := by decide +kernel
theorem dX10_sumOfCourse_9 : decode cX10_sumOfCourse 9 = .ok (.if_icmp .ge 26, 3) := by decide +kernel
theorem dX10_sumOfCourse_12 : decode cX10_sumOfCourse 12 = .ok (.aload_n 0, 1) := by decide +kernel
theorem dX10_sumOfCourse_13 : decode cX10_sumOfCourse 13 = .ok (.getfield 65, 3) := by decide +kernel
theorem dX10_sumOfCourse_16 : decode cX10_sumOfCourse 16 = .ok (.iload_n 3, 1) := by decide +kernel
theorem dX10_sumOfCourse_17 : decode cX10_sumOfCourse 17 = .ok (.aload_n 0, 1) := by decide +kernel
theorem dX10_sumOfCourse_18 : decode cX10_sumOfCourse 18 = .ok (.getfield 23, 3) := by decide +kernel
theorem dX10_sumOfCourse_21 : decode cX10_sumOfCourse 21 = .ok (.bipush 6, 2) := by decide +kernel
theorem dX10_sumOfCourse_23 : decode cX10_sumOfCourse 23 = .ok (.iload_n 1, 1) := by decide +kernel
theorem dX10_sumOfCourse_24 : decode cX10_sumOfCourse 24 = .ok (.imul, 1) := by decide +kernel
theorem dX10_sumOfCourse_25 : decode cX10_sumOfCourse 25 = .ok (.iload_n 3, 1) := by decide +kernel
theorem dX10_sumOfCourse_26 : decode cX10_sumOfCourse 26 = .ok (.iadd, 1) := by decide +kernel
theorem dX10_sumOfCourse_27 : decode cX10_sumOfCourse 27 = .ok (.iaload, 1) := by decide +kernel
theorem dX10_sumOfCourse_28 : decode cX10_sumOfCourse 28 = .ok (.iastore, 1) := by decide +kernel
theorem dX10_sumOfCourse_29 : decode cX10_sumOfCourse 29 = .ok (.iinc 3 1, 3) := by decide +kernel
theorem dX10_sumOfCourse_32 : decode cX10_sumOfCourse 32 = .ok (.goto (-30), 3) := by decide +kernel
theorem dX10_sumOfCourse_35 : decode cX10_sumOfCourse 35 = .ok (.aload_n 0, 1) := by decide +kernel
theorem dX10_sumOfCourse_36 : decode cX10_sumOfCourse 36 = .ok (.aload_n 0, 1) := by decide +kernel
theorem dX10_sumOfCourse_37 : decode cX10_sumOfCourse 37 = .ok (.getfield 26, 3) := by decide +kernel
theorem dX10_sumOfCourse_40 : decode cX10_sumOfCourse 40 = .ok (.iload_n 1, 1) := by decide +kernel
theorem dX10_sumOfCourse_41 : decode cX10_sumOfCourse 41 = .ok (.iaload, 1) := by decide +kernel
theorem dX10_sumOfCourse_42 : decode cX10_sumOfCourse 42 = .ok (.iload_n 2, 1) := by decide +kernel
theorem dX10_sumOfCourse_43 : decode cX10_sumOfCourse 43 = .ok (.invokevirtual 155, 3) := by decide +kernel
theorem dX10_sumOfCourse_46 : decode cX10_sumOfCourse 46 = .ok (.ireturn, 1) := by decide +kernel
theorem dX10_lays_0 : decode cX10_lays 0 = .ok (.aload_n 0, 1) := by decide +kernel
theorem dX10_lays_1 : decode cX10_lays 1 = .ok (.getfield 26, 3) := by decide +kernel
theorem dX10_lays_4 : decode cX10_lays 4 = .ok (.iload_n 1, 1) := by decide +kernel
theorem dX10_lays_5 : decode cX10_lays 5 = .ok (.iaload, 1) := by decide +kernel
theorem dX10_lays_6 : decode cX10_lays 6 = .ok (.istore_n 3, 1) := by decide +kernel
theorem dX10_lays_7 : decode cX10_lays 7 = .ok (.iload_n 2, 1) := by decide +kernel
theorem dX10_lays_8 : decode cX10_lays 8 = .ok (.istore 4, 2) := by decide +kernel
theorem dX10_lays_10 : decode cX10_lays 10 = .ok (.iconst 0, 1) := by decide +kernel
theorem dX10_lays_11 : decode cX10_lays 11 = .ok (.istore 5, 2) := by decide +kernel
theorem dX10_lays_13 : decode cX10_lays 13 = .ok (.iload_n 3, 1) := by decide +kernel
theorem dX10_lays_14 : decode cX10_lays 14 = .ok (.iconst 2, 1) := by decide +kernel
theorem dX10_lays_15 : decode cX10_lays 15 = .ok (.isub, 1) := by decide +kernel
theorem dX10_lays_16 : decode cX10_lays 16 = .ok (.istore 6, 2) := by decide +kernel
theorem dX10_lays_18 : decode cX10_lays 18 = .ok (.iload 6, 2) := by decide +kernel
theorem dX10_lays_20 : decode cX10_lays 20 = .ok (.ifCond .le 67, 3) := by decide +kernel
theorem dX10_lays_23 : decode cX10_lays 23 = .ok (.iload 4, 2) := by decide +kernel
theorem dX10_lays_25 : decode cX10_lays 25 = .ok (.bipush 6, 2) := by decide +kernel
theorem dX10_lays_27 : decode cX10_lays 27 = .ok (.irem, 1) := by decide +kernel
theorem dX10_lays_28 : decode cX10_lays 28 = .ok (.istore 7, 2) := by decide +kernel
theorem dX10_lays_30 : decode cX10_lays 30 = .ok (.iload 4, 2) := by decide +kernel
theorem dX10_lays_32 : decode cX10_lays 32 = .ok (.bipush 6, 2) := by decide +kernel
theorem dX10_lays_34 : decode cX10_lays 34 = .ok (.idiv, 1) := by decide +kernel
theorem dX10_lays_35 : decode cX10_lays 35 = .ok (.istore 4, 2) := by decide +kernel
theorem dX10_lays_37 : decode cX10_lays 37 = .ok (.iload 5, 2) := by decide +kernel
theorem dX10_lays_39 : decode cX10_lays 39 = .ok (.iload 7, 2) := by decide +kernel
theorem dX10_lays_41 : decode cX10_lays 41 = .ok (.iconst 1, 1) := by decide +kernel
theorem dX10_lays_42 : decode cX10_lays 42 = .ok (.iload_n 3, 1) := by decide +kernel
theorem dX10_lays_43 : decode cX10_lays 43 = .ok (.iconst 2, 1) := by decide +kernel
theorem dX10_lays_44 : decode cX10_lays 44 = .ok (.isub, 1) := by decide +kernel
theorem dX10_lays_45 : decode cX10_lays 45 = .ok (.invokestatic 81, 3) := by decide +kernel
theorem dX10_lays_48 : decode cX10_lays 48 = .ok (.ifCond .eq 10, 3) := by decide +kernel
theorem dX10_lays_51 : decode cX10_lays 51 = .ok (.iconst 1, 1) := by decide +kernel
theorem dX10_lays_52 : decode cX10_lays 52 = .ok (.iload 7, 2) := by decide +kernel
theorem dX10_lays_54 : decode cX10_lays 54 = .ok (.ishl, 1) := by decide +kernel
theorem dX10_lays_55 : decode cX10_lays 55 = .ok (.goto 4, 3) := by decide +kernel
theorem dX10_lays_58 : decode cX10_lays 58 = .ok (.iconst 0, 1) := by decide +kernel
theorem dX10_lays_59 : decode cX10_lays 59 = .ok (.ior, 1) := by decide +kernel
theorem dX10_lays_60 : decode cX10_lays 60 = .ok (.istore 5, 2) := by decide +kernel
theorem dX10_lays_62 : decode cX10_lays 62 = .ok (.aload_n 0, 1) := by decide +kernel
theorem dX10_lays_63 : decode cX10_lays 63 = .ok (.getfield 65, 3) := by decide +kernel
theorem dX10_lays_66 : decode cX10_lays 66 = .ok (.iload 6, 2) := by decide +kernel
theorem dX10_lays_68 : decode cX10_lays 68 = .ok (.aload_n 0, 1) := by decide +kernel
theorem dX10_lays_69 : decode cX10_lays 69 = .ok (.getfield 23, 3) := by decide +kernel
theorem dX10_lays_72 : decode cX10_lays 72 = .ok (.bipush 6, 2) := by decide +kernel
theorem dX10_lays_74 : decode cX10_lays 74 = .ok (.iload_n 1, 1) := by decide +kernel
theorem dX10_lays_75 : decode cX10_lays 75 = .ok (.imul, 1) := by decide +kernel
theorem dX10_lays_76 : decode cX10_lays 76 = .ok (.iload 7, 2) := by decide +kernel
theorem dX10_lays_78 : decode cX10_lays 78 = .ok (.iadd, 1) := by decide +kernel
theorem dX10_lays_79 : decode cX10_lays 79 = .ok (.iaload, 1) := by decide +kernel
theorem dX10_lays_80 : decode cX10_lays 80 = .ok (.iastore, 1) := by decide +kernel
theorem dX10_lays_81 : decode cX10_lays 81 = .ok (.iinc 6 (-1), 3) := by decide +kernel
theorem dX10_lays_84 : decode cX10_lays 84 = .ok (.goto (-66), 3) := by decide +kernel
theorem dX10_lays_87 : decode cX10_lays 87 = .ok (.aload_n 0, 1) := by decide +kernel
theorem dX10_lays_88 : decode cX10_lays 88 = .ok (.getfield 65, 3) := by decide +kernel
theorem dX10_lays_91 : decode cX10_lays 91 = .ok (.iconst 0, 1) := by decide +kernel
theorem dX10_lays_92 : decode cX10_lays 92 = .ok (.aload_n 0, 1) := by decide +kernel
theorem dX10_lays_93 : decode cX10_lays 93 = .ok (.getfield 23, 3) := by decide +kernel
theorem dX10_lays_96 : decode cX10_lays 96 = .ok (.bipush 6, 2) := by decide +kernel
theorem dX10_lays_98 : decode cX10_lays 98 = .ok (.iload_n 1, 1) := by decide +kernel
theorem dX10_lays_99 : decode cX10_lays 99 = .ok (.imul, 1) := by decide +kernel
theorem dX10_lays_100 : decode cX10_lays 100 = .ok (.iaload, 1) := by decide +kernel
theorem dX10_lays_101 : decode cX10_lays 101 = .ok (.iastore, 1) := by decide +kernel
theorem dX10_lays_102 : decode cX10_lays 102 = .ok (.aload_n 0, 1) := by decide +kernel
theorem dX10_lays_103 : decode cX10_lays 103 = .ok (.getfield 65, 3) := by decide +kernel
theorem dX10_lays_106 : decode cX10_lays 106 = .ok (.iload_n 3, 1) := by decide +kernel
theorem dX10_lays_107 : decode cX10_lays 107 = .ok (.iconst 1, 1) := by decide +kernel
theorem dX10_lays_108 : decode cX10_lays 108 = .ok (.isub, 1) := by decide +kernel
theorem dX10_lays_109 : decode cX10_lays 109 = .ok (.aload_n 0, 1) := by decide +kernel
theorem dX10_lays_110 : decode cX10_lays 110 = .ok (.getfield 23, 3) := by decide +kernel
theorem dX10_lays_113 : decode cX10_lays 113 = .ok (.bipush 6, 2) := by decide +kernel
theorem dX10_lays_115 : decode cX10_lays 115 = .ok (.iload_n 1, 1) := by decide +kernel
theorem dX10_lays_116 : decode cX10_lays 116 = .ok (.imul, 1) := by decide +kernel
theorem dX10_lays_117 : decode cX10_lays 117 = .ok (.iload_n 3, 1) := by decide +kernel
theorem dX10_lays_118 : decode cX10_lays 118 = .ok (.iadd, 1) := by decide +kernel
theorem dX10_lays_119 : decode cX10_lays 119 = .ok (.iconst 1, 1) := by decide +kernel
theorem dX10_lays_120 : decode cX10_lays 120 = .ok (.isub, 1) := by decide +kernel
theorem dX10_lays_121 : decode cX10_lays 121 = .ok (.iaload, 1) := by decide +kernel
theorem dX10_lays_122 : decode cX10_lays 122 = .ok (.iastore, 1) := by decide +kernel
theorem dX10_lays_123 : decode cX10_lays 123 = .ok (.iload 5, 2) := by decide +kernel
theorem dX10_lays_125 : decode cX10_lays 125 = .ok (.iconst 1, 1) := by decide +kernel
theorem dX10_lays_126 : decode cX10_lays 126 = .ok (.iload_n 3, 1) := by decide +kernel
theorem dX10_lays_127 : decode cX10_lays 127 = .ok (.iconst 1, 1) := by decide +kernel
theorem dX10_lays_128 : decode cX10_lays 128 = .ok (.isub, 1) := by decide +kernel
theorem dX10_lays_129 : decode cX10_lays 129 = .ok (.ishl, 1) := by decide +kernel
theorem dX10_lays_130 : decode cX10_lays 130 = .ok (.iconst 2, 1) := by decide +kernel
theorem dX10_lays_131 : decode cX10_lays 131 = .ok (.isub, 1) := by decide +kernel
theorem dX10_lays_132 : decode cX10_lays 132 = .ok (.if_icmp .ne 7, 3) := by decide +kernel
theorem dX10_lays_135 : decode cX10_lays 135 = .ok (.iconst 1, 1) := by decide +kernel
theorem dX10_lays_136 : decode cX10_lays 136 = .ok (.goto 4, 3) := by decide +kernel
theorem dX10_lays_139 : decode cX10_lays 139 = .ok (.iconst 0, 1) := by decide +kernel
theorem dX10_lays_140 : decode cX10_lays 140 = .ok (.ireturn, 1) := by decide +kernel
theorem dX10_arrange_0 : decode cX10_arrange 0 = .ok (.aload_n 0, 1) := by decide +kernel
theorem dX10_arrange_1 : decode cX10_arrange 1 = .ok (.iload_n 1, 1) := by decide +kernel
theorem dX10_arrange_2 : decode cX10_arrange 2 = .ok (.invokestatic 148, 3) := by decide +kernel
theorem dX10_arrange_5 : decode cX10_arrange 5 = .ok (.iload_n 2, 1) := by decide +kernel
theorem dX10_arrange_6 : decode cX10_arrange 6 = .ok (.iconst 0, 1) := by decide +kernel
theorem dX10_arrange_7 : decode cX10_arrange 7 = .ok (.sipush 9999, 3) := by decide +kernel
theorem dX10_arrange_10 : decode cX10_arrange 10 = .ok (.invokestatic 81, 3) := by decide +kernel
theorem dX10_arrange_13 : decode cX10_arrange 13 = .ok (.aload_n 0, 1) := by decide +kernel
theorem dX10_arrange_14 : decode cX10_arrange 14 = .ok (.getfield 151, 3) := by decide +kernel
theorem dX10_arrange_17 : decode cX10_arrange 17 = .ok (.ifCond .ne 7, 3) := by decide +kernel
theorem dX10_arrange_20 : decode cX10_arrange 20 = .ok (.iconst 1, 1) := by decide +kernel
theorem dX10_arrange_21 : decode cX10_arrange 21 = .ok (.goto 4, 3) := by decide +kernel
theorem dX10_arrange_24 : decode cX10_arrange 24 = .ok (.iconst 0, 1) := by decide +kernel
theorem dX10_arrange_25 : decode cX10_arrange 25 = .ok (.invokevirtual 159, 3) := by decide +kernel
theorem dX10_arrange_28 : decode cX10_arrange 28 = .ok (.ifCond .ne 5, 3) := by decide +kernel
theorem dX10_arrange_31 : decode cX10_arrange 31 = .ok (.iconst 0, 1) := by decide +kernel
theorem dX10_arrange_32 : decode cX10_arrange 32 = .ok (.ireturn, 1) := by decide +kernel
theorem dX10_arrange_33 : decode cX10_arrange 33 = .ok (.aload_n 0, 1) := by decide +kernel
theorem dX10_arrange_34 : decode cX10_arrange 34 = .ok (.getfield 26, 3) := by decide +kernel
theorem dX10_arrange_37 : decode cX10_arrange 37 = .ok (.iload_n 1, 1) := by decide +kernel
theorem dX10_arrange_38 : decode cX10_arrange 38 = .ok (.iaload, 1) := by decide +kernel
theorem dX10_arrange_39 : decode cX10_arrange 39 = .ok (.istore_n 3, 1) := by decide +kernel
theorem dX10_arrange_40 : decode cX10_arrange 40 = .ok (.iload_n 3, 1) := by decide +kernel
theorem dX10_arrange_41 : decode cX10_arrange 41 = .ok (.iconst 4, 1) := by decide +kernel
theorem dX10_arrange_42 : decode cX10_arrange 42 = .ok (.if_icmp .ne 8, 3) := by decide +kernel
theorem dX10_arrange_45 : decode cX10_arrange 45 = .ok (.bipush 36, 2) := by decide +kernel
theorem dX10_arrange_47 : decode cX10_arrange 47 = .ok (.goto 27, 3) := by decide +kernel
theorem dX10_arrange_50 : decode cX10_arrange 50 = .ok (.iload_n 3, 1) := by decide +kernel
theorem dX10_arrange_51 : decode cX10_arrange 51 = .ok (.iconst 5, 1) := by decide +kernel
theorem dX10_arrange_52 : decode cX10_arrange 52 = .ok (.if_icmp .ne 9, 3) := by decide +kernel
theorem dX10_arrange_55 : decode cX10_arrange 55 = .ok (.sipush 216, 3) := by decide +kernel
theorem dX10_arrange_58 : decode cX10_arrange 58 = .ok (.goto 16, 3) := by decide +kernel
theorem dX10_arrange_61 : decode cX10_arrange 61 = .ok (.iload_n 3, 1) := by decide +kernel
theorem dX10_arrange_62 : decode cX10_arrange 62 = .ok (.bipush 6, 2) := by decide +kernel
theorem dX10_arrange_64 : decode cX10_arrange 64 = .ok (.if_icmp .ne 9, 3) := by decide +kernel
theorem dX10_arrange_67 : decode cX10_arrange 67 = .ok (.sipush 1296, 3) := by decide +kernel
theorem dX10_arrange_70 : decode cX10_arrange 70 = .ok (.goto 4, 3) := by decide +kernel
theorem dX10_arrange_73 : decode cX10_arrange 73 = .ok (.iconst 0, 1) := by decide +kernel
theorem dX10_arrange_74 : decode cX10_arrange 74 = .ok (.istore 4, 2) := by decide +kernel
theorem dX10_arrange_76 : decode cX10_arrange 76 = .ok (.ldc 127, 2) := by decide +kernel
theorem dX10_arrange_78 : decode cX10_arrange 78 = .ok (.istore 5, 2) := by decide +kernel
theorem dX10_arrange_80 : decode cX10_arrange 80 = .ok (.ldc 127, 2) := by decide +kernel
theorem dX10_arrange_82 : decode cX10_arrange 82 = .ok (.istore 6, 2) := by decide +kernel
theorem dX10_arrange_84 : decode cX10_arrange 84 = .ok (.iconst 0, 1) := by decide +kernel
theorem dX10_arrange_85 : decode cX10_arrange 85 = .ok (.istore 7, 2) := by decide +kernel
theorem dX10_arrange_87 : decode cX10_arrange 87 = .ok (.iload 7, 2) := by decide +kernel
theorem dX10_arrange_89 : decode cX10_arrange 89 = .ok (.iload 4, 2) := by decide +kernel
theorem dX10_arrange_91 : decode cX10_arrange 91 = .ok (.if_icmp .ge 180, 3) := by decide +kernel
theorem dX10_arrange_94 : decode cX10_arrange 94 = .ok (.aload_n 0, 1) := by decide +kernel
theorem dX10_arrange_95 : decode cX10_arrange 95 = .ok (.iload_n 1, 1) := by decide +kernel
theorem dX10_arrange_96 : decode cX10_arrange 96 = .ok (.iload 7, 2) := by decide +kernel
theorem dX10_arrange_98 : decode cX10_arrange 98 = .ok (.invokevirtual 162, 3) := by decide +kernel
theorem dX10_arrange_101 : decode cX10_arrange 101 = .ok (.ifCond .eq 12, 3) := by decide +kernel
theorem dX10_arrange_104 : decode cX10_arrange 104 = .ok (.aload_n 0, 1) := by decide +kernel
theorem dX10_arrange_105 : decode cX10_arrange 105 = .ok (.iload_n 3, 1) := by decide +kernel
theorem dX10_arrange_106 : decode cX10_arrange 106 = .ok (.iconst 1, 1) := by decide +kernel
theorem dX10_arrange_107 : decode cX10_arrange 107 = .ok (.invokevirtual 155, 3) := by decide +kernel
theorem dX10_arrange_110 : decode cX10_arrange 110 = .ok (.goto 4, 3) := by decide +kernel
theorem dX10_arrange_113 : decode cX10_arrange 113 = .ok (.iconst (-1), 1) := by decide +kernel
theorem dX10_arrange_114 : decode cX10_arrange 114 = .ok (.istore 8, 2) := by decide +kernel
theorem dX10_arrange_116 : decode cX10_arrange 116 = .ok (.iload 8, 2) := by decide +kernel
theorem dX10_arrange_118 : decode cX10_arrange 118 = .ok (.iconst (-1), 1) := by decide +kernel
theorem dX10_arrange_119 : decode cX10_arrange 119 = .ok (.if_icmp .ne 8, 3) := by decide +kernel
theorem dX10_arrange_122 : decode cX10_arrange 122 = .ok (.ldc 127, 2) := by decide +kernel
theorem dX10_arrange_124 : decode cX10_arrange 124 = .ok (.goto 9, 3) := by decide +kernel
theorem dX10_arrange_127 : decode cX10_arrange 127 = .ok (.aload_n 0, 1) := by decide +kernel
theorem dX10_arrange_128 : decode cX10_arrange 128 = .ok (.iload_n 3, 1) := by decide +kernel
theorem dX10_arrange_129 : decode cX10_arrange 129 = .ok (.iconst 0, 1) := by decide +kernel
theorem dX10_arrange_130 : decode cX10_arrange 130 = .ok (.invokevirtual 155, 3) := by decide +kernel
theorem dX10_arrange_133 : decode cX10_arrange 133 = .ok (.istore 9, 2) := by decide +kernel
theorem dX10_arrange_135 : decode cX10_arrange 135 = .ok (.iload 8, 2) := by decide +kernel
theorem dX10_arrange_137 : decode cX10_arrange 137 = .ok (.iconst (-1), 1) := by decide +kernel
theorem dX10_arrange_138 : decode cX10_arrange 138 = .ok (.if_icmp .ne 8, 3) := by decide +kernel
theorem dX10_arrange_141 : decode cX10_arrange 141 = .ok (.ldc 127, 2) := by decide +kernel
theorem dX10_arrange_143 : decode cX10_arrange 143 = .ok (.goto 9, 3) := by decide +kernel
theorem dX10_arrange_146 : decode cX10_arrange 146 = .ok (.iload 8, 2) := by decide +kernel
theorem dX10_arrange_148 : decode cX10_arrange 148 = .ok (.iload_n 2, 1) := by decide +kernel
theorem dX10_arrange_149 : decode cX10_arrange 149 = .ok (.invokestatic 99, 3) := by decide +kernel
theorem dX10_arrange_152 : decode cX10_arrange 152 = .ok (.istore 10, 2) := by decide +kernel
theorem dX10_arrange_154 : decode cX10_arrange 154 = .ok (.iload 8, 2) := by decide +kernel
theorem dX10_arrange_156 : decode cX10_arrange 156 = .ok (.iconst (-1), 1) := by decide +kernel
theorem dX10_arrange_157 : decode cX10_arrange 157 = .ok (.if_icmp .eq 43, 3) := by decide +kernel
theorem dX10_arrange_160 : decode cX10_arrange 160 = .ok (.iload 10, 2) := by decide +kernel
theorem dX10_arrange_162 : decode cX10_arrange 162 = .ok (.iload 5, 2) := by decide +kernel
theorem dX10_arrange_164 : decode cX10_arrange 164 = .ok (.if_icmp .lt 32, 3) := by decide +kernel
theorem dX10_arrange_167 : decode cX10_arrange 167 = .ok (.iload 10, 2) := by decide +kernel
theorem dX10_arrange_169 : decode cX10_arrange 169 = .ok (.iload 5, 2) := by decide +kernel
theorem dX10_arrange_171 : decode cX10_arrange 171 = .ok (.if_icmp .ne 29, 3) := by decide +kernel
theorem dX10_arrange_174 : decode cX10_arrange 174 = .ok (.iload 9, 2) := by decide +kernel
theorem dX10_arrange_176 : decode cX10_arrange 176 = .ok (.iload 6, 2) := by decide +kernel
theorem dX10_arrange_178 : decode cX10_arrange 178 = .ok (.if_icmp .lt 18, 3) := by decide +kernel
theorem dX10_arrange_181 : decode cX10_arrange 181 = .ok (.iload 9, 2) := by decide +kernel
theorem dX10_arrange_183 : decode cX10_arrange 183 = .ok (.iload 6, 2) := by decide +kernel
theorem dX10_arrange_185 : decode cX10_arrange 185 = .ok (.if_icmp .ne 15, 3) := by decide +kernel
theorem dX10_arrange_188 : decode cX10_arrange 188 = .ok (.aload_n 0, 1) := by decide +kernel
theorem dX10_arrange_189 : decode cX10_arrange 189 = .ok (.iload_n 3, 1) := by decide +kernel
theorem dX10_arrange_190 : decode cX10_arrange 190 = .ok (.invokevirtual 165, 3) := by decide +kernel
theorem dX10_arrange_193 : decode cX10_arrange 193 = .ok (.ifCond .eq 7, 3) := by decide +kernel
theorem dX10_arrange_196 : decode cX10_arrange 196 = .ok (.iconst 1, 1) := by decide +kernel
theorem dX10_arrange_197 : decode cX10_arrange 197 = .ok (.goto 4, 3) := by decide +kernel
theorem dX10_arrange_200 : decode cX10_arrange 200 = .ok (.iconst 0, 1) := by decide +kernel
theorem dX10_arrange_201 : decode cX10_arrange 201 = .ok (.istore 11, 2) := by decide +kernel
theorem dX10_arrange_203 : decode cX10_arrange 203 = .ok (.iconst 0, 1) := by decide +kernel
theorem dX10_arrange_204 : decode cX10_arrange 204 = .ok (.istore 12, 2) := by decide +kernel
theorem dX10_arrange_206 : decode cX10_arrange 206 = .ok (.iload 12, 2) := by decide +kernel
theorem dX10_arrange_208 : decode cX10_arrange 208 = .ok (.iload_n 3, 1) := by decide +kernel
theorem dX10_arrange_209 : decode cX10_arrange 209 = .ok (.if_icmp .ge 28, 3) := by decide +kernel
theorem dX10_arrange_212 : decode cX10_arrange 212 = .ok (.iload 11, 2) := by decide +kernel
theorem dX10_arrange_214 : decode cX10_arrange 214 = .ok (.ifCond .eq 23, 3) := by decide +kernel
theorem dX10_arrange_217 : decode cX10_arrange 217 = .ok (.aload_n 0, 1) := by decide +kernel
theorem dX10_arrange_218 : decode cX10_arrange 218 = .ok (.getfield 68, 3) := by decide +kernel
theorem dX10_arrange_221 : decode cX10_arrange 221 = .ok (.iload 12, 2) := by decide +kernel
theorem dX10_arrange_223 : decode cX10_arrange 223 = .ok (.aload_n 0, 1) := by decide +kernel
theorem dX10_arrange_224 : decode cX10_arrange 224 = .ok (.getfield 65, 3) := by decide +kernel
theorem dX10_arrange_227 : decode cX10_arrange 227 = .ok (.iload 12, 2) := by decide +kernel
theorem dX10_arrange_229 : decode cX10_arrange 229 = .ok (.iaload, 1) := by decide +kernel
theorem dX10_arrange_230 : decode cX10_arrange 230 = .ok (.iastore, 1) := by decide +kernel
theorem dX10_arrange_231 : decode cX10_arrange 231 = .ok (.iinc 12 1, 3) := by decide +kernel
theorem dX10_arrange_234 : decode cX10_arrange 234 = .ok (.goto (-28), 3) := by decide +kernel
theorem dX10_arrange_237 : decode cX10_arrange 237 = .ok (.iload 11, 2) := by decide +kernel
theorem dX10_arrange_239 : decode cX10_arrange 239 = .ok (.ifCond .eq 8, 3) := by decide +kernel
theorem dX10_arrange_242 : decode cX10_arrange 242 = .ok (.iload 10, 2) := by decide +kernel
theorem dX10_arrange_244 : decode cX10_arrange 244 = .ok (.goto 5, 3) := by decide +kernel
theorem dX10_arrange_247 : decode cX10_arrange 247 = .ok (.iload 5, 2) := by decide +kernel
theorem dX10_arrange_249 : decode cX10_arrange 249 = .ok (.istore 5, 2) := by decide +kernel
theorem dX10_arrange_251 : decode cX10_arrange 251 = .ok (.iload 11, 2) := by decide +kernel
theorem dX10_arrange_253 : decode cX10_arrange 253 = .ok (.ifCond .eq 8, 3) := by decide +kernel
theorem dX10_arrange_256 : decode cX10_arrange 256 = .ok (.iload 9, 2) := by decide +kernel
theorem dX10_arrange_258 : decode cX10_arrange 258 = .ok (.goto 5, 3) := by decide +kernel
theorem dX10_arrange_261 : decode cX10_arrange 261 = .ok (.iload 6, 2) := by decide +kernel
theorem dX10_arrange_263 : decode cX10_arrange 263 = .ok (.istore 6, 2) := by decide +kernel
theorem dX10_arrange_265 : decode cX10_arrange 265 = .ok (.iinc 7 1, 3) := by decide +kernel
theorem dX10_arrange_268 : decode cX10_arrange 268 = .ok (.goto (-181), 3) := by decide +kernel
theorem dX10_arrange_271 : decode cX10_arrange 271 = .ok (.iconst 0, 1) := by decide +kernel
theorem dX10_arrange_272 : decode cX10_arrange 272 = .ok (.istore 7, 2) := by decide +kernel
theorem dX10_arrange_274 : decode cX10_arrange 274 = .ok (.iload 7, 2) := by decide +kernel
theorem dX10_arrange_276 : decode cX10_arrange 276 = .ok (.iload_n 3, 1) := by decide +kernel
theorem dX10_arrange_277 : decode cX10_arrange 277 = .ok (.if_icmp .ge 35, 3) := by decide +kernel
theorem dX10_arrange_280 : decode cX10_arrange 280 = .ok (.iload 5, 2) := by decide +kernel
theorem dX10_arrange_282 : decode cX10_arrange 282 = .ok (.ldc 127, 2) := by decide +kernel
theorem dX10_arrange_284 : decode cX10_arrange 284 = .ok (.if_icmp .ge 28, 3) := by decide +kernel
theorem dX10_arrange_287 : decode cX10_arrange 287 = .ok (.aload_n 0, 1) := by decide +kernel
theorem dX10_arrange_288 : decode cX10_arrange 288 = .ok (.getfield 23, 3) := by decide +kernel
theorem dX10_arrange_291 : decode cX10_arrange 291 = .ok (.bipush 6, 2) := by decide +kernel
theorem dX10_arrange_293 : decode cX10_arrange 293 = .ok (.iload_n 1, 1) := by decide +kernel
theorem dX10_arrange_294 : decode cX10_arrange 294 = .ok (.imul, 1) := by decide +kernel
theorem dX10_arrange_295 : decode cX10_arrange 295 = .ok (.iload 7, 2) := by decide +kernel
theorem dX10_arrange_297 : decode cX10_arrange 297 = .ok (.iadd, 1) := by decide +kernel
theorem dX10_arrange_298 : decode cX10_arrange 298 = .ok (.aload_n 0, 1) := by decide +kernel
theorem dX10_arrange_299 : decode cX10_arrange 299 = .ok (.getfield 68, 3) := by decide +kernel
theorem dX10_arrange_302 : decode cX10_arrange 302 = .ok (.iload 7, 2) := by decide +kernel
theorem dX10_arrange_304 : decode cX10_arrange 304 = .ok (.iaload, 1) := by decide +kernel
theorem dX10_arrange_305 : decode cX10_arrange 305 = .ok (.iastore, 1) := by decide +kernel
theorem dX10_arrange_306 : decode cX10_arrange 306 = .ok (.iinc 7 1, 3) := by decide +kernel
theorem dX10_arrange_309 : decode cX10_arrange 309 = .ok (.goto (-35), 3) := by decide +kernel
theorem dX10_arrange_312 : decode cX10_arrange 312 = .ok (.aload_n 0, 1) := by decide +kernel
theorem dX10_arrange_313 : decode cX10_arrange 313 = .ok (.iload_n 1, 1) := by decide +kernel
theorem dX10_arrange_314 : decode cX10_arrange 314 = .ok (.iconst 1, 1) := by decide +kernel
theorem dX10_arrange_315 : decode cX10_arrange 315 = .ok (.invokevirtual 168, 3) := by decide +kernel
theorem dX10_arrange_318 : decode cX10_arrange 318 = .ok (.ireturn, 1) := by decide +kernel
theorem dX10_isLess_0 : decode cX10_isLess 0 = .ok (.iconst 0, 1) := by decide +kernel
theorem dX10_isLess_1 : decode cX10_isLess 1 = .ok (.istore_n 2, 1) := by decide +kernel
theorem dX10_isLess_2 : decode cX10_isLess 2 = .ok (.iload_n 2, 1) := by decide +kernel
theorem dX10_isLess_3 : decode cX10_isLess 3 = .ok (.iload_n 1, 1) := by decide +kernel
theorem dX10_isLess_4 : decode cX10_isLess 4 = .ok (.iconst 1, 1) := by decide +kernel
theorem dX10_isLess_5 : decode cX10_isLess 5 = .ok (.isub, 1) := by decide +kernel
theorem dX10_isLess_6 : decode cX10_isLess 6 = .ok (.if_icmp .ge 24, 3) := by decide +kernel
theorem dX10_isLess_9 : decode cX10_isLess 9 = .ok (.aload_n 0, 1) := by decide +kernel
theorem dX10_isLess_10 : decode cX10_isLess 10 = .ok (.getfield 65, 3) := by decide +kernel
theorem dX10_isLess_13 : decode cX10_isLess 13 = .ok (.iload_n 2, 1) := by decide +kernel
theorem dX10_isLess_14 : decode cX10_isLess 14 = .ok (.iaload, 1) := by decide +kernel
theorem dX10_isLess_15 : decode cX10_isLess 15 = .ok (.aload_n 0, 1) := by decide +kernel
theorem dX10_isLess_16 : decode cX10_isLess 16 = .ok (.getfield 68, 3) := by decide +kernel
theorem dX10_isLess_19 : decode cX10_isLess 19 = .ok (.iload_n 2, 1) := by decide +kernel
theorem dX10_isLess_20 : decode cX10_isLess 20 = .ok (.iaload, 1) := by decide +kernel
theorem dX10_isLess_21 : decode cX10_isLess 21 = .ok (.if_icmp .ne 9, 3) := by decide +kernel
theorem dX10_isLess_24 : decode cX10_isLess 24 = .ok (.iinc 2 1, 3) := by decide +kernel
theorem dX10_isLess_27 : decode cX10_isLess 27 = .ok (.goto (-25), 3) := by decide +kernel
theorem dX10_isLess_30 : decode cX10_isLess 30 = .ok (.aload_n 0, 1) := by decide +kernel
theorem dX10_isLess_31 : decode cX10_isLess 31 = .ok (.getfield 65, 3) := by decide +kernel
theorem dX10_isLess_34 : decode cX10_isLess 34 = .ok (.iload_n 2, 1) := by decide +kernel
theorem dX10_isLess_35 : decode cX10_isLess 35 = .ok (.iaload, 1) := by decide +kernel
theorem dX10_isLess_36 : decode cX10_isLess 36 = .ok (.aload_n 0, 1) := by decide +kernel
theorem dX10_isLess_37 : decode cX10_isLess 37 = .ok (.getfield 68, 3) := by decide +kernel
theorem dX10_isLess_40 : decode cX10_isLess 40 = .ok (.iload_n 2, 1) := by decide +kernel
theorem dX10_isLess_41 : decode cX10_isLess 41 = .ok (.iaload, 1) := by decide +kernel
theorem dX10_isLess_42 : decode cX10_isLess 42 = .ok (.if_icmp .ge 7, 3) := by decide +kernel
theorem dX10_isLess_45 : decode cX10_isLess 45 = .ok (.iconst 1, 1) := by decide +kernel
theorem dX10_isLess_46 : decode cX10_isLess 46 = .ok (.goto 4, 3) := by decide +kernel
theorem dX10_isLess_49 : decode cX10_isLess 49 = .ok (.iconst 0, 1) := by decide +kernel
theorem dX10_isLess_50 : decode cX10_isLess 50 = .ok (.ireturn, 1) := by decide +kernel
theorem dX10_courseAt_0 : decode cX10_courseAt 0 = .ok (.iload_n 1, 1) := by decide +kernel
theorem dX10_courseAt_1 : decode cX10_courseAt 1 = .ok (.invokestatic 148, 3) := by decide +kernel
theorem dX10_courseAt_4 : decode cX10_courseAt 4 = .ok (.istore_n 3, 1) := by decide +kernel
theorem dX10_courseAt_5 : decode cX10_courseAt 5 = .ok (.aload_n 0, 1) := by decide +kernel
theorem dX10_courseAt_6 : decode cX10_courseAt 6 = .ok (.iload_n 3, 1) := by decide +kernel
theorem dX10_courseAt_7 : decode cX10_courseAt 7 = .ok (.ifCond .eq 23, 3) := by decide +kernel
theorem dX10_courseAt_10 : decode cX10_courseAt 10 = .ok (.iload_n 2, 1) := by decide +kernel
theorem dX10_courseAt_11 : decode cX10_courseAt 11 = .ok (.iconst 0, 1) := by decide +kernel
theorem dX10_courseAt_12 : decode cX10_courseAt 12 = .ok (.aload_n 0, 1) := by decide +kernel
theorem dX10_courseAt_13 : decode cX10_courseAt 13 = .ok (.getfield 26, 3) := by decide +kernel
theorem dX10_courseAt_16 : decode cX10_courseAt 16 = .ok (.iload_n 1, 1) := by decide +kernel
theorem dX10_courseAt_17 : decode cX10_courseAt 17 = .ok (.iaload, 1) := by decide +kernel
theorem dX10_courseAt_18 : decode cX10_courseAt 18 = .ok (.iconst 1, 1) := by decide +kernel
theorem dX10_courseAt_19 : decode cX10_courseAt 19 = .ok (.isub, 1) := by decide +kernel
theorem dX10_courseAt_20 : decode cX10_courseAt 20 = .ok (.invokestatic 81, 3) := by decide +kernel
theorem dX10_courseAt_23 : decode cX10_courseAt 23 = .ok (.ifCond .eq 7, 3) := by decide +kernel
theorem dX10_courseAt_26 : decode cX10_courseAt 26 = .ok (.iconst 1, 1) := by decide +kernel
theorem dX10_courseAt_27 : decode cX10_courseAt 27 = .ok (.goto 4, 3) := by decide +kernel
theorem dX10_courseAt_30 : decode cX10_courseAt 30 = .ok (.iconst 0, 1) := by decide +kernel
theorem dX10_courseAt_31 : decode cX10_courseAt 31 = .ok (.invokevirtual 103, 3) := by decide +kernel
theorem dX10_courseAt_34 : decode cX10_courseAt 34 = .ok (.ifCond .eq 17, 3) := by decide +kernel
theorem dX10_courseAt_37 : decode cX10_courseAt 37 = .ok (.aload_n 0, 1) := by decide +kernel
theorem dX10_courseAt_38 : decode cX10_courseAt 38 = .ok (.getfield 23, 3) := by decide +kernel
theorem dX10_courseAt_41 : decode cX10_courseAt 41 = .ok (.bipush 6, 2) := by decide +kernel
theorem dX10_courseAt_43 : decode cX10_courseAt 43 = .ok (.iload_n 1, 1) := by decide +kernel
theorem dX10_courseAt_44 : decode cX10_courseAt 44 = .ok (.imul, 1) := by decide +kernel
theorem dX10_courseAt_45 : decode cX10_courseAt 45 = .ok (.iload_n 2, 1) := by decide +kernel
theorem dX10_courseAt_46 : decode cX10_courseAt 46 = .ok (.iadd, 1) := by decide +kernel
theorem dX10_courseAt_47 : decode cX10_courseAt 47 = .ok (.iaload, 1) := by decide +kernel
theorem dX10_courseAt_48 : decode cX10_courseAt 48 = .ok (.goto 4, 3) := by decide +kernel
theorem dX10_courseAt_51 : decode cX10_courseAt 51 = .ok (.iconst 0, 1) := by decide +kernel
theorem dX10_courseAt_52 : decode cX10_courseAt 52 = .ok (.ireturn, 1) := by decide +kernel
theorem dX10_courseClimb_0 : decode cX10_courseClimb 0 = .ok (.aload_n 0, 1) := by decide +kernel
theorem dX10_courseClimb_1 : decode cX10_courseClimb 1 = .ok (.iload_n 1, 1) := by decide +kernel
theorem dX10_courseClimb_2 : decode cX10_courseClimb 2 = .ok (.invokestatic 148, 3) := by decide +kernel
theorem dX10_courseClimb_5 : decode cX10_courseClimb 5 = .ok (.invokevirtual 103, 3) := by decide +kernel
theorem dX10_courseClimb_8 : decode cX10_courseClimb 8 = .ok (.ifCond .eq 12, 3) := by decide +kernel
theorem dX10_courseClimb_11 : decode cX10_courseClimb 11 = .ok (.aload_n 0, 1) := by decide +kernel
theorem dX10_courseClimb_12 : decode cX10_courseClimb 12 = .ok (.iload_n 1, 1) := by decide +kernel
theorem dX10_courseClimb_13 : decode cX10_courseClimb 13 = .ok (.iconst 1, 1) := by decide +kernel
theorem dX10_courseClimb_14 : decode cX10_courseClimb 14 = .ok (.invokevirtual 168, 3) := by decide +kernel
theorem dX10_courseClimb_17 : decode cX10_courseClimb 17 = .ok (.goto 4, 3) := by decide +kernel
theorem dX10_courseClimb_20 : decode cX10_courseClimb 20 = .ok (.iconst 0, 1) := by decide +kernel
theorem dX10_courseClimb_21 : decode cX10_courseClimb 21 = .ok (.ireturn, 1) := by decide +kernel
theorem dX10_courseCost_0 : decode cX10_courseCost 0 = .ok (.aload_n 0, 1) := by decide +kernel
theorem dX10_courseCost_1 : decode cX10_courseCost 1 = .ok (.iload_n 1, 1) := by decide +kernel
theorem dX10_courseCost_2 : decode cX10_courseCost 2 = .ok (.invokestatic 148, 3) := by decide +kernel
theorem dX10_courseCost_5 : decode cX10_courseCost 5 = .ok (.invokevirtual 103, 3) := by decide +kernel
theorem dX10_courseCost_8 : decode cX10_courseCost 8 = .ok (.ifCond .eq 12, 3) := by decide +kernel
theorem dX10_courseCost_11 : decode cX10_courseCost 11 = .ok (.aload_n 0, 1) := by decide +kernel
theorem dX10_courseCost_12 : decode cX10_courseCost 12 = .ok (.iload_n 1, 1) := by decide +kernel
theorem dX10_courseCost_13 : decode cX10_courseCost 13 = .ok (.iconst 0, 1) := by decide +kernel
theorem dX10_courseCost_14 : decode cX10_courseCost 14 = .ok (.invokevirtual 168, 3) := by decide +kernel
theorem dX10_courseCost_17 : decode cX10_courseCost 17 = .ok (.goto 4, 3) := by decide +kernel
theorem dX10_courseCost_20 : decode cX10_courseCost 20 = .ok (.iconst 0, 1) := by decide +kernel
theorem dX10_courseCost_21 : decode cX10_courseCost 21 = .ok (.ireturn, 1) := by decide +kernel
theorem dX10_spread_0 : decode cX10_spread 0 = .ok (.aload_n 0, 1) := by decide +kernel
theorem dX10_spread_1 : decode cX10_spread 1 = .ok (.iconst 0, 1) := by decide +kernel
theorem dX10_spread_2 : decode cX10_spread 2 = .ok (.putfield 78, 3) := by decide +kernel
theorem dX10_spread_5 : decode cX10_spread 5 = .ok (.iconst (-1), 1) := by decide +kernel
theorem dX10_spread_6 : decode cX10_spread 6 = .ok (.istore_n 1, 1) := by decide +kernel
theorem dX10_spread_7 : decode cX10_spread 7 = .ok (.iconst (-1), 1) := by decide +kernel
theorem dX10_spread_8 : decode cX10_spread 8 = .ok (.istore_n 2, 1) := by decide +kernel
theorem dX10_spread_9 : decode cX10_spread 9 = .ok (.iconst 0, 1) := by decide +kernel
theorem dX10_spread_10 : decode cX10_spread 10 = .ok (.istore_n 3, 1) := by decide +kernel
theorem dX10_spread_11 : decode cX10_spread 11 = .ok (.iload_n 3, 1) := by decide +kernel
theorem dX10_spread_12 : decode cX10_spread 12 = .ok (.iconst 5, 1) := by decide +kernel
theorem dX10_spread_13 : decode cX10_spread 13 = .ok (.if_icmp .ge 54, 3) := by decide +kernel
theorem dX10_spread_16 : decode cX10_spread 16 = .ok (.aload_n 0, 1) := by decide +kernel
theorem dX10_spread_17 : decode cX10_spread 17 = .ok (.iload_n 3, 1) := by decide +kernel
theorem dX10_spread_18 : decode cX10_spread 18 = .ok (.iconst 1, 1) := by decide +kernel
theorem dX10_spread_19 : decode cX10_spread 19 = .ok (.invokevirtual 168, 3) := by decide +kernel
theorem dX10_spread_22 : decode cX10_spread 22 = .ok (.istore 4, 2) := by decide +kernel
theorem dX10_spread_24 : decode cX10_spread 24 = .ok (.iload 4, 2) := by decide +kernel
theorem dX10_spread_26 : decode cX10_spread 26 = .ok (.iconst (-1), 1) := by decide +kernel
theorem dX10_spread_27 : decode cX10_spread 27 = .ok (.if_icmp .eq 19, 3) := by decide +kernel
theorem dX10_spread_30 : decode cX10_spread 30 = .ok (.iload_n 1, 1) := by decide +kernel
theorem dX10_spread_31 : decode cX10_spread 31 = .ok (.iconst (-1), 1) := by decide +kernel
theorem dX10_spread_32 : decode cX10_spread 32 = .ok (.if_icmp .eq 9, 3) := by decide +kernel
theorem dX10_spread_35 : decode cX10_spread 35 = .ok (.iload 4, 2) := by decide +kernel
theorem dX10_spread_37 : decode cX10_spread 37 = .ok (.iload_n 1, 1) := by decide +kernel
theorem dX10_spread_38 : decode cX10_spread 38 = .ok (.if_icmp .ge 8, 3) := by decide +kernel
theorem dX10_spread_41 : decode cX10_spread 41 = .ok (.iload 4, 2) := by decide +kernel
theorem dX10_spread_43 : decode cX10_spread 43 = .ok (.goto 4, 3) := by decide +kernel
theorem dX10_spread_46 : decode cX10_spread 46 = .ok (.iload_n 1, 1) := by decide +kernel
theorem dX10_spread_47 : decode cX10_spread 47 = .ok (.istore_n 1, 1) := by decide +kernel
theorem dX10_spread_48 : decode cX10_spread 48 = .ok (.iload 4, 2) := by decide +kernel
theorem dX10_spread_50 : decode cX10_spread 50 = .ok (.iload_n 2, 1) := by decide +kernel
theorem dX10_spread_51 : decode cX10_spread 51 = .ok (.if_icmp .le 8, 3) := by decide +kernel
theorem dX10_spread_54 : decode cX10_spread 54 = .ok (.iload 4, 2) := by decide +kernel
theorem dX10_spread_56 : decode cX10_spread 56 = .ok (.goto 4, 3) := by decide +kernel
theorem dX10_spread_59 : decode cX10_spread 59 = .ok (.iload_n 2, 1) := by decide +kernel
theorem dX10_spread_60 : decode cX10_spread 60 = .ok (.istore_n 2, 1) := by decide +kernel
theorem dX10_spread_61 : decode cX10_spread 61 = .ok (.iinc 3 1, 3) := by decide +kernel
theorem dX10_spread_64 : decode cX10_spread 64 = .ok (.goto (-53), 3) := by decide +kernel
theorem dX10_spread_67 : decode cX10_spread 67 = .ok (.iload_n 2, 1) := by decide +kernel
theorem dX10_spread_68 : decode cX10_spread 68 = .ok (.iload_n 1, 1) := by decide +kernel
theorem dX10_spread_69 : decode cX10_spread 69 = .ok (.isub, 1) := by decide +kernel
theorem dX10_spread_70 : decode cX10_spread 70 = .ok (.ireturn, 1) := by decide +kernel
theorem dX10_enter_0 : decode cX10_enter 0 = .ok (.iload_n 1, 1) := by decide +kernel
theorem dX10_enter_1 : decode cX10_enter 1 = .ok (.invokestatic 148, 3) := by decide +kernel
theorem dX10_enter_4 : decode cX10_enter 4 = .ok (.istore_n 3, 1) := by decide +kernel
theorem dX10_enter_5 : decode cX10_enter 5 = .ok (.aload_n 0, 1) := by decide +kernel
theorem dX10_enter_6 : decode cX10_enter 6 = .ok (.iload_n 3, 1) := by decide +kernel
theorem dX10_enter_7 : decode cX10_enter 7 = .ok (.iload_n 2, 1) := by decide +kernel
theorem dX10_enter_8 : decode cX10_enter 8 = .ok (.iconst 0, 1) := by decide +kernel
theorem dX10_enter_9 : decode cX10_enter 9 = .ok (.bipush 7, 2) := by decide +kernel
theorem dX10_enter_11 : decode cX10_enter 11 = .ok (.invokestatic 81, 3) := by decide +kernel
theorem dX10_enter_14 : decode cX10_enter 14 = .ok (.iload_n 3, 1) := by decide +kernel
theorem dX10_enter_15 : decode cX10_enter 15 = .ok (.ifCond .eq 33, 3) := by decide +kernel
theorem dX10_enter_18 : decode cX10_enter 18 = .ok (.aload_n 0, 1) := by decide +kernel
theorem dX10_enter_19 : decode cX10_enter 19 = .ok (.getfield 88, 3) := by decide +kernel
theorem dX10_enter_22 : decode cX10_enter 22 = .ok (.bipush 24, 2) := by decide +kernel
theorem dX10_enter_24 : decode cX10_enter 24 = .ok (.if_icmp .ge 24, 3) := by decide +kernel
theorem dX10_enter_27 : decode cX10_enter 27 = .ok (.aload_n 0, 1) := by decide +kernel
theorem dX10_enter_28 : decode cX10_enter 28 = .ok (.getfield 151, 3) := by decide +kernel
theorem dX10_enter_31 : decode cX10_enter 31 = .ok (.ifCond .ne 17, 3) := by decide +kernel
theorem dX10_enter_34 : decode cX10_enter 34 = .ok (.aload_n 0, 1) := by decide +kernel
theorem dX10_enter_35 : decode cX10_enter 35 = .ok (.getfield 26, 3) := by decide +kernel
theorem dX10_enter_38 : decode cX10_enter 38 = .ok (.iload_n 1, 1) := by decide +kernel
theorem dX10_enter_39 : decode cX10_enter 39 = .ok (.iaload, 1) := by decide +kernel
theorem dX10_enter_40 : decode cX10_enter 40 = .ok (.iconst 2, 1) := by decide +kernel
theorem dX10_enter_41 : decode cX10_enter 41 = .ok (.if_icmp .lt 7, 3) := by decide +kernel
theorem dX10_enter_44 : decode cX10_enter 44 = .ok (.iconst 1, 1) := by decide +kernel
theorem dX10_enter_45 : decode cX10_enter 45 = .ok (.goto 4, 3) := by decide +kernel
theorem dX10_enter_48 : decode cX10_enter 48 = .ok (.iconst 0, 1) := by decide +kernel
theorem dX10_enter_49 : decode cX10_enter 49 = .ok (.invokevirtual 159, 3) := by decide +kernel
theorem dX10_enter_52 : decode cX10_enter 52 = .ok (.ifCond .ne 5, 3) := by decide +kernel
theorem dX10_enter_55 : decode cX10_enter 55 = .ok (.iconst 0, 1) := by decide +kernel
theorem dX10_enter_56 : decode cX10_enter 56 = .ok (.ireturn, 1) := by decide +kernel
theorem dX10_enter_57 : decode cX10_enter 57 = .ok (.aload_n 0, 1) := by decide +kernel
theorem dX10_enter_58 : decode cX10_enter 58 = .ok (.getfield 29, 3) := by decide +kernel
theorem dX10_enter_61 : decode cX10_enter 61 = .ok (.aload_n 0, 1) := by decide +kernel
theorem dX10_enter_62 : decode cX10_enter 62 = .ok (.getfield 88, 3) := by decide +kernel
theorem dX10_enter_65 : decode cX10_enter 65 = .ok (.iload_n 1, 1) := by decide +kernel
theorem dX10_enter_66 : decode cX10_enter 66 = .ok (.iastore, 1) := by decide +kernel
theorem dX10_enter_67 : decode cX10_enter 67 = .ok (.aload_n 0, 1) := by decide +kernel
theorem dX10_enter_68 : decode cX10_enter 68 = .ok (.getfield 32, 3) := by decide +kernel
theorem dX10_enter_71 : decode cX10_enter 71 = .ok (.aload_n 0, 1) := by decide +kernel
theorem dX10_enter_72 : decode cX10_enter 72 = .ok (.getfield 88, 3) := by decide +kernel
theorem dX10_enter_75 : decode cX10_enter 75 = .ok (.iload_n 2, 1) := by decide +kernel
theorem dX10_enter_76 : decode cX10_enter 76 = .ok (.iastore, 1) := by decide +kernel
theorem dX10_enter_77 : decode cX10_enter 77 = .ok (.aload_n 0, 1) := by decide +kernel
theorem dX10_enter_78 : decode cX10_enter 78 = .ok (.dup, 1) := by decide +kernel
theorem dX10_enter_79 : decode cX10_enter 79 = .ok (.getfield 88, 3) := by decide +kernel
theorem dX10_enter_82 : decode cX10_enter 82 = .ok (.iconst 1, 1) := by decide +kernel
theorem dX10_enter_83 : decode cX10_enter 83 = .ok (.iadd, 1) := by decide +kernel
theorem dX10_enter_84 : decode cX10_enter 84 = .ok (.putfield 88, 3) := by decide +kernel
theorem dX10_enter_87 : decode cX10_enter 87 = .ok (.aload_n 0, 1) := by decide +kernel
theorem dX10_enter_88 : decode cX10_enter 88 = .ok (.getfield 88, 3) := by decide +kernel
theorem dX10_enter_91 : decode cX10_enter 91 = .ok (.iconst 1, 1) := by decide +kernel
theorem dX10_enter_92 : decode cX10_enter 92 = .ok (.isub, 1) := by decide +kernel
theorem dX10_enter_93 : decode cX10_enter 93 = .ok (.ireturn, 1) := by decide +kernel
theorem dX10_next_0 : decode cX10_next 0 = .ok (.iconst (-1), 1) := by decide +kernel
theorem dX10_next_1 : decode cX10_next 1 = .ok (.istore_n 3, 1) := by decide +kernel
theorem dX10_next_2 : decode cX10_next 2 = .ok (.iconst 0, 1) := by decide +kernel
theorem dX10_next_3 : decode cX10_next 3 = .ok (.istore 4, 2) := by decide +kernel
theorem dX10_next_5 : decode cX10_next 5 = .ok (.iconst 0, 1) := by decide +kernel
theorem dX10_next_6 : decode cX10_next 6 = .ok (.istore 5, 2) := by decide +kernel
theorem dX10_next_8 : decode cX10_next 8 = .ok (.iload 5, 2) := by decide +kernel
theorem dX10_next_10 : decode cX10_next 10 = .ok (.aload_n 0, 1) := by decide +kernel
theorem dX10_next_11 : decode cX10_next 11 = .ok (.getfield 88, 3) := by decide +kernel
theorem dX10_next_14 : decode cX10_next 14 = .ok (.if_icmp .ge 120, 3) := by decide +kernel
theorem dX10_next_17 : decode cX10_next 17 = .ok (.aload_n 0, 1) := by decide +kernel
theorem dX10_next_18 : decode cX10_next 18 = .ok (.getfield 29, 3) := by decide +kernel
theorem dX10_next_21 : decode cX10_next 21 = .ok (.iload 5, 2) := by decide +kernel
theorem dX10_next_23 : decode cX10_next 23 = .ok (.iaload, 1) := by decide +kernel
theorem dX10_next_24 : decode cX10_next 24 = .ok (.iload_n 1, 1) := by decide +kernel
theorem dX10_next_25 : decode cX10_next 25 = .ok (.if_icmp .ne 103, 3) := by decide +kernel
theorem dX10_next_28 : decode cX10_next 28 = .ok (.aload_n 0, 1) := by decide +kernel
theorem dX10_next_29 : decode cX10_next 29 = .ok (.getfield 35, 3) := by decide +kernel
theorem dX10_next_32 : decode cX10_next 32 = .ok (.iload 5, 2) := by decide +kernel
theorem dX10_next_34 : decode cX10_next 34 = .ok (.iaload, 1) := by decide +kernel
theorem dX10_next_35 : decode cX10_next 35 = .ok (.iconst (-1), 1) := by decide +kernel
theorem dX10_next_36 : decode cX10_next 36 = .ok (.if_icmp .ne 92, 3) := by decide +kernel
theorem dX10_next_39 : decode cX10_next 39 = .ok (.aload_n 0, 1) := by decide +kernel
theorem dX10_next_40 : decode cX10_next 40 = .ok (.getfield 32, 3) := by decide +kernel
theorem dX10_next_43 : decode cX10_next 43 = .ok (.iload 5, 2) := by decide +kernel
theorem dX10_next_45 : decode cX10_next 45 = .ok (.iaload, 1) := by decide +kernel
theorem dX10_next_46 : decode cX10_next 46 = .ok (.iload_n 2, 1) := by decide +kernel
theorem dX10_next_47 : decode cX10_next 47 = .ok (.if_icmp .eq 7, 3) := by decide +kernel
theorem dX10_next_50 : decode cX10_next 50 = .ok (.iconst 1, 1) := by decide +kernel
theorem dX10_next_51 : decode cX10_next 51 = .ok (.goto 4, 3) := by decide +kernel
theorem dX10_next_54 : decode cX10_next 54 = .ok (.iconst 0, 1) := by decide +kernel
theorem dX10_next_55 : decode cX10_next 55 = .ok (.istore 6, 2) := by decide +kernel
theorem dX10_next_57 : decode cX10_next 57 = .ok (.iload_n 3, 1) := by decide +kernel
theorem dX10_next_58 : decode cX10_next 58 = .ok (.iconst (-1), 1) := by decide +kernel
theorem dX10_next_59 : decode cX10_next 59 = .ok (.if_icmp .eq 36, 3) := by decide +kernel
theorem dX10_next_62 : decode cX10_next 62 = .ok (.iload 6, 2) := by decide +kernel
theorem dX10_next_64 : decode cX10_next 64 = .ok (.ifCond .eq 8, 3) := by decide +kernel
theorem dX10_next_67 : decode cX10_next 67 = .ok (.iload 4, 2) := by decide +kernel
theorem dX10_next_69 : decode cX10_next 69 = .ok (.ifCond .eq 26, 3) := by decide +kernel
theorem dX10_next_72 : decode cX10_next 72 = .ok (.iload 6, 2) := by decide +kernel
theorem dX10_next_74 : decode cX10_next 74 = .ok (.iload 4, 2) := by decide +kernel
theorem dX10_next_76 : decode cX10_next 76 = .ok (.if_icmp .ne 23, 3) := by decide +kernel
theorem dX10_next_79 : decode cX10_next 79 = .ok (.aload_n 0, 1) := by decide +kernel
theorem dX10_next_80 : decode cX10_next 80 = .ok (.getfield 62, 3) := by decide +kernel
theorem dX10_next_83 : decode cX10_next 83 = .ok (.iload 5, 2) := by decide +kernel
theorem dX10_next_85 : decode cX10_next 85 = .ok (.iaload, 1) := by decide +kernel
theorem dX10_next_86 : decode cX10_next 86 = .ok (.aload_n 0, 1) := by decide +kernel
theorem dX10_next_87 : decode cX10_next 87 = .ok (.getfield 62, 3) := by decide +kernel
theorem dX10_next_90 : decode cX10_next 90 = .ok (.iload_n 3, 1) := by decide +kernel
theorem dX10_next_91 : decode cX10_next 91 = .ok (.iaload, 1) := by decide +kernel
theorem dX10_next_92 : decode cX10_next 92 = .ok (.if_icmp .ge 7, 3) := by decide +kernel
theorem dX10_next_95 : decode cX10_next 95 = .ok (.iconst 1, 1) := by decide +kernel
theorem dX10_next_96 : decode cX10_next 96 = .ok (.goto 4, 3) := by decide +kernel
theorem dX10_next_99 : decode cX10_next 99 = .ok (.iconst 0, 1) := by decide +kernel
theorem dX10_next_100 : decode cX10_next 100 = .ok (.istore 7, 2) := by decide +kernel
theorem dX10_next_102 : decode cX10_next 102 = .ok (.iload 7, 2) := by decide +kernel
theorem dX10_next_104 : decode cX10_next 104 = .ok (.ifCond .eq 8, 3) := by decide +kernel
theorem dX10_next_107 : decode cX10_next 107 = .ok (.iload 5, 2) := by decide +kernel
theorem dX10_next_109 : decode cX10_next 109 = .ok (.goto 4, 3) := by decide +kernel
theorem dX10_next_112 : decode cX10_next 112 = .ok (.iload_n 3, 1) := by decide +kernel
theorem dX10_next_113 : decode cX10_next 113 = .ok (.istore_n 3, 1) := by decide +kernel
theorem dX10_next_114 : decode cX10_next 114 = .ok (.iload 7, 2) := by decide +kernel
theorem dX10_next_116 : decode cX10_next 116 = .ok (.ifCond .eq 8, 3) := by decide +kernel
theorem dX10_next_119 : decode cX10_next 119 = .ok (.iload 6, 2) := by decide +kernel
theorem dX10_next_121 : decode cX10_next 121 = .ok (.goto 5, 3) := by decide +kernel
theorem dX10_next_124 : decode cX10_next 124 = .ok (.iload 4, 2) := by decide +kernel
theorem dX10_next_126 : decode cX10_next 126 = .ok (.istore 4, 2) := by decide +kernel
theorem dX10_next_128 : decode cX10_next 128 = .ok (.iinc 5 1, 3) := by decide +kernel
theorem dX10_next_131 : decode cX10_next 131 = .ok (.goto (-123), 3) := by decide +kernel
theorem dX10_next_134 : decode cX10_next 134 = .ok (.iload_n 3, 1) := by decide +kernel
theorem dX10_next_135 : decode cX10_next 135 = .ok (.ireturn, 1) := by decide +kernel
theorem dX10_draw_0 : decode cX10_draw 0 = .ok (.aload_n 0, 1) := by decide +kernel
theorem dX10_draw_1 : decode cX10_draw 1 = .ok (.iload_n 1, 1) := by decide +kernel
theorem dX10_draw_2 : decode cX10_draw 2 = .ok (.iconst 0, 1) := by decide +kernel
theorem dX10_draw_3 : decode cX10_draw 3 = .ok (.sipush 7874, 3) := by decide +kernel
theorem dX10_draw_6 : decode cX10_draw 6 = .ok (.invokestatic 81, 3) := by decide +kernel
theorem dX10_draw_9 : decode cX10_draw 9 = .ok (.ifCond .eq 17, 3) := by decide +kernel
theorem dX10_draw_12 : decode cX10_draw 12 = .ok (.iload_n 2, 1) := by decide +kernel
theorem dX10_draw_13 : decode cX10_draw 13 = .ok (.iconst 1, 1) := by decide +kernel
theorem dX10_draw_14 : decode cX10_draw 14 = .ok (.bipush 10, 2) := by decide +kernel
theorem dX10_draw_16 : decode cX10_draw 16 = .ok (.invokestatic 81, 3) := by decide +kernel
theorem dX10_draw_19 : decode cX10_draw 19 = .ok (.ifCond .eq 7, 3) := by decide +kernel
theorem dX10_draw_22 : decode cX10_draw 22 = .ok (.iconst 1, 1) := by decide +kernel
theorem dX10_draw_23 : decode cX10_draw 23 = .ok (.goto 4, 3) := by decide +kernel
theorem dX10_draw_26 : decode cX10_draw 26 = .ok (.iconst 0, 1) := by decide +kernel
theorem dX10_draw_27 : decode cX10_draw 27 = .ok (.aload_n 0, 1) := by decide +kernel
theorem dX10_draw_28 : decode cX10_draw 28 = .ok (.getfield 88, 3) := by decide +kernel
theorem dX10_draw_31 : decode cX10_draw 31 = .ok (.ifCond .le 14, 3) := by decide +kernel
theorem dX10_draw_34 : decode cX10_draw 34 = .ok (.aload_n 0, 1) := by decide +kernel
theorem dX10_draw_35 : decode cX10_draw 35 = .ok (.getfield 151, 3) := by decide +kernel
theorem dX10_draw_38 : decode cX10_draw 38 = .ok (.ifCond .ne 7, 3) := by decide +kernel
theorem dX10_draw_41 : decode cX10_draw 41 = .ok (.iconst 1, 1) := by decide +kernel
theorem dX10_draw_42 : decode cX10_draw 42 = .ok (.goto 4, 3) := by decide +kernel
theorem dX10_draw_45 : decode cX10_draw 45 = .ok (.iconst 0, 1) := by decide +kernel
theorem dX10_draw_46 : decode cX10_draw 46 = .ok (.invokevirtual 95, 3) := by decide +kernel
theorem dX10_draw_49 : decode cX10_draw 49 = .ok (.ifCond .ne 5, 3) := by decide +kernel
theorem dX10_draw_52 : decode cX10_draw 52 = .ok (.iconst 0, 1) := by decide +kernel
theorem dX10_draw_53 : decode cX10_draw 53 = .ok (.ireturn, 1) := by decide +kernel
theorem dX10_draw_54 : decode cX10_draw 54 = .ok (.iload_n 1, 1) := by decide +kernel
theorem dX10_draw_55 : decode cX10_draw 55 = .ok (.istore_n 3, 1) := by decide +kernel
theorem dX10_draw_56 : decode cX10_draw 56 = .ok (.iconst 0, 1) := by decide +kernel
theorem dX10_draw_57 : decode cX10_draw 57 = .ok (.istore 4, 2) := by decide +kernel
theorem dX10_draw_59 : decode cX10_draw 59 = .ok (.iload 4, 2) := by decide +kernel
theorem dX10_draw_61 : decode cX10_draw 61 = .ok (.aload_n 0, 1) := by decide +kernel
theorem dX10_draw_62 : decode cX10_draw 62 = .ok (.getfield 88, 3) := by decide +kernel
theorem dX10_draw_65 : decode cX10_draw 65 = .ok (.if_icmp .ge 31, 3) := by decide +kernel
theorem dX10_draw_68 : decode cX10_draw 68 = .ok (.sipush 421, 3) := by decide +kernel
theorem dX10_draw_71 : decode cX10_draw 71 = .ok (.iload_n 3, 1) := by decide +kernel
theorem dX10_draw_72 : decode cX10_draw 72 = .ok (.imul, 1) := by decide +kernel
theorem dX10_draw_73 : decode cX10_draw 73 = .ok (.sipush 1663, 3) := by decide +kernel
theorem dX10_draw_76 : decode cX10_draw 76 = .ok (.iadd, 1) := by decide +kernel
theorem dX10_draw_77 : decode cX10_draw 77 = .ok (.sipush 7875, 3) := by decide +kernel
theorem dX10_draw_80 : decode cX10_draw 80 = .ok (.irem, 1) := by decide +kernel
theorem dX10_draw_81 : decode cX10_draw 81 = .ok (.istore_n 3, 1) := by decide +kernel
theorem dX10_draw_82 : decode cX10_draw 82 = .ok (.aload_n 0, 1) := by decide +kernel
theorem dX10_draw_83 : decode cX10_draw 83 = .ok (.getfield 62, 3) := by decide +kernel
theorem dX10_draw_86 : decode cX10_draw 86 = .ok (.iload 4, 2) := by decide +kernel
theorem dX10_draw_88 : decode cX10_draw 88 = .ok (.iload_n 3, 1) := by decide +kernel
theorem dX10_draw_89 : decode cX10_draw 89 = .ok (.iastore, 1) := by decide +kernel
theorem dX10_draw_90 : decode cX10_draw 90 = .ok (.iinc 4 1, 3) := by decide +kernel
theorem dX10_draw_93 : decode cX10_draw 93 = .ok (.goto (-34), 3) := by decide +kernel
theorem dX10_draw_96 : decode cX10_draw 96 = .ok (.aload_n 0, 1) := by decide +kernel
theorem dX10_draw_97 : decode cX10_draw 97 = .ok (.iconst 1, 1) := by decide +kernel
theorem dX10_draw_98 : decode cX10_draw 98 = .ok (.putfield 151, 3) := by decide +kernel
theorem dX10_draw_101 : decode cX10_draw 101 = .ok (.iconst 0, 1) := by decide +kernel
theorem dX10_draw_102 : decode cX10_draw 102 = .ok (.istore 4, 2) := by decide +kernel
theorem dX10_draw_104 : decode cX10_draw 104 = .ok (.iconst 0, 1) := by decide +kernel
theorem dX10_draw_105 : decode cX10_draw 105 = .ok (.istore 5, 2) := by decide +kernel
theorem dX10_draw_107 : decode cX10_draw 107 = .ok (.iload 5, 2) := by decide +kernel
theorem dX10_draw_109 : decode cX10_draw 109 = .ok (.iconst 5, 1) := by decide +kernel
theorem dX10_draw_110 : decode cX10_draw 110 = .ok (.if_icmp .ge 76, 3) := by decide +kernel
theorem dX10_draw_113 : decode cX10_draw 113 = .ok (.iconst 0, 1) := by decide +kernel
theorem dX10_draw_114 : decode cX10_draw 114 = .ok (.istore 6, 2) := by decide +kernel
theorem dX10_draw_116 : decode cX10_draw 116 = .ok (.aload_n 0, 1) := by decide +kernel
theorem dX10_draw_117 : decode cX10_draw 117 = .ok (.iload 5, 2) := by decide +kernel
theorem dX10_draw_119 : decode cX10_draw 119 = .ok (.iconst (-1), 1) := by decide +kernel
theorem dX10_draw_120 : decode cX10_draw 120 = .ok (.invokevirtual 171, 3) := by decide +kernel
theorem dX10_draw_123 : decode cX10_draw 123 = .ok (.istore 7, 2) := by decide +kernel
theorem dX10_draw_125 : decode cX10_draw 125 = .ok (.iload 7, 2) := by decide +kernel
theorem dX10_draw_127 : decode cX10_draw 127 = .ok (.iconst (-1), 1) := by decide +kernel
theorem dX10_draw_128 : decode cX10_draw 128 = .ok (.if_icmp .eq 52, 3) := by decide +kernel
theorem dX10_draw_131 : decode cX10_draw 131 = .ok (.aload_n 0, 1) := by decide +kernel
theorem dX10_draw_132 : decode cX10_draw 132 = .ok (.getfield 35, 3) := by decide +kernel
theorem dX10_draw_135 : decode cX10_draw 135 = .ok (.iload 7, 2) := by decide +kernel
theorem dX10_draw_137 : decode cX10_draw 137 = .ok (.iload 6, 2) := by decide +kernel
theorem dX10_draw_139 : decode cX10_draw 139 = .ok (.iastore, 1) := by decide +kernel
theorem dX10_draw_140 : decode cX10_draw 140 = .ok (.iload 6, 2) := by decide +kernel
theorem dX10_draw_142 : decode cX10_draw 142 = .ok (.iload 4, 2) := by decide +kernel
theorem dX10_draw_144 : decode cX10_draw 144 = .ok (.if_icmp .le 8, 3) := by decide +kernel
theorem dX10_draw_147 : decode cX10_draw 147 = .ok (.iload 6, 2) := by decide +kernel
theorem dX10_draw_149 : decode cX10_draw 149 = .ok (.goto 5, 3) := by decide +kernel
theorem dX10_draw_152 : decode cX10_draw 152 = .ok (.iload 4, 2) := by decide +kernel
theorem dX10_draw_154 : decode cX10_draw 154 = .ok (.istore 4, 2) := by decide +kernel
theorem dX10_draw_156 : decode cX10_draw 156 = .ok (.iload 6, 2) := by decide +kernel
theorem dX10_draw_158 : decode cX10_draw 158 = .ok (.iload_n 2, 1) := by decide +kernel
theorem dX10_draw_159 : decode cX10_draw 159 = .ok (.iadd, 1) := by decide +kernel
theorem dX10_draw_160 : decode cX10_draw 160 = .ok (.istore 6, 2) := by decide +kernel
theorem dX10_draw_162 : decode cX10_draw 162 = .ok (.aload_n 0, 1) := by decide +kernel
theorem dX10_draw_163 : decode cX10_draw 163 = .ok (.iload 5, 2) := by decide +kernel
theorem dX10_draw_165 : decode cX10_draw 165 = .ok (.aload_n 0, 1) := by decide +kernel
theorem dX10_draw_166 : decode cX10_draw 166 = .ok (.getfield 32, 3) := by decide +kernel
theorem dX10_draw_169 : decode cX10_draw 169 = .ok (.iload 7, 2) := by decide +kernel
theorem dX10_draw_171 : decode cX10_draw 171 = .ok (.iaload, 1) := by decide +kernel
theorem dX10_draw_172 : decode cX10_draw 172 = .ok (.invokevirtual 171, 3) := by decide +kernel
theorem dX10_draw_175 : decode cX10_draw 175 = .ok (.istore 7, 2) := by decide +kernel
theorem dX10_draw_177 : decode cX10_draw 177 = .ok (.goto (-52), 3) := by decide +kernel
theorem dX10_draw_180 : decode cX10_draw 180 = .ok (.iinc 5 1, 3) := by decide +kernel
theorem dX10_draw_183 : decode cX10_draw 183 = .ok (.goto (-76), 3) := by decide +kernel
theorem dX10_draw_186 : decode cX10_draw 186 = .ok (.iload 4, 2) := by decide +kernel
theorem dX10_draw_188 : decode cX10_draw 188 = .ok (.ireturn, 1) := by decide +kernel
theorem dX10_goesThrough_0 : decode cX10_goesThrough 0 = .ok (.aload_n 0, 1) := by decide +kernel
theorem dX10_goesThrough_1 : decode cX10_goesThrough 1 = .ok (.getfield 29, 3) := by decide +kernel
theorem dX10_goesThrough_4 : decode cX10_goesThrough 4 = .ok (.iload_n 1, 1) := by decide +kernel
theorem dX10_goesThrough_5 : decode cX10_goesThrough 5 = .ok (.iaload, 1) := by decide +kernel
theorem dX10_goesThrough_6 : decode cX10_goesThrough 6 = .ok (.istore_n 2, 1) := by decide +kernel
theorem dX10_goesThrough_7 : decode cX10_goesThrough 7 = .ok (.aload_n 0, 1) := by decide +kernel
theorem dX10_goesThrough_8 : decode cX10_goesThrough 8 = .ok (.iconst 0, 1) := by decide +kernel
theorem dX10_goesThrough_9 : decode cX10_goesThrough 9 = .ok (.putfield 174, 3) := by decide +kernel
theorem dX10_goesThrough_12 : decode cX10_goesThrough 12 = .ok (.iconst 0, 1) := by decide +kernel
theorem dX10_goesThrough_13 : decode cX10_goesThrough 13 = .ok (.istore_n 3, 1) := by decide +kernel
theorem dX10_goesThrough_14 : decode cX10_goesThrough 14 = .ok (.iload_n 3, 1) := by decide +kernel
theorem dX10_goesThrough_15 : decode cX10_goesThrough 15 = .ok (.bipush 6, 2) := by decide +kernel
theorem dX10_goesThrough_17 : decode cX10_goesThrough 17 = .ok (.if_icmp .ge 16, 3) := by decide +kernel
theorem dX10_goesThrough_20 : decode cX10_goesThrough 20 = .ok (.aload_n 0, 1) := by decide +kernel
theorem dX10_goesThrough_21 : decode cX10_goesThrough 21 = .ok (.getfield 59, 3) := by decide +kernel
theorem dX10_goesThrough_24 : decode cX10_goesThrough 24 = .ok (.iload_n 3, 1) := by decide +kernel
theorem dX10_goesThrough_25 : decode cX10_goesThrough 25 = .ok (.iconst (-1), 1) := by decide +kernel
theorem dX10_goesThrough_26 : decode cX10_goesThrough 26 = .ok (.iastore, 1) := by decide +kernel
theorem dX10_goesThrough_27 : decode cX10_goesThrough 27 = .ok (.iinc 3 1, 3) := by decide +kernel
theorem dX10_goesThrough_30 : decode cX10_goesThrough 30 = .ok (.goto (-16), 3) := by decide +kernel
theorem dX10_goesThrough_33 : decode cX10_goesThrough 33 = .ok (.aload_n 0, 1) := by decide +kernel
theorem dX10_goesThrough_34 : decode cX10_goesThrough 34 = .ok (.getfield 59, 3) := by decide +kernel
theorem dX10_goesThrough_37 : decode cX10_goesThrough 37 = .ok (.iconst 0, 1) := by decide +kernel
theorem dX10_goesThrough_38 : decode cX10_goesThrough 38 = .ok (.aload_n 0, 1) := by decide +kernel
theorem dX10_goesThrough_39 : decode cX10_goesThrough 39 = .ok (.getfield 35, 3) := by decide +kernel
theorem dX10_goesThrough_42 : decode cX10_goesThrough 42 = .ok (.iload_n 1, 1) := by decide +kernel
theorem dX10_goesThrough_43 : decode cX10_goesThrough 43 = .ok (.iaload, 1) := by decide +kernel
theorem dX10_goesThrough_44 : decode cX10_goesThrough 44 = .ok (.iastore, 1) := by decide +kernel
theorem dX10_goesThrough_45 : decode cX10_goesThrough 45 = .ok (.iconst 1, 1) := by decide +kernel
theorem dX10_goesThrough_46 : decode cX10_goesThrough 46 = .ok (.istore_n 3, 1) := by decide +kernel
theorem dX10_goesThrough_47 : decode cX10_goesThrough 47 = .ok (.bipush 20, 2) := by decide +kernel
theorem dX10_goesThrough_49 : decode cX10_goesThrough 49 = .ok (.iload_n 1, 1) := by decide +kernel
theorem dX10_goesThrough_50 : decode cX10_goesThrough 50 = .ok (.imul, 1) := by decide +kernel
theorem dX10_goesThrough_51 : decode cX10_goesThrough 51 = .ok (.istore 4, 2) := by decide +kernel
theorem dX10_goesThrough_53 : decode cX10_goesThrough 53 = .ok (.iconst 1, 1) := by decide +kernel
theorem dX10_goesThrough_54 : decode cX10_goesThrough 54 = .ok (.istore 5, 2) := by decide +kernel
theorem dX10_goesThrough_56 : decode cX10_goesThrough 56 = .ok (.iload 5, 2) := by decide +kernel
theorem dX10_goesThrough_58 : decode cX10_goesThrough 58 = .ok (.ifCond .eq 129, 3) := by decide +kernel
theorem dX10_goesThrough_61 : decode cX10_goesThrough 61 = .ok (.iload_n 3, 1) := by decide +kernel
theorem dX10_goesThrough_62 : decode cX10_goesThrough 62 = .ok (.aload_n 0, 1) := by decide +kernel
theorem dX10_goesThrough_63 : decode cX10_goesThrough 63 = .ok (.getfield 26, 3) := by decide +kernel
theorem dX10_goesThrough_66 : decode cX10_goesThrough 66 = .ok (.iload_n 2, 1) := by decide +kernel
theorem dX10_goesThrough_67 : decode cX10_goesThrough 67 = .ok (.iaload, 1) := by decide +kernel
theorem dX10_goesThrough_68 : decode cX10_goesThrough 68 = .ok (.if_icmp .ge 28, 3) := by decide +kernel
theorem dX10_goesThrough_71 : decode cX10_goesThrough 71 = .ok (.aload_n 0, 1) := by decide +kernel
theorem dX10_goesThrough_72 : decode cX10_goesThrough 72 = .ok (.getfield 19, 3) := by decide +kernel
theorem dX10_goesThrough_75 : decode cX10_goesThrough 75 = .ok (.aload_n 0, 1) := by decide +kernel
theorem dX10_goesThrough_76 : decode cX10_goesThrough 76 = .ok (.getfield 23, 3) := by decide +kernel
theorem dX10_goesThrough_79 : decode cX10_goesThrough 79 = .ok (.bipush 6, 2) := by decide +kernel
theorem dX10_goesThrough_81 : decode cX10_goesThrough 81 = .ok (.iload_n 2, 1) := by decide +kernel
theorem dX10_goesThrough_82 : decode cX10_goesThrough 82 = .ok (.imul, 1) := by decide +kernel
theorem dX10_goesThrough_83 : decode cX10_goesThrough 83 = .ok (.iload_n 3, 1) := by decide +kernel
theorem dX10_goesThrough_84 : decode cX10_goesThrough 84 = .ok (.iadd, 1) := by decide +kernel
theorem dX10_goesThrough_85 : decode cX10_goesThrough 85 = .ok (.iaload, 1) := by decide +kernel
theorem dX10_goesThrough_86 : decode cX10_goesThrough 86 = .ok (.baload, 1) := by decide +kernel
theorem dX10_goesThrough_87 : decode cX10_goesThrough 87 = .ok (.ifCond .eq 9, 3) := by decide +kernel
theorem dX10_goesThrough_90 : decode cX10_goesThrough 90 = .ok (.iinc 3 1, 3) := by decide +kernel
theorem dX10_goesThrough_93 : decode cX10_goesThrough 93 = .ok (.goto (-32), 3) := by decide +kernel
theorem dX10_goesThrough_96 : decode cX10_goesThrough 96 = .ok (.iload_n 3, 1) := by decide +kernel
theorem dX10_goesThrough_97 : decode cX10_goesThrough 97 = .ok (.aload_n 0, 1) := by decide +kernel
theorem dX10_goesThrough_98 : decode cX10_goesThrough 98 = .ok (.getfield 26, 3) := by decide +kernel
theorem dX10_goesThrough_101 : decode cX10_goesThrough 101 = .ok (.iload_n 2, 1) := by decide +kernel
theorem dX10_goesThrough_102 : decode cX10_goesThrough 102 = .ok (.iaload, 1) := by decide +kernel
theorem dX10_goesThrough_103 : decode cX10_goesThrough 103 = .ok (.if_icmp .ge 23, 3) := by decide +kernel
theorem dX10_goesThrough_106 : decode cX10_goesThrough 106 = .ok (.iload 4, 2) := by decide +kernel
theorem dX10_goesThrough_108 : decode cX10_goesThrough 108 = .ok (.bipush 20, 2) := by decide +kernel
theorem dX10_goesThrough_110 : decode cX10_goesThrough 110 = .ok (.iload_n 1, 1) := by decide +kernel
theorem dX10_goesThrough_111 : decode cX10_goesThrough 111 = .ok (.imul, 1) := by decide +kernel
theorem dX10_goesThrough_112 : decode cX10_goesThrough 112 = .ok (.aload_n 0, 1) := by decide +kernel
theorem dX10_goesThrough_113 : decode cX10_goesThrough 113 = .ok (.getfield 44, 3) := by decide +kernel
theorem dX10_goesThrough_116 : decode cX10_goesThrough 116 = .ok (.iload_n 1, 1) := by decide +kernel
theorem dX10_goesThrough_117 : decode cX10_goesThrough 117 = .ok (.iaload, 1) := by decide +kernel
theorem dX10_goesThrough_118 : decode cX10_goesThrough 118 = .ok (.iadd, 1) := by decide +kernel
theorem dX10_goesThrough_119 : decode cX10_goesThrough 119 = .ok (.if_icmp .ge 7, 3) := by decide +kernel
theorem dX10_goesThrough_122 : decode cX10_goesThrough 122 = .ok (.iconst 1, 1) := by decide +kernel
theorem dX10_goesThrough_123 : decode cX10_goesThrough 123 = .ok (.goto 4, 3) := by decide +kernel
theorem dX10_goesThrough_126 : decode cX10_goesThrough 126 = .ok (.iconst 0, 1) := by decide +kernel
theorem dX10_goesThrough_127 : decode cX10_goesThrough 127 = .ok (.istore 5, 2) := by decide +kernel
theorem dX10_goesThrough_129 : decode cX10_goesThrough 129 = .ok (.iload 5, 2) := by decide +kernel
theorem dX10_goesThrough_131 : decode cX10_goesThrough 131 = .ok (.ifCond .eq 50, 3) := by decide +kernel
theorem dX10_goesThrough_134 : decode cX10_goesThrough 134 = .ok (.aload_n 0, 1) := by decide +kernel
theorem dX10_goesThrough_135 : decode cX10_goesThrough 135 = .ok (.getfield 38, 3) := by decide +kernel
theorem dX10_goesThrough_138 : decode cX10_goesThrough 138 = .ok (.iload 4, 2) := by decide +kernel
theorem dX10_goesThrough_140 : decode cX10_goesThrough 140 = .ok (.iaload, 1) := by decide +kernel
theorem dX10_goesThrough_141 : decode cX10_goesThrough 141 = .ok (.aload_n 0, 1) := by decide +kernel
theorem dX10_goesThrough_142 : decode cX10_goesThrough 142 = .ok (.getfield 23, 3) := by decide +kernel
theorem dX10_goesThrough_145 : decode cX10_goesThrough 145 = .ok (.bipush 6, 2) := by decide +kernel
theorem dX10_goesThrough_147 : decode cX10_goesThrough 147 = .ok (.iload_n 2, 1) := by decide +kernel
theorem dX10_goesThrough_148 : decode cX10_goesThrough 148 = .ok (.imul, 1) := by decide +kernel
theorem dX10_goesThrough_149 : decode cX10_goesThrough 149 = .ok (.iload_n 3, 1) := by decide +kernel
theorem dX10_goesThrough_150 : decode cX10_goesThrough 150 = .ok (.iadd, 1) := by decide +kernel
theorem dX10_goesThrough_151 : decode cX10_goesThrough 151 = .ok (.iaload, 1) := by decide +kernel
theorem dX10_goesThrough_152 : decode cX10_goesThrough 152 = .ok (.if_icmp .ne 29, 3) := by decide +kernel
theorem dX10_goesThrough_155 : decode cX10_goesThrough 155 = .ok (.aload_n 0, 1) := by decide +kernel
theorem dX10_goesThrough_156 : decode cX10_goesThrough 156 = .ok (.getfield 59, 3) := by decide +kernel
theorem dX10_goesThrough_159 : decode cX10_goesThrough 159 = .ok (.iload_n 3, 1) := by decide +kernel
theorem dX10_goesThrough_160 : decode cX10_goesThrough 160 = .ok (.aload_n 0, 1) := by decide +kernel
theorem dX10_goesThrough_161 : decode cX10_goesThrough 161 = .ok (.getfield 41, 3) := by decide +kernel
theorem dX10_goesThrough_164 : decode cX10_goesThrough 164 = .ok (.iload 4, 2) := by decide +kernel
theorem dX10_goesThrough_166 : decode cX10_goesThrough 166 = .ok (.iaload, 1) := by decide +kernel
theorem dX10_goesThrough_167 : decode cX10_goesThrough 167 = .ok (.iastore, 1) := by decide +kernel
theorem dX10_goesThrough_168 : decode cX10_goesThrough 168 = .ok (.aload_n 0, 1) := by decide +kernel
theorem dX10_goesThrough_169 : decode cX10_goesThrough 169 = .ok (.dup, 1) := by decide +kernel
theorem dX10_goesThrough_170 : decode cX10_goesThrough 170 = .ok (.getfield 174, 3) := by decide +kernel
theorem dX10_goesThrough_173 : decode cX10_goesThrough 173 = .ok (.iconst 1, 1) := by decide +kernel
theorem dX10_goesThrough_174 : decode cX10_goesThrough 174 = .ok (.iadd, 1) := by decide +kernel
theorem dX10_goesThrough_175 : decode cX10_goesThrough 175 = .ok (.putfield 174, 3) := by decide +kernel
theorem dX10_goesThrough_178 : decode cX10_goesThrough 178 = .ok (.iinc 3 1, 3) := by decide +kernel
theorem dX10_goesThrough_181 : decode cX10_goesThrough 181 = .ok (.iinc 4 1, 3) := by decide +kernel
theorem dX10_goesThrough_184 : decode cX10_goesThrough 184 = .ok (.goto (-128), 3) := by decide +kernel
theorem dX10_goesThrough_187 : decode cX10_goesThrough 187 = .ok (.iload_n 3, 1) := by decide +kernel
theorem dX10_goesThrough_188 : decode cX10_goesThrough 188 = .ok (.aload_n 0, 1) := by decide +kernel
theorem dX10_goesThrough_189 : decode cX10_goesThrough 189 = .ok (.getfield 26, 3) := by decide +kernel
theorem dX10_goesThrough_192 : decode cX10_goesThrough 192 = .ok (.iload_n 2, 1) := by decide +kernel
theorem dX10_goesThrough_193 : decode cX10_goesThrough 193 = .ok (.iaload, 1) := by decide +kernel
theorem dX10_goesThrough_194 : decode cX10_goesThrough 194 = .ok (.if_icmp .lt 7, 3) := by decide +kernel
theorem dX10_goesThrough_197 : decode cX10_goesThrough 197 = .ok (.iconst 1, 1) := by decide +kernel
theorem dX10_goesThrough_198 : decode cX10_goesThrough 198 = .ok (.goto 4, 3) := by decide +kernel
theorem dX10_goesThrough_201 : decode cX10_goesThrough 201 = .ok (.iconst 0, 1) := by decide +kernel
theorem dX10_goesThrough_202 : decode cX10_goesThrough 202 = .ok (.ireturn, 1) := by decide +kernel
theorem dX10_punch_0 : decode cX10_punch 0 = .ok (.aload_n 0, 1) := by decide +kernel
theorem dX10_punch_1 : decode cX10_punch 1 = .ok (.iload_n 1, 1) := by decide +kernel
theorem dX10_punch_2 : decode cX10_punch 2 = .ok (.invokevirtual 177, 3) := by decide +kernel
theorem dX10_punch_5 : decode cX10_punch 5 = .ok (.ifCond .eq 15, 3) := by decide +kernel
theorem dX10_punch_8 : decode cX10_punch 8 = .ok (.aload_n 0, 1) := by decide +kernel
theorem dX10_punch_9 : decode cX10_punch 9 = .ok (.iload_n 2, 1) := by decide +kernel
theorem dX10_punch_10 : decode cX10_punch 10 = .ok (.invokevirtual 140, 3) := by decide +kernel
theorem dX10_punch_13 : decode cX10_punch 13 = .ok (.ifCond .eq 7, 3) := by decide +kernel
theorem dX10_punch_16 : decode cX10_punch 16 = .ok (.iconst 1, 1) := by decide +kernel
theorem dX10_punch_17 : decode cX10_punch 17 = .ok (.goto 4, 3) := by decide +kernel
theorem dX10_punch_20 : decode cX10_punch 20 = .ok (.iconst 0, 1) := by decide +kernel
theorem dX10_punch_21 : decode cX10_punch 21 = .ok (.istore 4, 2) := by decide +kernel
theorem dX10_punch_23 : decode cX10_punch 23 = .ok (.iload 4, 2) := by decide +kernel
theorem dX10_punch_25 : decode cX10_punch 25 = .ok (.ifCond .eq 25, 3) := by decide +kernel
theorem dX10_punch_28 : decode cX10_punch 28 = .ok (.aload_n 0, 1) := by decide +kernel
theorem dX10_punch_29 : decode cX10_punch 29 = .ok (.getfield 151, 3) := by decide +kernel
theorem dX10_punch_32 : decode cX10_punch 32 = .ok (.ifCond .eq 18, 3) := by decide +kernel
theorem dX10_punch_35 : decode cX10_punch 35 = .ok (.aload_n 0, 1) := by decide +kernel
theorem dX10_punch_36 : decode cX10_punch 36 = .ok (.getfield 44, 3) := by decide +kernel
theorem dX10_punch_39 : decode cX10_punch 39 = .ok (.iload_n 1, 1) := by decide +kernel
theorem dX10_punch_40 : decode cX10_punch 40 = .ok (.iaload, 1) := by decide +kernel
theorem dX10_punch_41 : decode cX10_punch 41 = .ok (.bipush 20, 2) := by decide +kernel
theorem dX10_punch_43 : decode cX10_punch 43 = .ok (.if_icmp .ge 7, 3) := by decide +kernel
theorem dX10_punch_46 : decode cX10_punch 46 = .ok (.iconst 1, 1) := by decide +kernel
theorem dX10_punch_47 : decode cX10_punch 47 = .ok (.goto 4, 3) := by decide +kernel
theorem dX10_punch_50 : decode cX10_punch 50 = .ok (.iconst 0, 1) := by decide +kernel
theorem dX10_punch_51 : decode cX10_punch 51 = .ok (.istore 5, 2) := by decide +kernel
theorem dX10_punch_53 : decode cX10_punch 53 = .ok (.iload 5, 2) := by decide +kernel
theorem dX10_punch_55 : decode cX10_punch 55 = .ok (.ifCond .ne 7, 3) := by decide +kernel
theorem dX10_punch_58 : decode cX10_punch 58 = .ok (.iconst 0, 1) := by decide +kernel
theorem dX10_punch_59 : decode cX10_punch 59 = .ok (.goto 39, 3) := by decide +kernel
theorem dX10_punch_62 : decode cX10_punch 62 = .ok (.aload_n 0, 1) := by decide +kernel
theorem dX10_punch_63 : decode cX10_punch 63 = .ok (.getfield 44, 3) := by decide +kernel
theorem dX10_punch_66 : decode cX10_punch 66 = .ok (.iload_n 1, 1) := by decide +kernel
theorem dX10_punch_67 : decode cX10_punch 67 = .ok (.iaload, 1) := by decide +kernel
theorem dX10_punch_68 : decode cX10_punch 68 = .ok (.ifCond .le 24, 3) := by decide +kernel
theorem dX10_punch_71 : decode cX10_punch 71 = .ok (.aload_n 0, 1) := by decide +kernel
theorem dX10_punch_72 : decode cX10_punch 72 = .ok (.getfield 41, 3) := by decide +kernel
theorem dX10_punch_75 : decode cX10_punch 75 = .ok (.bipush 20, 2) := by decide +kernel
theorem dX10_punch_77 : decode cX10_punch 77 = .ok (.iload_n 1, 1) := by decide +kernel
theorem dX10_punch_78 : decode cX10_punch 78 = .ok (.imul, 1) := by decide +kernel
theorem dX10_punch_79 : decode cX10_punch 79 = .ok (.aload_n 0, 1) := by decide +kernel
theorem dX10_punch_80 : decode cX10_punch 80 = .ok (.getfield 44, 3) := by decide +kernel
theorem dX10_punch_83 : decode cX10_punch 83 = .ok (.iload_n 1, 1) := by decide +kernel
theorem dX10_punch_84 : decode cX10_punch 84 = .ok (.iaload, 1) := by decide +kernel
theorem dX10_punch_85 : decode cX10_punch 85 = .ok (.iadd, 1) := by decide +kernel
theorem dX10_punch_86 : decode cX10_punch 86 = .ok (.iconst 1, 1) := by decide +kernel
theorem dX10_punch_87 : decode cX10_punch 87 = .ok (.isub, 1) := by decide +kernel
theorem dX10_punch_88 : decode cX10_punch 88 = .ok (.iaload, 1) := by decide +kernel
theorem dX10_punch_89 : decode cX10_punch 89 = .ok (.goto 9, 3) := by decide +kernel
theorem dX10_punch_92 : decode cX10_punch 92 = .ok (.aload_n 0, 1) := by decide +kernel
theorem dX10_punch_93 : decode cX10_punch 93 = .ok (.getfield 35, 3) := by decide +kernel
theorem dX10_punch_96 : decode cX10_punch 96 = .ok (.iload_n 1, 1) := by decide +kernel
theorem dX10_punch_97 : decode cX10_punch 97 = .ok (.iaload, 1) := by decide +kernel
theorem dX10_punch_98 : decode cX10_punch 98 = .ok (.istore 6, 2) := by decide +kernel
theorem dX10_punch_100 : decode cX10_punch 100 = .ok (.aload_n 0, 1) := by decide +kernel
theorem dX10_punch_101 : decode cX10_punch 101 = .ok (.iload 4, 2) := by decide +kernel
theorem dX10_punch_103 : decode cX10_punch 103 = .ok (.iload 5, 2) := by decide +kernel
theorem dX10_punch_105 : decode cX10_punch 105 = .ok (.iload_n 3, 1) := by decide +kernel
theorem dX10_punch_106 : decode cX10_punch 106 = .ok (.iload 6, 2) := by decide +kernel
theorem dX10_punch_108 : decode cX10_punch 108 = .ok (.sipush 9999, 3) := by decide +kernel
theorem dX10_punch_111 : decode cX10_punch 111 = .ok (.invokestatic 81, 3) := by decide +kernel
theorem dX10_punch_114 : decode cX10_punch 114 = .ok (.invokevirtual 159, 3) := by decide +kernel
theorem dX10_punch_117 : decode cX10_punch 117 = .ok (.ifCond .ne 5, 3) := by decide +kernel
theorem dX10_punch_120 : decode cX10_punch 120 = .ok (.iconst 0, 1) := by decide +kernel
theorem dX10_punch_121 : decode cX10_punch 121 = .ok (.ireturn, 1) := by decide +kernel
theorem dX10_punch_122 : decode cX10_punch 122 = .ok (.aload_n 0, 1) := by decide +kernel
theorem dX10_punch_123 : decode cX10_punch 123 = .ok (.getfield 38, 3) := by decide +kernel
theorem dX10_punch_126 : decode cX10_punch 126 = .ok (.bipush 20, 2) := by decide +kernel
theorem dX10_punch_128 : decode cX10_punch 128 = .ok (.iload_n 1, 1) := by decide +kernel
theorem dX10_punch_129 : decode cX10_punch 129 = .ok (.imul, 1) := by decide +kernel
theorem dX10_punch_130 : decode cX10_punch 130 = .ok (.aload_n 0, 1) := by decide +kernel
theorem dX10_punch_131 : decode cX10_punch 131 = .ok (.getfield 44, 3) := by decide +kernel
theorem dX10_punch_134 : decode cX10_punch 134 = .ok (.iload_n 1, 1) := by decide +kernel
theorem dX10_punch_135 : decode cX10_punch 135 = .ok (.iaload, 1) := by decide +kernel
theorem dX10_punch_136 : decode cX10_punch 136 = .ok (.iadd, 1) := by decide +kernel
theorem dX10_punch_137 : decode cX10_punch 137 = .ok (.iload_n 2, 1) := by decide +kernel
theorem dX10_punch_138 : decode cX10_punch 138 = .ok (.iastore, 1) := by decide +kernel
theorem dX10_punch_139 : decode cX10_punch 139 = .ok (.aload_n 0, 1) := by decide +kernel
theorem dX10_punch_140 : decode cX10_punch 140 = .ok (.getfield 41, 3) := by decide +kernel
theorem dX10_punch_143 : decode cX10_punch 143 = .ok (.bipush 20, 2) := by decide +kernel
theorem dX10_punch_145 : decode cX10_punch 145 = .ok (.iload_n 1, 1) := by decide +kernel
theorem dX10_punch_146 : decode cX10_punch 146 = .ok (.imul, 1) := by decide +kernel
theorem dX10_punch_147 : decode cX10_punch 147 = .ok (.aload_n 0, 1) := by decide +kernel
theorem dX10_punch_148 : decode cX10_punch 148 = .ok (.getfield 44, 3) := by decide +kernel
theorem dX10_punch_151 : decode cX10_punch 151 = .ok (.iload_n 1, 1) := by decide +kernel
theorem dX10_punch_152 : decode cX10_punch 152 = .ok (.iaload, 1) := by decide +kernel
theorem dX10_punch_153 : decode cX10_punch 153 = .ok (.iadd, 1) := by decide +kernel
theorem dX10_punch_154 : decode cX10_punch 154 = .ok (.iload_n 3, 1) := by decide +kernel
theorem dX10_punch_155 : decode cX10_punch 155 = .ok (.iastore, 1) := by decide +kernel
theorem dX10_punch_156 : decode cX10_punch 156 = .ok (.aload_n 0, 1) := by decide +kernel
theorem dX10_punch_157 : decode cX10_punch 157 = .ok (.getfield 44, 3) := by decide +kernel
theorem dX10_punch_160 : decode cX10_punch 160 = .ok (.iload_n 1, 1) := by decide +kernel
theorem dX10_punch_161 : decode cX10_punch 161 = .ok (.dup2, 1) := by decide +kernel
theorem dX10_punch_162 : decode cX10_punch 162 = .ok (.iaload, 1) := by decide +kernel
theorem dX10_punch_163 : decode cX10_punch 163 = .ok (.iconst 1, 1) := by decide +kernel
theorem dX10_punch_164 : decode cX10_punch 164 = .ok (.iadd, 1) := by decide +kernel
theorem dX10_punch_165 : decode cX10_punch 165 = .ok (.iastore, 1) := by decide +kernel
theorem dX10_punch_166 : decode cX10_punch 166 = .ok (.aload_n 0, 1) := by decide +kernel
theorem dX10_punch_167 : decode cX10_punch 167 = .ok (.iload_n 1, 1) := by decide +kernel
theorem dX10_punch_168 : decode cX10_punch 168 = .ok (.invokevirtual 180, 3) := by decide +kernel
theorem dX10_punch_171 : decode cX10_punch 171 = .ok (.pop, 1) := by decide +kernel
theorem dX10_punch_172 : decode cX10_punch 172 = .ok (.aload_n 0, 1) := by decide +kernel
theorem dX10_punch_173 : decode cX10_punch 173 = .ok (.getfield 174, 3) := by decide +kernel
theorem dX10_punch_176 : decode cX10_punch 176 = .ok (.ireturn, 1) := by decide +kernel
theorem dX10_fail_0 : decode cX10_fail 0 = .ok (.aload_n 0, 1) := by decide +kernel
theorem dX10_fail_1 : decode cX10_fail 1 = .ok (.iload_n 1, 1) := by decide +kernel
theorem dX10_fail_2 : decode cX10_fail 2 = .ok (.invokevirtual 140, 3) := by decide +kernel
theorem dX10_fail_5 : decode cX10_fail 5 = .ok (.istore_n 3, 1) := by decide +kernel
theorem dX10_fail_6 : decode cX10_fail 6 = .ok (.iload_n 3, 1) := by decide +kernel
theorem dX10_fail_7 : decode cX10_fail 7 = .ok (.istore 4, 2) := by decide +kernel
theorem dX10_fail_9 : decode cX10_fail 9 = .ok (.iconst 0, 1) := by decide +kernel
theorem dX10_fail_10 : decode cX10_fail 10 = .ok (.istore 5, 2) := by decide +kernel
theorem dX10_fail_12 : decode cX10_fail 12 = .ok (.iload 5, 2) := by decide +kernel
theorem dX10_fail_14 : decode cX10_fail 14 = .ok (.iconst 5, 1) := by decide +kernel
theorem dX10_fail_15 : decode cX10_fail 15 = .ok (.if_icmp .ge 69, 3) := by decide +kernel
theorem dX10_fail_18 : decode cX10_fail 18 = .ok (.iload 4, 2) := by decide +kernel
theorem dX10_fail_20 : decode cX10_fail 20 = .ok (.ifCond .eq 55, 3) := by decide +kernel
theorem dX10_fail_23 : decode cX10_fail 23 = .ok (.aload_n 0, 1) := by decide +kernel
theorem dX10_fail_24 : decode cX10_fail 24 = .ok (.getfield 26, 3) := by decide +kernel
theorem dX10_fail_27 : decode cX10_fail 27 = .ok (.iload 5, 2) := by decide +kernel
theorem dX10_fail_29 : decode cX10_fail 29 = .ok (.iaload, 1) := by decide +kernel
theorem dX10_fail_30 : decode cX10_fail 30 = .ok (.ifCond .eq 41, 3) := by decide +kernel
theorem dX10_fail_33 : decode cX10_fail 33 = .ok (.aload_n 0, 1) := by decide +kernel
theorem dX10_fail_34 : decode cX10_fail 34 = .ok (.getfield 23, 3) := by decide +kernel
theorem dX10_fail_37 : decode cX10_fail 37 = .ok (.bipush 6, 2) := by decide +kernel
theorem dX10_fail_39 : decode cX10_fail 39 = .ok (.iload 5, 2) := by decide +kernel
theorem dX10_fail_41 : decode cX10_fail 41 = .ok (.imul, 1) := by decide +kernel
theorem dX10_fail_42 : decode cX10_fail 42 = .ok (.iaload, 1) := by decide +kernel
theorem dX10_fail_43 : decode cX10_fail 43 = .ok (.iload_n 1, 1) := by decide +kernel
theorem dX10_fail_44 : decode cX10_fail 44 = .ok (.if_icmp .eq 31, 3) := by decide +kernel
theorem dX10_fail_47 : decode cX10_fail 47 = .ok (.aload_n 0, 1) := by decide +kernel
theorem dX10_fail_48 : decode cX10_fail 48 = .ok (.getfield 23, 3) := by decide +kernel
theorem dX10_fail_51 : decode cX10_fail 51 = .ok (.bipush 6, 2) := by decide +kernel
theorem dX10_fail_53 : decode cX10_fail 53 = .ok (.iload 5, 2) := by decide +kernel
theorem dX10_fail_55 : decode cX10_fail 55 = .ok (.imul, 1) := by decide +kernel
theorem dX10_fail_56 : decode cX10_fail 56 = .ok (.aload_n 0, 1) := by decide +kernel
theorem dX10_fail_57 : decode cX10_fail 57 = .ok (.getfield 26, 3) := by decide +kernel
theorem dX10_fail_60 : decode cX10_fail 60 = .ok (.iload 5, 2) := by decide +kernel
theorem dX10_fail_62 : decode cX10_fail 62 = .ok (.iaload, 1) := by decide +kernel
theorem dX10_fail_63 : decode cX10_fail 63 = .ok (.iadd, 1) := by decide +kernel
theorem dX10_fail_64 : decode cX10_fail 64 = .ok (.iconst 1, 1) := by decide +kernel
theorem dX10_fail_65 : decode cX10_fail 65 = .ok (.isub, 1) := by decide +kernel
theorem dX10_fail_66 : decode cX10_fail 66 = .ok (.iaload, 1) := by decide +kernel
theorem dX10_fail_67 : decode cX10_fail 67 = .ok (.iload_n 1, 1) := by decide +kernel
theorem dX10_fail_68 : decode cX10_fail 68 = .ok (.if_icmp .eq 7, 3) := by decide +kernel
theorem dX10_fail_71 : decode cX10_fail 71 = .ok (.iconst 1, 1) := by decide +kernel
theorem dX10_fail_72 : decode cX10_fail 72 = .ok (.goto 4, 3) := by decide +kernel
theorem dX10_fail_75 : decode cX10_fail 75 = .ok (.iconst 0, 1) := by decide +kernel
theorem dX10_fail_76 : decode cX10_fail 76 = .ok (.istore 4, 2) := by decide +kernel
theorem dX10_fail_78 : decode cX10_fail 78 = .ok (.iinc 5 1, 3) := by decide +kernel
theorem dX10_fail_81 : decode cX10_fail 81 = .ok (.goto (-69), 3) := by decide +kernel
theorem dX10_fail_84 : decode cX10_fail 84 = .ok (.aload_n 0, 1) := by decide +kernel
theorem dX10_fail_85 : decode cX10_fail 85 = .ok (.iload_n 3, 1) := by decide +kernel
theorem dX10_fail_86 : decode cX10_fail 86 = .ok (.iload 4, 2) := by decide +kernel
theorem dX10_fail_88 : decode cX10_fail 88 = .ok (.invokevirtual 95, 3) := by decide +kernel
theorem dX10_fail_91 : decode cX10_fail 91 = .ok (.ifCond .ne 5, 3) := by decide +kernel
theorem dX10_fail_94 : decode cX10_fail 94 = .ok (.iconst 0, 1) := by decide +kernel
theorem dX10_fail_95 : decode cX10_fail 95 = .ok (.ireturn, 1) := by decide +kernel
theorem dX10_fail_96 : decode cX10_fail 96 = .ok (.aload_n 0, 1) := by decide +kernel
theorem dX10_fail_97 : decode cX10_fail 97 = .ok (.getfield 19, 3) := by decide +kernel
theorem dX10_fail_100 : decode cX10_fail 100 = .ok (.iload_n 1, 1) := by decide +kernel
theorem dX10_fail_101 : decode cX10_fail 101 = .ok (.baload, 1) := by decide +kernel
theorem dX10_fail_102 : decode cX10_fail 102 = .ok (.istore 5, 2) := by decide +kernel
theorem dX10_fail_104 : decode cX10_fail 104 = .ok (.aload_n 0, 1) := by decide +kernel
theorem dX10_fail_105 : decode cX10_fail 105 = .ok (.getfield 19, 3) := by decide +kernel
theorem dX10_fail_108 : decode cX10_fail 108 = .ok (.iload_n 1, 1) := by decide +kernel
theorem dX10_fail_109 : decode cX10_fail 109 = .ok (.iload_n 2, 1) := by decide +kernel
theorem dX10_fail_110 : decode cX10_fail 110 = .ok (.bastore, 1) := by decide +kernel
theorem dX10_fail_111 : decode cX10_fail 111 = .ok (.iload 5, 2) := by decide +kernel
theorem dX10_fail_113 : decode cX10_fail 113 = .ok (.ireturn, 1) := by decide +kernel
theorem dX10_runners_0 : decode cX10_runners 0 = .ok (.aload_n 0, 1) := by decide +kernel
theorem dX10_runners_1 : decode cX10_runners 1 = .ok (.iconst 0, 1) := by decide +kernel
theorem dX10_runners_2 : decode cX10_runners 2 = .ok (.putfield 78, 3) := by decide +kernel
theorem dX10_runners_5 : decode cX10_runners 5 = .ok (.aload_n 0, 1) := by decide +kernel
theorem dX10_runners_6 : decode cX10_runners 6 = .ok (.getfield 88, 3) := by decide +kernel
theorem dX10_runners_9 : decode cX10_runners 9 = .ok (.ireturn, 1) := by decide +kernel
theorem dX10_startOf_0 : decode cX10_startOf 0 = .ok (.aload_n 0, 1) := by decide +kernel
theorem dX10_startOf_1 : decode cX10_startOf 1 = .ok (.aload_n 0, 1) := by decide +kernel
theorem dX10_startOf_2 : decode cX10_startOf 2 = .ok (.iload_n 1, 1) := by decide +kernel
theorem dX10_startOf_3 : decode cX10_startOf 3 = .ok (.invokevirtual 177, 3) := by decide +kernel
theorem dX10_startOf_6 : decode cX10_startOf 6 = .ok (.invokevirtual 103, 3) := by decide +kernel
theorem dX10_startOf_9 : decode cX10_startOf 9 = .ok (.ifCond .eq 12, 3) := by decide +kernel
theorem dX10_startOf_12 : decode cX10_startOf 12 = .ok (.aload_n 0, 1) := by decide +kernel
theorem dX10_startOf_13 : decode cX10_startOf 13 = .ok (.getfield 35, 3) := by decide +kernel
theorem dX10_startOf_16 : decode cX10_startOf 16 = .ok (.iload_n 1, 1) := by decide +kernel
theorem dX10_startOf_17 : decode cX10_startOf 17 = .ok (.iaload, 1) := by decide +kernel
theorem dX10_startOf_18 : decode cX10_startOf 18 = .ok (.goto 4, 3) := by decide +kernel
theorem dX10_startOf_21 : decode cX10_startOf 21 = .ok (.iconst 0, 1) := by decide +kernel
theorem dX10_startOf_22 : decode cX10_startOf 22 = .ok (.ireturn, 1) := by decide +kernel
theorem dX10_state_0 : decode cX10_state 0 = .ok (.aload_n 0, 1) := by decide +kernel
theorem dX10_state_1 : decode cX10_state 1 = .ok (.iload_n 1, 1) := by decide +kernel
theorem dX10_state_2 : decode cX10_state 2 = .ok (.invokevirtual 180, 3) := by decide +kernel
theorem dX10_state_5 : decode cX10_state 5 = .ok (.ifCond .eq 5, 3) := by decide +kernel
theorem dX10_state_8 : decode cX10_state 8 = .ok (.iconst 1, 1) := by decide +kernel
theorem dX10_state_9 : decode cX10_state 9 = .ok (.ireturn, 1) := by decide +kernel
theorem dX10_state_10 : decode cX10_state 10 = .ok (.aload_n 0, 1) := by decide +kernel
theorem dX10_state_11 : decode cX10_state 11 = .ok (.getfield 23, 3) := by decide +kernel
theorem dX10_state_14 : decode cX10_state 14 = .ok (.bipush 6, 2) := by decide +kernel
theorem dX10_state_16 : decode cX10_state 16 = .ok (.aload_n 0, 1) := by decide +kernel
theorem dX10_state_17 : decode cX10_state 17 = .ok (.getfield 29, 3) := by decide +kernel
theorem dX10_state_20 : decode cX10_state 20 = .ok (.iload_n 1, 1) := by decide +kernel
theorem dX10_state_21 : decode cX10_state 21 = .ok (.iaload, 1) := by decide +kernel
theorem dX10_state_22 : decode cX10_state 22 = .ok (.imul, 1) := by decide +kernel
theorem dX10_state_23 : decode cX10_state 23 = .ok (.aload_n 0, 1) := by decide +kernel
theorem dX10_state_24 : decode cX10_state 24 = .ok (.getfield 26, 3) := by decide +kernel
theorem dX10_state_27 : decode cX10_state 27 = .ok (.aload_n 0, 1) := by decide +kernel
theorem dX10_state_28 : decode cX10_state 28 = .ok (.getfield 29, 3) := by decide +kernel
theorem dX10_state_31 : decode cX10_state 31 = .ok (.iload_n 1, 1) := by decide +kernel
theorem dX10_state_32 : decode cX10_state 32 = .ok (.iaload, 1) := by decide +kernel
theorem dX10_state_33 : decode cX10_state 33 = .ok (.iaload, 1) := by decide +kernel
theorem dX10_state_34 : decode cX10_state 34 = .ok (.iadd, 1) := by decide +kernel
theorem dX10_state_35 : decode cX10_state 35 = .ok (.iconst 1, 1) := by decide +kernel
theorem dX10_state_36 : decode cX10_state 36 = .ok (.isub, 1) := by decide +kernel
theorem dX10_state_37 : decode cX10_state 37 = .ok (.iaload, 1) := by decide +kernel
theorem dX10_state_38 : decode cX10_state 38 = .ok (.istore_n 2, 1) := by decide +kernel
theorem dX10_state_39 : decode cX10_state 39 = .ok (.iconst 0, 1) := by decide +kernel
theorem dX10_state_40 : decode cX10_state 40 = .ok (.istore_n 3, 1) := by decide +kernel
theorem dX10_state_41 : decode cX10_state 41 = .ok (.bipush 20, 2) := by decide +kernel
theorem dX10_state_43 : decode cX10_state 43 = .ok (.iload_n 1, 1) := by decide +kernel
theorem dX10_state_44 : decode cX10_state 44 = .ok (.imul, 1) := by decide +kernel
theorem dX10_state_45 : decode cX10_state 45 = .ok (.istore 4, 2) := by decide +kernel
theorem dX10_state_47 : decode cX10_state 47 = .ok (.iload 4, 2) := by decide +kernel
theorem dX10_state_49 : decode cX10_state 49 = .ok (.bipush 20, 2) := by decide +kernel
theorem dX10_state_51 : decode cX10_state 51 = .ok (.iload_n 1, 1) := by decide +kernel
theorem dX10_state_52 : decode cX10_state 52 = .ok (.imul, 1) := by decide +kernel
theorem dX10_state_53 : decode cX10_state 53 = .ok (.aload_n 0, 1) := by decide +kernel
theorem dX10_state_54 : decode cX10_state 54 = .ok (.getfield 44, 3) := by decide +kernel
theorem dX10_state_57 : decode cX10_state 57 = .ok (.iload_n 1, 1) := by decide +kernel
theorem dX10_state_58 : decode cX10_state 58 = .ok (.iaload, 1) := by decide +kernel
theorem dX10_state_59 : decode cX10_state 59 = .ok (.iadd, 1) := by decide +kernel
theorem dX10_state_60 : decode cX10_state 60 = .ok (.if_icmp .ge 26, 3) := by decide +kernel
theorem dX10_state_63 : decode cX10_state 63 = .ok (.aload_n 0, 1) := by decide +kernel
theorem dX10_state_64 : decode cX10_state 64 = .ok (.getfield 38, 3) := by decide +kernel
theorem dX10_state_67 : decode cX10_state 67 = .ok (.iload 4, 2) := by decide +kernel
theorem dX10_state_69 : decode cX10_state 69 = .ok (.iaload, 1) := by decide +kernel
theorem dX10_state_70 : decode cX10_state 70 = .ok (.iload_n 2, 1) := by decide +kernel
theorem dX10_state_71 : decode cX10_state 71 = .ok (.if_icmp .ne 7, 3) := by decide +kernel
theorem dX10_state_74 : decode cX10_state 74 = .ok (.iconst 2, 1) := by decide +kernel
theorem dX10_state_75 : decode cX10_state 75 = .ok (.goto 4, 3) := by decide +kernel
theorem dX10_state_78 : decode cX10_state 78 = .ok (.iload_n 3, 1) := by decide +kernel
theorem dX10_state_79 : decode cX10_state 79 = .ok (.istore_n 3, 1) := by decide +kernel
theorem dX10_state_80 : decode cX10_state 80 = .ok (.iinc 4 1, 3) := by decide +kernel
theorem dX10_state_83 : decode cX10_state 83 = .ok (.goto (-36), 3) := by decide +kernel
theorem dX10_state_86 : decode cX10_state 86 = .ok (.iload_n 3, 1) := by decide +kernel
theorem dX10_state_87 : decode cX10_state 87 = .ok (.ireturn, 1) := by decide +kernel
theorem dX10_stateOf_0 : decode cX10_stateOf 0 = .ok (.aload_n 0, 1) := by decide +kernel
theorem dX10_stateOf_1 : decode cX10_stateOf 1 = .ok (.aload_n 0, 1) := by decide +kernel
theorem dX10_stateOf_2 : decode cX10_stateOf 2 = .ok (.iload_n 1, 1) := by decide +kernel
theorem dX10_stateOf_3 : decode cX10_stateOf 3 = .ok (.invokevirtual 177, 3) := by decide +kernel
theorem dX10_stateOf_6 : decode cX10_stateOf 6 = .ok (.invokevirtual 103, 3) := by decide +kernel
theorem dX10_stateOf_9 : decode cX10_stateOf 9 = .ok (.ifCond .eq 11, 3) := by decide +kernel
theorem dX10_stateOf_12 : decode cX10_stateOf 12 = .ok (.aload_n 0, 1) := by decide +kernel
theorem dX10_stateOf_13 : decode cX10_stateOf 13 = .ok (.iload_n 1, 1) := by decide +kernel
theorem dX10_stateOf_14 : decode cX10_stateOf 14 = .ok (.invokevirtual 183, 3) := by decide +kernel
theorem dX10_stateOf_17 : decode cX10_stateOf 17 = .ok (.goto 4, 3) := by decide +kernel
theorem dX10_stateOf_20 : decode cX10_stateOf 20 = .ok (.iconst 0, 1) := by decide +kernel
theorem dX10_stateOf_21 : decode cX10_stateOf 21 = .ok (.ireturn, 1) := by decide +kernel
theorem dX10_isLeg_0 : decode cX10_isLeg 0 = .ok (.aload_n 0, 1) := by decide +kernel
theorem dX10_isLeg_1 : decode cX10_isLeg 1 = .ok (.iload_n 1, 1) := by decide +kernel
theorem dX10_isLeg_2 : decode cX10_isLeg 2 = .ok (.invokevirtual 177, 3) := by decide +kernel
theorem dX10_isLeg_5 : decode cX10_isLeg 5 = .ok (.ifCond .eq 28, 3) := by decide +kernel
theorem dX10_isLeg_8 : decode cX10_isLeg 8 = .ok (.iload_n 2, 1) := by decide +kernel
theorem dX10_isLeg_9 : decode cX10_isLeg 9 = .ok (.iconst 0, 1) := by decide +kernel
theorem dX10_isLeg_10 : decode cX10_isLeg 10 = .ok (.aload_n 0, 1) := by decide +kernel
theorem dX10_isLeg_11 : decode cX10_isLeg 11 = .ok (.getfield 26, 3) := by decide +kernel
theorem dX10_isLeg_14 : decode cX10_isLeg 14 = .ok (.aload_n 0, 1) := by decide +kernel
theorem dX10_isLeg_15 : decode cX10_isLeg 15 = .ok (.getfield 29, 3) := by decide +kernel
theorem dX10_isLeg_18 : decode cX10_isLeg 18 = .ok (.iload_n 1, 1) := by decide +kernel
theorem dX10_isLeg_19 : decode cX10_isLeg 19 = .ok (.iaload, 1) := by decide +kernel
theorem dX10_isLeg_20 : decode cX10_isLeg 20 = .ok (.iaload, 1) := by decide +kernel
theorem dX10_isLeg_21 : decode cX10_isLeg 21 = .ok (.iconst 2, 1) := by decide +kernel
theorem dX10_isLeg_22 : decode cX10_isLeg 22 = .ok (.isub, 1) := by decide +kernel
theorem dX10_isLeg_23 : decode cX10_isLeg 23 = .ok (.invokestatic 81, 3) := by decide +kernel
theorem dX10_isLeg_26 : decode cX10_isLeg 26 = .ok (.ifCond .eq 7, 3) := by decide +kernel
theorem dX10_isLeg_29 : decode cX10_isLeg 29 = .ok (.iconst 1, 1) := by decide +kernel
theorem dX10_isLeg_30 : decode cX10_isLeg 30 = .ok (.goto 4, 3) := by decide +kernel
theorem dX10_isLeg_33 : decode cX10_isLeg 33 = .ok (.iconst 0, 1) := by decide +kernel
theorem dX10_isLeg_34 : decode cX10_isLeg 34 = .ok (.ireturn, 1) := by decide +kernel
theorem dX10_isVoid_0 : decode cX10_isVoid 0 = .ok (.bipush 6, 2) := by decide +kernel
theorem dX10_isVoid_2 : decode cX10_isVoid 2 = .ok (.aload_n 0, 1) := by decide +kernel
theorem dX10_isVoid_3 : decode cX10_isVoid 3 = .ok (.getfield 29, 3) := by decide +kernel
theorem dX10_isVoid_6 : decode cX10_isVoid 6 = .ok (.iload_n 1, 1) := by decide +kernel
theorem dX10_isVoid_7 : decode cX10_isVoid 7 = .ok (.iaload, 1) := by decide +kernel
theorem dX10_isVoid_8 : decode cX10_isVoid 8 = .ok (.imul, 1) := by decide +kernel
theorem dX10_isVoid_9 : decode cX10_isVoid 9 = .ok (.iload_n 2, 1) := by decide +kernel
theorem dX10_isVoid_10 : decode cX10_isVoid 10 = .ok (.iadd, 1) := by decide +kernel
theorem dX10_isVoid_11 : decode cX10_isVoid 11 = .ok (.istore_n 3, 1) := by decide +kernel
theorem dX10_isVoid_12 : decode cX10_isVoid 12 = .ok (.aload_n 0, 1) := by decide +kernel
theorem dX10_isVoid_13 : decode cX10_isVoid 13 = .ok (.getfield 19, 3) := by decide +kernel
theorem dX10_isVoid_16 : decode cX10_isVoid 16 = .ok (.aload_n 0, 1) := by decide +kernel
theorem dX10_isVoid_17 : decode cX10_isVoid 17 = .ok (.getfield 23, 3) := by decide +kernel
theorem dX10_isVoid_20 : decode cX10_isVoid 20 = .ok (.iload_n 3, 1) := by decide +kernel
theorem dX10_isVoid_21 : decode cX10_isVoid 21 = .ok (.iaload, 1) := by decide +kernel
theorem dX10_isVoid_22 : decode cX10_isVoid 22 = .ok (.baload, 1) := by decide +kernel
theorem dX10_isVoid_23 : decode cX10_isVoid 23 = .ok (.ifCond .ne 19, 3) := by decide +kernel
theorem dX10_isVoid_26 : decode cX10_isVoid 26 = .ok (.aload_n 0, 1) := by decide +kernel
theorem dX10_isVoid_27 : decode cX10_isVoid 27 = .ok (.getfield 19, 3) := by decide +kernel
theorem dX10_isVoid_30 : decode cX10_isVoid 30 = .ok (.aload_n 0, 1) := by decide +kernel
theorem dX10_isVoid_31 : decode cX10_isVoid 31 = .ok (.getfield 23, 3) := by decide +kernel
theorem dX10_isVoid_34 : decode cX10_isVoid 34 = .ok (.iload_n 3, 1) := by decide +kernel
theorem dX10_isVoid_35 : decode cX10_isVoid 35 = .ok (.iconst 1, 1) := by decide +kernel
theorem dX10_isVoid_36 : decode cX10_isVoid 36 = .ok (.iadd, 1) := by decide +kernel
theorem dX10_isVoid_37 : decode cX10_isVoid 37 = .ok (.iaload, 1) := by decide +kernel
theorem dX10_isVoid_38 : decode cX10_isVoid 38 = .ok (.baload, 1) := by decide +kernel
theorem dX10_isVoid_39 : decode cX10_isVoid 39 = .ok (.ifCond .eq 7, 3) := by decide +kernel
theorem dX10_isVoid_42 : decode cX10_isVoid 42 = .ok (.iconst 1, 1) := by decide +kernel
theorem dX10_isVoid_43 : decode cX10_isVoid 43 = .ok (.goto 4, 3) := by decide +kernel
theorem dX10_isVoid_46 : decode cX10_isVoid 46 = .ok (.iconst 0, 1) := by decide +kernel
theorem dX10_isVoid_47 : decode cX10_isVoid 47 = .ok (.ireturn, 1) := by decide +kernel
theorem dX10_splitOf_0 : decode cX10_splitOf 0 = .ok (.aload_n 0, 1) := by decide +kernel
theorem dX10_splitOf_1 : decode cX10_splitOf 1 = .ok (.iload_n 1, 1) := by decide +kernel
theorem dX10_splitOf_2 : decode cX10_splitOf 2 = .ok (.iload_n 2, 1) := by decide +kernel
theorem dX10_splitOf_3 : decode cX10_splitOf 3 = .ok (.invokevirtual 186, 3) := by decide +kernel
theorem dX10_splitOf_6 : decode cX10_splitOf 6 = .ok (.ifCond .ne 25, 3) := by decide +kernel
theorem dX10_splitOf_9 : decode cX10_splitOf 9 = .ok (.aload_n 0, 1) := by decide +kernel
theorem dX10_splitOf_10 : decode cX10_splitOf 10 = .ok (.getfield 59, 3) := by decide +kernel
theorem dX10_splitOf_13 : decode cX10_splitOf 13 = .ok (.iload_n 2, 1) := by decide +kernel
theorem dX10_splitOf_14 : decode cX10_splitOf 14 = .ok (.iaload, 1) := by decide +kernel
theorem dX10_splitOf_15 : decode cX10_splitOf 15 = .ok (.iconst (-1), 1) := by decide +kernel
theorem dX10_splitOf_16 : decode cX10_splitOf 16 = .ok (.if_icmp .eq 15, 3) := by decide +kernel
theorem dX10_splitOf_19 : decode cX10_splitOf 19 = .ok (.aload_n 0, 1) := by decide +kernel
theorem dX10_splitOf_20 : decode cX10_splitOf 20 = .ok (.getfield 59, 3) := by decide +kernel
theorem dX10_splitOf_23 : decode cX10_splitOf 23 = .ok (.iload_n 2, 1) := by decide +kernel
theorem dX10_splitOf_24 : decode cX10_splitOf 24 = .ok (.iconst 1, 1) := by decide +kernel
theorem dX10_splitOf_25 : decode cX10_splitOf 25 = .ok (.iadd, 1) := by decide +kernel
theorem dX10_splitOf_26 : decode cX10_splitOf 26 = .ok (.iaload, 1) := by decide +kernel
theorem dX10_splitOf_27 : decode cX10_splitOf 27 = .ok (.iconst (-1), 1) := by decide +kernel
theorem dX10_splitOf_28 : decode cX10_splitOf 28 = .ok (.if_icmp .ne 7, 3) := by decide +kernel
theorem dX10_splitOf_31 : decode cX10_splitOf 31 = .ok (.iconst (-1), 1) := by decide +kernel
theorem dX10_splitOf_32 : decode cX10_splitOf 32 = .ok (.goto 18, 3) := by decide +kernel
theorem dX10_splitOf_35 : decode cX10_splitOf 35 = .ok (.aload_n 0, 1) := by decide +kernel
theorem dX10_splitOf_36 : decode cX10_splitOf 36 = .ok (.getfield 59, 3) := by decide +kernel
theorem dX10_splitOf_39 : decode cX10_splitOf 39 = .ok (.iload_n 2, 1) := by decide +kernel
theorem dX10_splitOf_40 : decode cX10_splitOf 40 = .ok (.iconst 1, 1) := by decide +kernel
theorem dX10_splitOf_41 : decode cX10_splitOf 41 = .ok (.iadd, 1) := by decide +kernel
theorem dX10_splitOf_42 : decode cX10_splitOf 42 = .ok (.iaload, 1) := by decide +kernel
theorem dX10_splitOf_43 : decode cX10_splitOf 43 = .ok (.aload_n 0, 1) := by decide +kernel
theorem dX10_splitOf_44 : decode cX10_splitOf 44 = .ok (.getfield 59, 3) := by decide +kernel
theorem dX10_splitOf_47 : decode cX10_splitOf 47 = .ok (.iload_n 2, 1) := by decide +kernel
theorem dX10_splitOf_48 : decode cX10_splitOf 48 = .ok (.iaload, 1) := by decide +kernel
theorem dX10_splitOf_49 : decode cX10_splitOf 49 = .ok (.isub, 1) := by decide +kernel
theorem dX10_splitOf_50 : decode cX10_splitOf 50 = .ok (.ireturn, 1) := by decide +kernel
theorem dX10_split_0 : decode cX10_split 0 = .ok (.aload_n 0, 1) := by decide +kernel
theorem dX10_split_1 : decode cX10_split 1 = .ok (.aload_n 0, 1) := by decide +kernel
theorem dX10_split_2 : decode cX10_split 2 = .ok (.iload_n 1, 1) := by decide +kernel
theorem dX10_split_3 : decode cX10_split 3 = .ok (.iload_n 2, 1) := by decide +kernel
theorem dX10_split_4 : decode cX10_split 4 = .ok (.invokevirtual 189, 3) := by decide +kernel
theorem dX10_split_7 : decode cX10_split 7 = .ok (.invokevirtual 103, 3) := by decide +kernel
theorem dX10_split_10 : decode cX10_split 10 = .ok (.ifCond .ne 5, 3) := by decide +kernel
theorem dX10_split_13 : decode cX10_split 13 = .ok (.iconst 0, 1) := by decide +kernel
theorem dX10_split_14 : decode cX10_split 14 = .ok (.ireturn, 1) := by decide +kernel
theorem dX10_split_15 : decode cX10_split 15 = .ok (.aload_n 0, 1) := by decide +kernel
theorem dX10_split_16 : decode cX10_split 16 = .ok (.iload_n 1, 1) := by decide +kernel
theorem dX10_split_17 : decode cX10_split 17 = .ok (.invokevirtual 180, 3) := by decide +kernel
theorem dX10_split_20 : decode cX10_split 20 = .ok (.pop, 1) := by decide +kernel
theorem dX10_split_21 : decode cX10_split 21 = .ok (.aload_n 0, 1) := by decide +kernel
theorem dX10_split_22 : decode cX10_split 22 = .ok (.iload_n 1, 1) := by decide +kernel
theorem dX10_split_23 : decode cX10_split 23 = .ok (.iload_n 2, 1) := by decide +kernel
theorem dX10_split_24 : decode cX10_split 24 = .ok (.invokevirtual 192, 3) := by decide +kernel
theorem dX10_split_27 : decode cX10_split 27 = .ok (.ireturn, 1) := by decide +kernel
theorem dX10_totalOf_0 : decode cX10_totalOf 0 = .ok (.aload_n 0, 1) := by decide +kernel
theorem dX10_totalOf_1 : decode cX10_totalOf 1 = .ok (.iload_n 1, 1) := by decide +kernel
theorem dX10_totalOf_2 : decode cX10_totalOf 2 = .ok (.invokevirtual 183, 3) := by decide +kernel
theorem dX10_totalOf_5 : decode cX10_totalOf 5 = .ok (.iconst 1, 1) := by decide +kernel
theorem dX10_totalOf_6 : decode cX10_totalOf 6 = .ok (.if_icmp .ne 7, 3) := by decide +kernel
theorem dX10_totalOf_9 : decode cX10_totalOf 9 = .ok (.iconst 0, 1) := by decide +kernel
theorem dX10_totalOf_10 : decode cX10_totalOf 10 = .ok (.goto 4, 3) := by decide +kernel
theorem dX10_totalOf_13 : decode cX10_totalOf 13 = .ok (.iconst (-1), 1) := by decide +kernel
theorem dX10_totalOf_14 : decode cX10_totalOf 14 = .ok (.istore_n 2, 1) := by decide +kernel
theorem dX10_totalOf_15 : decode cX10_totalOf 15 = .ok (.iconst 0, 1) := by decide +kernel
theorem dX10_totalOf_16 : decode cX10_totalOf 16 = .ok (.istore_n 3, 1) := by decide +kernel
theorem dX10_totalOf_17 : decode cX10_totalOf 17 = .ok (.iload_n 3, 1) := by decide +kernel
theorem dX10_totalOf_18 : decode cX10_totalOf 18 = .ok (.aload_n 0, 1) := by decide +kernel
theorem dX10_totalOf_19 : decode cX10_totalOf 19 = .ok (.getfield 26, 3) := by decide +kernel
theorem dX10_totalOf_22 : decode cX10_totalOf 22 = .ok (.aload_n 0, 1) := by decide +kernel
theorem dX10_totalOf_23 : decode cX10_totalOf 23 = .ok (.getfield 29, 3) := by decide +kernel
theorem dX10_totalOf_26 : decode cX10_totalOf 26 = .ok (.iload_n 1, 1) := by decide +kernel
theorem dX10_totalOf_27 : decode cX10_totalOf 27 = .ok (.iaload, 1) := by decide +kernel
theorem dX10_totalOf_28 : decode cX10_totalOf 28 = .ok (.iaload, 1) := by decide +kernel
theorem dX10_totalOf_29 : decode cX10_totalOf 29 = .ok (.iconst 1, 1) := by decide +kernel
theorem dX10_totalOf_30 : decode cX10_totalOf 30 = .ok (.isub, 1) := by decide +kernel
theorem dX10_totalOf_31 : decode cX10_totalOf 31 = .ok (.if_icmp .ge 36, 3) := by decide +kernel
theorem dX10_totalOf_34 : decode cX10_totalOf 34 = .ok (.iload_n 2, 1) := by decide +kernel
theorem dX10_totalOf_35 : decode cX10_totalOf 35 = .ok (.iconst (-1), 1) := by decide +kernel
theorem dX10_totalOf_36 : decode cX10_totalOf 36 = .ok (.if_icmp .eq 31, 3) := by decide +kernel
theorem dX10_totalOf_39 : decode cX10_totalOf 39 = .ok (.iload_n 2, 1) := by decide +kernel
theorem dX10_totalOf_40 : decode cX10_totalOf 40 = .ok (.aload_n 0, 1) := by decide +kernel
theorem dX10_totalOf_41 : decode cX10_totalOf 41 = .ok (.iload_n 1, 1) := by decide +kernel
theorem dX10_totalOf_42 : decode cX10_totalOf 42 = .ok (.iload_n 3, 1) := by decide +kernel
theorem dX10_totalOf_43 : decode cX10_totalOf 43 = .ok (.invokevirtual 186, 3) := by decide +kernel
theorem dX10_totalOf_46 : decode cX10_totalOf 46 = .ok (.ifCond .eq 7, 3) := by decide +kernel
theorem dX10_totalOf_49 : decode cX10_totalOf 49 = .ok (.iconst 0, 1) := by decide +kernel
theorem dX10_totalOf_50 : decode cX10_totalOf 50 = .ok (.goto 9, 3) := by decide +kernel
theorem dX10_totalOf_53 : decode cX10_totalOf 53 = .ok (.aload_n 0, 1) := by decide +kernel
theorem dX10_totalOf_54 : decode cX10_totalOf 54 = .ok (.iload_n 1, 1) := by decide +kernel
theorem dX10_totalOf_55 : decode cX10_totalOf 55 = .ok (.iload_n 3, 1) := by decide +kernel
theorem dX10_totalOf_56 : decode cX10_totalOf 56 = .ok (.invokevirtual 192, 3) := by decide +kernel
theorem dX10_totalOf_59 : decode cX10_totalOf 59 = .ok (.iadd, 1) := by decide +kernel
theorem dX10_totalOf_60 : decode cX10_totalOf 60 = .ok (.istore_n 2, 1) := by decide +kernel
theorem dX10_totalOf_61 : decode cX10_totalOf 61 = .ok (.iinc 3 1, 3) := by decide +kernel
theorem dX10_totalOf_64 : decode cX10_totalOf 64 = .ok (.goto (-47), 3) := by decide +kernel
theorem dX10_totalOf_67 : decode cX10_totalOf 67 = .ok (.iload_n 2, 1) := by decide +kernel
theorem dX10_totalOf_68 : decode cX10_totalOf 68 = .ok (.ireturn, 1) := by decide +kernel
theorem dX10_total_0 : decode cX10_total 0 = .ok (.aload_n 0, 1) := by decide +kernel
theorem dX10_total_1 : decode cX10_total 1 = .ok (.aload_n 0, 1) := by decide +kernel
theorem dX10_total_2 : decode cX10_total 2 = .ok (.iload_n 1, 1) := by decide +kernel
theorem dX10_total_3 : decode cX10_total 3 = .ok (.invokevirtual 177, 3) := by decide +kernel
theorem dX10_total_6 : decode cX10_total 6 = .ok (.invokevirtual 103, 3) := by decide +kernel
theorem dX10_total_9 : decode cX10_total 9 = .ok (.ifCond .eq 11, 3) := by decide +kernel
theorem dX10_total_12 : decode cX10_total 12 = .ok (.aload_n 0, 1) := by decide +kernel
theorem dX10_total_13 : decode cX10_total 13 = .ok (.iload_n 1, 1) := by decide +kernel
theorem dX10_total_14 : decode cX10_total 14 = .ok (.invokevirtual 195, 3) := by decide +kernel
theorem dX10_total_17 : decode cX10_total 17 = .ok (.goto 4, 3) := by decide +kernel
theorem dX10_total_20 : decode cX10_total 20 = .ok (.iconst 0, 1) := by decide +kernel
theorem dX10_total_21 : decode cX10_total 21 = .ok (.ireturn, 1) := by decide +kernel
theorem dX10_rank_0 : decode cX10_rank 0 = .ok (.aload_n 0, 1) := by decide +kernel
theorem dX10_rank_1 : decode cX10_rank 1 = .ok (.aload_n 0, 1) := by decide +kernel
theorem dX10_rank_2 : decode cX10_rank 2 = .ok (.iload_n 1, 1) := by decide +kernel
theorem dX10_rank_3 : decode cX10_rank 3 = .ok (.invokevirtual 177, 3) := by decide +kernel
theorem dX10_rank_6 : decode cX10_rank 6 = .ok (.invokevirtual 103, 3) := by decide +kernel
theorem dX10_rank_9 : decode cX10_rank 9 = .ok (.ifCond .ne 5, 3) := by decide +kernel
theorem dX10_rank_12 : decode cX10_rank 12 = .ok (.iconst 0, 1) := by decide +kernel
theorem dX10_rank_13 : decode cX10_rank 13 = .ok (.ireturn, 1) := by decide +kernel
theorem dX10_rank_14 : decode cX10_rank 14 = .ok (.aload_n 0, 1) := by decide +kernel
theorem dX10_rank_15 : decode cX10_rank 15 = .ok (.iload_n 1, 1) := by decide +kernel
theorem dX10_rank_16 : decode cX10_rank 16 = .ok (.invokevirtual 195, 3) := by decide +kernel
theorem dX10_rank_19 : decode cX10_rank 19 = .ok (.istore_n 2, 1) := by decide +kernel
theorem dX10_rank_20 : decode cX10_rank 20 = .ok (.iload_n 2, 1) := by decide +kernel
theorem dX10_rank_21 : decode cX10_rank 21 = .ok (.iconst (-1), 1) := by decide +kernel
theorem dX10_rank_22 : decode cX10_rank 22 = .ok (.if_icmp .ne 7, 3) := by decide +kernel
theorem dX10_rank_25 : decode cX10_rank 25 = .ok (.iconst (-1), 1) := by decide +kernel
theorem dX10_rank_26 : decode cX10_rank 26 = .ok (.goto 4, 3) := by decide +kernel
theorem dX10_rank_29 : decode cX10_rank 29 = .ok (.iconst 1, 1) := by decide +kernel
theorem dX10_rank_30 : decode cX10_rank 30 = .ok (.istore_n 3, 1) := by decide +kernel
theorem dX10_rank_31 : decode cX10_rank 31 = .ok (.iconst 0, 1) := by decide +kernel
theorem dX10_rank_32 : decode cX10_rank 32 = .ok (.istore 4, 2) := by decide +kernel
theorem dX10_rank_34 : decode cX10_rank 34 = .ok (.iload 4, 2) := by decide +kernel
theorem dX10_rank_36 : decode cX10_rank 36 = .ok (.aload_n 0, 1) := by decide +kernel
theorem dX10_rank_37 : decode cX10_rank 37 = .ok (.getfield 88, 3) := by decide +kernel
theorem dX10_rank_40 : decode cX10_rank 40 = .ok (.if_icmp .ge 62, 3) := by decide +kernel
theorem dX10_rank_43 : decode cX10_rank 43 = .ok (.iload_n 2, 1) := by decide +kernel
theorem dX10_rank_44 : decode cX10_rank 44 = .ok (.iconst (-1), 1) := by decide +kernel
theorem dX10_rank_45 : decode cX10_rank 45 = .ok (.if_icmp .eq 57, 3) := by decide +kernel
theorem dX10_rank_48 : decode cX10_rank 48 = .ok (.aload_n 0, 1) := by decide +kernel
theorem dX10_rank_49 : decode cX10_rank 49 = .ok (.getfield 29, 3) := by decide +kernel
theorem dX10_rank_52 : decode cX10_rank 52 = .ok (.iload 4, 2) := by decide +kernel
theorem dX10_rank_54 : decode cX10_rank 54 = .ok (.iaload, 1) := by decide +kernel
theorem dX10_rank_55 : decode cX10_rank 55 = .ok (.aload_n 0, 1) := by decide +kernel
theorem dX10_rank_56 : decode cX10_rank 56 = .ok (.getfield 29, 3) := by decide +kernel
theorem dX10_rank_59 : decode cX10_rank 59 = .ok (.iload_n 1, 1) := by decide +kernel
theorem dX10_rank_60 : decode cX10_rank 60 = .ok (.iaload, 1) := by decide +kernel
theorem dX10_rank_61 : decode cX10_rank 61 = .ok (.if_icmp .ne 12, 3) := by decide +kernel
theorem dX10_rank_64 : decode cX10_rank 64 = .ok (.aload_n 0, 1) := by decide +kernel
theorem dX10_rank_65 : decode cX10_rank 65 = .ok (.iload 4, 2) := by decide +kernel
theorem dX10_rank_67 : decode cX10_rank 67 = .ok (.invokevirtual 195, 3) := by decide +kernel
theorem dX10_rank_70 : decode cX10_rank 70 = .ok (.goto 4, 3) := by decide +kernel
theorem dX10_rank_73 : decode cX10_rank 73 = .ok (.iconst (-1), 1) := by decide +kernel
theorem dX10_rank_74 : decode cX10_rank 74 = .ok (.istore 5, 2) := by decide +kernel
theorem dX10_rank_76 : decode cX10_rank 76 = .ok (.iload_n 3, 1) := by decide +kernel
theorem dX10_rank_77 : decode cX10_rank 77 = .ok (.iload 5, 2) := by decide +kernel
theorem dX10_rank_79 : decode cX10_rank 79 = .ok (.iconst (-1), 1) := by decide +kernel
theorem dX10_rank_80 : decode cX10_rank 80 = .ok (.if_icmp .eq 13, 3) := by decide +kernel
theorem dX10_rank_83 : decode cX10_rank 83 = .ok (.iload 5, 2) := by decide +kernel
theorem dX10_rank_85 : decode cX10_rank 85 = .ok (.iload_n 2, 1) := by decide +kernel
theorem dX10_rank_86 : decode cX10_rank 86 = .ok (.if_icmp .ge 7, 3) := by decide +kernel
theorem dX10_rank_89 : decode cX10_rank 89 = .ok (.iconst 1, 1) := by decide +kernel
theorem dX10_rank_90 : decode cX10_rank 90 = .ok (.goto 4, 3) := by decide +kernel
theorem dX10_rank_93 : decode cX10_rank 93 = .ok (.iconst 0, 1) := by decide +kernel
theorem dX10_rank_94 : decode cX10_rank 94 = .ok (.iadd, 1) := by decide +kernel
theorem dX10_rank_95 : decode cX10_rank 95 = .ok (.istore_n 3, 1) := by decide +kernel
theorem dX10_rank_96 : decode cX10_rank 96 = .ok (.iinc 4 1, 3) := by decide +kernel
theorem dX10_rank_99 : decode cX10_rank 99 = .ok (.goto (-65), 3) := by decide +kernel
theorem dX10_rank_102 : decode cX10_rank 102 = .ok (.iload_n 3, 1) := by decide +kernel
theorem dX10_rank_103 : decode cX10_rank 103 = .ok (.ireturn, 1) := by decide +kernel
theorem dX10_bestSplit_0 : decode cX10_bestSplit 0 = .ok (.iconst (-1), 1) := by decide +kernel
theorem dX10_bestSplit_1 : decode cX10_bestSplit 1 = .ok (.istore_n 3, 1) := by decide +kernel
theorem dX10_bestSplit_2 : decode cX10_bestSplit 2 = .ok (.iconst 0, 1) := by decide +kernel
theorem dX10_bestSplit_3 : decode cX10_bestSplit 3 = .ok (.istore 4, 2) := by decide +kernel
theorem dX10_bestSplit_5 : decode cX10_bestSplit 5 = .ok (.iload 4, 2) := by decide +kernel
theorem dX10_bestSplit_7 : decode cX10_bestSplit 7 = .ok (.aload_n 0, 1) := by decide +kernel
theorem dX10_bestSplit_8 : decode cX10_bestSplit 8 = .ok (.getfield 88, 3) := by decide +kernel
theorem dX10_bestSplit_11 : decode cX10_bestSplit 11 = .ok (.if_icmp .ge 136, 3) := by decide +kernel
theorem dX10_bestSplit_14 : decode cX10_bestSplit 14 = .ok (.aload_n 0, 1) := by decide +kernel
theorem dX10_bestSplit_15 : decode cX10_bestSplit 15 = .ok (.iload 4, 2) := by decide +kernel
theorem dX10_bestSplit_17 : decode cX10_bestSplit 17 = .ok (.invokevirtual 183, 3) := by decide +kernel
theorem dX10_bestSplit_20 : decode cX10_bestSplit 20 = .ok (.iconst 1, 1) := by decide +kernel
theorem dX10_bestSplit_21 : decode cX10_bestSplit 21 = .ok (.if_icmp .ne 7, 3) := by decide +kernel
theorem dX10_bestSplit_24 : decode cX10_bestSplit 24 = .ok (.iconst 1, 1) := by decide +kernel
theorem dX10_bestSplit_25 : decode cX10_bestSplit 25 = .ok (.goto 4, 3) := by decide +kernel
theorem dX10_bestSplit_28 : decode cX10_bestSplit 28 = .ok (.iconst 0, 1) := by decide +kernel
theorem dX10_bestSplit_29 : decode cX10_bestSplit 29 = .ok (.istore 5, 2) := by decide +kernel
theorem dX10_bestSplit_31 : decode cX10_bestSplit 31 = .ok (.iconst 0, 1) := by decide +kernel
theorem dX10_bestSplit_32 : decode cX10_bestSplit 32 = .ok (.istore 6, 2) := by decide +kernel
theorem dX10_bestSplit_34 : decode cX10_bestSplit 34 = .ok (.iload 6, 2) := by decide +kernel
theorem dX10_bestSplit_36 : decode cX10_bestSplit 36 = .ok (.aload_n 0, 1) := by decide +kernel
theorem dX10_bestSplit_37 : decode cX10_bestSplit 37 = .ok (.getfield 26, 3) := by decide +kernel
theorem dX10_bestSplit_40 : decode cX10_bestSplit 40 = .ok (.aload_n 0, 1) := by decide +kernel
theorem dX10_bestSplit_41 : decode cX10_bestSplit 41 = .ok (.getfield 29, 3) := by decide +kernel
theorem dX10_bestSplit_44 : decode cX10_bestSplit 44 = .ok (.iload 4, 2) := by decide +kernel
theorem dX10_bestSplit_46 : decode cX10_bestSplit 46 = .ok (.iaload, 1) := by decide +kernel
theorem dX10_bestSplit_47 : decode cX10_bestSplit 47 = .ok (.iaload, 1) := by decide +kernel
theorem dX10_bestSplit_48 : decode cX10_bestSplit 48 = .ok (.iconst 1, 1) := by decide +kernel
theorem dX10_bestSplit_49 : decode cX10_bestSplit 49 = .ok (.isub, 1) := by decide +kernel
theorem dX10_bestSplit_50 : decode cX10_bestSplit 50 = .ok (.if_icmp .ge 91, 3) := by decide +kernel
theorem dX10_bestSplit_53 : decode cX10_bestSplit 53 = .ok (.iload 5, 2) := by decide +kernel
theorem dX10_bestSplit_55 : decode cX10_bestSplit 55 = .ok (.ifCond .eq 86, 3) := by decide +kernel
theorem dX10_bestSplit_58 : decode cX10_bestSplit 58 = .ok (.bipush 6, 2) := by decide +kernel
theorem dX10_bestSplit_60 : decode cX10_bestSplit 60 = .ok (.aload_n 0, 1) := by decide +kernel
theorem dX10_bestSplit_61 : decode cX10_bestSplit 61 = .ok (.getfield 29, 3) := by decide +kernel
theorem dX10_bestSplit_64 : decode cX10_bestSplit 64 = .ok (.iload 4, 2) := by decide +kernel
theorem dX10_bestSplit_66 : decode cX10_bestSplit 66 = .ok (.iaload, 1) := by decide +kernel
theorem dX10_bestSplit_67 : decode cX10_bestSplit 67 = .ok (.imul, 1) := by decide +kernel
theorem dX10_bestSplit_68 : decode cX10_bestSplit 68 = .ok (.iload 6, 2) := by decide +kernel
theorem dX10_bestSplit_70 : decode cX10_bestSplit 70 = .ok (.iadd, 1) := by decide +kernel
theorem dX10_bestSplit_71 : decode cX10_bestSplit 71 = .ok (.istore 7, 2) := by decide +kernel
theorem dX10_bestSplit_73 : decode cX10_bestSplit 73 = .ok (.aload_n 0, 1) := by decide +kernel
theorem dX10_bestSplit_74 : decode cX10_bestSplit 74 = .ok (.getfield 23, 3) := by decide +kernel
theorem dX10_bestSplit_77 : decode cX10_bestSplit 77 = .ok (.iload 7, 2) := by decide +kernel
theorem dX10_bestSplit_79 : decode cX10_bestSplit 79 = .ok (.iaload, 1) := by decide +kernel
theorem dX10_bestSplit_80 : decode cX10_bestSplit 80 = .ok (.iload_n 1, 1) := by decide +kernel
theorem dX10_bestSplit_81 : decode cX10_bestSplit 81 = .ok (.if_icmp .ne 27, 3) := by decide +kernel
theorem dX10_bestSplit_84 : decode cX10_bestSplit 84 = .ok (.aload_n 0, 1) := by decide +kernel
theorem dX10_bestSplit_85 : decode cX10_bestSplit 85 = .ok (.getfield 23, 3) := by decide +kernel
theorem dX10_bestSplit_88 : decode cX10_bestSplit 88 = .ok (.iload 7, 2) := by decide +kernel
theorem dX10_bestSplit_90 : decode cX10_bestSplit 90 = .ok (.iconst 1, 1) := by decide +kernel
theorem dX10_bestSplit_91 : decode cX10_bestSplit 91 = .ok (.iadd, 1) := by decide +kernel
theorem dX10_bestSplit_92 : decode cX10_bestSplit 92 = .ok (.iaload, 1) := by decide +kernel
theorem dX10_bestSplit_93 : decode cX10_bestSplit 93 = .ok (.iload_n 2, 1) := by decide +kernel
theorem dX10_bestSplit_94 : decode cX10_bestSplit 94 = .ok (.if_icmp .ne 14, 3) := by decide +kernel
theorem dX10_bestSplit_97 : decode cX10_bestSplit 97 = .ok (.aload_n 0, 1) := by decide +kernel
theorem dX10_bestSplit_98 : decode cX10_bestSplit 98 = .ok (.iload 4, 2) := by decide +kernel
theorem dX10_bestSplit_100 : decode cX10_bestSplit 100 = .ok (.iload 6, 2) := by decide +kernel
theorem dX10_bestSplit_102 : decode cX10_bestSplit 102 = .ok (.invokevirtual 192, 3) := by decide +kernel
theorem dX10_bestSplit_105 : decode cX10_bestSplit 105 = .ok (.goto 4, 3) := by decide +kernel
theorem dX10_bestSplit_108 : decode cX10_bestSplit 108 = .ok (.iconst (-1), 1) := by decide +kernel
theorem dX10_bestSplit_109 : decode cX10_bestSplit 109 = .ok (.istore 8, 2) := by decide +kernel
theorem dX10_bestSplit_111 : decode cX10_bestSplit 111 = .ok (.iload 8, 2) := by decide +kernel
theorem dX10_bestSplit_113 : decode cX10_bestSplit 113 = .ok (.iconst (-1), 1) := by decide +kernel
theorem dX10_bestSplit_114 : decode cX10_bestSplit 114 = .ok (.if_icmp .eq 19, 3) := by decide +kernel
theorem dX10_bestSplit_117 : decode cX10_bestSplit 117 = .ok (.iload_n 3, 1) := by decide +kernel
theorem dX10_bestSplit_118 : decode cX10_bestSplit 118 = .ok (.iconst (-1), 1) := by decide +kernel
theorem dX10_bestSplit_119 : decode cX10_bestSplit 119 = .ok (.if_icmp .eq 9, 3) := by decide +kernel
theorem dX10_bestSplit_122 : decode cX10_bestSplit 122 = .ok (.iload 8, 2) := by decide +kernel
theorem dX10_bestSplit_124 : decode cX10_bestSplit 124 = .ok (.iload_n 3, 1) := by decide +kernel
theorem dX10_bestSplit_125 : decode cX10_bestSplit 125 = .ok (.if_icmp .ge 8, 3) := by decide +kernel
theorem dX10_bestSplit_128 : decode cX10_bestSplit 128 = .ok (.iload 8, 2) := by decide +kernel
theorem dX10_bestSplit_130 : decode cX10_bestSplit 130 = .ok (.goto 4, 3) := by decide +kernel
theorem dX10_bestSplit_133 : decode cX10_bestSplit 133 = .ok (.iload_n 3, 1) := by decide +kernel
theorem dX10_bestSplit_134 : decode cX10_bestSplit 134 = .ok (.istore_n 3, 1) := by decide +kernel
theorem dX10_bestSplit_135 : decode cX10_bestSplit 135 = .ok (.iinc 6 1, 3) := by decide +kernel
theorem dX10_bestSplit_138 : decode cX10_bestSplit 138 = .ok (.goto (-104), 3) := by decide +kernel
theorem dX10_bestSplit_141 : decode cX10_bestSplit 141 = .ok (.iinc 4 1, 3) := by decide +kernel
theorem dX10_bestSplit_144 : decode cX10_bestSplit 144 = .ok (.goto (-139), 3) := by decide +kernel
theorem dX10_bestSplit_147 : decode cX10_bestSplit 147 = .ok (.iload_n 3, 1) := by decide +kernel
theorem dX10_bestSplit_148 : decode cX10_bestSplit 148 = .ok (.iconst (-1), 1) := by decide +kernel
theorem dX10_bestSplit_149 : decode cX10_bestSplit 149 = .ok (.if_icmp .ne 7, 3) := by decide +kernel
theorem dX10_bestSplit_152 : decode cX10_bestSplit 152 = .ok (.iconst 0, 1) := by decide +kernel
theorem dX10_bestSplit_153 : decode cX10_bestSplit 153 = .ok (.goto 4, 3) := by decide +kernel
theorem dX10_bestSplit_156 : decode cX10_bestSplit 156 = .ok (.iload_n 3, 1) := by decide +kernel
theorem dX10_bestSplit_157 : decode cX10_bestSplit 157 = .ok (.ireturn, 1) := by decide +kernel
theorem dX10_lost_0 : decode cX10_lost 0 = .ok (.aload_n 0, 1) := by decide +kernel
theorem dX10_lost_1 : decode cX10_lost 1 = .ok (.aload_n 0, 1) := by decide +kernel
theorem dX10_lost_2 : decode cX10_lost 2 = .ok (.iload_n 1, 1) := by decide +kernel
theorem dX10_lost_3 : decode cX10_lost 3 = .ok (.iload_n 2, 1) := by decide +kernel
theorem dX10_lost_4 : decode cX10_lost 4 = .ok (.invokevirtual 189, 3) := by decide +kernel
theorem dX10_lost_7 : decode cX10_lost 7 = .ok (.invokevirtual 103, 3) := by decide +kernel
theorem dX10_lost_10 : decode cX10_lost 10 = .ok (.ifCond .ne 5, 3) := by decide +kernel
theorem dX10_lost_13 : decode cX10_lost 13 = .ok (.iconst 0, 1) := by decide +kernel
theorem dX10_lost_14 : decode cX10_lost 14 = .ok (.ireturn, 1) := by decide +kernel
theorem dX10_lost_15 : decode cX10_lost 15 = .ok (.aload_n 0, 1) := by decide +kernel
theorem dX10_lost_16 : decode cX10_lost 16 = .ok (.iload_n 1, 1) := by decide +kernel
theorem dX10_lost_17 : decode cX10_lost 17 = .ok (.invokevirtual 195, 3) := by decide +kernel
theorem dX10_lost_20 : decode cX10_lost 20 = .ok (.istore_n 3, 1) := by decide +kernel
theorem dX10_lost_21 : decode cX10_lost 21 = .ok (.iload_n 3, 1) := by decide +kernel
theorem dX10_lost_22 : decode cX10_lost 22 = .ok (.iconst (-1), 1) := by decide +kernel
theorem dX10_lost_23 : decode cX10_lost 23 = .ok (.if_icmp .eq 12, 3) := by decide +kernel
theorem dX10_lost_26 : decode cX10_lost 26 = .ok (.aload_n 0, 1) := by decide +kernel
theorem dX10_lost_27 : decode cX10_lost 27 = .ok (.iload_n 1, 1) := by decide +kernel
theorem dX10_lost_28 : decode cX10_lost 28 = .ok (.iload_n 2, 1) := by decide +kernel
theorem dX10_lost_29 : decode cX10_lost 29 = .ok (.invokevirtual 186, 3) := by decide +kernel
theorem dX10_lost_32 : decode cX10_lost 32 = .ok (.ifCond .eq 5, 3) := by decide +kernel
theorem dX10_lost_35 : decode cX10_lost 35 = .ok (.iconst (-1), 1) := by decide +kernel
theorem dX10_lost_36 : decode cX10_lost 36 = .ok (.ireturn, 1) := by decide +kernel
theorem dX10_lost_37 : decode cX10_lost 37 = .ok (.bipush 6, 2) := by decide +kernel
theorem dX10_lost_39 : decode cX10_lost 39 = .ok (.aload_n 0, 1) := by decide +kernel
theorem dX10_lost_40 : decode cX10_lost 40 = .ok (.getfield 29, 3) := by decide +kernel
theorem dX10_lost_43 : decode cX10_lost 43 = .ok (.iload_n 1, 1) := by decide +kernel
theorem dX10_lost_44 : decode cX10_lost 44 = .ok (.iaload, 1) := by decide +kernel
theorem dX10_lost_45 : decode cX10_lost 45 = .ok (.imul, 1) := by decide +kernel
theorem dX10_lost_46 : decode cX10_lost 46 = .ok (.istore 4, 2) := by decide +kernel
theorem dX10_lost_48 : decode cX10_lost 48 = .ok (.iconst 0, 1) := by decide +kernel
theorem dX10_lost_49 : decode cX10_lost 49 = .ok (.istore 5, 2) := by decide +kernel
theorem dX10_lost_51 : decode cX10_lost 51 = .ok (.iconst 0, 1) := by decide +kernel
theorem dX10_lost_52 : decode cX10_lost 52 = .ok (.istore 6, 2) := by decide +kernel
theorem dX10_lost_54 : decode cX10_lost 54 = .ok (.iconst 0, 1) := by decide +kernel
theorem dX10_lost_55 : decode cX10_lost 55 = .ok (.istore 7, 2) := by decide +kernel
theorem dX10_lost_57 : decode cX10_lost 57 = .ok (.iload 7, 2) := by decide +kernel
theorem dX10_lost_59 : decode cX10_lost 59 = .ok (.aload_n 0, 1) := by decide +kernel
theorem dX10_lost_60 : decode cX10_lost 60 = .ok (.getfield 26, 3) := by decide +kernel
theorem dX10_lost_63 : decode cX10_lost 63 = .ok (.aload_n 0, 1) := by decide +kernel
theorem dX10_lost_64 : decode cX10_lost 64 = .ok (.getfield 29, 3) := by decide +kernel
theorem dX10_lost_67 : decode cX10_lost 67 = .ok (.iload_n 1, 1) := by decide +kernel
theorem dX10_lost_68 : decode cX10_lost 68 = .ok (.iaload, 1) := by decide +kernel
theorem dX10_lost_69 : decode cX10_lost 69 = .ok (.iaload, 1) := by decide +kernel
theorem dX10_lost_70 : decode cX10_lost 70 = .ok (.iconst 1, 1) := by decide +kernel
theorem dX10_lost_71 : decode cX10_lost 71 = .ok (.isub, 1) := by decide +kernel
theorem dX10_lost_72 : decode cX10_lost 72 = .ok (.if_icmp .ge 73, 3) := by decide +kernel
theorem dX10_lost_75 : decode cX10_lost 75 = .ok (.aload_n 0, 1) := by decide +kernel
theorem dX10_lost_76 : decode cX10_lost 76 = .ok (.iload_n 1, 1) := by decide +kernel
theorem dX10_lost_77 : decode cX10_lost 77 = .ok (.iload 7, 2) := by decide +kernel
theorem dX10_lost_79 : decode cX10_lost 79 = .ok (.invokevirtual 186, 3) := by decide +kernel
theorem dX10_lost_82 : decode cX10_lost 82 = .ok (.ifCond .eq 7, 3) := by decide +kernel
theorem dX10_lost_85 : decode cX10_lost 85 = .ok (.iconst 0, 1) := by decide +kernel
theorem dX10_lost_86 : decode cX10_lost 86 = .ok (.goto 29, 3) := by decide +kernel
theorem dX10_lost_89 : decode cX10_lost 89 = .ok (.aload_n 0, 1) := by decide +kernel
theorem dX10_lost_90 : decode cX10_lost 90 = .ok (.aload_n 0, 1) := by decide +kernel
theorem dX10_lost_91 : decode cX10_lost 91 = .ok (.getfield 23, 3) := by decide +kernel
theorem dX10_lost_94 : decode cX10_lost 94 = .ok (.iload 4, 2) := by decide +kernel
theorem dX10_lost_96 : decode cX10_lost 96 = .ok (.iload 7, 2) := by decide +kernel
theorem dX10_lost_98 : decode cX10_lost 98 = .ok (.iadd, 1) := by decide +kernel
theorem dX10_lost_99 : decode cX10_lost 99 = .ok (.iaload, 1) := by decide +kernel
theorem dX10_lost_100 : decode cX10_lost 100 = .ok (.aload_n 0, 1) := by decide +kernel
theorem dX10_lost_101 : decode cX10_lost 101 = .ok (.getfield 23, 3) := by decide +kernel
theorem dX10_lost_104 : decode cX10_lost 104 = .ok (.iload 4, 2) := by decide +kernel
theorem dX10_lost_106 : decode cX10_lost 106 = .ok (.iload 7, 2) := by decide +kernel
theorem dX10_lost_108 : decode cX10_lost 108 = .ok (.iadd, 1) := by decide +kernel
theorem dX10_lost_109 : decode cX10_lost 109 = .ok (.iconst 1, 1) := by decide +kernel
theorem dX10_lost_110 : decode cX10_lost 110 = .ok (.iadd, 1) := by decide +kernel
theorem dX10_lost_111 : decode cX10_lost 111 = .ok (.iaload, 1) := by decide +kernel
theorem dX10_lost_112 : decode cX10_lost 112 = .ok (.invokevirtual 198, 3) := by decide +kernel
theorem dX10_lost_115 : decode cX10_lost 115 = .ok (.istore 8, 2) := by decide +kernel
theorem dX10_lost_117 : decode cX10_lost 117 = .ok (.iload 5, 2) := by decide +kernel
theorem dX10_lost_119 : decode cX10_lost 119 = .ok (.iload 8, 2) := by decide +kernel
theorem dX10_lost_121 : decode cX10_lost 121 = .ok (.iadd, 1) := by decide +kernel
theorem dX10_lost_122 : decode cX10_lost 122 = .ok (.istore 5, 2) := by decide +kernel
theorem dX10_lost_124 : decode cX10_lost 124 = .ok (.iload 7, 2) := by decide +kernel
theorem dX10_lost_126 : decode cX10_lost 126 = .ok (.iload_n 2, 1) := by decide +kernel
theorem dX10_lost_127 : decode cX10_lost 127 = .ok (.if_icmp .ne 8, 3) := by decide +kernel
theorem dX10_lost_130 : decode cX10_lost 130 = .ok (.iload 8, 2) := by decide +kernel
theorem dX10_lost_132 : decode cX10_lost 132 = .ok (.goto 5, 3) := by decide +kernel
theorem dX10_lost_135 : decode cX10_lost 135 = .ok (.iload 6, 2) := by decide +kernel
theorem dX10_lost_137 : decode cX10_lost 137 = .ok (.istore 6, 2) := by decide +kernel
theorem dX10_lost_139 : decode cX10_lost 139 = .ok (.iinc 7 1, 3) := by decide +kernel
theorem dX10_lost_142 : decode cX10_lost 142 = .ok (.goto (-85), 3) := by decide +kernel
theorem dX10_lost_145 : decode cX10_lost 145 = .ok (.iload 5, 2) := by decide +kernel
theorem dX10_lost_147 : decode cX10_lost 147 = .ok (.ifCond .ne 9, 3) := by decide +kernel
theorem dX10_lost_150 : decode cX10_lost 150 = .ok (.ldc2_w 201, 3) := by decide +kernel
theorem dX10_lost_153 : decode cX10_lost 153 = .ok (.goto 13, 3) := by decide +kernel
theorem dX10_lost_156 : decode cX10_lost 156 = .ok (.ldc2_w 201, 3) := by decide +kernel
theorem dX10_lost_159 : decode cX10_lost 159 = .ok (.iload_n 3, 1) := by decide +kernel
theorem dX10_lost_160 : decode cX10_lost 160 = .ok (.i2l, 1) := by decide +kernel
theorem dX10_lost_161 : decode cX10_lost 161 = .ok (.lmul, 1) := by decide +kernel
theorem dX10_lost_162 : decode cX10_lost 162 = .ok (.iload 5, 2) := by decide +kernel
theorem dX10_lost_164 : decode cX10_lost 164 = .ok (.i2l, 1) := by decide +kernel
theorem dX10_lost_165 : decode cX10_lost 165 = .ok (.ldiv, 1) := by decide +kernel
theorem dX10_lost_166 : decode cX10_lost 166 = .ok (.lstore 7, 2) := by decide +kernel
theorem dX10_lost_168 : decode cX10_lost 168 = .ok (.aload_n 0, 1) := by decide +kernel
theorem dX10_lost_169 : decode cX10_lost 169 = .ok (.iload_n 1, 1) := by decide +kernel
theorem dX10_lost_170 : decode cX10_lost 170 = .ok (.invokevirtual 180, 3) := by decide +kernel
theorem dX10_lost_173 : decode cX10_lost 173 = .ok (.pop, 1) := by decide +kernel
theorem dX10_lost_174 : decode cX10_lost 174 = .ok (.aload_n 0, 1) := by decide +kernel
theorem dX10_lost_175 : decode cX10_lost 175 = .ok (.iload_n 1, 1) := by decide +kernel
theorem dX10_lost_176 : decode cX10_lost 176 = .ok (.iload_n 2, 1) := by decide +kernel
theorem dX10_lost_177 : decode cX10_lost 177 = .ok (.invokevirtual 192, 3) := by decide +kernel
theorem dX10_lost_180 : decode cX10_lost 180 = .ok (.iload 6, 2) := by decide +kernel
theorem dX10_lost_182 : decode cX10_lost 182 = .ok (.i2l, 1) := by decide +kernel
theorem dX10_lost_183 : decode cX10_lost 183 = .ok (.lload 7, 2) := by decide +kernel
theorem dX10_lost_185 : decode cX10_lost 185 = .ok (.lmul, 1) := by decide +kernel
theorem dX10_lost_186 : decode cX10_lost 186 = .ok (.ldc2_w 201, 3) := by decide +kernel
theorem dX10_lost_189 : decode cX10_lost 189 = .ok (.ldiv, 1) := by decide +kernel
theorem dX10_lost_190 : decode cX10_lost 190 = .ok (.l2i, 1) := by decide +kernel
theorem dX10_lost_191 : decode cX10_lost 191 = .ok (.isub, 1) := by decide +kernel
theorem dX10_lost_192 : decode cX10_lost 192 = .ok (.istore 9, 2) := by decide +kernel
theorem dX10_lost_194 : decode cX10_lost 194 = .ok (.iload 9, 2) := by decide +kernel
theorem dX10_lost_196 : decode cX10_lost 196 = .ok (.ifCond .le 8, 3) := by decide +kernel
theorem dX10_lost_199 : decode cX10_lost 199 = .ok (.iload 9, 2) := by decide +kernel
theorem dX10_lost_201 : decode cX10_lost 201 = .ok (.goto 4, 3) := by decide +kernel
theorem dX10_lost_204 : decode cX10_lost 204 = .ok (.iconst 0, 1) := by decide +kernel
theorem dX10_lost_205 : decode cX10_lost 205 = .ok (.ireturn, 1) := by decide +kernel
