set_option maxRecDepth 20000
theorem d_X10_init_0 : decode m_X10_init.2.1 0 = .ok (.aload_n 0, 1) := by decide +kernel
theorem d_X10_init_1 : decode m_X10_init.2.1 1 = .ok (.invokespecial 1, 3) := by decide +kernel
theorem d_X10_init_4 : decode m_X10_init.2.1 4 = .ok (.aload_n 0, 1) := by decide +kernel
theorem d_X10_init_5 : decode m_X10_init.2.1 5 = .ok (.sipush 812, 3) := by decide +kernel
theorem d_X10_init_8 : decode m_X10_init.2.1 8 = .ok (.newarray .int, 2) := by decide +kernel
theorem d_X10_init_10 : decode m_X10_init.2.1 10 = .ok (.putfield 7, 3) := by decide +kernel
theorem d_X10_init_13 : decode m_X10_init.2.1 13 = .ok (.aload_n 0, 1) := by decide +kernel
theorem d_X10_init_14 : decode m_X10_init.2.1 14 = .ok (.sipush 3248, 3) := by decide +kernel
theorem d_X10_init_17 : decode m_X10_init.2.1 17 = .ok (.newarray .int, 2) := by decide +kernel
theorem d_X10_init_19 : decode m_X10_init.2.1 19 = .ok (.putfield 13, 3) := by decide +kernel
theorem d_X10_init_22 : decode m_X10_init.2.1 22 = .ok (.aload_n 0, 1) := by decide +kernel
theorem d_X10_init_23 : decode m_X10_init.2.1 23 = .ok (.sipush 1624, 3) := by decide +kernel
theorem d_X10_init_26 : decode m_X10_init.2.1 26 = .ok (.newarray .int, 2) := by decide +kernel
theorem d_X10_init_28 : decode m_X10_init.2.1 28 = .ok (.putfield 16, 3) := by decide +kernel
theorem d_X10_init_31 : decode m_X10_init.2.1 31 = .ok (.aload_n 0, 1) := by decide +kernel
theorem d_X10_init_32 : decode m_X10_init.2.1 32 = .ok (.iconst 2, 1) := by decide +kernel
theorem d_X10_init_33 : decode m_X10_init.2.1 33 = .ok (.newarray .int, 2) := by decide +kernel
theorem d_X10_init_35 : decode m_X10_init.2.1 35 = .ok (.putfield 19, 3) := by decide +kernel
theorem d_X10_init_38 : decode m_X10_init.2.1 38 = .ok (.aload_n 0, 1) := by decide +kernel
theorem d_X10_init_39 : decode m_X10_init.2.1 39 = .ok (.bipush 80, 2) := by decide +kernel
theorem d_X10_init_41 : decode m_X10_init.2.1 41 = .ok (.newarray .int, 2) := by decide +kernel
theorem d_X10_init_43 : decode m_X10_init.2.1 43 = .ok (.putfield 22, 3) := by decide +kernel
theorem d_X10_init_46 : decode m_X10_init.2.1 46 = .ok (.aload_n 0, 1) := by decide +kernel
theorem d_X10_init_47 : decode m_X10_init.2.1 47 = .ok (.bipush 64, 2) := by decide +kernel
theorem d_X10_init_49 : decode m_X10_init.2.1 49 = .ok (.newarray .int, 2) := by decide +kernel
theorem d_X10_init_51 : decode m_X10_init.2.1 51 = .ok (.putfield 25, 3) := by decide +kernel
theorem d_X10_init_54 : decode m_X10_init.2.1 54 = .ok (.aload_n 0, 1) := by decide +kernel
theorem d_X10_init_55 : decode m_X10_init.2.1 55 = .ok (.bipush 64, 2) := by decide +kernel
theorem d_X10_init_57 : decode m_X10_init.2.1 57 = .ok (.newarray .int, 2) := by decide +kernel
theorem d_X10_init_59 : decode m_X10_init.2.1 59 = .ok (.putfield 28, 3) := by decide +kernel
theorem d_X10_init_62 : decode m_X10_init.2.1 62 = .ok (.aload_n 0, 1) := by decide +kernel
theorem d_X10_init_63 : decode m_X10_init.2.1 63 = .ok (.bipush 64, 2) := by decide +kernel
theorem d_X10_init_65 : decode m_X10_init.2.1 65 = .ok (.newarray .int, 2) := by decide +kernel
theorem d_X10_init_67 : decode m_X10_init.2.1 67 = .ok (.putfield 31, 3) := by decide +kernel
theorem d_X10_init_70 : decode m_X10_init.2.1 70 = .ok (.aload_n 0, 1) := by decide +kernel
theorem d_X10_init_71 : decode m_X10_init.2.1 71 = .ok (.sipush 1100, 3) := by decide +kernel
theorem d_X10_init_74 : decode m_X10_init.2.1 74 = .ok (.newarray .int, 2) := by decide +kernel
theorem d_X10_init_76 : decode m_X10_init.2.1 76 = .ok (.putfield 34, 3) := by decide +kernel
theorem d_X10_init_79 : decode m_X10_init.2.1 79 = .ok (.aload_n 0, 1) := by decide +kernel
theorem d_X10_init_80 : decode m_X10_init.2.1 80 = .ok (.sipush 1100, 3) := by decide +kernel
theorem d_X10_init_83 : decode m_X10_init.2.1 83 = .ok (.newarray .int, 2) := by decide +kernel
theorem d_X10_init_85 : decode m_X10_init.2.1 85 = .ok (.putfield 37, 3) := by decide +kernel
theorem d_X10_init_88 : decode m_X10_init.2.1 88 = .ok (.aload_n 0, 1) := by decide +kernel
theorem d_X10_init_89 : decode m_X10_init.2.1 89 = .ok (.sipush 1100, 3) := by decide +kernel
theorem d_X10_init_92 : decode m_X10_init.2.1 92 = .ok (.newarray .int, 2) := by decide +kernel
theorem d_X10_init_94 : decode m_X10_init.2.1 94 = .ok (.putfield 40, 3) := by decide +kernel
theorem d_X10_init_97 : decode m_X10_init.2.1 97 = .ok (.aload_n 0, 1) := by decide +kernel
theorem d_X10_init_98 : decode m_X10_init.2.1 98 = .ok (.sipush 3300, 3) := by decide +kernel
theorem d_X10_init_101 : decode m_X10_init.2.1 101 = .ok (.newarray .long, 2) := by decide +kernel
theorem d_X10_init_103 : decode m_X10_init.2.1 103 = .ok (.putfield 43, 3) := by decide +kernel
theorem d_X10_init_106 : decode m_X10_init.2.1 106 = .ok (.aload_n 0, 1) := by decide +kernel
theorem d_X10_init_107 : decode m_X10_init.2.1 107 = .ok (.sipush 3300, 3) := by decide +kernel
theorem d_X10_init_110 : decode m_X10_init.2.1 110 = .ok (.newarray .long, 2) := by decide +kernel
theorem d_X10_init_112 : decode m_X10_init.2.1 112 = .ok (.putfield 47, 3) := by decide +kernel
theorem d_X10_init_115 : decode m_X10_init.2.1 115 = .ok (.aload_n 0, 1) := by decide +kernel
theorem d_X10_init_116 : decode m_X10_init.2.1 116 = .ok (.sipush 3300, 3) := by decide +kernel
theorem d_X10_init_119 : decode m_X10_init.2.1 119 = .ok (.newarray .long, 2) := by decide +kernel
theorem d_X10_init_121 : decode m_X10_init.2.1 121 = .ok (.putfield 50, 3) := by decide +kernel
theorem d_X10_init_124 : decode m_X10_init.2.1 124 = .ok (.aload_n 0, 1) := by decide +kernel
theorem d_X10_init_125 : decode m_X10_init.2.1 125 = .ok (.iconst 3, 1) := by decide +kernel
theorem d_X10_init_126 : decode m_X10_init.2.1 126 = .ok (.newarray .long, 2) := by decide +kernel
theorem d_X10_init_128 : decode m_X10_init.2.1 128 = .ok (.putfield 53, 3) := by decide +kernel
theorem d_X10_init_131 : decode m_X10_init.2.1 131 = .ok (.aload_n 0, 1) := by decide +kernel
theorem d_X10_init_132 : decode m_X10_init.2.1 132 = .ok (.iconst 3, 1) := by decide +kernel
theorem d_X10_init_133 : decode m_X10_init.2.1 133 = .ok (.newarray .long, 2) := by decide +kernel
theorem d_X10_init_135 : decode m_X10_init.2.1 135 = .ok (.putfield 56, 3) := by decide +kernel
theorem d_X10_init_138 : decode m_X10_init.2.1 138 = .ok (.aload_n 0, 1) := by decide +kernel
theorem d_X10_init_139 : decode m_X10_init.2.1 139 = .ok (.iconst 3, 1) := by decide +kernel
theorem d_X10_init_140 : decode m_X10_init.2.1 140 = .ok (.newarray .long, 2) := by decide +kernel
theorem d_X10_init_142 : decode m_X10_init.2.1 142 = .ok (.putfield 59, 3) := by decide +kernel
theorem d_X10_init_145 : decode m_X10_init.2.1 145 = .ok (.aload_n 0, 1) := by decide +kernel
theorem d_X10_init_146 : decode m_X10_init.2.1 146 = .ok (.iconst 3, 1) := by decide +kernel
theorem d_X10_init_147 : decode m_X10_init.2.1 147 = .ok (.newarray .long, 2) := by decide +kernel
theorem d_X10_init_149 : decode m_X10_init.2.1 149 = .ok (.putfield 62, 3) := by decide +kernel
theorem d_X10_init_152 : decode m_X10_init.2.1 152 = .ok (.aload_n 0, 1) := by decide +kernel
theorem d_X10_init_153 : decode m_X10_init.2.1 153 = .ok (.iconst 3, 1) := by decide +kernel
theorem d_X10_init_154 : decode m_X10_init.2.1 154 = .ok (.newarray .long, 2) := by decide +kernel
theorem d_X10_init_156 : decode m_X10_init.2.1 156 = .ok (.putfield 65, 3) := by decide +kernel
theorem d_X10_init_159 : decode m_X10_init.2.1 159 = .ok (.aload_n 0, 1) := by decide +kernel
theorem d_X10_init_160 : decode m_X10_init.2.1 160 = .ok (.bipush 80, 2) := by decide +kernel
theorem d_X10_init_162 : decode m_X10_init.2.1 162 = .ok (.newarray .long, 2) := by decide +kernel
theorem d_X10_init_164 : decode m_X10_init.2.1 164 = .ok (.putfield 68, 3) := by decide +kernel
theorem d_X10_init_167 : decode m_X10_init.2.1 167 = .ok (.aload_n 0, 1) := by decide +kernel
theorem d_X10_init_168 : decode m_X10_init.2.1 168 = .ok (.sipush 160, 3) := by decide +kernel
theorem d_X10_init_171 : decode m_X10_init.2.1 171 = .ok (.newarray .int, 2) := by decide +kernel
theorem d_X10_init_173 : decode m_X10_init.2.1 173 = .ok (.putfield 71, 3) := by decide +kernel
theorem d_X10_init_176 : decode m_X10_init.2.1 176 = .ok (.aload_n 0, 1) := by decide +kernel
theorem d_X10_init_177 : decode m_X10_init.2.1 177 = .ok (.getfield 7, 3) := by decide +kernel
theorem d_X10_init_180 : decode m_X10_init.2.1 180 = .ok (.iconst 0, 1) := by decide +kernel
theorem d_X10_init_181 : decode m_X10_init.2.1 181 = .ok (.bipush 100, 2) := by decide +kernel
theorem d_X10_init_183 : decode m_X10_init.2.1 183 = .ok (.iastore, 1) := by decide +kernel
theorem d_X10_init_184 : decode m_X10_init.2.1 184 = .ok (.aload_n 0, 1) := by decide +kernel
theorem d_X10_init_185 : decode m_X10_init.2.1 185 = .ok (.getfield 7, 3) := by decide +kernel
theorem d_X10_init_188 : decode m_X10_init.2.1 188 = .ok (.iconst 1, 1) := by decide +kernel
theorem d_X10_init_189 : decode m_X10_init.2.1 189 = .ok (.iconst 1, 1) := by decide +kernel
theorem d_X10_init_190 : decode m_X10_init.2.1 190 = .ok (.iastore, 1) := by decide +kernel
theorem d_X10_init_191 : decode m_X10_init.2.1 191 = .ok (.aload_n 0, 1) := by decide +kernel
theorem d_X10_init_192 : decode m_X10_init.2.1 192 = .ok (.getfield 7, 3) := by decide +kernel
theorem d_X10_init_195 : decode m_X10_init.2.1 195 = .ok (.iconst 2, 1) := by decide +kernel
theorem d_X10_init_196 : decode m_X10_init.2.1 196 = .ok (.iconst 2, 1) := by decide +kernel
theorem d_X10_init_197 : decode m_X10_init.2.1 197 = .ok (.iastore, 1) := by decide +kernel
theorem d_X10_init_198 : decode m_X10_init.2.1 198 = .ok (.iconst 0, 1) := by decide +kernel
theorem d_X10_init_199 : decode m_X10_init.2.1 199 = .ok (.istore_n 1, 1) := by decide +kernel
theorem d_X10_init_200 : decode m_X10_init.2.1 200 = .ok (.iload_n 1, 1) := by decide +kernel
theorem d_X10_init_201 : decode m_X10_init.2.1 201 = .ok (.iconst 3, 1) := by decide +kernel
theorem d_X10_init_202 : decode m_X10_init.2.1 202 = .ok (.if_icmp .ge 38, 3) := by decide +kernel
theorem d_X10_init_205 : decode m_X10_init.2.1 205 = .ok (.aload_n 0, 1) := by decide +kernel
theorem d_X10_init_206 : decode m_X10_init.2.1 206 = .ok (.getfield 7, 3) := by decide +kernel
theorem d_X10_init_209 : decode m_X10_init.2.1 209 = .ok (.bipush 48, 2) := by decide +kernel
theorem d_X10_init_211 : decode m_X10_init.2.1 211 = .ok (.bipush 81, 2) := by decide +kernel
theorem d_X10_init_213 : decode m_X10_init.2.1 213 = .ok (.iload_n 1, 1) := by decide +kernel
theorem d_X10_init_214 : decode m_X10_init.2.1 214 = .ok (.imul, 1) := by decide +kernel
theorem d_X10_init_215 : decode m_X10_init.2.1 215 = .ok (.iadd, 1) := by decide +kernel
theorem d_X10_init_216 : decode m_X10_init.2.1 216 = .ok (.iconst 1, 1) := by decide +kernel
theorem d_X10_init_217 : decode m_X10_init.2.1 217 = .ok (.iastore, 1) := by decide +kernel
theorem d_X10_init_218 : decode m_X10_init.2.1 218 = .ok (.aload_n 0, 1) := by decide +kernel
theorem d_X10_init_219 : decode m_X10_init.2.1 219 = .ok (.getfield 7, 3) := by decide +kernel
theorem d_X10_init_222 : decode m_X10_init.2.1 222 = .ok (.bipush 48, 2) := by decide +kernel
theorem d_X10_init_224 : decode m_X10_init.2.1 224 = .ok (.bipush 81, 2) := by decide +kernel
theorem d_X10_init_226 : decode m_X10_init.2.1 226 = .ok (.iload_n 1, 1) := by decide +kernel
theorem d_X10_init_227 : decode m_X10_init.2.1 227 = .ok (.imul, 1) := by decide +kernel
theorem d_X10_init_228 : decode m_X10_init.2.1 228 = .ok (.iadd, 1) := by decide +kernel
theorem d_X10_init_229 : decode m_X10_init.2.1 229 = .ok (.iconst 1, 1) := by decide +kernel
theorem d_X10_init_230 : decode m_X10_init.2.1 230 = .ok (.iadd, 1) := by decide +kernel
theorem d_X10_init_231 : decode m_X10_init.2.1 231 = .ok (.bipush 48, 2) := by decide +kernel
theorem d_X10_init_233 : decode m_X10_init.2.1 233 = .ok (.iastore, 1) := by decide +kernel
theorem d_X10_init_234 : decode m_X10_init.2.1 234 = .ok (.iinc 1 1, 3) := by decide +kernel
theorem d_X10_init_237 : decode m_X10_init.2.1 237 = .ok (.goto (-37), 3) := by decide +kernel
theorem d_X10_init_240 : decode m_X10_init.2.1 240 = .ok (.aload_n 0, 1) := by decide +kernel
theorem d_X10_init_241 : decode m_X10_init.2.1 241 = .ok (.invokevirtual 74, 3) := by decide +kernel
theorem d_X10_init_244 : decode m_X10_init.2.1 244 = .ok (.return_, 1) := by decide +kernel
theorem d_X10_within_0 : decode m_X10_within.2.1 0 = .ok (.iload_n 0, 1) := by decide +kernel
theorem d_X10_within_1 : decode m_X10_within.2.1 1 = .ok (.iload_n 1, 1) := by decide +kernel
theorem d_X10_within_2 : decode m_X10_within.2.1 2 = .ok (.if_icmp .lt 12, 3) := by decide +kernel
theorem d_X10_within_5 : decode m_X10_within.2.1 5 = .ok (.iload_n 0, 1) := by decide +kernel
theorem d_X10_within_6 : decode m_X10_within.2.1 6 = .ok (.iload_n 2, 1) := by decide +kernel
theorem d_X10_within_7 : decode m_X10_within.2.1 7 = .ok (.if_icmp .gt 7, 3) := by decide +kernel
theorem d_X10_within_10 : decode m_X10_within.2.1 10 = .ok (.iconst 1, 1) := by decide +kernel
theorem d_X10_within_11 : decode m_X10_within.2.1 11 = .ok (.goto 4, 3) := by decide +kernel
theorem d_X10_within_14 : decode m_X10_within.2.1 14 = .ok (.iconst 0, 1) := by decide +kernel
theorem d_X10_within_15 : decode m_X10_within.2.1 15 = .ok (.ireturn, 1) := by decide +kernel
theorem d_X10_held_0 : decode m_X10_held.2.1 0 = .ok (.lload_n 0, 1) := by decide +kernel
theorem d_X10_held_1 : decode m_X10_held.2.1 1 = .ok (.ldc2_w 77, 3) := by decide +kernel
theorem d_X10_held_4 : decode m_X10_held.2.1 4 = .ok (.lcmp, 1) := by decide +kernel
theorem d_X10_held_5 : decode m_X10_held.2.1 5 = .ok (.ifCond .ge 9, 3) := by decide +kernel
theorem d_X10_held_8 : decode m_X10_held.2.1 8 = .ok (.ldc2_w 77, 3) := by decide +kernel
theorem d_X10_held_11 : decode m_X10_held.2.1 11 = .ok (.goto 18, 3) := by decide +kernel
theorem d_X10_held_14 : decode m_X10_held.2.1 14 = .ok (.lload_n 0, 1) := by decide +kernel
theorem d_X10_held_15 : decode m_X10_held.2.1 15 = .ok (.ldc2_w 79, 3) := by decide +kernel
theorem d_X10_held_18 : decode m_X10_held.2.1 18 = .ok (.lcmp, 1) := by decide +kernel
theorem d_X10_held_19 : decode m_X10_held.2.1 19 = .ok (.ifCond .le 9, 3) := by decide +kernel
theorem d_X10_held_22 : decode m_X10_held.2.1 22 = .ok (.ldc2_w 79, 3) := by decide +kernel
theorem d_X10_held_25 : decode m_X10_held.2.1 25 = .ok (.goto 4, 3) := by decide +kernel
theorem d_X10_held_28 : decode m_X10_held.2.1 28 = .ok (.lload_n 0, 1) := by decide +kernel
theorem d_X10_held_29 : decode m_X10_held.2.1 29 = .ok (.lreturn, 1) := by decide +kernel
theorem d_X10_saves_0 : decode m_X10_saves.2.1 0 = .ok (.aload_n 0, 1) := by decide +kernel
theorem d_X10_saves_1 : decode m_X10_saves.2.1 1 = .ok (.getfield 81, 3) := by decide +kernel
theorem d_X10_saves_4 : decode m_X10_saves.2.1 4 = .ok (.iconst 4, 1) := by decide +kernel
theorem d_X10_saves_5 : decode m_X10_saves.2.1 5 = .ok (.if_icmp .ne 44, 3) := by decide +kernel
theorem d_X10_saves_8 : decode m_X10_saves.2.1 8 = .ok (.iconst 0, 1) := by decide +kernel
theorem d_X10_saves_9 : decode m_X10_saves.2.1 9 = .ok (.istore_n 1, 1) := by decide +kernel
theorem d_X10_saves_10 : decode m_X10_saves.2.1 10 = .ok (.iload_n 1, 1) := by decide +kernel
theorem d_X10_saves_11 : decode m_X10_saves.2.1 11 = .ok (.sipush 2436, 3) := by decide +kernel
theorem d_X10_saves_14 : decode m_X10_saves.2.1 14 = .ok (.if_icmp .ge 25, 3) := by decide +kernel
theorem d_X10_saves_17 : decode m_X10_saves.2.1 17 = .ok (.aload_n 0, 1) := by decide +kernel
theorem d_X10_saves_18 : decode m_X10_saves.2.1 18 = .ok (.getfield 13, 3) := by decide +kernel
theorem d_X10_saves_21 : decode m_X10_saves.2.1 21 = .ok (.iload_n 1, 1) := by decide +kernel
theorem d_X10_saves_22 : decode m_X10_saves.2.1 22 = .ok (.aload_n 0, 1) := by decide +kernel
theorem d_X10_saves_23 : decode m_X10_saves.2.1 23 = .ok (.getfield 13, 3) := by decide +kernel
theorem d_X10_saves_26 : decode m_X10_saves.2.1 26 = .ok (.iload_n 1, 1) := by decide +kernel
theorem d_X10_saves_27 : decode m_X10_saves.2.1 27 = .ok (.sipush 812, 3) := by decide +kernel
theorem d_X10_saves_30 : decode m_X10_saves.2.1 30 = .ok (.iadd, 1) := by decide +kernel
theorem d_X10_saves_31 : decode m_X10_saves.2.1 31 = .ok (.iaload, 1) := by decide +kernel
theorem d_X10_saves_32 : decode m_X10_saves.2.1 32 = .ok (.iastore, 1) := by decide +kernel
theorem d_X10_saves_33 : decode m_X10_saves.2.1 33 = .ok (.iinc 1 1, 3) := by decide +kernel
theorem d_X10_saves_36 : decode m_X10_saves.2.1 36 = .ok (.goto (-26), 3) := by decide +kernel
theorem d_X10_saves_39 : decode m_X10_saves.2.1 39 = .ok (.aload_n 0, 1) := by decide +kernel
theorem d_X10_saves_40 : decode m_X10_saves.2.1 40 = .ok (.dup, 1) := by decide +kernel
theorem d_X10_saves_41 : decode m_X10_saves.2.1 41 = .ok (.getfield 81, 3) := by decide +kernel
theorem d_X10_saves_44 : decode m_X10_saves.2.1 44 = .ok (.iconst 1, 1) := by decide +kernel
theorem d_X10_saves_45 : decode m_X10_saves.2.1 45 = .ok (.isub, 1) := by decide +kernel
theorem d_X10_saves_46 : decode m_X10_saves.2.1 46 = .ok (.putfield 81, 3) := by decide +kernel
theorem d_X10_saves_49 : decode m_X10_saves.2.1 49 = .ok (.iconst 0, 1) := by decide +kernel
theorem d_X10_saves_50 : decode m_X10_saves.2.1 50 = .ok (.istore_n 1, 1) := by decide +kernel
theorem d_X10_saves_51 : decode m_X10_saves.2.1 51 = .ok (.iload_n 1, 1) := by decide +kernel
theorem d_X10_saves_52 : decode m_X10_saves.2.1 52 = .ok (.sipush 812, 3) := by decide +kernel
theorem d_X10_saves_55 : decode m_X10_saves.2.1 55 = .ok (.if_icmp .ge 30, 3) := by decide +kernel
theorem d_X10_saves_58 : decode m_X10_saves.2.1 58 = .ok (.aload_n 0, 1) := by decide +kernel
theorem d_X10_saves_59 : decode m_X10_saves.2.1 59 = .ok (.getfield 13, 3) := by decide +kernel
theorem d_X10_saves_62 : decode m_X10_saves.2.1 62 = .ok (.sipush 812, 3) := by decide +kernel
theorem d_X10_saves_65 : decode m_X10_saves.2.1 65 = .ok (.aload_n 0, 1) := by decide +kernel
theorem d_X10_saves_66 : decode m_X10_saves.2.1 66 = .ok (.getfield 81, 3) := by decide +kernel
theorem d_X10_saves_69 : decode m_X10_saves.2.1 69 = .ok (.imul, 1) := by decide +kernel
theorem d_X10_saves_70 : decode m_X10_saves.2.1 70 = .ok (.iload_n 1, 1) := by decide +kernel
theorem d_X10_saves_71 : decode m_X10_saves.2.1 71 = .ok (.iadd, 1) := by decide +kernel
theorem d_X10_saves_72 : decode m_X10_saves.2.1 72 = .ok (.aload_n 0, 1) := by decide +kernel
theorem d_X10_saves_73 : decode m_X10_saves.2.1 73 = .ok (.getfield 7, 3) := by decide +kernel
theorem d_X10_saves_76 : decode m_X10_saves.2.1 76 = .ok (.iload_n 1, 1) := by decide +kernel
theorem d_X10_saves_77 : decode m_X10_saves.2.1 77 = .ok (.iaload, 1) := by decide +kernel
theorem d_X10_saves_78 : decode m_X10_saves.2.1 78 = .ok (.iastore, 1) := by decide +kernel
theorem d_X10_saves_79 : decode m_X10_saves.2.1 79 = .ok (.iinc 1 1, 3) := by decide +kernel
theorem d_X10_saves_82 : decode m_X10_saves.2.1 82 = .ok (.goto (-31), 3) := by decide +kernel
theorem d_X10_saves_85 : decode m_X10_saves.2.1 85 = .ok (.aload_n 0, 1) := by decide +kernel
theorem d_X10_saves_86 : decode m_X10_saves.2.1 86 = .ok (.dup, 1) := by decide +kernel
theorem d_X10_saves_87 : decode m_X10_saves.2.1 87 = .ok (.getfield 81, 3) := by decide +kernel
theorem d_X10_saves_90 : decode m_X10_saves.2.1 90 = .ok (.iconst 1, 1) := by decide +kernel
theorem d_X10_saves_91 : decode m_X10_saves.2.1 91 = .ok (.iadd, 1) := by decide +kernel
theorem d_X10_saves_92 : decode m_X10_saves.2.1 92 = .ok (.putfield 81, 3) := by decide +kernel
theorem d_X10_saves_95 : decode m_X10_saves.2.1 95 = .ok (.return_, 1) := by decide +kernel
theorem d_X10_undo_0 : decode m_X10_undo.2.1 0 = .ok (.aload_n 0, 1) := by decide +kernel
theorem d_X10_undo_1 : decode m_X10_undo.2.1 1 = .ok (.getfield 81, 3) := by decide +kernel
theorem d_X10_undo_4 : decode m_X10_undo.2.1 4 = .ok (.ifCond .ne 6, 3) := by decide +kernel
theorem d_X10_undo_7 : decode m_X10_undo.2.1 7 = .ok (.ldc 85, 2) := by decide +kernel
theorem d_X10_undo_9 : decode m_X10_undo.2.1 9 = .ok (.ireturn, 1) := by decide +kernel
theorem d_X10_undo_10 : decode m_X10_undo.2.1 10 = .ok (.aload_n 0, 1) := by decide +kernel
theorem d_X10_undo_11 : decode m_X10_undo.2.1 11 = .ok (.dup, 1) := by decide +kernel
theorem d_X10_undo_12 : decode m_X10_undo.2.1 12 = .ok (.getfield 81, 3) := by decide +kernel
theorem d_X10_undo_15 : decode m_X10_undo.2.1 15 = .ok (.iconst 1, 1) := by decide +kernel
theorem d_X10_undo_16 : decode m_X10_undo.2.1 16 = .ok (.isub, 1) := by decide +kernel
theorem d_X10_undo_17 : decode m_X10_undo.2.1 17 = .ok (.putfield 81, 3) := by decide +kernel
theorem d_X10_undo_20 : decode m_X10_undo.2.1 20 = .ok (.iconst 0, 1) := by decide +kernel
theorem d_X10_undo_21 : decode m_X10_undo.2.1 21 = .ok (.istore_n 1, 1) := by decide +kernel
theorem d_X10_undo_22 : decode m_X10_undo.2.1 22 = .ok (.iload_n 1, 1) := by decide +kernel
theorem d_X10_undo_23 : decode m_X10_undo.2.1 23 = .ok (.sipush 812, 3) := by decide +kernel
theorem d_X10_undo_26 : decode m_X10_undo.2.1 26 = .ok (.if_icmp .ge 30, 3) := by decide +kernel
theorem d_X10_undo_29 : decode m_X10_undo.2.1 29 = .ok (.aload_n 0, 1) := by decide +kernel
theorem d_X10_undo_30 : decode m_X10_undo.2.1 30 = .ok (.getfield 7, 3) := by decide +kernel
theorem d_X10_undo_33 : decode m_X10_undo.2.1 33 = .ok (.iload_n 1, 1) := by decide +kernel
theorem d_X10_undo_34 : decode m_X10_undo.2.1 34 = .ok (.aload_n 0, 1) := by decide +kernel
theorem d_X10_undo_35 : decode m_X10_undo.2.1 35 = .ok (.getfield 13, 3) := by decide +kernel
theorem d_X10_undo_38 : decode m_X10_undo.2.1 38 = .ok (.sipush 812, 3) := by decide +kernel
theorem d_X10_undo_41 : decode m_X10_undo.2.1 41 = .ok (.aload_n 0, 1) := by decide +kernel
theorem d_X10_undo_42 : decode m_X10_undo.2.1 42 = .ok (.getfield 81, 3) := by decide +kernel
theorem d_X10_undo_45 : decode m_X10_undo.2.1 45 = .ok (.imul, 1) := by decide +kernel
theorem d_X10_undo_46 : decode m_X10_undo.2.1 46 = .ok (.iload_n 1, 1) := by decide +kernel
theorem d_X10_undo_47 : decode m_X10_undo.2.1 47 = .ok (.iadd, 1) := by decide +kernel
theorem d_X10_undo_48 : decode m_X10_undo.2.1 48 = .ok (.iaload, 1) := by decide +kernel
theorem d_X10_undo_49 : decode m_X10_undo.2.1 49 = .ok (.iastore, 1) := by decide +kernel
theorem d_X10_undo_50 : decode m_X10_undo.2.1 50 = .ok (.iinc 1 1, 3) := by decide +kernel
theorem d_X10_undo_53 : decode m_X10_undo.2.1 53 = .ok (.goto (-31), 3) := by decide +kernel
theorem d_X10_undo_56 : decode m_X10_undo.2.1 56 = .ok (.aload_n 0, 1) := by decide +kernel
theorem d_X10_undo_57 : decode m_X10_undo.2.1 57 = .ok (.invokevirtual 74, 3) := by decide +kernel
theorem d_X10_undo_60 : decode m_X10_undo.2.1 60 = .ok (.aload_n 0, 1) := by decide +kernel
theorem d_X10_undo_61 : decode m_X10_undo.2.1 61 = .ok (.getfield 81, 3) := by decide +kernel
theorem d_X10_undo_64 : decode m_X10_undo.2.1 64 = .ok (.ireturn, 1) := by decide +kernel
theorem d_X10_save_0 : decode m_X10_save.2.1 0 = .ok (.iload_n 1, 1) := by decide +kernel
theorem d_X10_save_1 : decode m_X10_save.2.1 1 = .ok (.iconst 0, 1) := by decide +kernel
theorem d_X10_save_2 : decode m_X10_save.2.1 2 = .ok (.iconst 1, 1) := by decide +kernel
theorem d_X10_save_3 : decode m_X10_save.2.1 3 = .ok (.invokestatic 86, 3) := by decide +kernel
theorem d_X10_save_6 : decode m_X10_save.2.1 6 = .ok (.ifCond .ne 6, 3) := by decide +kernel
theorem d_X10_save_9 : decode m_X10_save.2.1 9 = .ok (.ldc 90, 2) := by decide +kernel
theorem d_X10_save_11 : decode m_X10_save.2.1 11 = .ok (.ireturn, 1) := by decide +kernel
theorem d_X10_save_12 : decode m_X10_save.2.1 12 = .ok (.iconst 0, 1) := by decide +kernel
theorem d_X10_save_13 : decode m_X10_save.2.1 13 = .ok (.istore_n 2, 1) := by decide +kernel
theorem d_X10_save_14 : decode m_X10_save.2.1 14 = .ok (.iload_n 2, 1) := by decide +kernel
theorem d_X10_save_15 : decode m_X10_save.2.1 15 = .ok (.sipush 812, 3) := by decide +kernel
theorem d_X10_save_18 : decode m_X10_save.2.1 18 = .ok (.if_icmp .ge 27, 3) := by decide +kernel
theorem d_X10_save_21 : decode m_X10_save.2.1 21 = .ok (.aload_n 0, 1) := by decide +kernel
theorem d_X10_save_22 : decode m_X10_save.2.1 22 = .ok (.getfield 16, 3) := by decide +kernel
theorem d_X10_save_25 : decode m_X10_save.2.1 25 = .ok (.sipush 812, 3) := by decide +kernel
theorem d_X10_save_28 : decode m_X10_save.2.1 28 = .ok (.iload_n 1, 1) := by decide +kernel
theorem d_X10_save_29 : decode m_X10_save.2.1 29 = .ok (.imul, 1) := by decide +kernel
theorem d_X10_save_30 : decode m_X10_save.2.1 30 = .ok (.iload_n 2, 1) := by decide +kernel
theorem d_X10_save_31 : decode m_X10_save.2.1 31 = .ok (.iadd, 1) := by decide +kernel
theorem d_X10_save_32 : decode m_X10_save.2.1 32 = .ok (.aload_n 0, 1) := by decide +kernel
theorem d_X10_save_33 : decode m_X10_save.2.1 33 = .ok (.getfield 7, 3) := by decide +kernel
theorem d_X10_save_36 : decode m_X10_save.2.1 36 = .ok (.iload_n 2, 1) := by decide +kernel
theorem d_X10_save_37 : decode m_X10_save.2.1 37 = .ok (.iaload, 1) := by decide +kernel
theorem d_X10_save_38 : decode m_X10_save.2.1 38 = .ok (.iastore, 1) := by decide +kernel
theorem d_X10_save_39 : decode m_X10_save.2.1 39 = .ok (.iinc 2 1, 3) := by decide +kernel
theorem d_X10_save_42 : decode m_X10_save.2.1 42 = .ok (.goto (-28), 3) := by decide +kernel
theorem d_X10_save_45 : decode m_X10_save.2.1 45 = .ok (.aload_n 0, 1) := by decide +kernel
theorem d_X10_save_46 : decode m_X10_save.2.1 46 = .ok (.getfield 19, 3) := by decide +kernel
theorem d_X10_save_49 : decode m_X10_save.2.1 49 = .ok (.iload_n 1, 1) := by decide +kernel
theorem d_X10_save_50 : decode m_X10_save.2.1 50 = .ok (.iconst 1, 1) := by decide +kernel
theorem d_X10_save_51 : decode m_X10_save.2.1 51 = .ok (.iastore, 1) := by decide +kernel
theorem d_X10_save_52 : decode m_X10_save.2.1 52 = .ok (.aload_n 0, 1) := by decide +kernel
theorem d_X10_save_53 : decode m_X10_save.2.1 53 = .ok (.getfield 91, 3) := by decide +kernel
theorem d_X10_save_56 : decode m_X10_save.2.1 56 = .ok (.ireturn, 1) := by decide +kernel
theorem d_X10_restore_0 : decode m_X10_restore.2.1 0 = .ok (.iload_n 1, 1) := by decide +kernel
theorem d_X10_restore_1 : decode m_X10_restore.2.1 1 = .ok (.iconst 0, 1) := by decide +kernel
theorem d_X10_restore_2 : decode m_X10_restore.2.1 2 = .ok (.iconst 1, 1) := by decide +kernel
theorem d_X10_restore_3 : decode m_X10_restore.2.1 3 = .ok (.invokestatic 86, 3) := by decide +kernel
theorem d_X10_restore_6 : decode m_X10_restore.2.1 6 = .ok (.ifCond .ne 6, 3) := by decide +kernel
theorem d_X10_restore_9 : decode m_X10_restore.2.1 9 = .ok (.ldc 90, 2) := by decide +kernel
theorem d_X10_restore_11 : decode m_X10_restore.2.1 11 = .ok (.ireturn, 1) := by decide +kernel
theorem d_X10_restore_12 : decode m_X10_restore.2.1 12 = .ok (.aload_n 0, 1) := by decide +kernel
theorem d_X10_restore_13 : decode m_X10_restore.2.1 13 = .ok (.getfield 19, 3) := by decide +kernel
theorem d_X10_restore_16 : decode m_X10_restore.2.1 16 = .ok (.iload_n 1, 1) := by decide +kernel
theorem d_X10_restore_17 : decode m_X10_restore.2.1 17 = .ok (.iaload, 1) := by decide +kernel
theorem d_X10_restore_18 : decode m_X10_restore.2.1 18 = .ok (.ifCond .ne 6, 3) := by decide +kernel
theorem d_X10_restore_21 : decode m_X10_restore.2.1 21 = .ok (.ldc 85, 2) := by decide +kernel
theorem d_X10_restore_23 : decode m_X10_restore.2.1 23 = .ok (.ireturn, 1) := by decide +kernel
theorem d_X10_restore_24 : decode m_X10_restore.2.1 24 = .ok (.aload_n 0, 1) := by decide +kernel
theorem d_X10_restore_25 : decode m_X10_restore.2.1 25 = .ok (.invokevirtual 94, 3) := by decide +kernel
theorem d_X10_restore_28 : decode m_X10_restore.2.1 28 = .ok (.iconst 0, 1) := by decide +kernel
theorem d_X10_restore_29 : decode m_X10_restore.2.1 29 = .ok (.istore_n 2, 1) := by decide +kernel
theorem d_X10_restore_30 : decode m_X10_restore.2.1 30 = .ok (.iload_n 2, 1) := by decide +kernel
theorem d_X10_restore_31 : decode m_X10_restore.2.1 31 = .ok (.sipush 812, 3) := by decide +kernel
theorem d_X10_restore_34 : decode m_X10_restore.2.1 34 = .ok (.if_icmp .ge 27, 3) := by decide +kernel
theorem d_X10_restore_37 : decode m_X10_restore.2.1 37 = .ok (.aload_n 0, 1) := by decide +kernel
theorem d_X10_restore_38 : decode m_X10_restore.2.1 38 = .ok (.getfield 7, 3) := by decide +kernel
theorem d_X10_restore_41 : decode m_X10_restore.2.1 41 = .ok (.iload_n 2, 1) := by decide +kernel
theorem d_X10_restore_42 : decode m_X10_restore.2.1 42 = .ok (.aload_n 0, 1) := by decide +kernel
theorem d_X10_restore_43 : decode m_X10_restore.2.1 43 = .ok (.getfield 16, 3) := by decide +kernel
theorem d_X10_restore_46 : decode m_X10_restore.2.1 46 = .ok (.sipush 812, 3) := by decide +kernel
theorem d_X10_restore_49 : decode m_X10_restore.2.1 49 = .ok (.iload_n 1, 1) := by decide +kernel
theorem d_X10_restore_50 : decode m_X10_restore.2.1 50 = .ok (.imul, 1) := by decide +kernel
theorem d_X10_restore_51 : decode m_X10_restore.2.1 51 = .ok (.iload_n 2, 1) := by decide +kernel
theorem d_X10_restore_52 : decode m_X10_restore.2.1 52 = .ok (.iadd, 1) := by decide +kernel
theorem d_X10_restore_53 : decode m_X10_restore.2.1 53 = .ok (.iaload, 1) := by decide +kernel
theorem d_X10_restore_54 : decode m_X10_restore.2.1 54 = .ok (.iastore, 1) := by decide +kernel
theorem d_X10_restore_55 : decode m_X10_restore.2.1 55 = .ok (.iinc 2 1, 3) := by decide +kernel
theorem d_X10_restore_58 : decode m_X10_restore.2.1 58 = .ok (.goto (-28), 3) := by decide +kernel
theorem d_X10_restore_61 : decode m_X10_restore.2.1 61 = .ok (.aload_n 0, 1) := by decide +kernel
theorem d_X10_restore_62 : decode m_X10_restore.2.1 62 = .ok (.invokevirtual 74, 3) := by decide +kernel
theorem d_X10_restore_65 : decode m_X10_restore.2.1 65 = .ok (.aload_n 0, 1) := by decide +kernel
theorem d_X10_restore_66 : decode m_X10_restore.2.1 66 = .ok (.getfield 91, 3) := by decide +kernel
theorem d_X10_restore_69 : decode m_X10_restore.2.1 69 = .ok (.ireturn, 1) := by decide +kernel
theorem d_X10_anew_0 : decode m_X10_anew.2.1 0 = .ok (.aload_n 0, 1) := by decide +kernel
theorem d_X10_anew_1 : decode m_X10_anew.2.1 1 = .ok (.getfield 7, 3) := by decide +kernel
theorem d_X10_anew_4 : decode m_X10_anew.2.1 4 = .ok (.sipush 291, 3) := by decide +kernel
theorem d_X10_anew_7 : decode m_X10_anew.2.1 7 = .ok (.iconst 0, 1) := by decide +kernel
theorem d_X10_anew_8 : decode m_X10_anew.2.1 8 = .ok (.iastore, 1) := by decide +kernel
theorem d_X10_anew_9 : decode m_X10_anew.2.1 9 = .ok (.aload_n 0, 1) := by decide +kernel
theorem d_X10_anew_10 : decode m_X10_anew.2.1 10 = .ok (.invokevirtual 74, 3) := by decide +kernel
theorem d_X10_anew_13 : decode m_X10_anew.2.1 13 = .ok (.return_, 1) := by decide +kernel
theorem d_X10_type_0 : decode m_X10_type.2.1 0 = .ok (.iload_n 1, 1) := by decide +kernel
theorem d_X10_type_1 : decode m_X10_type.2.1 1 = .ok (.bipush 33, 2) := by decide +kernel
theorem d_X10_type_3 : decode m_X10_type.2.1 3 = .ok (.bipush 126, 2) := by decide +kernel
theorem d_X10_type_5 : decode m_X10_type.2.1 5 = .ok (.invokestatic 86, 3) := by decide +kernel
theorem d_X10_type_8 : decode m_X10_type.2.1 8 = .ok (.ifCond .ne 6, 3) := by decide +kernel
theorem d_X10_type_11 : decode m_X10_type.2.1 11 = .ok (.ldc 90, 2) := by decide +kernel
theorem d_X10_type_13 : decode m_X10_type.2.1 13 = .ok (.ireturn, 1) := by decide +kernel
theorem d_X10_type_14 : decode m_X10_type.2.1 14 = .ok (.aload_n 0, 1) := by decide +kernel
theorem d_X10_type_15 : decode m_X10_type.2.1 15 = .ok (.getfield 97, 3) := by decide +kernel
theorem d_X10_type_18 : decode m_X10_type.2.1 18 = .ok (.bipush 80, 2) := by decide +kernel
theorem d_X10_type_20 : decode m_X10_type.2.1 20 = .ok (.if_icmp .ne 6, 3) := by decide +kernel
theorem d_X10_type_23 : decode m_X10_type.2.1 23 = .ok (.ldc 100, 2) := by decide +kernel
theorem d_X10_type_25 : decode m_X10_type.2.1 25 = .ok (.ireturn, 1) := by decide +kernel
theorem d_X10_type_26 : decode m_X10_type.2.1 26 = .ok (.aload_n 0, 1) := by decide +kernel
theorem d_X10_type_27 : decode m_X10_type.2.1 27 = .ok (.getfield 22, 3) := by decide +kernel
theorem d_X10_type_30 : decode m_X10_type.2.1 30 = .ok (.aload_n 0, 1) := by decide +kernel
theorem d_X10_type_31 : decode m_X10_type.2.1 31 = .ok (.getfield 97, 3) := by decide +kernel
theorem d_X10_type_34 : decode m_X10_type.2.1 34 = .ok (.iload_n 1, 1) := by decide +kernel
theorem d_X10_type_35 : decode m_X10_type.2.1 35 = .ok (.iastore, 1) := by decide +kernel
theorem d_X10_type_36 : decode m_X10_type.2.1 36 = .ok (.aload_n 0, 1) := by decide +kernel
theorem d_X10_type_37 : decode m_X10_type.2.1 37 = .ok (.dup, 1) := by decide +kernel
theorem d_X10_type_38 : decode m_X10_type.2.1 38 = .ok (.getfield 97, 3) := by decide +kernel
theorem d_X10_type_41 : decode m_X10_type.2.1 41 = .ok (.iconst 1, 1) := by decide +kernel
theorem d_X10_type_42 : decode m_X10_type.2.1 42 = .ok (.iadd, 1) := by decide +kernel
theorem d_X10_type_43 : decode m_X10_type.2.1 43 = .ok (.putfield 97, 3) := by decide +kernel
theorem d_X10_type_46 : decode m_X10_type.2.1 46 = .ok (.aload_n 0, 1) := by decide +kernel
theorem d_X10_type_47 : decode m_X10_type.2.1 47 = .ok (.getfield 97, 3) := by decide +kernel
theorem d_X10_type_50 : decode m_X10_type.2.1 50 = .ok (.ireturn, 1) := by decide +kernel
theorem d_X10_wipe_0 : decode m_X10_wipe.2.1 0 = .ok (.aload_n 0, 1) := by decide +kernel
theorem d_X10_wipe_1 : decode m_X10_wipe.2.1 1 = .ok (.getfield 97, 3) := by decide +kernel
theorem d_X10_wipe_4 : decode m_X10_wipe.2.1 4 = .ok (.istore_n 1, 1) := by decide +kernel
theorem d_X10_wipe_5 : decode m_X10_wipe.2.1 5 = .ok (.aload_n 0, 1) := by decide +kernel
theorem d_X10_wipe_6 : decode m_X10_wipe.2.1 6 = .ok (.iconst 0, 1) := by decide +kernel
theorem d_X10_wipe_7 : decode m_X10_wipe.2.1 7 = .ok (.putfield 97, 3) := by decide +kernel
theorem d_X10_wipe_10 : decode m_X10_wipe.2.1 10 = .ok (.iload_n 1, 1) := by decide +kernel
theorem d_X10_wipe_11 : decode m_X10_wipe.2.1 11 = .ok (.ireturn, 1) := by decide +kernel
theorem d_X10_letter_0 : decode m_X10_letter.2.1 0 = .ok (.iload_n 1, 1) := by decide +kernel
theorem d_X10_letter_1 : decode m_X10_letter.2.1 1 = .ok (.aload_n 0, 1) := by decide +kernel
theorem d_X10_letter_2 : decode m_X10_letter.2.1 2 = .ok (.getfield 97, 3) := by decide +kernel
theorem d_X10_letter_5 : decode m_X10_letter.2.1 5 = .ok (.if_icmp .ge 12, 3) := by decide +kernel
theorem d_X10_letter_8 : decode m_X10_letter.2.1 8 = .ok (.aload_n 0, 1) := by decide +kernel
theorem d_X10_letter_9 : decode m_X10_letter.2.1 9 = .ok (.getfield 22, 3) := by decide +kernel
theorem d_X10_letter_12 : decode m_X10_letter.2.1 12 = .ok (.iload_n 1, 1) := by decide +kernel
theorem d_X10_letter_13 : decode m_X10_letter.2.1 13 = .ok (.iaload, 1) := by decide +kernel
theorem d_X10_letter_14 : decode m_X10_letter.2.1 14 = .ok (.goto 4, 3) := by decide +kernel
theorem d_X10_letter_17 : decode m_X10_letter.2.1 17 = .ok (.iconst 0, 1) := by decide +kernel
theorem d_X10_letter_18 : decode m_X10_letter.2.1 18 = .ok (.ireturn, 1) := by decide +kernel
theorem d_X10_isDigit_0 : decode m_X10_isDigit.2.1 0 = .ok (.iload_n 0, 1) := by decide +kernel
theorem d_X10_isDigit_1 : decode m_X10_isDigit.2.1 1 = .ok (.bipush 48, 2) := by decide +kernel
theorem d_X10_isDigit_3 : decode m_X10_isDigit.2.1 3 = .ok (.bipush 57, 2) := by decide +kernel
theorem d_X10_isDigit_5 : decode m_X10_isDigit.2.1 5 = .ok (.invokestatic 86, 3) := by decide +kernel
theorem d_X10_isDigit_8 : decode m_X10_isDigit.2.1 8 = .ok (.ireturn, 1) := by decide +kernel
theorem d_X10_isName_0 : decode m_X10_isName.2.1 0 = .ok (.iload_n 0, 1) := by decide +kernel
theorem d_X10_isName_1 : decode m_X10_isName.2.1 1 = .ok (.bipush 120, 2) := by decide +kernel
theorem d_X10_isName_3 : decode m_X10_isName.2.1 3 = .ok (.bipush 122, 2) := by decide +kernel
theorem d_X10_isName_5 : decode m_X10_isName.2.1 5 = .ok (.invokestatic 86, 3) := by decide +kernel
theorem d_X10_isName_8 : decode m_X10_isName.2.1 8 = .ok (.ireturn, 1) := by decide +kernel
theorem d_X10_digits_0 : decode m_X10_digits.2.1 0 = .ok (.iconst 0, 1) := by decide +kernel
theorem d_X10_digits_1 : decode m_X10_digits.2.1 1 = .ok (.istore_n 3, 1) := by decide +kernel
theorem d_X10_digits_2 : decode m_X10_digits.2.1 2 = .ok (.iload_n 3, 1) := by decide +kernel
theorem d_X10_digits_3 : decode m_X10_digits.2.1 3 = .ok (.iload_n 2, 1) := by decide +kernel
theorem d_X10_digits_4 : decode m_X10_digits.2.1 4 = .ok (.if_icmp .ge 22, 3) := by decide +kernel
theorem d_X10_digits_7 : decode m_X10_digits.2.1 7 = .ok (.aload_n 0, 1) := by decide +kernel
theorem d_X10_digits_8 : decode m_X10_digits.2.1 8 = .ok (.iload_n 1, 1) := by decide +kernel
theorem d_X10_digits_9 : decode m_X10_digits.2.1 9 = .ok (.iload_n 3, 1) := by decide +kernel
theorem d_X10_digits_10 : decode m_X10_digits.2.1 10 = .ok (.iadd, 1) := by decide +kernel
theorem d_X10_digits_11 : decode m_X10_digits.2.1 11 = .ok (.invokevirtual 101, 3) := by decide +kernel
theorem d_X10_digits_14 : decode m_X10_digits.2.1 14 = .ok (.invokestatic 105, 3) := by decide +kernel
theorem d_X10_digits_17 : decode m_X10_digits.2.1 17 = .ok (.ifCond .eq 9, 3) := by decide +kernel
theorem d_X10_digits_20 : decode m_X10_digits.2.1 20 = .ok (.iinc 3 1, 3) := by decide +kernel
theorem d_X10_digits_23 : decode m_X10_digits.2.1 23 = .ok (.goto (-21), 3) := by decide +kernel
theorem d_X10_digits_26 : decode m_X10_digits.2.1 26 = .ok (.iload_n 3, 1) := by decide +kernel
theorem d_X10_digits_27 : decode m_X10_digits.2.1 27 = .ok (.ireturn, 1) := by decide +kernel
theorem d_X10_numberEnd_0 : decode m_X10_numberEnd.2.1 0 = .ok (.iload_n 1, 1) := by decide +kernel
theorem d_X10_numberEnd_1 : decode m_X10_numberEnd.2.1 1 = .ok (.aload_n 0, 1) := by decide +kernel
theorem d_X10_numberEnd_2 : decode m_X10_numberEnd.2.1 2 = .ok (.iload_n 1, 1) := by decide +kernel
theorem d_X10_numberEnd_3 : decode m_X10_numberEnd.2.1 3 = .ok (.iconst 4, 1) := by decide +kernel
theorem d_X10_numberEnd_4 : decode m_X10_numberEnd.2.1 4 = .ok (.invokevirtual 109, 3) := by decide +kernel
theorem d_X10_numberEnd_7 : decode m_X10_numberEnd.2.1 7 = .ok (.iadd, 1) := by decide +kernel
theorem d_X10_numberEnd_8 : decode m_X10_numberEnd.2.1 8 = .ok (.istore_n 2, 1) := by decide +kernel
theorem d_X10_numberEnd_9 : decode m_X10_numberEnd.2.1 9 = .ok (.aload_n 0, 1) := by decide +kernel
theorem d_X10_numberEnd_10 : decode m_X10_numberEnd.2.1 10 = .ok (.iload_n 2, 1) := by decide +kernel
theorem d_X10_numberEnd_11 : decode m_X10_numberEnd.2.1 11 = .ok (.invokevirtual 101, 3) := by decide +kernel
theorem d_X10_numberEnd_14 : decode m_X10_numberEnd.2.1 14 = .ok (.bipush 46, 2) := by decide +kernel
theorem d_X10_numberEnd_16 : decode m_X10_numberEnd.2.1 16 = .ok (.if_icmp .eq 5, 3) := by decide +kernel
theorem d_X10_numberEnd_19 : decode m_X10_numberEnd.2.1 19 = .ok (.iload_n 2, 1) := by decide +kernel
theorem d_X10_numberEnd_20 : decode m_X10_numberEnd.2.1 20 = .ok (.ireturn, 1) := by decide +kernel
theorem d_X10_numberEnd_21 : decode m_X10_numberEnd.2.1 21 = .ok (.aload_n 0, 1) := by decide +kernel
theorem d_X10_numberEnd_22 : decode m_X10_numberEnd.2.1 22 = .ok (.iload_n 2, 1) := by decide +kernel
theorem d_X10_numberEnd_23 : decode m_X10_numberEnd.2.1 23 = .ok (.iconst 1, 1) := by decide +kernel
theorem d_X10_numberEnd_24 : decode m_X10_numberEnd.2.1 24 = .ok (.iadd, 1) := by decide +kernel
theorem d_X10_numberEnd_25 : decode m_X10_numberEnd.2.1 25 = .ok (.iconst 3, 1) := by decide +kernel
theorem d_X10_numberEnd_26 : decode m_X10_numberEnd.2.1 26 = .ok (.invokevirtual 109, 3) := by decide +kernel
theorem d_X10_numberEnd_29 : decode m_X10_numberEnd.2.1 29 = .ok (.istore_n 3, 1) := by decide +kernel
theorem d_X10_numberEnd_30 : decode m_X10_numberEnd.2.1 30 = .ok (.iload_n 3, 1) := by decide +kernel
theorem d_X10_numberEnd_31 : decode m_X10_numberEnd.2.1 31 = .ok (.ifCond .ne 10, 3) := by decide +kernel
theorem d_X10_numberEnd_34 : decode m_X10_numberEnd.2.1 34 = .ok (.bipush (-2), 2) := by decide +kernel
theorem d_X10_numberEnd_36 : decode m_X10_numberEnd.2.1 36 = .ok (.iload_n 2, 1) := by decide +kernel
theorem d_X10_numberEnd_37 : decode m_X10_numberEnd.2.1 37 = .ok (.isub, 1) := by decide +kernel
theorem d_X10_numberEnd_38 : decode m_X10_numberEnd.2.1 38 = .ok (.goto 8, 3) := by decide +kernel
theorem d_X10_numberEnd_41 : decode m_X10_numberEnd.2.1 41 = .ok (.iload_n 2, 1) := by decide +kernel
theorem d_X10_numberEnd_42 : decode m_X10_numberEnd.2.1 42 = .ok (.iconst 1, 1) := by decide +kernel
theorem d_X10_numberEnd_43 : decode m_X10_numberEnd.2.1 43 = .ok (.iadd, 1) := by decide +kernel
theorem d_X10_numberEnd_44 : decode m_X10_numberEnd.2.1 44 = .ok (.iload_n 3, 1) := by decide +kernel
theorem d_X10_numberEnd_45 : decode m_X10_numberEnd.2.1 45 = .ok (.iadd, 1) := by decide +kernel
theorem d_X10_numberEnd_46 : decode m_X10_numberEnd.2.1 46 = .ok (.ireturn, 1) := by decide +kernel
theorem d_X10_nameEnd_0 : decode m_X10_nameEnd.2.1 0 = .ok (.iload_n 1, 1) := by decide +kernel
theorem d_X10_nameEnd_1 : decode m_X10_nameEnd.2.1 1 = .ok (.iconst 1, 1) := by decide +kernel
theorem d_X10_nameEnd_2 : decode m_X10_nameEnd.2.1 2 = .ok (.iadd, 1) := by decide +kernel
theorem d_X10_nameEnd_3 : decode m_X10_nameEnd.2.1 3 = .ok (.istore_n 2, 1) := by decide +kernel
theorem d_X10_nameEnd_4 : decode m_X10_nameEnd.2.1 4 = .ok (.aload_n 0, 1) := by decide +kernel
theorem d_X10_nameEnd_5 : decode m_X10_nameEnd.2.1 5 = .ok (.iload_n 2, 1) := by decide +kernel
theorem d_X10_nameEnd_6 : decode m_X10_nameEnd.2.1 6 = .ok (.invokevirtual 101, 3) := by decide +kernel
theorem d_X10_nameEnd_9 : decode m_X10_nameEnd.2.1 9 = .ok (.bipush 39, 2) := by decide +kernel
theorem d_X10_nameEnd_11 : decode m_X10_nameEnd.2.1 11 = .ok (.if_icmp .ne 20, 3) := by decide +kernel
theorem d_X10_nameEnd_14 : decode m_X10_nameEnd.2.1 14 = .ok (.iinc 2 1, 3) := by decide +kernel
theorem d_X10_nameEnd_17 : decode m_X10_nameEnd.2.1 17 = .ok (.aload_n 0, 1) := by decide +kernel
theorem d_X10_nameEnd_18 : decode m_X10_nameEnd.2.1 18 = .ok (.iload_n 2, 1) := by decide +kernel
theorem d_X10_nameEnd_19 : decode m_X10_nameEnd.2.1 19 = .ok (.invokevirtual 101, 3) := by decide +kernel
theorem d_X10_nameEnd_22 : decode m_X10_nameEnd.2.1 22 = .ok (.bipush 64, 2) := by decide +kernel
theorem d_X10_nameEnd_24 : decode m_X10_nameEnd.2.1 24 = .ok (.if_icmp .eq 7, 3) := by decide +kernel
theorem d_X10_nameEnd_27 : decode m_X10_nameEnd.2.1 27 = .ok (.iconst (-1), 1) := by decide +kernel
theorem d_X10_nameEnd_28 : decode m_X10_nameEnd.2.1 28 = .ok (.iload_n 2, 1) := by decide +kernel
theorem d_X10_nameEnd_29 : decode m_X10_nameEnd.2.1 29 = .ok (.isub, 1) := by decide +kernel
theorem d_X10_nameEnd_30 : decode m_X10_nameEnd.2.1 30 = .ok (.ireturn, 1) := by decide +kernel
theorem d_X10_nameEnd_31 : decode m_X10_nameEnd.2.1 31 = .ok (.aload_n 0, 1) := by decide +kernel
theorem d_X10_nameEnd_32 : decode m_X10_nameEnd.2.1 32 = .ok (.iload_n 2, 1) := by decide +kernel
theorem d_X10_nameEnd_33 : decode m_X10_nameEnd.2.1 33 = .ok (.invokevirtual 101, 3) := by decide +kernel
theorem d_X10_nameEnd_36 : decode m_X10_nameEnd.2.1 36 = .ok (.bipush 64, 2) := by decide +kernel
theorem d_X10_nameEnd_38 : decode m_X10_nameEnd.2.1 38 = .ok (.if_icmp .eq 5, 3) := by decide +kernel
theorem d_X10_nameEnd_41 : decode m_X10_nameEnd.2.1 41 = .ok (.iload_n 2, 1) := by decide +kernel
theorem d_X10_nameEnd_42 : decode m_X10_nameEnd.2.1 42 = .ok (.ireturn, 1) := by decide +kernel
theorem d_X10_nameEnd_43 : decode m_X10_nameEnd.2.1 43 = .ok (.aload_n 0, 1) := by decide +kernel
theorem d_X10_nameEnd_44 : decode m_X10_nameEnd.2.1 44 = .ok (.iload_n 2, 1) := by decide +kernel
theorem d_X10_nameEnd_45 : decode m_X10_nameEnd.2.1 45 = .ok (.iconst 1, 1) := by decide +kernel
theorem d_X10_nameEnd_46 : decode m_X10_nameEnd.2.1 46 = .ok (.iadd, 1) := by decide +kernel
theorem d_X10_nameEnd_47 : decode m_X10_nameEnd.2.1 47 = .ok (.invokevirtual 101, 3) := by decide +kernel
theorem d_X10_nameEnd_50 : decode m_X10_nameEnd.2.1 50 = .ok (.bipush 48, 2) := by decide +kernel
theorem d_X10_nameEnd_52 : decode m_X10_nameEnd.2.1 52 = .ok (.bipush 50, 2) := by decide +kernel
theorem d_X10_nameEnd_54 : decode m_X10_nameEnd.2.1 54 = .ok (.invokestatic 86, 3) := by decide +kernel
theorem d_X10_nameEnd_57 : decode m_X10_nameEnd.2.1 57 = .ok (.ifCond .eq 9, 3) := by decide +kernel
theorem d_X10_nameEnd_60 : decode m_X10_nameEnd.2.1 60 = .ok (.iload_n 2, 1) := by decide +kernel
theorem d_X10_nameEnd_61 : decode m_X10_nameEnd.2.1 61 = .ok (.iconst 2, 1) := by decide +kernel
theorem d_X10_nameEnd_62 : decode m_X10_nameEnd.2.1 62 = .ok (.iadd, 1) := by decide +kernel
theorem d_X10_nameEnd_63 : decode m_X10_nameEnd.2.1 63 = .ok (.goto 7, 3) := by decide +kernel
theorem d_X10_nameEnd_66 : decode m_X10_nameEnd.2.1 66 = .ok (.bipush (-2), 2) := by decide +kernel
theorem d_X10_nameEnd_68 : decode m_X10_nameEnd.2.1 68 = .ok (.iload_n 2, 1) := by decide +kernel
theorem d_X10_nameEnd_69 : decode m_X10_nameEnd.2.1 69 = .ok (.isub, 1) := by decide +kernel
theorem d_X10_nameEnd_70 : decode m_X10_nameEnd.2.1 70 = .ok (.ireturn, 1) := by decide +kernel
theorem d_X10_wordEnd_0 : decode m_X10_wordEnd.2.1 0 = .ok (.aload_n 0, 1) := by decide +kernel
theorem d_X10_wordEnd_1 : decode m_X10_wordEnd.2.1 1 = .ok (.iload_n 1, 1) := by decide +kernel
theorem d_X10_wordEnd_2 : decode m_X10_wordEnd.2.1 2 = .ok (.iconst 1, 1) := by decide +kernel
theorem d_X10_wordEnd_3 : decode m_X10_wordEnd.2.1 3 = .ok (.iadd, 1) := by decide +kernel
theorem d_X10_wordEnd_4 : decode m_X10_wordEnd.2.1 4 = .ok (.invokevirtual 101, 3) := by decide +kernel
theorem d_X10_wordEnd_7 : decode m_X10_wordEnd.2.1 7 = .ok (.istore_n 2, 1) := by decide +kernel
theorem d_X10_wordEnd_8 : decode m_X10_wordEnd.2.1 8 = .ok (.iload_n 2, 1) := by decide +kernel
theorem d_X10_wordEnd_9 : decode m_X10_wordEnd.2.1 9 = .ok (.bipush 105, 2) := by decide +kernel
theorem d_X10_wordEnd_11 : decode m_X10_wordEnd.2.1 11 = .ok (.if_icmp .eq 14, 3) := by decide +kernel
theorem d_X10_wordEnd_14 : decode m_X10_wordEnd.2.1 14 = .ok (.iload_n 2, 1) := by decide +kernel
theorem d_X10_wordEnd_15 : decode m_X10_wordEnd.2.1 15 = .ok (.bipush 97, 2) := by decide +kernel
theorem d_X10_wordEnd_17 : decode m_X10_wordEnd.2.1 17 = .ok (.if_icmp .eq 8, 3) := by decide +kernel
theorem d_X10_wordEnd_20 : decode m_X10_wordEnd.2.1 20 = .ok (.bipush (-2), 2) := by decide +kernel
theorem d_X10_wordEnd_22 : decode m_X10_wordEnd.2.1 22 = .ok (.iload_n 1, 1) := by decide +kernel
theorem d_X10_wordEnd_23 : decode m_X10_wordEnd.2.1 23 = .ok (.isub, 1) := by decide +kernel
theorem d_X10_wordEnd_24 : decode m_X10_wordEnd.2.1 24 = .ok (.ireturn, 1) := by decide +kernel
theorem d_X10_wordEnd_25 : decode m_X10_wordEnd.2.1 25 = .ok (.aload_n 0, 1) := by decide +kernel
theorem d_X10_wordEnd_26 : decode m_X10_wordEnd.2.1 26 = .ok (.iload_n 1, 1) := by decide +kernel
theorem d_X10_wordEnd_27 : decode m_X10_wordEnd.2.1 27 = .ok (.iconst 2, 1) := by decide +kernel
theorem d_X10_wordEnd_28 : decode m_X10_wordEnd.2.1 28 = .ok (.iadd, 1) := by decide +kernel
theorem d_X10_wordEnd_29 : decode m_X10_wordEnd.2.1 29 = .ok (.invokevirtual 101, 3) := by decide +kernel
theorem d_X10_wordEnd_32 : decode m_X10_wordEnd.2.1 32 = .ok (.iload_n 2, 1) := by decide +kernel
theorem d_X10_wordEnd_33 : decode m_X10_wordEnd.2.1 33 = .ok (.bipush 105, 2) := by decide +kernel
theorem d_X10_wordEnd_35 : decode m_X10_wordEnd.2.1 35 = .ok (.if_icmp .ne 8, 3) := by decide +kernel
theorem d_X10_wordEnd_38 : decode m_X10_wordEnd.2.1 38 = .ok (.bipush 110, 2) := by decide +kernel
theorem d_X10_wordEnd_40 : decode m_X10_wordEnd.2.1 40 = .ok (.goto 5, 3) := by decide +kernel
theorem d_X10_wordEnd_43 : decode m_X10_wordEnd.2.1 43 = .ok (.bipush 120, 2) := by decide +kernel
theorem d_X10_wordEnd_45 : decode m_X10_wordEnd.2.1 45 = .ok (.if_icmp .ne 9, 3) := by decide +kernel
theorem d_X10_wordEnd_48 : decode m_X10_wordEnd.2.1 48 = .ok (.iload_n 1, 1) := by decide +kernel
theorem d_X10_wordEnd_49 : decode m_X10_wordEnd.2.1 49 = .ok (.iconst 3, 1) := by decide +kernel
theorem d_X10_wordEnd_50 : decode m_X10_wordEnd.2.1 50 = .ok (.iadd, 1) := by decide +kernel
theorem d_X10_wordEnd_51 : decode m_X10_wordEnd.2.1 51 = .ok (.goto 7, 3) := by decide +kernel
theorem d_X10_wordEnd_54 : decode m_X10_wordEnd.2.1 54 = .ok (.bipush (-3), 2) := by decide +kernel
theorem d_X10_wordEnd_56 : decode m_X10_wordEnd.2.1 56 = .ok (.iload_n 1, 1) := by decide +kernel
theorem d_X10_wordEnd_57 : decode m_X10_wordEnd.2.1 57 = .ok (.isub, 1) := by decide +kernel
theorem d_X10_wordEnd_58 : decode m_X10_wordEnd.2.1 58 = .ok (.ireturn, 1) := by decide +kernel
theorem d_X10_faultOf_0 : decode m_X10_faultOf.2.1 0 = .ok (.iconst 0, 1) := by decide +kernel
theorem d_X10_faultOf_1 : decode m_X10_faultOf.2.1 1 = .ok (.istore_n 1, 1) := by decide +kernel
theorem d_X10_faultOf_2 : decode m_X10_faultOf.2.1 2 = .ok (.iconst 1, 1) := by decide +kernel
theorem d_X10_faultOf_3 : decode m_X10_faultOf.2.1 3 = .ok (.istore_n 2, 1) := by decide +kernel
theorem d_X10_faultOf_4 : decode m_X10_faultOf.2.1 4 = .ok (.iconst 0, 1) := by decide +kernel
theorem d_X10_faultOf_5 : decode m_X10_faultOf.2.1 5 = .ok (.istore_n 3, 1) := by decide +kernel
theorem d_X10_faultOf_6 : decode m_X10_faultOf.2.1 6 = .ok (.iload_n 3, 1) := by decide +kernel
theorem d_X10_faultOf_7 : decode m_X10_faultOf.2.1 7 = .ok (.aload_n 0, 1) := by decide +kernel
theorem d_X10_faultOf_8 : decode m_X10_faultOf.2.1 8 = .ok (.getfield 97, 3) := by decide +kernel
theorem d_X10_faultOf_11 : decode m_X10_faultOf.2.1 11 = .ok (.if_icmp .ge 350, 3) := by decide +kernel
theorem d_X10_faultOf_14 : decode m_X10_faultOf.2.1 14 = .ok (.aload_n 0, 1) := by decide +kernel
theorem d_X10_faultOf_15 : decode m_X10_faultOf.2.1 15 = .ok (.getfield 22, 3) := by decide +kernel
theorem d_X10_faultOf_18 : decode m_X10_faultOf.2.1 18 = .ok (.iload_n 3, 1) := by decide +kernel
theorem d_X10_faultOf_19 : decode m_X10_faultOf.2.1 19 = .ok (.iaload, 1) := by decide +kernel
theorem d_X10_faultOf_20 : decode m_X10_faultOf.2.1 20 = .ok (.istore 4, 2) := by decide +kernel
theorem d_X10_faultOf_22 : decode m_X10_faultOf.2.1 22 = .ok (.iload_n 3, 1) := by decide +kernel
theorem d_X10_faultOf_23 : decode m_X10_faultOf.2.1 23 = .ok (.iconst 1, 1) := by decide +kernel
theorem d_X10_faultOf_24 : decode m_X10_faultOf.2.1 24 = .ok (.iadd, 1) := by decide +kernel
theorem d_X10_faultOf_25 : decode m_X10_faultOf.2.1 25 = .ok (.istore 5, 2) := by decide +kernel
theorem d_X10_faultOf_27 : decode m_X10_faultOf.2.1 27 = .ok (.iload_n 2, 1) := by decide +kernel
theorem d_X10_faultOf_28 : decode m_X10_faultOf.2.1 28 = .ok (.ifCond .eq 68, 3) := by decide +kernel
theorem d_X10_faultOf_31 : decode m_X10_faultOf.2.1 31 = .ok (.iload 4, 2) := by decide +kernel
theorem d_X10_faultOf_33 : decode m_X10_faultOf.2.1 33 = .ok (.invokestatic 105, 3) := by decide +kernel
theorem d_X10_faultOf_36 : decode m_X10_faultOf.2.1 36 = .ok (.ifCond .ne 18, 3) := by decide +kernel
theorem d_X10_faultOf_39 : decode m_X10_faultOf.2.1 39 = .ok (.iload 4, 2) := by decide +kernel
theorem d_X10_faultOf_41 : decode m_X10_faultOf.2.1 41 = .ok (.bipush 116, 2) := by decide +kernel
theorem d_X10_faultOf_43 : decode m_X10_faultOf.2.1 43 = .ok (.if_icmp .eq 11, 3) := by decide +kernel
theorem d_X10_faultOf_46 : decode m_X10_faultOf.2.1 46 = .ok (.iload 4, 2) := by decide +kernel
theorem d_X10_faultOf_48 : decode m_X10_faultOf.2.1 48 = .ok (.invokestatic 113, 3) := by decide +kernel
theorem d_X10_faultOf_51 : decode m_X10_faultOf.2.1 51 = .ok (.ifCond .eq 45, 3) := by decide +kernel
theorem d_X10_faultOf_54 : decode m_X10_faultOf.2.1 54 = .ok (.iload 4, 2) := by decide +kernel
theorem d_X10_faultOf_56 : decode m_X10_faultOf.2.1 56 = .ok (.invokestatic 105, 3) := by decide +kernel
theorem d_X10_faultOf_59 : decode m_X10_faultOf.2.1 59 = .ok (.ifCond .eq 11, 3) := by decide +kernel
theorem d_X10_faultOf_62 : decode m_X10_faultOf.2.1 62 = .ok (.aload_n 0, 1) := by decide +kernel
theorem d_X10_faultOf_63 : decode m_X10_faultOf.2.1 63 = .ok (.iload_n 3, 1) := by decide +kernel
theorem d_X10_faultOf_64 : decode m_X10_faultOf.2.1 64 = .ok (.invokevirtual 116, 3) := by decide +kernel
theorem d_X10_faultOf_67 : decode m_X10_faultOf.2.1 67 = .ok (.goto 22, 3) := by decide +kernel
theorem d_X10_faultOf_70 : decode m_X10_faultOf.2.1 70 = .ok (.iload 4, 2) := by decide +kernel
theorem d_X10_faultOf_72 : decode m_X10_faultOf.2.1 72 = .ok (.invokestatic 113, 3) := by decide +kernel
theorem d_X10_faultOf_75 : decode m_X10_faultOf.2.1 75 = .ok (.ifCond .eq 11, 3) := by decide +kernel
theorem d_X10_faultOf_78 : decode m_X10_faultOf.2.1 78 = .ok (.aload_n 0, 1) := by decide +kernel
theorem d_X10_faultOf_79 : decode m_X10_faultOf.2.1 79 = .ok (.iload_n 3, 1) := by decide +kernel
theorem d_X10_faultOf_80 : decode m_X10_faultOf.2.1 80 = .ok (.invokevirtual 119, 3) := by decide +kernel
theorem d_X10_faultOf_83 : decode m_X10_faultOf.2.1 83 = .ok (.goto 6, 3) := by decide +kernel
theorem d_X10_faultOf_86 : decode m_X10_faultOf.2.1 86 = .ok (.iload_n 3, 1) := by decide +kernel
theorem d_X10_faultOf_87 : decode m_X10_faultOf.2.1 87 = .ok (.iconst 1, 1) := by decide +kernel
theorem d_X10_faultOf_88 : decode m_X10_faultOf.2.1 88 = .ok (.iadd, 1) := by decide +kernel
theorem d_X10_faultOf_89 : decode m_X10_faultOf.2.1 89 = .ok (.istore 5, 2) := by decide +kernel
theorem d_X10_faultOf_91 : decode m_X10_faultOf.2.1 91 = .ok (.iconst 0, 1) := by decide +kernel
theorem d_X10_faultOf_92 : decode m_X10_faultOf.2.1 92 = .ok (.istore_n 2, 1) := by decide +kernel
theorem d_X10_faultOf_93 : decode m_X10_faultOf.2.1 93 = .ok (.goto 252, 3) := by decide +kernel
theorem d_X10_faultOf_96 : decode m_X10_faultOf.2.1 96 = .ok (.iload_n 2, 1) := by decide +kernel
theorem d_X10_faultOf_97 : decode m_X10_faultOf.2.1 97 = .ok (.ifCond .eq 116, 3) := by decide +kernel
theorem d_X10_faultOf_100 : decode m_X10_faultOf.2.1 100 = .ok (.iload 4, 2) := by decide +kernel
theorem d_X10_faultOf_102 : decode m_X10_faultOf.2.1 102 = .ok (.bipush 40, 2) := by decide +kernel
theorem d_X10_faultOf_104 : decode m_X10_faultOf.2.1 104 = .ok (.if_icmp .eq 10, 3) := by decide +kernel
theorem d_X10_faultOf_107 : decode m_X10_faultOf.2.1 107 = .ok (.iload 4, 2) := by decide +kernel
theorem d_X10_faultOf_109 : decode m_X10_faultOf.2.1 109 = .ok (.bipush 109, 2) := by decide +kernel
theorem d_X10_faultOf_111 : decode m_X10_faultOf.2.1 111 = .ok (.if_icmp .ne 102, 3) := by decide +kernel
theorem d_X10_faultOf_114 : decode m_X10_faultOf.2.1 114 = .ok (.iload 4, 2) := by decide +kernel
theorem d_X10_faultOf_116 : decode m_X10_faultOf.2.1 116 = .ok (.bipush 109, 2) := by decide +kernel
theorem d_X10_faultOf_118 : decode m_X10_faultOf.2.1 118 = .ok (.if_icmp .ne 11, 3) := by decide +kernel
theorem d_X10_faultOf_121 : decode m_X10_faultOf.2.1 121 = .ok (.aload_n 0, 1) := by decide +kernel
theorem d_X10_faultOf_122 : decode m_X10_faultOf.2.1 122 = .ok (.iload_n 3, 1) := by decide +kernel
theorem d_X10_faultOf_123 : decode m_X10_faultOf.2.1 123 = .ok (.invokevirtual 122, 3) := by decide +kernel
theorem d_X10_faultOf_126 : decode m_X10_faultOf.2.1 126 = .ok (.goto 4, 3) := by decide +kernel
theorem d_X10_faultOf_129 : decode m_X10_faultOf.2.1 129 = .ok (.iload_n 3, 1) := by decide +kernel
theorem d_X10_faultOf_130 : decode m_X10_faultOf.2.1 130 = .ok (.istore 5, 2) := by decide +kernel
theorem d_X10_faultOf_132 : decode m_X10_faultOf.2.1 132 = .ok (.iload 5, 2) := by decide +kernel
theorem d_X10_faultOf_134 : decode m_X10_faultOf.2.1 134 = .ok (.ifCond .lt 24, 3) := by decide +kernel
theorem d_X10_faultOf_137 : decode m_X10_faultOf.2.1 137 = .ok (.aload_n 0, 1) := by decide +kernel
theorem d_X10_faultOf_138 : decode m_X10_faultOf.2.1 138 = .ok (.iload 5, 2) := by decide +kernel
theorem d_X10_faultOf_140 : decode m_X10_faultOf.2.1 140 = .ok (.invokevirtual 101, 3) := by decide +kernel
theorem d_X10_faultOf_143 : decode m_X10_faultOf.2.1 143 = .ok (.bipush 40, 2) := by decide +kernel
theorem d_X10_faultOf_145 : decode m_X10_faultOf.2.1 145 = .ok (.if_icmp .ne 13, 3) := by decide +kernel
theorem d_X10_faultOf_148 : decode m_X10_faultOf.2.1 148 = .ok (.iload_n 1, 1) := by decide +kernel
theorem d_X10_faultOf_149 : decode m_X10_faultOf.2.1 149 = .ok (.bipush 6, 2) := by decide +kernel
theorem d_X10_faultOf_151 : decode m_X10_faultOf.2.1 151 = .ok (.if_icmp .ge 7, 3) := by decide +kernel
theorem d_X10_faultOf_154 : decode m_X10_faultOf.2.1 154 = .ok (.iconst 1, 1) := by decide +kernel
theorem d_X10_faultOf_155 : decode m_X10_faultOf.2.1 155 = .ok (.goto 4, 3) := by decide +kernel
theorem d_X10_faultOf_158 : decode m_X10_faultOf.2.1 158 = .ok (.iconst 0, 1) := by decide +kernel
theorem d_X10_faultOf_159 : decode m_X10_faultOf.2.1 159 = .ok (.istore 6, 2) := by decide +kernel
theorem d_X10_faultOf_161 : decode m_X10_faultOf.2.1 161 = .ok (.iload 5, 2) := by decide +kernel
theorem d_X10_faultOf_163 : decode m_X10_faultOf.2.1 163 = .ok (.ifCond .lt 11, 3) := by decide +kernel
theorem d_X10_faultOf_166 : decode m_X10_faultOf.2.1 166 = .ok (.iload 6, 2) := by decide +kernel
theorem d_X10_faultOf_168 : decode m_X10_faultOf.2.1 168 = .ok (.ifCond .ne 6, 3) := by decide +kernel
theorem d_X10_faultOf_171 : decode m_X10_faultOf.2.1 171 = .ok (.iload 5, 2) := by decide +kernel
theorem d_X10_faultOf_173 : decode m_X10_faultOf.2.1 173 = .ok (.ireturn, 1) := by decide +kernel
theorem d_X10_faultOf_174 : decode m_X10_faultOf.2.1 174 = .ok (.aload_n 0, 1) := by decide +kernel
theorem d_X10_faultOf_175 : decode m_X10_faultOf.2.1 175 = .ok (.getfield 71, 3) := by decide +kernel
theorem d_X10_faultOf_178 : decode m_X10_faultOf.2.1 178 = .ok (.iload_n 1, 1) := by decide +kernel
theorem d_X10_faultOf_179 : decode m_X10_faultOf.2.1 179 = .ok (.iload 4, 2) := by decide +kernel
theorem d_X10_faultOf_181 : decode m_X10_faultOf.2.1 181 = .ok (.bipush 109, 2) := by decide +kernel
theorem d_X10_faultOf_183 : decode m_X10_faultOf.2.1 183 = .ok (.if_icmp .ne 7, 3) := by decide +kernel
theorem d_X10_faultOf_186 : decode m_X10_faultOf.2.1 186 = .ok (.iconst 2, 1) := by decide +kernel
theorem d_X10_faultOf_187 : decode m_X10_faultOf.2.1 187 = .ok (.goto 4, 3) := by decide +kernel
theorem d_X10_faultOf_190 : decode m_X10_faultOf.2.1 190 = .ok (.iconst 1, 1) := by decide +kernel
theorem d_X10_faultOf_191 : decode m_X10_faultOf.2.1 191 = .ok (.iastore, 1) := by decide +kernel
theorem d_X10_faultOf_192 : decode m_X10_faultOf.2.1 192 = .ok (.iinc 1 1, 3) := by decide +kernel
theorem d_X10_faultOf_195 : decode m_X10_faultOf.2.1 195 = .ok (.iload 5, 2) := by decide +kernel
theorem d_X10_faultOf_197 : decode m_X10_faultOf.2.1 197 = .ok (.iload 5, 2) := by decide +kernel
theorem d_X10_faultOf_199 : decode m_X10_faultOf.2.1 199 = .ok (.ifCond .lt 7, 3) := by decide +kernel
theorem d_X10_faultOf_202 : decode m_X10_faultOf.2.1 202 = .ok (.iconst 1, 1) := by decide +kernel
theorem d_X10_faultOf_203 : decode m_X10_faultOf.2.1 203 = .ok (.goto 4, 3) := by decide +kernel
theorem d_X10_faultOf_206 : decode m_X10_faultOf.2.1 206 = .ok (.iconst 0, 1) := by decide +kernel
theorem d_X10_faultOf_207 : decode m_X10_faultOf.2.1 207 = .ok (.iadd, 1) := by decide +kernel
theorem d_X10_faultOf_208 : decode m_X10_faultOf.2.1 208 = .ok (.istore 5, 2) := by decide +kernel
theorem d_X10_faultOf_210 : decode m_X10_faultOf.2.1 210 = .ok (.goto 135, 3) := by decide +kernel
theorem d_X10_faultOf_213 : decode m_X10_faultOf.2.1 213 = .ok (.iload_n 2, 1) := by decide +kernel
theorem d_X10_faultOf_214 : decode m_X10_faultOf.2.1 214 = .ok (.ifCond .eq 18, 3) := by decide +kernel
theorem d_X10_faultOf_217 : decode m_X10_faultOf.2.1 217 = .ok (.iload 4, 2) := by decide +kernel
theorem d_X10_faultOf_219 : decode m_X10_faultOf.2.1 219 = .ok (.bipush 45, 2) := by decide +kernel
theorem d_X10_faultOf_221 : decode m_X10_faultOf.2.1 221 = .ok (.if_icmp .ne 11, 3) := by decide +kernel
theorem d_X10_faultOf_224 : decode m_X10_faultOf.2.1 224 = .ok (.iload_n 3, 1) := by decide +kernel
theorem d_X10_faultOf_225 : decode m_X10_faultOf.2.1 225 = .ok (.iconst 1, 1) := by decide +kernel
theorem d_X10_faultOf_226 : decode m_X10_faultOf.2.1 226 = .ok (.iadd, 1) := by decide +kernel
theorem d_X10_faultOf_227 : decode m_X10_faultOf.2.1 227 = .ok (.istore 5, 2) := by decide +kernel
theorem d_X10_faultOf_229 : decode m_X10_faultOf.2.1 229 = .ok (.goto 116, 3) := by decide +kernel
theorem d_X10_faultOf_232 : decode m_X10_faultOf.2.1 232 = .ok (.iload_n 2, 1) := by decide +kernel
theorem d_X10_faultOf_233 : decode m_X10_faultOf.2.1 233 = .ok (.ifCond .ne 36, 3) := by decide +kernel
theorem d_X10_faultOf_236 : decode m_X10_faultOf.2.1 236 = .ok (.iload 4, 2) := by decide +kernel
theorem d_X10_faultOf_238 : decode m_X10_faultOf.2.1 238 = .ok (.bipush 43, 2) := by decide +kernel
theorem d_X10_faultOf_240 : decode m_X10_faultOf.2.1 240 = .ok (.if_icmp .eq 24, 3) := by decide +kernel
theorem d_X10_faultOf_243 : decode m_X10_faultOf.2.1 243 = .ok (.iload 4, 2) := by decide +kernel
theorem d_X10_faultOf_245 : decode m_X10_faultOf.2.1 245 = .ok (.bipush 45, 2) := by decide +kernel
theorem d_X10_faultOf_247 : decode m_X10_faultOf.2.1 247 = .ok (.if_icmp .eq 17, 3) := by decide +kernel
theorem d_X10_faultOf_250 : decode m_X10_faultOf.2.1 250 = .ok (.iload 4, 2) := by decide +kernel
theorem d_X10_faultOf_252 : decode m_X10_faultOf.2.1 252 = .ok (.bipush 42, 2) := by decide +kernel
theorem d_X10_faultOf_254 : decode m_X10_faultOf.2.1 254 = .ok (.if_icmp .eq 10, 3) := by decide +kernel
theorem d_X10_faultOf_257 : decode m_X10_faultOf.2.1 257 = .ok (.iload 4, 2) := by decide +kernel
theorem d_X10_faultOf_259 : decode m_X10_faultOf.2.1 259 = .ok (.bipush 47, 2) := by decide +kernel
theorem d_X10_faultOf_261 : decode m_X10_faultOf.2.1 261 = .ok (.if_icmp .ne 8, 3) := by decide +kernel
theorem d_X10_faultOf_264 : decode m_X10_faultOf.2.1 264 = .ok (.iconst 1, 1) := by decide +kernel
theorem d_X10_faultOf_265 : decode m_X10_faultOf.2.1 265 = .ok (.istore_n 2, 1) := by decide +kernel
theorem d_X10_faultOf_266 : decode m_X10_faultOf.2.1 266 = .ok (.goto 79, 3) := by decide +kernel
theorem d_X10_faultOf_269 : decode m_X10_faultOf.2.1 269 = .ok (.iload_n 2, 1) := by decide +kernel
theorem d_X10_faultOf_270 : decode m_X10_faultOf.2.1 270 = .ok (.ifCond .ne 40, 3) := by decide +kernel
theorem d_X10_faultOf_273 : decode m_X10_faultOf.2.1 273 = .ok (.iload 4, 2) := by decide +kernel
theorem d_X10_faultOf_275 : decode m_X10_faultOf.2.1 275 = .ok (.bipush 44, 2) := by decide +kernel
theorem d_X10_faultOf_277 : decode m_X10_faultOf.2.1 277 = .ok (.if_icmp .ne 33, 3) := by decide +kernel
theorem d_X10_faultOf_280 : decode m_X10_faultOf.2.1 280 = .ok (.iload_n 1, 1) := by decide +kernel
theorem d_X10_faultOf_281 : decode m_X10_faultOf.2.1 281 = .ok (.ifCond .le 29, 3) := by decide +kernel
theorem d_X10_faultOf_284 : decode m_X10_faultOf.2.1 284 = .ok (.aload_n 0, 1) := by decide +kernel
theorem d_X10_faultOf_285 : decode m_X10_faultOf.2.1 285 = .ok (.getfield 71, 3) := by decide +kernel
theorem d_X10_faultOf_288 : decode m_X10_faultOf.2.1 288 = .ok (.iload_n 1, 1) := by decide +kernel
theorem d_X10_faultOf_289 : decode m_X10_faultOf.2.1 289 = .ok (.iconst 1, 1) := by decide +kernel
theorem d_X10_faultOf_290 : decode m_X10_faultOf.2.1 290 = .ok (.isub, 1) := by decide +kernel
theorem d_X10_faultOf_291 : decode m_X10_faultOf.2.1 291 = .ok (.iaload, 1) := by decide +kernel
theorem d_X10_faultOf_292 : decode m_X10_faultOf.2.1 292 = .ok (.iconst 2, 1) := by decide +kernel
theorem d_X10_faultOf_293 : decode m_X10_faultOf.2.1 293 = .ok (.if_icmp .ne 17, 3) := by decide +kernel
theorem d_X10_faultOf_296 : decode m_X10_faultOf.2.1 296 = .ok (.aload_n 0, 1) := by decide +kernel
theorem d_X10_faultOf_297 : decode m_X10_faultOf.2.1 297 = .ok (.getfield 71, 3) := by decide +kernel
theorem d_X10_faultOf_300 : decode m_X10_faultOf.2.1 300 = .ok (.iload_n 1, 1) := by decide +kernel
theorem d_X10_faultOf_301 : decode m_X10_faultOf.2.1 301 = .ok (.iconst 1, 1) := by decide +kernel
theorem d_X10_faultOf_302 : decode m_X10_faultOf.2.1 302 = .ok (.isub, 1) := by decide +kernel
theorem d_X10_faultOf_303 : decode m_X10_faultOf.2.1 303 = .ok (.iconst 1, 1) := by decide +kernel
theorem d_X10_faultOf_304 : decode m_X10_faultOf.2.1 304 = .ok (.iastore, 1) := by decide +kernel
theorem d_X10_faultOf_305 : decode m_X10_faultOf.2.1 305 = .ok (.iconst 1, 1) := by decide +kernel
theorem d_X10_faultOf_306 : decode m_X10_faultOf.2.1 306 = .ok (.istore_n 2, 1) := by decide +kernel
theorem d_X10_faultOf_307 : decode m_X10_faultOf.2.1 307 = .ok (.goto 38, 3) := by decide +kernel
theorem d_X10_faultOf_310 : decode m_X10_faultOf.2.1 310 = .ok (.iload_n 2, 1) := by decide +kernel
theorem d_X10_faultOf_311 : decode m_X10_faultOf.2.1 311 = .ok (.ifCond .ne 32, 3) := by decide +kernel
theorem d_X10_faultOf_314 : decode m_X10_faultOf.2.1 314 = .ok (.iload 4, 2) := by decide +kernel
theorem d_X10_faultOf_316 : decode m_X10_faultOf.2.1 316 = .ok (.bipush 41, 2) := by decide +kernel
theorem d_X10_faultOf_318 : decode m_X10_faultOf.2.1 318 = .ok (.if_icmp .ne 25, 3) := by decide +kernel
theorem d_X10_faultOf_321 : decode m_X10_faultOf.2.1 321 = .ok (.iload_n 1, 1) := by decide +kernel
theorem d_X10_faultOf_322 : decode m_X10_faultOf.2.1 322 = .ok (.ifCond .le 21, 3) := by decide +kernel
theorem d_X10_faultOf_325 : decode m_X10_faultOf.2.1 325 = .ok (.aload_n 0, 1) := by decide +kernel
theorem d_X10_faultOf_326 : decode m_X10_faultOf.2.1 326 = .ok (.getfield 71, 3) := by decide +kernel
theorem d_X10_faultOf_329 : decode m_X10_faultOf.2.1 329 = .ok (.iload_n 1, 1) := by decide +kernel
theorem d_X10_faultOf_330 : decode m_X10_faultOf.2.1 330 = .ok (.iconst 1, 1) := by decide +kernel
theorem d_X10_faultOf_331 : decode m_X10_faultOf.2.1 331 = .ok (.isub, 1) := by decide +kernel
theorem d_X10_faultOf_332 : decode m_X10_faultOf.2.1 332 = .ok (.iaload, 1) := by decide +kernel
theorem d_X10_faultOf_333 : decode m_X10_faultOf.2.1 333 = .ok (.iconst 1, 1) := by decide +kernel
theorem d_X10_faultOf_334 : decode m_X10_faultOf.2.1 334 = .ok (.if_icmp .ne 9, 3) := by decide +kernel
theorem d_X10_faultOf_337 : decode m_X10_faultOf.2.1 337 = .ok (.iinc 1 (-1), 3) := by decide +kernel
theorem d_X10_faultOf_340 : decode m_X10_faultOf.2.1 340 = .ok (.goto 5, 3) := by decide +kernel
theorem d_X10_faultOf_343 : decode m_X10_faultOf.2.1 343 = .ok (.iload_n 3, 1) := by decide +kernel
theorem d_X10_faultOf_344 : decode m_X10_faultOf.2.1 344 = .ok (.ireturn, 1) := by decide +kernel
theorem d_X10_faultOf_345 : decode m_X10_faultOf.2.1 345 = .ok (.iload 5, 2) := by decide +kernel
theorem d_X10_faultOf_347 : decode m_X10_faultOf.2.1 347 = .ok (.ifCond .ge 8, 3) := by decide +kernel
theorem d_X10_faultOf_350 : decode m_X10_faultOf.2.1 350 = .ok (.iconst (-1), 1) := by decide +kernel
theorem d_X10_faultOf_351 : decode m_X10_faultOf.2.1 351 = .ok (.iload 5, 2) := by decide +kernel
theorem d_X10_faultOf_353 : decode m_X10_faultOf.2.1 353 = .ok (.isub, 1) := by decide +kernel
theorem d_X10_faultOf_354 : decode m_X10_faultOf.2.1 354 = .ok (.ireturn, 1) := by decide +kernel
theorem d_X10_faultOf_355 : decode m_X10_faultOf.2.1 355 = .ok (.iload 5, 2) := by decide +kernel
theorem d_X10_faultOf_357 : decode m_X10_faultOf.2.1 357 = .ok (.istore_n 3, 1) := by decide +kernel
theorem d_X10_faultOf_358 : decode m_X10_faultOf.2.1 358 = .ok (.goto (-352), 3) := by decide +kernel
theorem d_X10_faultOf_361 : decode m_X10_faultOf.2.1 361 = .ok (.iload_n 2, 1) := by decide +kernel
theorem d_X10_faultOf_362 : decode m_X10_faultOf.2.1 362 = .ok (.ifCond .ne 7, 3) := by decide +kernel
theorem d_X10_faultOf_365 : decode m_X10_faultOf.2.1 365 = .ok (.iload_n 1, 1) := by decide +kernel
theorem d_X10_faultOf_366 : decode m_X10_faultOf.2.1 366 = .ok (.ifCond .le 10, 3) := by decide +kernel
theorem d_X10_faultOf_369 : decode m_X10_faultOf.2.1 369 = .ok (.aload_n 0, 1) := by decide +kernel
theorem d_X10_faultOf_370 : decode m_X10_faultOf.2.1 370 = .ok (.getfield 97, 3) := by decide +kernel
theorem d_X10_faultOf_373 : decode m_X10_faultOf.2.1 373 = .ok (.goto 5, 3) := by decide +kernel
theorem d_X10_faultOf_376 : decode m_X10_faultOf.2.1 376 = .ok (.ldc 125, 2) := by decide +kernel
theorem d_X10_faultOf_378 : decode m_X10_faultOf.2.1 378 = .ok (.ireturn, 1) := by decide +kernel
theorem d_X10_fault_0 : decode m_X10_fault.2.1 0 = .ok (.aload_n 0, 1) := by decide +kernel
theorem d_X10_fault_1 : decode m_X10_fault.2.1 1 = .ok (.invokevirtual 126, 3) := by decide +kernel
theorem d_X10_fault_4 : decode m_X10_fault.2.1 4 = .ok (.ireturn, 1) := by decide +kernel
theorem d_X10_isThree_0 : decode m_X10_isThree.2.1 0 = .ok (.iload_n 0, 1) := by decide +kernel
theorem d_X10_isThree_1 : decode m_X10_isThree.2.1 1 = .ok (.iconst 0, 1) := by decide +kernel
theorem d_X10_isThree_2 : decode m_X10_isThree.2.1 2 = .ok (.iconst 2, 1) := by decide +kernel
theorem d_X10_isThree_3 : decode m_X10_isThree.2.1 3 = .ok (.invokestatic 86, 3) := by decide +kernel
theorem d_X10_isThree_6 : decode m_X10_isThree.2.1 6 = .ok (.ireturn, 1) := by decide +kernel
theorem d_X10_rightLetter_0 : decode m_X10_rightLetter.2.1 0 = .ok (.iload_n 2, 1) := by decide +kernel
theorem d_X10_rightLetter_1 : decode m_X10_rightLetter.2.1 1 = .ok (.aload_n 0, 1) := by decide +kernel
theorem d_X10_rightLetter_2 : decode m_X10_rightLetter.2.1 2 = .ok (.getfield 7, 3) := by decide +kernel
theorem d_X10_rightLetter_5 : decode m_X10_rightLetter.2.1 5 = .ok (.bipush 48, 2) := by decide +kernel
theorem d_X10_rightLetter_7 : decode m_X10_rightLetter.2.1 7 = .ok (.bipush 81, 2) := by decide +kernel
theorem d_X10_rightLetter_9 : decode m_X10_rightLetter.2.1 9 = .ok (.iload_n 1, 1) := by decide +kernel
theorem d_X10_rightLetter_10 : decode m_X10_rightLetter.2.1 10 = .ok (.imul, 1) := by decide +kernel
theorem d_X10_rightLetter_11 : decode m_X10_rightLetter.2.1 11 = .ok (.iadd, 1) := by decide +kernel
theorem d_X10_rightLetter_12 : decode m_X10_rightLetter.2.1 12 = .ok (.iaload, 1) := by decide +kernel
theorem d_X10_rightLetter_13 : decode m_X10_rightLetter.2.1 13 = .ok (.if_icmp .ge 22, 3) := by decide +kernel
theorem d_X10_rightLetter_16 : decode m_X10_rightLetter.2.1 16 = .ok (.aload_n 0, 1) := by decide +kernel
theorem d_X10_rightLetter_17 : decode m_X10_rightLetter.2.1 17 = .ok (.getfield 7, 3) := by decide +kernel
theorem d_X10_rightLetter_20 : decode m_X10_rightLetter.2.1 20 = .ok (.bipush 48, 2) := by decide +kernel
theorem d_X10_rightLetter_22 : decode m_X10_rightLetter.2.1 22 = .ok (.bipush 81, 2) := by decide +kernel
theorem d_X10_rightLetter_24 : decode m_X10_rightLetter.2.1 24 = .ok (.iload_n 1, 1) := by decide +kernel
theorem d_X10_rightLetter_25 : decode m_X10_rightLetter.2.1 25 = .ok (.imul, 1) := by decide +kernel
theorem d_X10_rightLetter_26 : decode m_X10_rightLetter.2.1 26 = .ok (.iadd, 1) := by decide +kernel
theorem d_X10_rightLetter_27 : decode m_X10_rightLetter.2.1 27 = .ok (.iconst 1, 1) := by decide +kernel
theorem d_X10_rightLetter_28 : decode m_X10_rightLetter.2.1 28 = .ok (.iadd, 1) := by decide +kernel
theorem d_X10_rightLetter_29 : decode m_X10_rightLetter.2.1 29 = .ok (.iload_n 2, 1) := by decide +kernel
theorem d_X10_rightLetter_30 : decode m_X10_rightLetter.2.1 30 = .ok (.iadd, 1) := by decide +kernel
theorem d_X10_rightLetter_31 : decode m_X10_rightLetter.2.1 31 = .ok (.iaload, 1) := by decide +kernel
theorem d_X10_rightLetter_32 : decode m_X10_rightLetter.2.1 32 = .ok (.goto 4, 3) := by decide +kernel
theorem d_X10_rightLetter_35 : decode m_X10_rightLetter.2.1 35 = .ok (.iconst 0, 1) := by decide +kernel
theorem d_X10_rightLetter_36 : decode m_X10_rightLetter.2.1 36 = .ok (.ireturn, 1) := by decide +kernel
theorem d_X10_usedBy_0 : decode m_X10_usedBy.2.1 0 = .ok (.iconst 0, 1) := by decide +kernel
theorem d_X10_usedBy_1 : decode m_X10_usedBy.2.1 1 = .ok (.istore_n 2, 1) := by decide +kernel
theorem d_X10_usedBy_2 : decode m_X10_usedBy.2.1 2 = .ok (.iconst 0, 1) := by decide +kernel
theorem d_X10_usedBy_3 : decode m_X10_usedBy.2.1 3 = .ok (.istore_n 3, 1) := by decide +kernel
theorem d_X10_usedBy_4 : decode m_X10_usedBy.2.1 4 = .ok (.iload_n 3, 1) := by decide +kernel
theorem d_X10_usedBy_5 : decode m_X10_usedBy.2.1 5 = .ok (.aload_n 0, 1) := by decide +kernel
theorem d_X10_usedBy_6 : decode m_X10_usedBy.2.1 6 = .ok (.getfield 7, 3) := by decide +kernel
theorem d_X10_usedBy_9 : decode m_X10_usedBy.2.1 9 = .ok (.bipush 48, 2) := by decide +kernel
theorem d_X10_usedBy_11 : decode m_X10_usedBy.2.1 11 = .ok (.bipush 81, 2) := by decide +kernel
theorem d_X10_usedBy_13 : decode m_X10_usedBy.2.1 13 = .ok (.iload_n 1, 1) := by decide +kernel
theorem d_X10_usedBy_14 : decode m_X10_usedBy.2.1 14 = .ok (.imul, 1) := by decide +kernel
theorem d_X10_usedBy_15 : decode m_X10_usedBy.2.1 15 = .ok (.iadd, 1) := by decide +kernel
theorem d_X10_usedBy_16 : decode m_X10_usedBy.2.1 16 = .ok (.iaload, 1) := by decide +kernel
theorem d_X10_usedBy_17 : decode m_X10_usedBy.2.1 17 = .ok (.if_icmp .ge 40, 3) := by decide +kernel
theorem d_X10_usedBy_20 : decode m_X10_usedBy.2.1 20 = .ok (.iload_n 2, 1) := by decide +kernel
theorem d_X10_usedBy_21 : decode m_X10_usedBy.2.1 21 = .ok (.aload_n 0, 1) := by decide +kernel
theorem d_X10_usedBy_22 : decode m_X10_usedBy.2.1 22 = .ok (.iload_n 1, 1) := by decide +kernel
theorem d_X10_usedBy_23 : decode m_X10_usedBy.2.1 23 = .ok (.iload_n 3, 1) := by decide +kernel
theorem d_X10_usedBy_24 : decode m_X10_usedBy.2.1 24 = .ok (.invokevirtual 130, 3) := by decide +kernel
theorem d_X10_usedBy_27 : decode m_X10_usedBy.2.1 27 = .ok (.bipush 64, 2) := by decide +kernel
theorem d_X10_usedBy_29 : decode m_X10_usedBy.2.1 29 = .ok (.if_icmp .ne 19, 3) := by decide +kernel
theorem d_X10_usedBy_32 : decode m_X10_usedBy.2.1 32 = .ok (.iconst 1, 1) := by decide +kernel
theorem d_X10_usedBy_33 : decode m_X10_usedBy.2.1 33 = .ok (.aload_n 0, 1) := by decide +kernel
theorem d_X10_usedBy_34 : decode m_X10_usedBy.2.1 34 = .ok (.iload_n 1, 1) := by decide +kernel
theorem d_X10_usedBy_35 : decode m_X10_usedBy.2.1 35 = .ok (.iload_n 3, 1) := by decide +kernel
theorem d_X10_usedBy_36 : decode m_X10_usedBy.2.1 36 = .ok (.iconst 1, 1) := by decide +kernel
theorem d_X10_usedBy_37 : decode m_X10_usedBy.2.1 37 = .ok (.iadd, 1) := by decide +kernel
theorem d_X10_usedBy_38 : decode m_X10_usedBy.2.1 38 = .ok (.invokevirtual 130, 3) := by decide +kernel
theorem d_X10_usedBy_41 : decode m_X10_usedBy.2.1 41 = .ok (.bipush 48, 2) := by decide +kernel
theorem d_X10_usedBy_43 : decode m_X10_usedBy.2.1 43 = .ok (.isub, 1) := by decide +kernel
theorem d_X10_usedBy_44 : decode m_X10_usedBy.2.1 44 = .ok (.ishl, 1) := by decide +kernel
theorem d_X10_usedBy_45 : decode m_X10_usedBy.2.1 45 = .ok (.goto 4, 3) := by decide +kernel
theorem d_X10_usedBy_48 : decode m_X10_usedBy.2.1 48 = .ok (.iconst 0, 1) := by decide +kernel
theorem d_X10_usedBy_49 : decode m_X10_usedBy.2.1 49 = .ok (.ior, 1) := by decide +kernel
theorem d_X10_usedBy_50 : decode m_X10_usedBy.2.1 50 = .ok (.istore_n 2, 1) := by decide +kernel
theorem d_X10_usedBy_51 : decode m_X10_usedBy.2.1 51 = .ok (.iinc 3 1, 3) := by decide +kernel
theorem d_X10_usedBy_54 : decode m_X10_usedBy.2.1 54 = .ok (.goto (-50), 3) := by decide +kernel
theorem d_X10_usedBy_57 : decode m_X10_usedBy.2.1 57 = .ok (.iload_n 2, 1) := by decide +kernel
theorem d_X10_usedBy_58 : decode m_X10_usedBy.2.1 58 = .ok (.ireturn, 1) := by decide +kernel
theorem d_X10_used_0 : decode m_X10_used.2.1 0 = .ok (.aload_n 0, 1) := by decide +kernel
theorem d_X10_used_1 : decode m_X10_used.2.1 1 = .ok (.iconst 0, 1) := by decide +kernel
theorem d_X10_used_2 : decode m_X10_used.2.1 2 = .ok (.invokevirtual 133, 3) := by decide +kernel
theorem d_X10_used_5 : decode m_X10_used.2.1 5 = .ok (.aload_n 0, 1) := by decide +kernel
theorem d_X10_used_6 : decode m_X10_used.2.1 6 = .ok (.iconst 1, 1) := by decide +kernel
theorem d_X10_used_7 : decode m_X10_used.2.1 7 = .ok (.invokevirtual 133, 3) := by decide +kernel
theorem d_X10_used_10 : decode m_X10_used.2.1 10 = .ok (.ior, 1) := by decide +kernel
theorem d_X10_used_11 : decode m_X10_used.2.1 11 = .ok (.aload_n 0, 1) := by decide +kernel
theorem d_X10_used_12 : decode m_X10_used.2.1 12 = .ok (.iconst 2, 1) := by decide +kernel
theorem d_X10_used_13 : decode m_X10_used.2.1 13 = .ok (.invokevirtual 133, 3) := by decide +kernel
theorem d_X10_used_16 : decode m_X10_used.2.1 16 = .ok (.ior, 1) := by decide +kernel
theorem d_X10_used_17 : decode m_X10_used.2.1 17 = .ok (.ireturn, 1) := by decide +kernel
theorem d_X10_right_0 : decode m_X10_right.2.1 0 = .ok (.iload_n 1, 1) := by decide +kernel
theorem d_X10_right_1 : decode m_X10_right.2.1 1 = .ok (.invokestatic 136, 3) := by decide +kernel
theorem d_X10_right_4 : decode m_X10_right.2.1 4 = .ok (.ifCond .ne 6, 3) := by decide +kernel
theorem d_X10_right_7 : decode m_X10_right.2.1 7 = .ok (.ldc 90, 2) := by decide +kernel
theorem d_X10_right_9 : decode m_X10_right.2.1 9 = .ok (.ireturn, 1) := by decide +kernel
theorem d_X10_right_10 : decode m_X10_right.2.1 10 = .ok (.aload_n 0, 1) := by decide +kernel
theorem d_X10_right_11 : decode m_X10_right.2.1 11 = .ok (.invokevirtual 126, 3) := by decide +kernel
theorem d_X10_right_14 : decode m_X10_right.2.1 14 = .ok (.ldc 125, 2) := by decide +kernel
theorem d_X10_right_16 : decode m_X10_right.2.1 16 = .ok (.if_icmp .eq 6, 3) := by decide +kernel
theorem d_X10_right_19 : decode m_X10_right.2.1 19 = .ok (.ldc 85, 2) := by decide +kernel
theorem d_X10_right_21 : decode m_X10_right.2.1 21 = .ok (.ireturn, 1) := by decide +kernel
theorem d_X10_right_22 : decode m_X10_right.2.1 22 = .ok (.aload_n 0, 1) := by decide +kernel
theorem d_X10_right_23 : decode m_X10_right.2.1 23 = .ok (.invokevirtual 94, 3) := by decide +kernel
theorem d_X10_right_26 : decode m_X10_right.2.1 26 = .ok (.aload_n 0, 1) := by decide +kernel
theorem d_X10_right_27 : decode m_X10_right.2.1 27 = .ok (.getfield 7, 3) := by decide +kernel
theorem d_X10_right_30 : decode m_X10_right.2.1 30 = .ok (.bipush 48, 2) := by decide +kernel
theorem d_X10_right_32 : decode m_X10_right.2.1 32 = .ok (.bipush 81, 2) := by decide +kernel
theorem d_X10_right_34 : decode m_X10_right.2.1 34 = .ok (.iload_n 1, 1) := by decide +kernel
theorem d_X10_right_35 : decode m_X10_right.2.1 35 = .ok (.imul, 1) := by decide +kernel
theorem d_X10_right_36 : decode m_X10_right.2.1 36 = .ok (.iadd, 1) := by decide +kernel
theorem d_X10_right_37 : decode m_X10_right.2.1 37 = .ok (.aload_n 0, 1) := by decide +kernel
theorem d_X10_right_38 : decode m_X10_right.2.1 38 = .ok (.getfield 97, 3) := by decide +kernel
theorem d_X10_right_41 : decode m_X10_right.2.1 41 = .ok (.iastore, 1) := by decide +kernel
theorem d_X10_right_42 : decode m_X10_right.2.1 42 = .ok (.iconst 0, 1) := by decide +kernel
theorem d_X10_right_43 : decode m_X10_right.2.1 43 = .ok (.istore_n 2, 1) := by decide +kernel
theorem d_X10_right_44 : decode m_X10_right.2.1 44 = .ok (.iload_n 2, 1) := by decide +kernel
theorem d_X10_right_45 : decode m_X10_right.2.1 45 = .ok (.bipush 80, 2) := by decide +kernel
theorem d_X10_right_47 : decode m_X10_right.2.1 47 = .ok (.if_icmp .ge 43, 3) := by decide +kernel
theorem d_X10_right_50 : decode m_X10_right.2.1 50 = .ok (.aload_n 0, 1) := by decide +kernel
theorem d_X10_right_51 : decode m_X10_right.2.1 51 = .ok (.getfield 7, 3) := by decide +kernel
theorem d_X10_right_54 : decode m_X10_right.2.1 54 = .ok (.bipush 48, 2) := by decide +kernel
theorem d_X10_right_56 : decode m_X10_right.2.1 56 = .ok (.bipush 81, 2) := by decide +kernel
theorem d_X10_right_58 : decode m_X10_right.2.1 58 = .ok (.iload_n 1, 1) := by decide +kernel
theorem d_X10_right_59 : decode m_X10_right.2.1 59 = .ok (.imul, 1) := by decide +kernel
theorem d_X10_right_60 : decode m_X10_right.2.1 60 = .ok (.iadd, 1) := by decide +kernel
theorem d_X10_right_61 : decode m_X10_right.2.1 61 = .ok (.iconst 1, 1) := by decide +kernel
theorem d_X10_right_62 : decode m_X10_right.2.1 62 = .ok (.iadd, 1) := by decide +kernel
theorem d_X10_right_63 : decode m_X10_right.2.1 63 = .ok (.iload_n 2, 1) := by decide +kernel
theorem d_X10_right_64 : decode m_X10_right.2.1 64 = .ok (.iadd, 1) := by decide +kernel
theorem d_X10_right_65 : decode m_X10_right.2.1 65 = .ok (.iload_n 2, 1) := by decide +kernel
theorem d_X10_right_66 : decode m_X10_right.2.1 66 = .ok (.aload_n 0, 1) := by decide +kernel
theorem d_X10_right_67 : decode m_X10_right.2.1 67 = .ok (.getfield 97, 3) := by decide +kernel
theorem d_X10_right_70 : decode m_X10_right.2.1 70 = .ok (.if_icmp .ge 12, 3) := by decide +kernel
theorem d_X10_right_73 : decode m_X10_right.2.1 73 = .ok (.aload_n 0, 1) := by decide +kernel
theorem d_X10_right_74 : decode m_X10_right.2.1 74 = .ok (.getfield 22, 3) := by decide +kernel
theorem d_X10_right_77 : decode m_X10_right.2.1 77 = .ok (.iload_n 2, 1) := by decide +kernel
theorem d_X10_right_78 : decode m_X10_right.2.1 78 = .ok (.iaload, 1) := by decide +kernel
theorem d_X10_right_79 : decode m_X10_right.2.1 79 = .ok (.goto 4, 3) := by decide +kernel
theorem d_X10_right_82 : decode m_X10_right.2.1 82 = .ok (.iconst 0, 1) := by decide +kernel
theorem d_X10_right_83 : decode m_X10_right.2.1 83 = .ok (.iastore, 1) := by decide +kernel
theorem d_X10_right_84 : decode m_X10_right.2.1 84 = .ok (.iinc 2 1, 3) := by decide +kernel
theorem d_X10_right_87 : decode m_X10_right.2.1 87 = .ok (.goto (-43), 3) := by decide +kernel
theorem d_X10_right_90 : decode m_X10_right.2.1 90 = .ok (.aload_n 0, 1) := by decide +kernel
theorem d_X10_right_91 : decode m_X10_right.2.1 91 = .ok (.iconst 0, 1) := by decide +kernel
theorem d_X10_right_92 : decode m_X10_right.2.1 92 = .ok (.putfield 97, 3) := by decide +kernel
theorem d_X10_right_95 : decode m_X10_right.2.1 95 = .ok (.aload_n 0, 1) := by decide +kernel
theorem d_X10_right_96 : decode m_X10_right.2.1 96 = .ok (.invokevirtual 139, 3) := by decide +kernel
theorem d_X10_right_99 : decode m_X10_right.2.1 99 = .ok (.aload_n 0, 1) := by decide +kernel
theorem d_X10_right_100 : decode m_X10_right.2.1 100 = .ok (.iload_n 1, 1) := by decide +kernel
theorem d_X10_right_101 : decode m_X10_right.2.1 101 = .ok (.invokevirtual 133, 3) := by decide +kernel
theorem d_X10_right_104 : decode m_X10_right.2.1 104 = .ok (.ireturn, 1) := by decide +kernel
theorem d_X10_delay_0 : decode m_X10_delay.2.1 0 = .ok (.iload_n 1, 1) := by decide +kernel
theorem d_X10_delay_1 : decode m_X10_delay.2.1 1 = .ok (.invokestatic 136, 3) := by decide +kernel
theorem d_X10_delay_4 : decode m_X10_delay.2.1 4 = .ok (.ifCond .eq 27, 3) := by decide +kernel
theorem d_X10_delay_7 : decode m_X10_delay.2.1 7 = .ok (.iload_n 2, 1) := by decide +kernel
theorem d_X10_delay_8 : decode m_X10_delay.2.1 8 = .ok (.iconst 0, 1) := by decide +kernel
theorem d_X10_delay_9 : decode m_X10_delay.2.1 9 = .ok (.sipush 5000, 3) := by decide +kernel
theorem d_X10_delay_12 : decode m_X10_delay.2.1 12 = .ok (.invokestatic 86, 3) := by decide +kernel
theorem d_X10_delay_15 : decode m_X10_delay.2.1 15 = .ok (.ifCond .eq 16, 3) := by decide +kernel
theorem d_X10_delay_18 : decode m_X10_delay.2.1 18 = .ok (.iload_n 3, 1) := by decide +kernel
theorem d_X10_delay_19 : decode m_X10_delay.2.1 19 = .ok (.sipush (-900), 3) := by decide +kernel
theorem d_X10_delay_22 : decode m_X10_delay.2.1 22 = .ok (.sipush 900, 3) := by decide +kernel
theorem d_X10_delay_25 : decode m_X10_delay.2.1 25 = .ok (.invokestatic 86, 3) := by decide +kernel
theorem d_X10_delay_28 : decode m_X10_delay.2.1 28 = .ok (.ifCond .ne 6, 3) := by decide +kernel
theorem d_X10_delay_31 : decode m_X10_delay.2.1 31 = .ok (.ldc 90, 2) := by decide +kernel
theorem d_X10_delay_33 : decode m_X10_delay.2.1 33 = .ok (.ireturn, 1) := by decide +kernel
theorem d_X10_delay_34 : decode m_X10_delay.2.1 34 = .ok (.aload_n 0, 1) := by decide +kernel
theorem d_X10_delay_35 : decode m_X10_delay.2.1 35 = .ok (.invokevirtual 94, 3) := by decide +kernel
theorem d_X10_delay_38 : decode m_X10_delay.2.1 38 = .ok (.aload_n 0, 1) := by decide +kernel
theorem d_X10_delay_39 : decode m_X10_delay.2.1 39 = .ok (.getfield 7, 3) := by decide +kernel
theorem d_X10_delay_42 : decode m_X10_delay.2.1 42 = .ok (.iconst 3, 1) := by decide +kernel
theorem d_X10_delay_43 : decode m_X10_delay.2.1 43 = .ok (.iload_n 1, 1) := by decide +kernel
theorem d_X10_delay_44 : decode m_X10_delay.2.1 44 = .ok (.iadd, 1) := by decide +kernel
theorem d_X10_delay_45 : decode m_X10_delay.2.1 45 = .ok (.iaload, 1) := by decide +kernel
theorem d_X10_delay_46 : decode m_X10_delay.2.1 46 = .ok (.istore 4, 2) := by decide +kernel
theorem d_X10_delay_48 : decode m_X10_delay.2.1 48 = .ok (.aload_n 0, 1) := by decide +kernel
theorem d_X10_delay_49 : decode m_X10_delay.2.1 49 = .ok (.getfield 7, 3) := by decide +kernel
theorem d_X10_delay_52 : decode m_X10_delay.2.1 52 = .ok (.iconst 3, 1) := by decide +kernel
theorem d_X10_delay_53 : decode m_X10_delay.2.1 53 = .ok (.iload_n 1, 1) := by decide +kernel
theorem d_X10_delay_54 : decode m_X10_delay.2.1 54 = .ok (.iadd, 1) := by decide +kernel
theorem d_X10_delay_55 : decode m_X10_delay.2.1 55 = .ok (.iload_n 2, 1) := by decide +kernel
theorem d_X10_delay_56 : decode m_X10_delay.2.1 56 = .ok (.iastore, 1) := by decide +kernel
theorem d_X10_delay_57 : decode m_X10_delay.2.1 57 = .ok (.aload_n 0, 1) := by decide +kernel
theorem d_X10_delay_58 : decode m_X10_delay.2.1 58 = .ok (.getfield 7, 3) := by decide +kernel
theorem d_X10_delay_61 : decode m_X10_delay.2.1 61 = .ok (.bipush 6, 2) := by decide +kernel
theorem d_X10_delay_63 : decode m_X10_delay.2.1 63 = .ok (.iload_n 1, 1) := by decide +kernel
theorem d_X10_delay_64 : decode m_X10_delay.2.1 64 = .ok (.iadd, 1) := by decide +kernel
theorem d_X10_delay_65 : decode m_X10_delay.2.1 65 = .ok (.iload_n 3, 1) := by decide +kernel
theorem d_X10_delay_66 : decode m_X10_delay.2.1 66 = .ok (.iastore, 1) := by decide +kernel
theorem d_X10_delay_67 : decode m_X10_delay.2.1 67 = .ok (.aload_n 0, 1) := by decide +kernel
theorem d_X10_delay_68 : decode m_X10_delay.2.1 68 = .ok (.invokevirtual 139, 3) := by decide +kernel
theorem d_X10_delay_71 : decode m_X10_delay.2.1 71 = .ok (.iload 4, 2) := by decide +kernel
theorem d_X10_delay_73 : decode m_X10_delay.2.1 73 = .ok (.ireturn, 1) := by decide +kernel
theorem d_X10_pointTime_0 : decode m_X10_pointTime.2.1 0 = .ok (.aload_n 0, 1) := by decide +kernel
theorem d_X10_pointTime_1 : decode m_X10_pointTime.2.1 1 = .ok (.getfield 7, 3) := by decide +kernel
theorem d_X10_pointTime_4 : decode m_X10_pointTime.2.1 4 = .ok (.bipush 9, 2) := by decide +kernel
theorem d_X10_pointTime_6 : decode m_X10_pointTime.2.1 6 = .ok (.bipush 13, 2) := by decide +kernel
theorem d_X10_pointTime_8 : decode m_X10_pointTime.2.1 8 = .ok (.iload_n 1, 1) := by decide +kernel
theorem d_X10_pointTime_9 : decode m_X10_pointTime.2.1 9 = .ok (.imul, 1) := by decide +kernel
theorem d_X10_pointTime_10 : decode m_X10_pointTime.2.1 10 = .ok (.iadd, 1) := by decide +kernel
theorem d_X10_pointTime_11 : decode m_X10_pointTime.2.1 11 = .ok (.iconst 1, 1) := by decide +kernel
theorem d_X10_pointTime_12 : decode m_X10_pointTime.2.1 12 = .ok (.iadd, 1) := by decide +kernel
theorem d_X10_pointTime_13 : decode m_X10_pointTime.2.1 13 = .ok (.iload_n 2, 1) := by decide +kernel
theorem d_X10_pointTime_14 : decode m_X10_pointTime.2.1 14 = .ok (.iadd, 1) := by decide +kernel
theorem d_X10_pointTime_15 : decode m_X10_pointTime.2.1 15 = .ok (.iaload, 1) := by decide +kernel
theorem d_X10_pointTime_16 : decode m_X10_pointTime.2.1 16 = .ok (.ireturn, 1) := by decide +kernel
theorem d_X10_pointValue_0 : decode m_X10_pointValue.2.1 0 = .ok (.aload_n 0, 1) := by decide +kernel
theorem d_X10_pointValue_1 : decode m_X10_pointValue.2.1 1 = .ok (.getfield 7, 3) := by decide +kernel
theorem d_X10_pointValue_4 : decode m_X10_pointValue.2.1 4 = .ok (.bipush 9, 2) := by decide +kernel
theorem d_X10_pointValue_6 : decode m_X10_pointValue.2.1 6 = .ok (.bipush 13, 2) := by decide +kernel
theorem d_X10_pointValue_8 : decode m_X10_pointValue.2.1 8 = .ok (.iload_n 1, 1) := by decide +kernel
theorem d_X10_pointValue_9 : decode m_X10_pointValue.2.1 9 = .ok (.imul, 1) := by decide +kernel
theorem d_X10_pointValue_10 : decode m_X10_pointValue.2.1 10 = .ok (.iadd, 1) := by decide +kernel
theorem d_X10_pointValue_11 : decode m_X10_pointValue.2.1 11 = .ok (.bipush 7, 2) := by decide +kernel
theorem d_X10_pointValue_13 : decode m_X10_pointValue.2.1 13 = .ok (.iadd, 1) := by decide +kernel
theorem d_X10_pointValue_14 : decode m_X10_pointValue.2.1 14 = .ok (.iload_n 2, 1) := by decide +kernel
theorem d_X10_pointValue_15 : decode m_X10_pointValue.2.1 15 = .ok (.iadd, 1) := by decide +kernel
theorem d_X10_pointValue_16 : decode m_X10_pointValue.2.1 16 = .ok (.iaload, 1) := by decide +kernel
theorem d_X10_pointValue_17 : decode m_X10_pointValue.2.1 17 = .ok (.ireturn, 1) := by decide +kernel
theorem d_X10_points_0 : decode m_X10_points.2.1 0 = .ok (.aload_n 0, 1) := by decide +kernel
theorem d_X10_points_1 : decode m_X10_points.2.1 1 = .ok (.getfield 7, 3) := by decide +kernel
theorem d_X10_points_4 : decode m_X10_points.2.1 4 = .ok (.bipush 9, 2) := by decide +kernel
theorem d_X10_points_6 : decode m_X10_points.2.1 6 = .ok (.bipush 13, 2) := by decide +kernel
theorem d_X10_points_8 : decode m_X10_points.2.1 8 = .ok (.iload_n 1, 1) := by decide +kernel
theorem d_X10_points_9 : decode m_X10_points.2.1 9 = .ok (.imul, 1) := by decide +kernel
theorem d_X10_points_10 : decode m_X10_points.2.1 10 = .ok (.iadd, 1) := by decide +kernel
theorem d_X10_points_11 : decode m_X10_points.2.1 11 = .ok (.iaload, 1) := by decide +kernel
theorem d_X10_points_12 : decode m_X10_points.2.1 12 = .ok (.ireturn, 1) := by decide +kernel
theorem d_X10_point_0 : decode m_X10_point.2.1 0 = .ok (.iload_n 1, 1) := by decide +kernel
theorem d_X10_point_1 : decode m_X10_point.2.1 1 = .ok (.invokestatic 136, 3) := by decide +kernel
theorem d_X10_point_4 : decode m_X10_point.2.1 4 = .ok (.ifCond .eq 25, 3) := by decide +kernel
theorem d_X10_point_7 : decode m_X10_point.2.1 7 = .ok (.iload_n 2, 1) := by decide +kernel
theorem d_X10_point_8 : decode m_X10_point.2.1 8 = .ok (.sipush (-10000), 3) := by decide +kernel
theorem d_X10_point_11 : decode m_X10_point.2.1 11 = .ok (.iconst 0, 1) := by decide +kernel
theorem d_X10_point_12 : decode m_X10_point.2.1 12 = .ok (.invokestatic 86, 3) := by decide +kernel
theorem d_X10_point_15 : decode m_X10_point.2.1 15 = .ok (.ifCond .eq 14, 3) := by decide +kernel
theorem d_X10_point_18 : decode m_X10_point.2.1 18 = .ok (.iload_n 3, 1) := by decide +kernel
theorem d_X10_point_19 : decode m_X10_point.2.1 19 = .ok (.ldc 142, 2) := by decide +kernel
theorem d_X10_point_21 : decode m_X10_point.2.1 21 = .ok (.ldc 143, 2) := by decide +kernel
theorem d_X10_point_23 : decode m_X10_point.2.1 23 = .ok (.invokestatic 86, 3) := by decide +kernel
theorem d_X10_point_26 : decode m_X10_point.2.1 26 = .ok (.ifCond .ne 6, 3) := by decide +kernel
theorem d_X10_point_29 : decode m_X10_point.2.1 29 = .ok (.ldc 90, 2) := by decide +kernel
theorem d_X10_point_31 : decode m_X10_point.2.1 31 = .ok (.ireturn, 1) := by decide +kernel
theorem d_X10_point_32 : decode m_X10_point.2.1 32 = .ok (.aload_n 0, 1) := by decide +kernel
theorem d_X10_point_33 : decode m_X10_point.2.1 33 = .ok (.iload_n 1, 1) := by decide +kernel
theorem d_X10_point_34 : decode m_X10_point.2.1 34 = .ok (.invokevirtual 144, 3) := by decide +kernel
theorem d_X10_point_37 : decode m_X10_point.2.1 37 = .ok (.istore 4, 2) := by decide +kernel
theorem d_X10_point_39 : decode m_X10_point.2.1 39 = .ok (.iconst 0, 1) := by decide +kernel
theorem d_X10_point_40 : decode m_X10_point.2.1 40 = .ok (.istore 5, 2) := by decide +kernel
theorem d_X10_point_42 : decode m_X10_point.2.1 42 = .ok (.iconst 0, 1) := by decide +kernel
theorem d_X10_point_43 : decode m_X10_point.2.1 43 = .ok (.istore 6, 2) := by decide +kernel
theorem d_X10_point_45 : decode m_X10_point.2.1 45 = .ok (.iconst 0, 1) := by decide +kernel
theorem d_X10_point_46 : decode m_X10_point.2.1 46 = .ok (.istore 7, 2) := by decide +kernel
theorem d_X10_point_48 : decode m_X10_point.2.1 48 = .ok (.iload 7, 2) := by decide +kernel
theorem d_X10_point_50 : decode m_X10_point.2.1 50 = .ok (.iload 4, 2) := by decide +kernel
theorem d_X10_point_52 : decode m_X10_point.2.1 52 = .ok (.if_icmp .ge 53, 3) := by decide +kernel
theorem d_X10_point_55 : decode m_X10_point.2.1 55 = .ok (.iload 5, 2) := by decide +kernel
theorem d_X10_point_57 : decode m_X10_point.2.1 57 = .ok (.aload_n 0, 1) := by decide +kernel
theorem d_X10_point_58 : decode m_X10_point.2.1 58 = .ok (.iload_n 1, 1) := by decide +kernel
theorem d_X10_point_59 : decode m_X10_point.2.1 59 = .ok (.iload 7, 2) := by decide +kernel
theorem d_X10_point_61 : decode m_X10_point.2.1 61 = .ok (.invokevirtual 147, 3) := by decide +kernel
theorem d_X10_point_64 : decode m_X10_point.2.1 64 = .ok (.iload_n 2, 1) := by decide +kernel
theorem d_X10_point_65 : decode m_X10_point.2.1 65 = .ok (.if_icmp .ge 7, 3) := by decide +kernel
theorem d_X10_point_68 : decode m_X10_point.2.1 68 = .ok (.iconst 1, 1) := by decide +kernel
theorem d_X10_point_69 : decode m_X10_point.2.1 69 = .ok (.goto 4, 3) := by decide +kernel
theorem d_X10_point_72 : decode m_X10_point.2.1 72 = .ok (.iconst 0, 1) := by decide +kernel
theorem d_X10_point_73 : decode m_X10_point.2.1 73 = .ok (.iadd, 1) := by decide +kernel
theorem d_X10_point_74 : decode m_X10_point.2.1 74 = .ok (.istore 5, 2) := by decide +kernel
theorem d_X10_point_76 : decode m_X10_point.2.1 76 = .ok (.iload 6, 2) := by decide +kernel
theorem d_X10_point_78 : decode m_X10_point.2.1 78 = .ok (.ifCond .ne 14, 3) := by decide +kernel
theorem d_X10_point_81 : decode m_X10_point.2.1 81 = .ok (.aload_n 0, 1) := by decide +kernel
theorem d_X10_point_82 : decode m_X10_point.2.1 82 = .ok (.iload_n 1, 1) := by decide +kernel
theorem d_X10_point_83 : decode m_X10_point.2.1 83 = .ok (.iload 7, 2) := by decide +kernel
theorem d_X10_point_85 : decode m_X10_point.2.1 85 = .ok (.invokevirtual 147, 3) := by decide +kernel
theorem d_X10_point_88 : decode m_X10_point.2.1 88 = .ok (.iload_n 2, 1) := by decide +kernel
theorem d_X10_point_89 : decode m_X10_point.2.1 89 = .ok (.if_icmp .ne 7, 3) := by decide +kernel
theorem d_X10_point_92 : decode m_X10_point.2.1 92 = .ok (.iconst 1, 1) := by decide +kernel
theorem d_X10_point_93 : decode m_X10_point.2.1 93 = .ok (.goto 4, 3) := by decide +kernel
theorem d_X10_point_96 : decode m_X10_point.2.1 96 = .ok (.iconst 0, 1) := by decide +kernel
theorem d_X10_point_97 : decode m_X10_point.2.1 97 = .ok (.istore 6, 2) := by decide +kernel
theorem d_X10_point_99 : decode m_X10_point.2.1 99 = .ok (.iinc 7 1, 3) := by decide +kernel
theorem d_X10_point_102 : decode m_X10_point.2.1 102 = .ok (.goto (-54), 3) := by decide +kernel
theorem d_X10_point_105 : decode m_X10_point.2.1 105 = .ok (.iload 6, 2) := by decide +kernel
theorem d_X10_point_107 : decode m_X10_point.2.1 107 = .ok (.ifCond .eq 6, 3) := by decide +kernel
theorem d_X10_point_110 : decode m_X10_point.2.1 110 = .ok (.ldc 85, 2) := by decide +kernel
theorem d_X10_point_112 : decode m_X10_point.2.1 112 = .ok (.ireturn, 1) := by decide +kernel
theorem d_X10_point_113 : decode m_X10_point.2.1 113 = .ok (.iload 4, 2) := by decide +kernel
theorem d_X10_point_115 : decode m_X10_point.2.1 115 = .ok (.bipush 6, 2) := by decide +kernel
theorem d_X10_point_117 : decode m_X10_point.2.1 117 = .ok (.if_icmp .ne 6, 3) := by decide +kernel
theorem d_X10_point_120 : decode m_X10_point.2.1 120 = .ok (.ldc 100, 2) := by decide +kernel
theorem d_X10_point_122 : decode m_X10_point.2.1 122 = .ok (.ireturn, 1) := by decide +kernel
theorem d_X10_point_123 : decode m_X10_point.2.1 123 = .ok (.aload_n 0, 1) := by decide +kernel
theorem d_X10_point_124 : decode m_X10_point.2.1 124 = .ok (.invokevirtual 94, 3) := by decide +kernel
theorem d_X10_point_127 : decode m_X10_point.2.1 127 = .ok (.iload 4, 2) := by decide +kernel
theorem d_X10_point_129 : decode m_X10_point.2.1 129 = .ok (.istore 7, 2) := by decide +kernel
theorem d_X10_point_131 : decode m_X10_point.2.1 131 = .ok (.iload 7, 2) := by decide +kernel
theorem d_X10_point_133 : decode m_X10_point.2.1 133 = .ok (.iload 5, 2) := by decide +kernel
theorem d_X10_point_135 : decode m_X10_point.2.1 135 = .ok (.if_icmp .le 62, 3) := by decide +kernel
theorem d_X10_point_138 : decode m_X10_point.2.1 138 = .ok (.aload_n 0, 1) := by decide +kernel
theorem d_X10_point_139 : decode m_X10_point.2.1 139 = .ok (.getfield 7, 3) := by decide +kernel
theorem d_X10_point_142 : decode m_X10_point.2.1 142 = .ok (.bipush 9, 2) := by decide +kernel
theorem d_X10_point_144 : decode m_X10_point.2.1 144 = .ok (.bipush 13, 2) := by decide +kernel
theorem d_X10_point_146 : decode m_X10_point.2.1 146 = .ok (.iload_n 1, 1) := by decide +kernel
theorem d_X10_point_147 : decode m_X10_point.2.1 147 = .ok (.imul, 1) := by decide +kernel
theorem d_X10_point_148 : decode m_X10_point.2.1 148 = .ok (.iadd, 1) := by decide +kernel
theorem d_X10_point_149 : decode m_X10_point.2.1 149 = .ok (.iconst 1, 1) := by decide +kernel
theorem d_X10_point_150 : decode m_X10_point.2.1 150 = .ok (.iadd, 1) := by decide +kernel
theorem d_X10_point_151 : decode m_X10_point.2.1 151 = .ok (.iload 7, 2) := by decide +kernel
theorem d_X10_point_153 : decode m_X10_point.2.1 153 = .ok (.iadd, 1) := by decide +kernel
theorem d_X10_point_154 : decode m_X10_point.2.1 154 = .ok (.aload_n 0, 1) := by decide +kernel
theorem d_X10_point_155 : decode m_X10_point.2.1 155 = .ok (.iload_n 1, 1) := by decide +kernel
theorem d_X10_point_156 : decode m_X10_point.2.1 156 = .ok (.iload 7, 2) := by decide +kernel
theorem d_X10_point_158 : decode m_X10_point.2.1 158 = .ok (.iconst 1, 1) := by decide +kernel
theorem d_X10_point_159 : decode m_X10_point.2.1 159 = .ok (.isub, 1) := by decide +kernel
theorem d_X10_point_160 : decode m_X10_point.2.1 160 = .ok (.invokevirtual 147, 3) := by decide +kernel
theorem d_X10_point_163 : decode m_X10_point.2.1 163 = .ok (.iastore, 1) := by decide +kernel
theorem d_X10_point_164 : decode m_X10_point.2.1 164 = .ok (.aload_n 0, 1) := by decide +kernel
theorem d_X10_point_165 : decode m_X10_point.2.1 165 = .ok (.getfield 7, 3) := by decide +kernel
theorem d_X10_point_168 : decode m_X10_point.2.1 168 = .ok (.bipush 9, 2) := by decide +kernel
theorem d_X10_point_170 : decode m_X10_point.2.1 170 = .ok (.bipush 13, 2) := by decide +kernel
theorem d_X10_point_172 : decode m_X10_point.2.1 172 = .ok (.iload_n 1, 1) := by decide +kernel
theorem d_X10_point_173 : decode m_X10_point.2.1 173 = .ok (.imul, 1) := by decide +kernel
theorem d_X10_point_174 : decode m_X10_point.2.1 174 = .ok (.iadd, 1) := by decide +kernel
theorem d_X10_point_175 : decode m_X10_point.2.1 175 = .ok (.bipush 7, 2) := by decide +kernel
theorem d_X10_point_177 : decode m_X10_point.2.1 177 = .ok (.iadd, 1) := by decide +kernel
theorem d_X10_point_178 : decode m_X10_point.2.1 178 = .ok (.iload 7, 2) := by decide +kernel
theorem d_X10_point_180 : decode m_X10_point.2.1 180 = .ok (.iadd, 1) := by decide +kernel
theorem d_X10_point_181 : decode m_X10_point.2.1 181 = .ok (.aload_n 0, 1) := by decide +kernel
theorem d_X10_point_182 : decode m_X10_point.2.1 182 = .ok (.iload_n 1, 1) := by decide +kernel
theorem d_X10_point_183 : decode m_X10_point.2.1 183 = .ok (.iload 7, 2) := by decide +kernel
theorem d_X10_point_185 : decode m_X10_point.2.1 185 = .ok (.iconst 1, 1) := by decide +kernel
theorem d_X10_point_186 : decode m_X10_point.2.1 186 = .ok (.isub, 1) := by decide +kernel
theorem d_X10_point_187 : decode m_X10_point.2.1 187 = .ok (.invokevirtual 150, 3) := by decide +kernel
theorem d_X10_point_190 : decode m_X10_point.2.1 190 = .ok (.iastore, 1) := by decide +kernel
theorem d_X10_point_191 : decode m_X10_point.2.1 191 = .ok (.iinc 7 (-1), 3) := by decide +kernel
theorem d_X10_point_194 : decode m_X10_point.2.1 194 = .ok (.goto (-63), 3) := by decide +kernel
theorem d_X10_point_197 : decode m_X10_point.2.1 197 = .ok (.aload_n 0, 1) := by decide +kernel
theorem d_X10_point_198 : decode m_X10_point.2.1 198 = .ok (.getfield 7, 3) := by decide +kernel
theorem d_X10_point_201 : decode m_X10_point.2.1 201 = .ok (.bipush 9, 2) := by decide +kernel
theorem d_X10_point_203 : decode m_X10_point.2.1 203 = .ok (.bipush 13, 2) := by decide +kernel
theorem d_X10_point_205 : decode m_X10_point.2.1 205 = .ok (.iload_n 1, 1) := by decide +kernel
theorem d_X10_point_206 : decode m_X10_point.2.1 206 = .ok (.imul, 1) := by decide +kernel
theorem d_X10_point_207 : decode m_X10_point.2.1 207 = .ok (.iadd, 1) := by decide +kernel
theorem d_X10_point_208 : decode m_X10_point.2.1 208 = .ok (.iconst 1, 1) := by decide +kernel
theorem d_X10_point_209 : decode m_X10_point.2.1 209 = .ok (.iadd, 1) := by decide +kernel
theorem d_X10_point_210 : decode m_X10_point.2.1 210 = .ok (.iload 5, 2) := by decide +kernel
theorem d_X10_point_212 : decode m_X10_point.2.1 212 = .ok (.iadd, 1) := by decide +kernel
theorem d_X10_point_213 : decode m_X10_point.2.1 213 = .ok (.iload_n 2, 1) := by decide +kernel
theorem d_X10_point_214 : decode m_X10_point.2.1 214 = .ok (.iastore, 1) := by decide +kernel
theorem d_X10_point_215 : decode m_X10_point.2.1 215 = .ok (.aload_n 0, 1) := by decide +kernel
theorem d_X10_point_216 : decode m_X10_point.2.1 216 = .ok (.getfield 7, 3) := by decide +kernel
theorem d_X10_point_219 : decode m_X10_point.2.1 219 = .ok (.bipush 9, 2) := by decide +kernel
theorem d_X10_point_221 : decode m_X10_point.2.1 221 = .ok (.bipush 13, 2) := by decide +kernel
theorem d_X10_point_223 : decode m_X10_point.2.1 223 = .ok (.iload_n 1, 1) := by decide +kernel
theorem d_X10_point_224 : decode m_X10_point.2.1 224 = .ok (.imul, 1) := by decide +kernel
theorem d_X10_point_225 : decode m_X10_point.2.1 225 = .ok (.iadd, 1) := by decide +kernel
theorem d_X10_point_226 : decode m_X10_point.2.1 226 = .ok (.bipush 7, 2) := by decide +kernel
theorem d_X10_point_228 : decode m_X10_point.2.1 228 = .ok (.iadd, 1) := by decide +kernel
theorem d_X10_point_229 : decode m_X10_point.2.1 229 = .ok (.iload 5, 2) := by decide +kernel
theorem d_X10_point_231 : decode m_X10_point.2.1 231 = .ok (.iadd, 1) := by decide +kernel
theorem d_X10_point_232 : decode m_X10_point.2.1 232 = .ok (.iload_n 3, 1) := by decide +kernel
theorem d_X10_point_233 : decode m_X10_point.2.1 233 = .ok (.iastore, 1) := by decide +kernel
theorem d_X10_point_234 : decode m_X10_point.2.1 234 = .ok (.aload_n 0, 1) := by decide +kernel
theorem d_X10_point_235 : decode m_X10_point.2.1 235 = .ok (.getfield 7, 3) := by decide +kernel
theorem d_X10_point_238 : decode m_X10_point.2.1 238 = .ok (.bipush 9, 2) := by decide +kernel
theorem d_X10_point_240 : decode m_X10_point.2.1 240 = .ok (.bipush 13, 2) := by decide +kernel
theorem d_X10_point_242 : decode m_X10_point.2.1 242 = .ok (.iload_n 1, 1) := by decide +kernel
theorem d_X10_point_243 : decode m_X10_point.2.1 243 = .ok (.imul, 1) := by decide +kernel
theorem d_X10_point_244 : decode m_X10_point.2.1 244 = .ok (.iadd, 1) := by decide +kernel
theorem d_X10_point_245 : decode m_X10_point.2.1 245 = .ok (.iload 4, 2) := by decide +kernel
theorem d_X10_point_247 : decode m_X10_point.2.1 247 = .ok (.iconst 1, 1) := by decide +kernel
theorem d_X10_point_248 : decode m_X10_point.2.1 248 = .ok (.iadd, 1) := by decide +kernel
theorem d_X10_point_249 : decode m_X10_point.2.1 249 = .ok (.iastore, 1) := by decide +kernel
theorem d_X10_point_250 : decode m_X10_point.2.1 250 = .ok (.aload_n 0, 1) := by decide +kernel
theorem d_X10_point_251 : decode m_X10_point.2.1 251 = .ok (.invokevirtual 139, 3) := by decide +kernel
theorem d_X10_point_254 : decode m_X10_point.2.1 254 = .ok (.iload 4, 2) := by decide +kernel
theorem d_X10_point_256 : decode m_X10_point.2.1 256 = .ok (.iconst 1, 1) := by decide +kernel
theorem d_X10_point_257 : decode m_X10_point.2.1 257 = .ok (.iadd, 1) := by decide +kernel
theorem d_X10_point_258 : decode m_X10_point.2.1 258 = .ok (.ireturn, 1) := by decide +kernel
theorem d_X10_clear_0 : decode m_X10_clear.2.1 0 = .ok (.iload_n 1, 1) := by decide +kernel
theorem d_X10_clear_1 : decode m_X10_clear.2.1 1 = .ok (.invokestatic 136, 3) := by decide +kernel
theorem d_X10_clear_4 : decode m_X10_clear.2.1 4 = .ok (.ifCond .ne 6, 3) := by decide +kernel
theorem d_X10_clear_7 : decode m_X10_clear.2.1 7 = .ok (.ldc 90, 2) := by decide +kernel
theorem d_X10_clear_9 : decode m_X10_clear.2.1 9 = .ok (.ireturn, 1) := by decide +kernel
theorem d_X10_clear_10 : decode m_X10_clear.2.1 10 = .ok (.aload_n 0, 1) := by decide +kernel
theorem d_X10_clear_11 : decode m_X10_clear.2.1 11 = .ok (.invokevirtual 94, 3) := by decide +kernel
theorem d_X10_clear_14 : decode m_X10_clear.2.1 14 = .ok (.aload_n 0, 1) := by decide +kernel
theorem d_X10_clear_15 : decode m_X10_clear.2.1 15 = .ok (.iload_n 1, 1) := by decide +kernel
theorem d_X10_clear_16 : decode m_X10_clear.2.1 16 = .ok (.invokevirtual 144, 3) := by decide +kernel
theorem d_X10_clear_19 : decode m_X10_clear.2.1 19 = .ok (.istore_n 2, 1) := by decide +kernel
theorem d_X10_clear_20 : decode m_X10_clear.2.1 20 = .ok (.iconst 0, 1) := by decide +kernel
theorem d_X10_clear_21 : decode m_X10_clear.2.1 21 = .ok (.istore_n 3, 1) := by decide +kernel
theorem d_X10_clear_22 : decode m_X10_clear.2.1 22 = .ok (.iload_n 3, 1) := by decide +kernel
theorem d_X10_clear_23 : decode m_X10_clear.2.1 23 = .ok (.bipush 13, 2) := by decide +kernel
theorem d_X10_clear_25 : decode m_X10_clear.2.1 25 = .ok (.if_icmp .ge 24, 3) := by decide +kernel
theorem d_X10_clear_28 : decode m_X10_clear.2.1 28 = .ok (.aload_n 0, 1) := by decide +kernel
theorem d_X10_clear_29 : decode m_X10_clear.2.1 29 = .ok (.getfield 7, 3) := by decide +kernel
theorem d_X10_clear_32 : decode m_X10_clear.2.1 32 = .ok (.bipush 9, 2) := by decide +kernel
theorem d_X10_clear_34 : decode m_X10_clear.2.1 34 = .ok (.bipush 13, 2) := by decide +kernel
theorem d_X10_clear_36 : decode m_X10_clear.2.1 36 = .ok (.iload_n 1, 1) := by decide +kernel
theorem d_X10_clear_37 : decode m_X10_clear.2.1 37 = .ok (.imul, 1) := by decide +kernel
theorem d_X10_clear_38 : decode m_X10_clear.2.1 38 = .ok (.iadd, 1) := by decide +kernel
theorem d_X10_clear_39 : decode m_X10_clear.2.1 39 = .ok (.iload_n 3, 1) := by decide +kernel
theorem d_X10_clear_40 : decode m_X10_clear.2.1 40 = .ok (.iadd, 1) := by decide +kernel
theorem d_X10_clear_41 : decode m_X10_clear.2.1 41 = .ok (.iconst 0, 1) := by decide +kernel
theorem d_X10_clear_42 : decode m_X10_clear.2.1 42 = .ok (.iastore, 1) := by decide +kernel
theorem d_X10_clear_43 : decode m_X10_clear.2.1 43 = .ok (.iinc 3 1, 3) := by decide +kernel
theorem d_X10_clear_46 : decode m_X10_clear.2.1 46 = .ok (.goto (-24), 3) := by decide +kernel
theorem d_X10_clear_49 : decode m_X10_clear.2.1 49 = .ok (.aload_n 0, 1) := by decide +kernel
theorem d_X10_clear_50 : decode m_X10_clear.2.1 50 = .ok (.invokevirtual 139, 3) := by decide +kernel
theorem d_X10_clear_53 : decode m_X10_clear.2.1 53 = .ok (.iload_n 2, 1) := by decide +kernel
theorem d_X10_clear_54 : decode m_X10_clear.2.1 54 = .ok (.ireturn, 1) := by decide +kernel
theorem d_X10_set_0 : decode m_X10_set.2.1 0 = .ok (.iload_n 1, 1) := by decide +kernel
theorem d_X10_set_1 : decode m_X10_set.2.1 1 = .ok (.ifCond .ne 15, 3) := by decide +kernel
theorem d_X10_set_4 : decode m_X10_set.2.1 4 = .ok (.iload_n 2, 1) := by decide +kernel
theorem d_X10_set_5 : decode m_X10_set.2.1 5 = .ok (.bipush 20, 2) := by decide +kernel
theorem d_X10_set_7 : decode m_X10_set.2.1 7 = .ok (.sipush 500, 3) := by decide +kernel
theorem d_X10_set_10 : decode m_X10_set.2.1 10 = .ok (.invokestatic 86, 3) := by decide +kernel
theorem d_X10_set_13 : decode m_X10_set.2.1 13 = .ok (.ifCond .ne 31, 3) := by decide +kernel
theorem d_X10_set_16 : decode m_X10_set.2.1 16 = .ok (.iload_n 1, 1) := by decide +kernel
theorem d_X10_set_17 : decode m_X10_set.2.1 17 = .ok (.iconst 1, 1) := by decide +kernel
theorem d_X10_set_18 : decode m_X10_set.2.1 18 = .ok (.if_icmp .ne 12, 3) := by decide +kernel
theorem d_X10_set_21 : decode m_X10_set.2.1 21 = .ok (.iload_n 2, 1) := by decide +kernel
theorem d_X10_set_22 : decode m_X10_set.2.1 22 = .ok (.iconst 0, 1) := by decide +kernel
theorem d_X10_set_23 : decode m_X10_set.2.1 23 = .ok (.iconst 4, 1) := by decide +kernel
theorem d_X10_set_24 : decode m_X10_set.2.1 24 = .ok (.invokestatic 86, 3) := by decide +kernel
theorem d_X10_set_27 : decode m_X10_set.2.1 27 = .ok (.ifCond .ne 17, 3) := by decide +kernel
theorem d_X10_set_30 : decode m_X10_set.2.1 30 = .ok (.iload_n 1, 1) := by decide +kernel
theorem d_X10_set_31 : decode m_X10_set.2.1 31 = .ok (.iconst 2, 1) := by decide +kernel
theorem d_X10_set_32 : decode m_X10_set.2.1 32 = .ok (.if_icmp .ne 16, 3) := by decide +kernel
theorem d_X10_set_35 : decode m_X10_set.2.1 35 = .ok (.iload_n 2, 1) := by decide +kernel
theorem d_X10_set_36 : decode m_X10_set.2.1 36 = .ok (.iconst 0, 1) := by decide +kernel
theorem d_X10_set_37 : decode m_X10_set.2.1 37 = .ok (.iconst 3, 1) := by decide +kernel
theorem d_X10_set_38 : decode m_X10_set.2.1 38 = .ok (.invokestatic 86, 3) := by decide +kernel
theorem d_X10_set_41 : decode m_X10_set.2.1 41 = .ok (.ifCond .eq 7, 3) := by decide +kernel
theorem d_X10_set_44 : decode m_X10_set.2.1 44 = .ok (.iconst 1, 1) := by decide +kernel
theorem d_X10_set_45 : decode m_X10_set.2.1 45 = .ok (.goto 4, 3) := by decide +kernel
theorem d_X10_set_48 : decode m_X10_set.2.1 48 = .ok (.iconst 0, 1) := by decide +kernel
theorem d_X10_set_49 : decode m_X10_set.2.1 49 = .ok (.istore_n 3, 1) := by decide +kernel
theorem d_X10_set_50 : decode m_X10_set.2.1 50 = .ok (.iload_n 3, 1) := by decide +kernel
theorem d_X10_set_51 : decode m_X10_set.2.1 51 = .ok (.ifCond .ne 6, 3) := by decide +kernel
theorem d_X10_set_54 : decode m_X10_set.2.1 54 = .ok (.ldc 90, 2) := by decide +kernel
theorem d_X10_set_56 : decode m_X10_set.2.1 56 = .ok (.ireturn, 1) := by decide +kernel
theorem d_X10_set_57 : decode m_X10_set.2.1 57 = .ok (.aload_n 0, 1) := by decide +kernel
theorem d_X10_set_58 : decode m_X10_set.2.1 58 = .ok (.invokevirtual 94, 3) := by decide +kernel
theorem d_X10_set_61 : decode m_X10_set.2.1 61 = .ok (.aload_n 0, 1) := by decide +kernel
theorem d_X10_set_62 : decode m_X10_set.2.1 62 = .ok (.getfield 7, 3) := by decide +kernel
theorem d_X10_set_65 : decode m_X10_set.2.1 65 = .ok (.iload_n 1, 1) := by decide +kernel
theorem d_X10_set_66 : decode m_X10_set.2.1 66 = .ok (.iaload, 1) := by decide +kernel
theorem d_X10_set_67 : decode m_X10_set.2.1 67 = .ok (.istore 4, 2) := by decide +kernel
theorem d_X10_set_69 : decode m_X10_set.2.1 69 = .ok (.aload_n 0, 1) := by decide +kernel
theorem d_X10_set_70 : decode m_X10_set.2.1 70 = .ok (.getfield 7, 3) := by decide +kernel
theorem d_X10_set_73 : decode m_X10_set.2.1 73 = .ok (.iload_n 1, 1) := by decide +kernel
theorem d_X10_set_74 : decode m_X10_set.2.1 74 = .ok (.iload_n 2, 1) := by decide +kernel
theorem d_X10_set_75 : decode m_X10_set.2.1 75 = .ok (.iastore, 1) := by decide +kernel
theorem d_X10_set_76 : decode m_X10_set.2.1 76 = .ok (.aload_n 0, 1) := by decide +kernel
theorem d_X10_set_77 : decode m_X10_set.2.1 77 = .ok (.invokevirtual 139, 3) := by decide +kernel
theorem d_X10_set_80 : decode m_X10_set.2.1 80 = .ok (.iload 4, 2) := by decide +kernel
theorem d_X10_set_82 : decode m_X10_set.2.1 82 = .ok (.ireturn, 1) := by decide +kernel
theorem d_X10_lagAt_0 : decode m_X10_lagAt.2.1 0 = .ok (.aload_n 0, 1) := by decide +kernel
theorem d_X10_lagAt_1 : decode m_X10_lagAt.2.1 1 = .ok (.getfield 7, 3) := by decide +kernel
theorem d_X10_lagAt_4 : decode m_X10_lagAt.2.1 4 = .ok (.iconst 3, 1) := by decide +kernel
theorem d_X10_lagAt_5 : decode m_X10_lagAt.2.1 5 = .ok (.iload_n 1, 1) := by decide +kernel
theorem d_X10_lagAt_6 : decode m_X10_lagAt.2.1 6 = .ok (.iadd, 1) := by decide +kernel
theorem d_X10_lagAt_7 : decode m_X10_lagAt.2.1 7 = .ok (.iaload, 1) := by decide +kernel
theorem d_X10_lagAt_8 : decode m_X10_lagAt.2.1 8 = .ok (.aload_n 0, 1) := by decide +kernel
theorem d_X10_lagAt_9 : decode m_X10_lagAt.2.1 9 = .ok (.getfield 7, 3) := by decide +kernel
theorem d_X10_lagAt_12 : decode m_X10_lagAt.2.1 12 = .ok (.bipush 6, 2) := by decide +kernel
theorem d_X10_lagAt_14 : decode m_X10_lagAt.2.1 14 = .ok (.iload_n 1, 1) := by decide +kernel
theorem d_X10_lagAt_15 : decode m_X10_lagAt.2.1 15 = .ok (.iadd, 1) := by decide +kernel
theorem d_X10_lagAt_16 : decode m_X10_lagAt.2.1 16 = .ok (.iaload, 1) := by decide +kernel
theorem d_X10_lagAt_17 : decode m_X10_lagAt.2.1 17 = .ok (.iload_n 2, 1) := by decide +kernel
theorem d_X10_lagAt_18 : decode m_X10_lagAt.2.1 18 = .ok (.imul, 1) := by decide +kernel
theorem d_X10_lagAt_19 : decode m_X10_lagAt.2.1 19 = .ok (.sipush 1000, 3) := by decide +kernel
theorem d_X10_lagAt_22 : decode m_X10_lagAt.2.1 22 = .ok (.idiv, 1) := by decide +kernel
theorem d_X10_lagAt_23 : decode m_X10_lagAt.2.1 23 = .ok (.iadd, 1) := by decide +kernel
theorem d_X10_lagAt_24 : decode m_X10_lagAt.2.1 24 = .ok (.istore_n 3, 1) := by decide +kernel
theorem d_X10_lagAt_25 : decode m_X10_lagAt.2.1 25 = .ok (.iload_n 3, 1) := by decide +kernel
theorem d_X10_lagAt_26 : decode m_X10_lagAt.2.1 26 = .ok (.ifCond .ge 7, 3) := by decide +kernel
theorem d_X10_lagAt_29 : decode m_X10_lagAt.2.1 29 = .ok (.iconst 0, 1) := by decide +kernel
theorem d_X10_lagAt_30 : decode m_X10_lagAt.2.1 30 = .ok (.goto 4, 3) := by decide +kernel
theorem d_X10_lagAt_33 : decode m_X10_lagAt.2.1 33 = .ok (.iload_n 3, 1) := by decide +kernel
theorem d_X10_lagAt_34 : decode m_X10_lagAt.2.1 34 = .ok (.ireturn, 1) := by decide +kernel
theorem d_X10_lag_0 : decode m_X10_lag.2.1 0 = .ok (.iload_n 1, 1) := by decide +kernel
theorem d_X10_lag_1 : decode m_X10_lag.2.1 1 = .ok (.invokestatic 136, 3) := by decide +kernel
theorem d_X10_lag_4 : decode m_X10_lag.2.1 4 = .ok (.ifCond .eq 14, 3) := by decide +kernel
theorem d_X10_lag_7 : decode m_X10_lag.2.1 7 = .ok (.iload_n 2, 1) := by decide +kernel
theorem d_X10_lag_8 : decode m_X10_lag.2.1 8 = .ok (.iconst 0, 1) := by decide +kernel
theorem d_X10_lag_9 : decode m_X10_lag.2.1 9 = .ok (.sipush 8000, 3) := by decide +kernel
theorem d_X10_lag_12 : decode m_X10_lag.2.1 12 = .ok (.invokestatic 86, 3) := by decide +kernel
theorem d_X10_lag_15 : decode m_X10_lag.2.1 15 = .ok (.ifCond .ne 8, 3) := by decide +kernel
theorem d_X10_lag_18 : decode m_X10_lag.2.1 18 = .ok (.ldc 90, 2) := by decide +kernel
theorem d_X10_lag_20 : decode m_X10_lag.2.1 20 = .ok (.goto 9, 3) := by decide +kernel
theorem d_X10_lag_23 : decode m_X10_lag.2.1 23 = .ok (.aload_n 0, 1) := by decide +kernel
theorem d_X10_lag_24 : decode m_X10_lag.2.1 24 = .ok (.iload_n 1, 1) := by decide +kernel
theorem d_X10_lag_25 : decode m_X10_lag.2.1 25 = .ok (.iload_n 2, 1) := by decide +kernel
theorem d_X10_lag_26 : decode m_X10_lag.2.1 26 = .ok (.invokevirtual 153, 3) := by decide +kernel
theorem d_X10_lag_29 : decode m_X10_lag.2.1 29 = .ok (.ireturn, 1) := by decide +kernel
theorem d_X10_madeFrom_0 : decode m_X10_madeFrom.2.1 0 = .ok (.iload_n 1, 1) := by decide +kernel
theorem d_X10_madeFrom_1 : decode m_X10_madeFrom.2.1 1 = .ok (.iconst 1, 1) := by decide +kernel
theorem d_X10_madeFrom_2 : decode m_X10_madeFrom.2.1 2 = .ok (.iadd, 1) := by decide +kernel
theorem d_X10_madeFrom_3 : decode m_X10_madeFrom.2.1 3 = .ok (.istore_n 3, 1) := by decide +kernel
theorem d_X10_madeFrom_4 : decode m_X10_madeFrom.2.1 4 = .ok (.iload_n 3, 1) := by decide +kernel
theorem d_X10_madeFrom_5 : decode m_X10_madeFrom.2.1 5 = .ok (.sipush 8000, 3) := by decide +kernel
theorem d_X10_madeFrom_8 : decode m_X10_madeFrom.2.1 8 = .ok (.if_icmp .gt 21, 3) := by decide +kernel
theorem d_X10_madeFrom_11 : decode m_X10_madeFrom.2.1 11 = .ok (.iload_n 3, 1) := by decide +kernel
theorem d_X10_madeFrom_12 : decode m_X10_madeFrom.2.1 12 = .ok (.aload_n 0, 1) := by decide +kernel
theorem d_X10_madeFrom_13 : decode m_X10_madeFrom.2.1 13 = .ok (.iload_n 2, 1) := by decide +kernel
theorem d_X10_madeFrom_14 : decode m_X10_madeFrom.2.1 14 = .ok (.iload_n 3, 1) := by decide +kernel
theorem d_X10_madeFrom_15 : decode m_X10_madeFrom.2.1 15 = .ok (.invokevirtual 153, 3) := by decide +kernel
theorem d_X10_madeFrom_18 : decode m_X10_madeFrom.2.1 18 = .ok (.isub, 1) := by decide +kernel
theorem d_X10_madeFrom_19 : decode m_X10_madeFrom.2.1 19 = .ok (.iload_n 1, 1) := by decide +kernel
theorem d_X10_madeFrom_20 : decode m_X10_madeFrom.2.1 20 = .ok (.if_icmp .ge 9, 3) := by decide +kernel
theorem d_X10_madeFrom_23 : decode m_X10_madeFrom.2.1 23 = .ok (.iinc 3 1, 3) := by decide +kernel
theorem d_X10_madeFrom_26 : decode m_X10_madeFrom.2.1 26 = .ok (.goto (-22), 3) := by decide +kernel
theorem d_X10_madeFrom_29 : decode m_X10_madeFrom.2.1 29 = .ok (.iload_n 3, 1) := by decide +kernel
theorem d_X10_madeFrom_30 : decode m_X10_madeFrom.2.1 30 = .ok (.sipush 8000, 3) := by decide +kernel
theorem d_X10_madeFrom_33 : decode m_X10_madeFrom.2.1 33 = .ok (.if_icmp .gt 12, 3) := by decide +kernel
theorem d_X10_madeFrom_36 : decode m_X10_madeFrom.2.1 36 = .ok (.aload_n 0, 1) := by decide +kernel
theorem d_X10_madeFrom_37 : decode m_X10_madeFrom.2.1 37 = .ok (.iload_n 2, 1) := by decide +kernel
theorem d_X10_madeFrom_38 : decode m_X10_madeFrom.2.1 38 = .ok (.iload_n 3, 1) := by decide +kernel
theorem d_X10_madeFrom_39 : decode m_X10_madeFrom.2.1 39 = .ok (.invokevirtual 153, 3) := by decide +kernel
theorem d_X10_madeFrom_42 : decode m_X10_madeFrom.2.1 42 = .ok (.ifCond .ne 7, 3) := by decide +kernel
theorem d_X10_madeFrom_45 : decode m_X10_madeFrom.2.1 45 = .ok (.iconst (-1), 1) := by decide +kernel
theorem d_X10_madeFrom_46 : decode m_X10_madeFrom.2.1 46 = .ok (.goto 4, 3) := by decide +kernel
theorem d_X10_madeFrom_49 : decode m_X10_madeFrom.2.1 49 = .ok (.iload_n 3, 1) := by decide +kernel
theorem d_X10_madeFrom_50 : decode m_X10_madeFrom.2.1 50 = .ok (.ireturn, 1) := by decide +kernel
theorem d_X10_breakWith_0 : decode m_X10_breakWith.2.1 0 = .ok (.iconst 0, 1) := by decide +kernel
theorem d_X10_breakWith_1 : decode m_X10_breakWith.2.1 1 = .ok (.istore_n 2, 1) := by decide +kernel
theorem d_X10_breakWith_2 : decode m_X10_breakWith.2.1 2 = .ok (.iload_n 2, 1) := by decide +kernel
theorem d_X10_breakWith_3 : decode m_X10_breakWith.2.1 3 = .ok (.aload_n 0, 1) := by decide +kernel
theorem d_X10_breakWith_4 : decode m_X10_breakWith.2.1 4 = .ok (.getfield 156, 3) := by decide +kernel
theorem d_X10_breakWith_7 : decode m_X10_breakWith.2.1 7 = .ok (.if_icmp .ge 21, 3) := by decide +kernel
theorem d_X10_breakWith_10 : decode m_X10_breakWith.2.1 10 = .ok (.aload_n 0, 1) := by decide +kernel
theorem d_X10_breakWith_11 : decode m_X10_breakWith.2.1 11 = .ok (.getfield 25, 3) := by decide +kernel
theorem d_X10_breakWith_14 : decode m_X10_breakWith.2.1 14 = .ok (.iload_n 2, 1) := by decide +kernel
theorem d_X10_breakWith_15 : decode m_X10_breakWith.2.1 15 = .ok (.iaload, 1) := by decide +kernel
theorem d_X10_breakWith_16 : decode m_X10_breakWith.2.1 16 = .ok (.iload_n 1, 1) := by decide +kernel
theorem d_X10_breakWith_17 : decode m_X10_breakWith.2.1 17 = .ok (.if_icmp .ne 5, 3) := by decide +kernel
theorem d_X10_breakWith_20 : decode m_X10_breakWith.2.1 20 = .ok (.iload_n 2, 1) := by decide +kernel
theorem d_X10_breakWith_21 : decode m_X10_breakWith.2.1 21 = .ok (.ireturn, 1) := by decide +kernel
theorem d_X10_breakWith_22 : decode m_X10_breakWith.2.1 22 = .ok (.iinc 2 1, 3) := by decide +kernel
theorem d_X10_breakWith_25 : decode m_X10_breakWith.2.1 25 = .ok (.goto (-23), 3) := by decide +kernel
theorem d_X10_breakWith_28 : decode m_X10_breakWith.2.1 28 = .ok (.iconst (-1), 1) := by decide +kernel
theorem d_X10_breakWith_29 : decode m_X10_breakWith.2.1 29 = .ok (.ireturn, 1) := by decide +kernel
theorem d_X10_makes_0 : decode m_X10_makes.2.1 0 = .ok (.aload_n 0, 1) := by decide +kernel
theorem d_X10_makes_1 : decode m_X10_makes.2.1 1 = .ok (.iload_n 1, 1) := by decide +kernel
theorem d_X10_makes_2 : decode m_X10_makes.2.1 2 = .ok (.invokevirtual 159, 3) := by decide +kernel
theorem d_X10_makes_5 : decode m_X10_makes.2.1 5 = .ok (.istore 4, 2) := by decide +kernel
theorem d_X10_makes_7 : decode m_X10_makes.2.1 7 = .ok (.iload 4, 2) := by decide +kernel
theorem d_X10_makes_9 : decode m_X10_makes.2.1 9 = .ok (.ifCond .ge 46, 3) := by decide +kernel
theorem d_X10_makes_12 : decode m_X10_makes.2.1 12 = .ok (.aload_n 0, 1) := by decide +kernel
theorem d_X10_makes_13 : decode m_X10_makes.2.1 13 = .ok (.getfield 25, 3) := by decide +kernel
theorem d_X10_makes_16 : decode m_X10_makes.2.1 16 = .ok (.aload_n 0, 1) := by decide +kernel
theorem d_X10_makes_17 : decode m_X10_makes.2.1 17 = .ok (.getfield 156, 3) := by decide +kernel
theorem d_X10_makes_20 : decode m_X10_makes.2.1 20 = .ok (.iload_n 1, 1) := by decide +kernel
theorem d_X10_makes_21 : decode m_X10_makes.2.1 21 = .ok (.iastore, 1) := by decide +kernel
theorem d_X10_makes_22 : decode m_X10_makes.2.1 22 = .ok (.aload_n 0, 1) := by decide +kernel
theorem d_X10_makes_23 : decode m_X10_makes.2.1 23 = .ok (.getfield 28, 3) := by decide +kernel
theorem d_X10_makes_26 : decode m_X10_makes.2.1 26 = .ok (.aload_n 0, 1) := by decide +kernel
theorem d_X10_makes_27 : decode m_X10_makes.2.1 27 = .ok (.getfield 156, 3) := by decide +kernel
theorem d_X10_makes_30 : decode m_X10_makes.2.1 30 = .ok (.iload_n 2, 1) := by decide +kernel
theorem d_X10_makes_31 : decode m_X10_makes.2.1 31 = .ok (.iastore, 1) := by decide +kernel
theorem d_X10_makes_32 : decode m_X10_makes.2.1 32 = .ok (.aload_n 0, 1) := by decide +kernel
theorem d_X10_makes_33 : decode m_X10_makes.2.1 33 = .ok (.getfield 31, 3) := by decide +kernel
theorem d_X10_makes_36 : decode m_X10_makes.2.1 36 = .ok (.aload_n 0, 1) := by decide +kernel
theorem d_X10_makes_37 : decode m_X10_makes.2.1 37 = .ok (.getfield 156, 3) := by decide +kernel
theorem d_X10_makes_40 : decode m_X10_makes.2.1 40 = .ok (.iload_n 3, 1) := by decide +kernel
theorem d_X10_makes_41 : decode m_X10_makes.2.1 41 = .ok (.iastore, 1) := by decide +kernel
theorem d_X10_makes_42 : decode m_X10_makes.2.1 42 = .ok (.aload_n 0, 1) := by decide +kernel
theorem d_X10_makes_43 : decode m_X10_makes.2.1 43 = .ok (.dup, 1) := by decide +kernel
theorem d_X10_makes_44 : decode m_X10_makes.2.1 44 = .ok (.getfield 156, 3) := by decide +kernel
theorem d_X10_makes_47 : decode m_X10_makes.2.1 47 = .ok (.iconst 1, 1) := by decide +kernel
theorem d_X10_makes_48 : decode m_X10_makes.2.1 48 = .ok (.iadd, 1) := by decide +kernel
theorem d_X10_makes_49 : decode m_X10_makes.2.1 49 = .ok (.putfield 156, 3) := by decide +kernel
theorem d_X10_makes_52 : decode m_X10_makes.2.1 52 = .ok (.goto 33, 3) := by decide +kernel
theorem d_X10_makes_55 : decode m_X10_makes.2.1 55 = .ok (.aload_n 0, 1) := by decide +kernel
theorem d_X10_makes_56 : decode m_X10_makes.2.1 56 = .ok (.getfield 28, 3) := by decide +kernel
theorem d_X10_makes_59 : decode m_X10_makes.2.1 59 = .ok (.iload 4, 2) := by decide +kernel
theorem d_X10_makes_61 : decode m_X10_makes.2.1 61 = .ok (.iaload, 1) := by decide +kernel
theorem d_X10_makes_62 : decode m_X10_makes.2.1 62 = .ok (.iload_n 2, 1) := by decide +kernel
theorem d_X10_makes_63 : decode m_X10_makes.2.1 63 = .ok (.if_icmp .ne 22, 3) := by decide +kernel
theorem d_X10_makes_66 : decode m_X10_makes.2.1 66 = .ok (.iload_n 3, 1) := by decide +kernel
theorem d_X10_makes_67 : decode m_X10_makes.2.1 67 = .ok (.aload_n 0, 1) := by decide +kernel
theorem d_X10_makes_68 : decode m_X10_makes.2.1 68 = .ok (.getfield 31, 3) := by decide +kernel
theorem d_X10_makes_71 : decode m_X10_makes.2.1 71 = .ok (.iload 4, 2) := by decide +kernel
theorem d_X10_makes_73 : decode m_X10_makes.2.1 73 = .ok (.iaload, 1) := by decide +kernel
theorem d_X10_makes_74 : decode m_X10_makes.2.1 74 = .ok (.if_icmp .ge 11, 3) := by decide +kernel
theorem d_X10_makes_77 : decode m_X10_makes.2.1 77 = .ok (.aload_n 0, 1) := by decide +kernel
theorem d_X10_makes_78 : decode m_X10_makes.2.1 78 = .ok (.getfield 31, 3) := by decide +kernel
theorem d_X10_makes_81 : decode m_X10_makes.2.1 81 = .ok (.iload 4, 2) := by decide +kernel
theorem d_X10_makes_83 : decode m_X10_makes.2.1 83 = .ok (.iload_n 3, 1) := by decide +kernel
theorem d_X10_makes_84 : decode m_X10_makes.2.1 84 = .ok (.iastore, 1) := by decide +kernel
theorem d_X10_makes_85 : decode m_X10_makes.2.1 85 = .ok (.return_, 1) := by decide +kernel
theorem d_X10_findsBreaks_0 : decode m_X10_findsBreaks.2.1 0 = .ok (.aload_n 0, 1) := by decide +kernel
theorem d_X10_findsBreaks_1 : decode m_X10_findsBreaks.2.1 1 = .ok (.getfield 25, 3) := by decide +kernel
theorem d_X10_findsBreaks_4 : decode m_X10_findsBreaks.2.1 4 = .ok (.iconst 0, 1) := by decide +kernel
theorem d_X10_findsBreaks_5 : decode m_X10_findsBreaks.2.1 5 = .ok (.iconst 0, 1) := by decide +kernel
theorem d_X10_findsBreaks_6 : decode m_X10_findsBreaks.2.1 6 = .ok (.iastore, 1) := by decide +kernel
theorem d_X10_findsBreaks_7 : decode m_X10_findsBreaks.2.1 7 = .ok (.aload_n 0, 1) := by decide +kernel
theorem d_X10_findsBreaks_8 : decode m_X10_findsBreaks.2.1 8 = .ok (.getfield 28, 3) := by decide +kernel
theorem d_X10_findsBreaks_11 : decode m_X10_findsBreaks.2.1 11 = .ok (.iconst 0, 1) := by decide +kernel
theorem d_X10_findsBreaks_12 : decode m_X10_findsBreaks.2.1 12 = .ok (.iconst 0, 1) := by decide +kernel
theorem d_X10_findsBreaks_13 : decode m_X10_findsBreaks.2.1 13 = .ok (.iastore, 1) := by decide +kernel
theorem d_X10_findsBreaks_14 : decode m_X10_findsBreaks.2.1 14 = .ok (.aload_n 0, 1) := by decide +kernel
theorem d_X10_findsBreaks_15 : decode m_X10_findsBreaks.2.1 15 = .ok (.getfield 31, 3) := by decide +kernel
theorem d_X10_findsBreaks_18 : decode m_X10_findsBreaks.2.1 18 = .ok (.iconst 0, 1) := by decide +kernel
theorem d_X10_findsBreaks_19 : decode m_X10_findsBreaks.2.1 19 = .ok (.ldc 125, 2) := by decide +kernel
theorem d_X10_findsBreaks_21 : decode m_X10_findsBreaks.2.1 21 = .ok (.iastore, 1) := by decide +kernel
theorem d_X10_findsBreaks_22 : decode m_X10_findsBreaks.2.1 22 = .ok (.aload_n 0, 1) := by decide +kernel
theorem d_X10_findsBreaks_23 : decode m_X10_findsBreaks.2.1 23 = .ok (.iconst 1, 1) := by decide +kernel
theorem d_X10_findsBreaks_24 : decode m_X10_findsBreaks.2.1 24 = .ok (.putfield 156, 3) := by decide +kernel
theorem d_X10_findsBreaks_27 : decode m_X10_findsBreaks.2.1 27 = .ok (.aload_n 0, 1) := by decide +kernel
theorem d_X10_findsBreaks_28 : decode m_X10_findsBreaks.2.1 28 = .ok (.invokevirtual 162, 3) := by decide +kernel
theorem d_X10_findsBreaks_31 : decode m_X10_findsBreaks.2.1 31 = .ok (.istore_n 1, 1) := by decide +kernel
theorem d_X10_findsBreaks_32 : decode m_X10_findsBreaks.2.1 32 = .ok (.iconst 0, 1) := by decide +kernel
theorem d_X10_findsBreaks_33 : decode m_X10_findsBreaks.2.1 33 = .ok (.istore_n 2, 1) := by decide +kernel
theorem d_X10_findsBreaks_34 : decode m_X10_findsBreaks.2.1 34 = .ok (.iload_n 2, 1) := by decide +kernel
theorem d_X10_findsBreaks_35 : decode m_X10_findsBreaks.2.1 35 = .ok (.aload_n 0, 1) := by decide +kernel
theorem d_X10_findsBreaks_36 : decode m_X10_findsBreaks.2.1 36 = .ok (.getfield 7, 3) := by decide +kernel
theorem d_X10_findsBreaks_39 : decode m_X10_findsBreaks.2.1 39 = .ok (.iconst 2, 1) := by decide +kernel
theorem d_X10_findsBreaks_40 : decode m_X10_findsBreaks.2.1 40 = .ok (.iaload, 1) := by decide +kernel
theorem d_X10_findsBreaks_41 : decode m_X10_findsBreaks.2.1 41 = .ok (.if_icmp .ge 100, 3) := by decide +kernel
theorem d_X10_findsBreaks_44 : decode m_X10_findsBreaks.2.1 44 = .ok (.aload_n 0, 1) := by decide +kernel
theorem d_X10_findsBreaks_45 : decode m_X10_findsBreaks.2.1 45 = .ok (.getfield 156, 3) := by decide +kernel
theorem d_X10_findsBreaks_48 : decode m_X10_findsBreaks.2.1 48 = .ok (.istore_n 3, 1) := by decide +kernel
theorem d_X10_findsBreaks_49 : decode m_X10_findsBreaks.2.1 49 = .ok (.iconst 0, 1) := by decide +kernel
theorem d_X10_findsBreaks_50 : decode m_X10_findsBreaks.2.1 50 = .ok (.istore 4, 2) := by decide +kernel
theorem d_X10_findsBreaks_52 : decode m_X10_findsBreaks.2.1 52 = .ok (.iload 4, 2) := by decide +kernel
theorem d_X10_findsBreaks_54 : decode m_X10_findsBreaks.2.1 54 = .ok (.iload_n 3, 1) := by decide +kernel
theorem d_X10_findsBreaks_55 : decode m_X10_findsBreaks.2.1 55 = .ok (.if_icmp .ge 80, 3) := by decide +kernel
theorem d_X10_findsBreaks_58 : decode m_X10_findsBreaks.2.1 58 = .ok (.iconst 0, 1) := by decide +kernel
theorem d_X10_findsBreaks_59 : decode m_X10_findsBreaks.2.1 59 = .ok (.istore 5, 2) := by decide +kernel
theorem d_X10_findsBreaks_61 : decode m_X10_findsBreaks.2.1 61 = .ok (.iload 5, 2) := by decide +kernel
theorem d_X10_findsBreaks_63 : decode m_X10_findsBreaks.2.1 63 = .ok (.iconst 3, 1) := by decide +kernel
theorem d_X10_findsBreaks_64 : decode m_X10_findsBreaks.2.1 64 = .ok (.if_icmp .ge 65, 3) := by decide +kernel
theorem d_X10_findsBreaks_67 : decode m_X10_findsBreaks.2.1 67 = .ok (.aload_n 0, 1) := by decide +kernel
theorem d_X10_findsBreaks_68 : decode m_X10_findsBreaks.2.1 68 = .ok (.getfield 28, 3) := by decide +kernel
theorem d_X10_findsBreaks_71 : decode m_X10_findsBreaks.2.1 71 = .ok (.iload 4, 2) := by decide +kernel
theorem d_X10_findsBreaks_73 : decode m_X10_findsBreaks.2.1 73 = .ok (.iaload, 1) := by decide +kernel
theorem d_X10_findsBreaks_74 : decode m_X10_findsBreaks.2.1 74 = .ok (.iload_n 2, 1) := by decide +kernel
theorem d_X10_findsBreaks_75 : decode m_X10_findsBreaks.2.1 75 = .ok (.if_icmp .ne 29, 3) := by decide +kernel
theorem d_X10_findsBreaks_78 : decode m_X10_findsBreaks.2.1 78 = .ok (.iload_n 1, 1) := by decide +kernel
theorem d_X10_findsBreaks_79 : decode m_X10_findsBreaks.2.1 79 = .ok (.iload 5, 2) := by decide +kernel
theorem d_X10_findsBreaks_81 : decode m_X10_findsBreaks.2.1 81 = .ok (.ishr, 1) := by decide +kernel
theorem d_X10_findsBreaks_82 : decode m_X10_findsBreaks.2.1 82 = .ok (.iconst 1, 1) := by decide +kernel
theorem d_X10_findsBreaks_83 : decode m_X10_findsBreaks.2.1 83 = .ok (.iand, 1) := by decide +kernel
theorem d_X10_findsBreaks_84 : decode m_X10_findsBreaks.2.1 84 = .ok (.iconst 1, 1) := by decide +kernel
theorem d_X10_findsBreaks_85 : decode m_X10_findsBreaks.2.1 85 = .ok (.if_icmp .ne 19, 3) := by decide +kernel
theorem d_X10_findsBreaks_88 : decode m_X10_findsBreaks.2.1 88 = .ok (.aload_n 0, 1) := by decide +kernel
theorem d_X10_findsBreaks_89 : decode m_X10_findsBreaks.2.1 89 = .ok (.aload_n 0, 1) := by decide +kernel
theorem d_X10_findsBreaks_90 : decode m_X10_findsBreaks.2.1 90 = .ok (.getfield 25, 3) := by decide +kernel
theorem d_X10_findsBreaks_93 : decode m_X10_findsBreaks.2.1 93 = .ok (.iload 4, 2) := by decide +kernel
theorem d_X10_findsBreaks_95 : decode m_X10_findsBreaks.2.1 95 = .ok (.iaload, 1) := by decide +kernel
theorem d_X10_findsBreaks_96 : decode m_X10_findsBreaks.2.1 96 = .ok (.iload 5, 2) := by decide +kernel
theorem d_X10_findsBreaks_98 : decode m_X10_findsBreaks.2.1 98 = .ok (.invokevirtual 165, 3) := by decide +kernel
theorem d_X10_findsBreaks_101 : decode m_X10_findsBreaks.2.1 101 = .ok (.goto 4, 3) := by decide +kernel
theorem d_X10_findsBreaks_104 : decode m_X10_findsBreaks.2.1 104 = .ok (.iconst (-1), 1) := by decide +kernel
theorem d_X10_findsBreaks_105 : decode m_X10_findsBreaks.2.1 105 = .ok (.istore 6, 2) := by decide +kernel
theorem d_X10_findsBreaks_107 : decode m_X10_findsBreaks.2.1 107 = .ok (.iload 6, 2) := by decide +kernel
theorem d_X10_findsBreaks_109 : decode m_X10_findsBreaks.2.1 109 = .ok (.ifCond .lt 14, 3) := by decide +kernel
theorem d_X10_findsBreaks_112 : decode m_X10_findsBreaks.2.1 112 = .ok (.aload_n 0, 1) := by decide +kernel
theorem d_X10_findsBreaks_113 : decode m_X10_findsBreaks.2.1 113 = .ok (.iload 6, 2) := by decide +kernel
theorem d_X10_findsBreaks_115 : decode m_X10_findsBreaks.2.1 115 = .ok (.iload_n 2, 1) := by decide +kernel
theorem d_X10_findsBreaks_116 : decode m_X10_findsBreaks.2.1 116 = .ok (.iconst 1, 1) := by decide +kernel
theorem d_X10_findsBreaks_117 : decode m_X10_findsBreaks.2.1 117 = .ok (.iadd, 1) := by decide +kernel
theorem d_X10_findsBreaks_118 : decode m_X10_findsBreaks.2.1 118 = .ok (.iload 5, 2) := by decide +kernel
theorem d_X10_findsBreaks_120 : decode m_X10_findsBreaks.2.1 120 = .ok (.invokevirtual 168, 3) := by decide +kernel
theorem d_X10_findsBreaks_123 : decode m_X10_findsBreaks.2.1 123 = .ok (.iinc 5 1, 3) := by decide +kernel
theorem d_X10_findsBreaks_126 : decode m_X10_findsBreaks.2.1 126 = .ok (.goto (-65), 3) := by decide +kernel
theorem d_X10_findsBreaks_129 : decode m_X10_findsBreaks.2.1 129 = .ok (.iinc 4 1, 3) := by decide +kernel
theorem d_X10_findsBreaks_132 : decode m_X10_findsBreaks.2.1 132 = .ok (.goto (-80), 3) := by decide +kernel
theorem d_X10_findsBreaks_135 : decode m_X10_findsBreaks.2.1 135 = .ok (.iinc 2 1, 3) := by decide +kernel
theorem d_X10_findsBreaks_138 : decode m_X10_findsBreaks.2.1 138 = .ok (.goto (-104), 3) := by decide +kernel
theorem d_X10_findsBreaks_141 : decode m_X10_findsBreaks.2.1 141 = .ok (.iconst 1, 1) := by decide +kernel
theorem d_X10_findsBreaks_142 : decode m_X10_findsBreaks.2.1 142 = .ok (.istore_n 2, 1) := by decide +kernel
theorem d_X10_findsBreaks_143 : decode m_X10_findsBreaks.2.1 143 = .ok (.iload_n 2, 1) := by decide +kernel
theorem d_X10_findsBreaks_144 : decode m_X10_findsBreaks.2.1 144 = .ok (.aload_n 0, 1) := by decide +kernel
theorem d_X10_findsBreaks_145 : decode m_X10_findsBreaks.2.1 145 = .ok (.getfield 156, 3) := by decide +kernel
theorem d_X10_findsBreaks_148 : decode m_X10_findsBreaks.2.1 148 = .ok (.if_icmp .ge 62, 3) := by decide +kernel
theorem d_X10_findsBreaks_151 : decode m_X10_findsBreaks.2.1 151 = .ok (.iload_n 2, 1) := by decide +kernel
theorem d_X10_findsBreaks_152 : decode m_X10_findsBreaks.2.1 152 = .ok (.istore_n 3, 1) := by decide +kernel
theorem d_X10_findsBreaks_153 : decode m_X10_findsBreaks.2.1 153 = .ok (.iload_n 3, 1) := by decide +kernel
theorem d_X10_findsBreaks_154 : decode m_X10_findsBreaks.2.1 154 = .ok (.ifCond .le 50, 3) := by decide +kernel
theorem d_X10_findsBreaks_157 : decode m_X10_findsBreaks.2.1 157 = .ok (.aload_n 0, 1) := by decide +kernel
theorem d_X10_findsBreaks_158 : decode m_X10_findsBreaks.2.1 158 = .ok (.getfield 25, 3) := by decide +kernel
theorem d_X10_findsBreaks_161 : decode m_X10_findsBreaks.2.1 161 = .ok (.iload_n 3, 1) := by decide +kernel
theorem d_X10_findsBreaks_162 : decode m_X10_findsBreaks.2.1 162 = .ok (.iaload, 1) := by decide +kernel
theorem d_X10_findsBreaks_163 : decode m_X10_findsBreaks.2.1 163 = .ok (.aload_n 0, 1) := by decide +kernel
theorem d_X10_findsBreaks_164 : decode m_X10_findsBreaks.2.1 164 = .ok (.getfield 25, 3) := by decide +kernel
theorem d_X10_findsBreaks_167 : decode m_X10_findsBreaks.2.1 167 = .ok (.iload_n 3, 1) := by decide +kernel
theorem d_X10_findsBreaks_168 : decode m_X10_findsBreaks.2.1 168 = .ok (.iconst 1, 1) := by decide +kernel
theorem d_X10_findsBreaks_169 : decode m_X10_findsBreaks.2.1 169 = .ok (.isub, 1) := by decide +kernel
theorem d_X10_findsBreaks_170 : decode m_X10_findsBreaks.2.1 170 = .ok (.iaload, 1) := by decide +kernel
theorem d_X10_findsBreaks_171 : decode m_X10_findsBreaks.2.1 171 = .ok (.if_icmp .ge 33, 3) := by decide +kernel
theorem d_X10_findsBreaks_174 : decode m_X10_findsBreaks.2.1 174 = .ok (.aload_n 0, 1) := by decide +kernel
theorem d_X10_findsBreaks_175 : decode m_X10_findsBreaks.2.1 175 = .ok (.getfield 25, 3) := by decide +kernel
theorem d_X10_findsBreaks_178 : decode m_X10_findsBreaks.2.1 178 = .ok (.iload_n 3, 1) := by decide +kernel
theorem d_X10_findsBreaks_179 : decode m_X10_findsBreaks.2.1 179 = .ok (.invokestatic 172, 3) := by decide +kernel
theorem d_X10_findsBreaks_182 : decode m_X10_findsBreaks.2.1 182 = .ok (.aload_n 0, 1) := by decide +kernel
theorem d_X10_findsBreaks_183 : decode m_X10_findsBreaks.2.1 183 = .ok (.getfield 28, 3) := by decide +kernel
theorem d_X10_findsBreaks_186 : decode m_X10_findsBreaks.2.1 186 = .ok (.iload_n 3, 1) := by decide +kernel
theorem d_X10_findsBreaks_187 : decode m_X10_findsBreaks.2.1 187 = .ok (.invokestatic 172, 3) := by decide +kernel
theorem d_X10_findsBreaks_190 : decode m_X10_findsBreaks.2.1 190 = .ok (.aload_n 0, 1) := by decide +kernel
theorem d_X10_findsBreaks_191 : decode m_X10_findsBreaks.2.1 191 = .ok (.getfield 31, 3) := by decide +kernel
theorem d_X10_findsBreaks_194 : decode m_X10_findsBreaks.2.1 194 = .ok (.iload_n 3, 1) := by decide +kernel
theorem d_X10_findsBreaks_195 : decode m_X10_findsBreaks.2.1 195 = .ok (.invokestatic 172, 3) := by decide +kernel
theorem d_X10_findsBreaks_198 : decode m_X10_findsBreaks.2.1 198 = .ok (.iinc 3 (-1), 3) := by decide +kernel
theorem d_X10_findsBreaks_201 : decode m_X10_findsBreaks.2.1 201 = .ok (.goto (-48), 3) := by decide +kernel
theorem d_X10_findsBreaks_204 : decode m_X10_findsBreaks.2.1 204 = .ok (.iinc 2 1, 3) := by decide +kernel
theorem d_X10_findsBreaks_207 : decode m_X10_findsBreaks.2.1 207 = .ok (.goto (-64), 3) := by decide +kernel
theorem d_X10_findsBreaks_210 : decode m_X10_findsBreaks.2.1 210 = .ok (.return_, 1) := by decide +kernel
theorem d_X10_swaps_0 : decode m_X10_swaps.2.1 0 = .ok (.aload_n 0, 1) := by decide +kernel
theorem d_X10_swaps_1 : decode m_X10_swaps.2.1 1 = .ok (.iload_n 1, 1) := by decide +kernel
theorem d_X10_swaps_2 : decode m_X10_swaps.2.1 2 = .ok (.iaload, 1) := by decide +kernel
theorem d_X10_swaps_3 : decode m_X10_swaps.2.1 3 = .ok (.istore_n 2, 1) := by decide +kernel
theorem d_X10_swaps_4 : decode m_X10_swaps.2.1 4 = .ok (.aload_n 0, 1) := by decide +kernel
theorem d_X10_swaps_5 : decode m_X10_swaps.2.1 5 = .ok (.iload_n 1, 1) := by decide +kernel
theorem d_X10_swaps_6 : decode m_X10_swaps.2.1 6 = .ok (.aload_n 0, 1) := by decide +kernel
theorem d_X10_swaps_7 : decode m_X10_swaps.2.1 7 = .ok (.iload_n 1, 1) := by decide +kernel
theorem d_X10_swaps_8 : decode m_X10_swaps.2.1 8 = .ok (.iconst 1, 1) := by decide +kernel
theorem d_X10_swaps_9 : decode m_X10_swaps.2.1 9 = .ok (.isub, 1) := by decide +kernel
theorem d_X10_swaps_10 : decode m_X10_swaps.2.1 10 = .ok (.iaload, 1) := by decide +kernel
theorem d_X10_swaps_11 : decode m_X10_swaps.2.1 11 = .ok (.iastore, 1) := by decide +kernel
theorem d_X10_swaps_12 : decode m_X10_swaps.2.1 12 = .ok (.aload_n 0, 1) := by decide +kernel
theorem d_X10_swaps_13 : decode m_X10_swaps.2.1 13 = .ok (.iload_n 1, 1) := by decide +kernel
theorem d_X10_swaps_14 : decode m_X10_swaps.2.1 14 = .ok (.iconst 1, 1) := by decide +kernel
theorem d_X10_swaps_15 : decode m_X10_swaps.2.1 15 = .ok (.isub, 1) := by decide +kernel
theorem d_X10_swaps_16 : decode m_X10_swaps.2.1 16 = .ok (.iload_n 2, 1) := by decide +kernel
theorem d_X10_swaps_17 : decode m_X10_swaps.2.1 17 = .ok (.iastore, 1) := by decide +kernel
theorem d_X10_swaps_18 : decode m_X10_swaps.2.1 18 = .ok (.return_, 1) := by decide +kernel
theorem d_X10_breakAt_0 : decode m_X10_breakAt.2.1 0 = .ok (.iload_n 1, 1) := by decide +kernel
theorem d_X10_breakAt_1 : decode m_X10_breakAt.2.1 1 = .ok (.ifCond .lt 12, 3) := by decide +kernel
theorem d_X10_breakAt_4 : decode m_X10_breakAt.2.1 4 = .ok (.iload_n 2, 1) := by decide +kernel
theorem d_X10_breakAt_5 : decode m_X10_breakAt.2.1 5 = .ok (.iconst 0, 1) := by decide +kernel
theorem d_X10_breakAt_6 : decode m_X10_breakAt.2.1 6 = .ok (.iconst 2, 1) := by decide +kernel
theorem d_X10_breakAt_7 : decode m_X10_breakAt.2.1 7 = .ok (.invokestatic 86, 3) := by decide +kernel
theorem d_X10_breakAt_10 : decode m_X10_breakAt.2.1 10 = .ok (.ifCond .ne 6, 3) := by decide +kernel
theorem d_X10_breakAt_13 : decode m_X10_breakAt.2.1 13 = .ok (.ldc 90, 2) := by decide +kernel
theorem d_X10_breakAt_15 : decode m_X10_breakAt.2.1 15 = .ok (.ireturn, 1) := by decide +kernel
theorem d_X10_breakAt_16 : decode m_X10_breakAt.2.1 16 = .ok (.iload_n 1, 1) := by decide +kernel
theorem d_X10_breakAt_17 : decode m_X10_breakAt.2.1 17 = .ok (.aload_n 0, 1) := by decide +kernel
theorem d_X10_breakAt_18 : decode m_X10_breakAt.2.1 18 = .ok (.getfield 156, 3) := by decide +kernel
theorem d_X10_breakAt_21 : decode m_X10_breakAt.2.1 21 = .ok (.if_icmp .lt 6, 3) := by decide +kernel
theorem d_X10_breakAt_24 : decode m_X10_breakAt.2.1 24 = .ok (.ldc 125, 2) := by decide +kernel
theorem d_X10_breakAt_26 : decode m_X10_breakAt.2.1 26 = .ok (.ireturn, 1) := by decide +kernel
theorem d_X10_breakAt_27 : decode m_X10_breakAt.2.1 27 = .ok (.iload_n 2, 1) := by decide +kernel
theorem d_X10_breakAt_28 : decode m_X10_breakAt.2.1 28 = .ok (.ifCond .ne 12, 3) := by decide +kernel
theorem d_X10_breakAt_31 : decode m_X10_breakAt.2.1 31 = .ok (.aload_n 0, 1) := by decide +kernel
theorem d_X10_breakAt_32 : decode m_X10_breakAt.2.1 32 = .ok (.getfield 25, 3) := by decide +kernel
theorem d_X10_breakAt_35 : decode m_X10_breakAt.2.1 35 = .ok (.iload_n 1, 1) := by decide +kernel
theorem d_X10_breakAt_36 : decode m_X10_breakAt.2.1 36 = .ok (.iaload, 1) := by decide +kernel
theorem d_X10_breakAt_37 : decode m_X10_breakAt.2.1 37 = .ok (.goto 23, 3) := by decide +kernel
theorem d_X10_breakAt_40 : decode m_X10_breakAt.2.1 40 = .ok (.iload_n 2, 1) := by decide +kernel
theorem d_X10_breakAt_41 : decode m_X10_breakAt.2.1 41 = .ok (.iconst 1, 1) := by decide +kernel
theorem d_X10_breakAt_42 : decode m_X10_breakAt.2.1 42 = .ok (.if_icmp .ne 12, 3) := by decide +kernel
theorem d_X10_breakAt_45 : decode m_X10_breakAt.2.1 45 = .ok (.aload_n 0, 1) := by decide +kernel
theorem d_X10_breakAt_46 : decode m_X10_breakAt.2.1 46 = .ok (.getfield 28, 3) := by decide +kernel
theorem d_X10_breakAt_49 : decode m_X10_breakAt.2.1 49 = .ok (.iload_n 1, 1) := by decide +kernel
theorem d_X10_breakAt_50 : decode m_X10_breakAt.2.1 50 = .ok (.iaload, 1) := by decide +kernel
theorem d_X10_breakAt_51 : decode m_X10_breakAt.2.1 51 = .ok (.goto 9, 3) := by decide +kernel
theorem d_X10_breakAt_54 : decode m_X10_breakAt.2.1 54 = .ok (.aload_n 0, 1) := by decide +kernel
theorem d_X10_breakAt_55 : decode m_X10_breakAt.2.1 55 = .ok (.getfield 31, 3) := by decide +kernel
theorem d_X10_breakAt_58 : decode m_X10_breakAt.2.1 58 = .ok (.iload_n 1, 1) := by decide +kernel
theorem d_X10_breakAt_59 : decode m_X10_breakAt.2.1 59 = .ok (.iaload, 1) := by decide +kernel
theorem d_X10_breakAt_60 : decode m_X10_breakAt.2.1 60 = .ok (.ireturn, 1) := by decide +kernel
theorem d_X10_nextBreak_0 : decode m_X10_nextBreak.2.1 0 = .ok (.iconst 0, 1) := by decide +kernel
theorem d_X10_nextBreak_1 : decode m_X10_nextBreak.2.1 1 = .ok (.istore_n 2, 1) := by decide +kernel
theorem d_X10_nextBreak_2 : decode m_X10_nextBreak.2.1 2 = .ok (.iload_n 2, 1) := by decide +kernel
theorem d_X10_nextBreak_3 : decode m_X10_nextBreak.2.1 3 = .ok (.aload_n 0, 1) := by decide +kernel
theorem d_X10_nextBreak_4 : decode m_X10_nextBreak.2.1 4 = .ok (.getfield 156, 3) := by decide +kernel
theorem d_X10_nextBreak_7 : decode m_X10_nextBreak.2.1 7 = .ok (.if_icmp .ge 26, 3) := by decide +kernel
theorem d_X10_nextBreak_10 : decode m_X10_nextBreak.2.1 10 = .ok (.aload_n 0, 1) := by decide +kernel
theorem d_X10_nextBreak_11 : decode m_X10_nextBreak.2.1 11 = .ok (.getfield 25, 3) := by decide +kernel
theorem d_X10_nextBreak_14 : decode m_X10_nextBreak.2.1 14 = .ok (.iload_n 2, 1) := by decide +kernel
theorem d_X10_nextBreak_15 : decode m_X10_nextBreak.2.1 15 = .ok (.iaload, 1) := by decide +kernel
theorem d_X10_nextBreak_16 : decode m_X10_nextBreak.2.1 16 = .ok (.iload_n 1, 1) := by decide +kernel
theorem d_X10_nextBreak_17 : decode m_X10_nextBreak.2.1 17 = .ok (.if_icmp .le 10, 3) := by decide +kernel
theorem d_X10_nextBreak_20 : decode m_X10_nextBreak.2.1 20 = .ok (.aload_n 0, 1) := by decide +kernel
theorem d_X10_nextBreak_21 : decode m_X10_nextBreak.2.1 21 = .ok (.getfield 25, 3) := by decide +kernel
theorem d_X10_nextBreak_24 : decode m_X10_nextBreak.2.1 24 = .ok (.iload_n 2, 1) := by decide +kernel
theorem d_X10_nextBreak_25 : decode m_X10_nextBreak.2.1 25 = .ok (.iaload, 1) := by decide +kernel
theorem d_X10_nextBreak_26 : decode m_X10_nextBreak.2.1 26 = .ok (.ireturn, 1) := by decide +kernel
theorem d_X10_nextBreak_27 : decode m_X10_nextBreak.2.1 27 = .ok (.iinc 2 1, 3) := by decide +kernel
theorem d_X10_nextBreak_30 : decode m_X10_nextBreak.2.1 30 = .ok (.goto (-28), 3) := by decide +kernel
theorem d_X10_nextBreak_33 : decode m_X10_nextBreak.2.1 33 = .ok (.sipush 8000, 3) := by decide +kernel
theorem d_X10_nextBreak_36 : decode m_X10_nextBreak.2.1 36 = .ok (.ireturn, 1) := by decide +kernel
theorem d_X10_historyValue_0 : decode m_X10_historyValue.2.1 0 = .ok (.aload_n 0, 1) := by decide +kernel
theorem d_X10_historyValue_1 : decode m_X10_historyValue.2.1 1 = .ok (.iload_n 1, 1) := by decide +kernel
theorem d_X10_historyValue_2 : decode m_X10_historyValue.2.1 2 = .ok (.invokevirtual 144, 3) := by decide +kernel
theorem d_X10_historyValue_5 : decode m_X10_historyValue.2.1 5 = .ok (.istore_n 3, 1) := by decide +kernel
theorem d_X10_historyValue_6 : decode m_X10_historyValue.2.1 6 = .ok (.iload_n 3, 1) := by decide +kernel
theorem d_X10_historyValue_7 : decode m_X10_historyValue.2.1 7 = .ok (.ifCond .ne 5, 3) := by decide +kernel
theorem d_X10_historyValue_10 : decode m_X10_historyValue.2.1 10 = .ok (.lconst 0, 1) := by decide +kernel
theorem d_X10_historyValue_11 : decode m_X10_historyValue.2.1 11 = .ok (.lreturn, 1) := by decide +kernel
theorem d_X10_historyValue_12 : decode m_X10_historyValue.2.1 12 = .ok (.iload_n 2, 1) := by decide +kernel
theorem d_X10_historyValue_13 : decode m_X10_historyValue.2.1 13 = .ok (.aload_n 0, 1) := by decide +kernel
theorem d_X10_historyValue_14 : decode m_X10_historyValue.2.1 14 = .ok (.iload_n 1, 1) := by decide +kernel
theorem d_X10_historyValue_15 : decode m_X10_historyValue.2.1 15 = .ok (.iconst 0, 1) := by decide +kernel
theorem d_X10_historyValue_16 : decode m_X10_historyValue.2.1 16 = .ok (.invokevirtual 147, 3) := by decide +kernel
theorem d_X10_historyValue_19 : decode m_X10_historyValue.2.1 19 = .ok (.if_icmp .gt 11, 3) := by decide +kernel
theorem d_X10_historyValue_22 : decode m_X10_historyValue.2.1 22 = .ok (.aload_n 0, 1) := by decide +kernel
theorem d_X10_historyValue_23 : decode m_X10_historyValue.2.1 23 = .ok (.iload_n 1, 1) := by decide +kernel
theorem d_X10_historyValue_24 : decode m_X10_historyValue.2.1 24 = .ok (.iconst 0, 1) := by decide +kernel
theorem d_X10_historyValue_25 : decode m_X10_historyValue.2.1 25 = .ok (.invokevirtual 150, 3) := by decide +kernel
theorem d_X10_historyValue_28 : decode m_X10_historyValue.2.1 28 = .ok (.i2l, 1) := by decide +kernel
theorem d_X10_historyValue_29 : decode m_X10_historyValue.2.1 29 = .ok (.lreturn, 1) := by decide +kernel
theorem d_X10_historyValue_30 : decode m_X10_historyValue.2.1 30 = .ok (.iconst 0, 1) := by decide +kernel
theorem d_X10_historyValue_31 : decode m_X10_historyValue.2.1 31 = .ok (.istore 4, 2) := by decide +kernel
theorem d_X10_historyValue_33 : decode m_X10_historyValue.2.1 33 = .ok (.iload 4, 2) := by decide +kernel
theorem d_X10_historyValue_35 : decode m_X10_historyValue.2.1 35 = .ok (.iload_n 3, 1) := by decide +kernel
theorem d_X10_historyValue_36 : decode m_X10_historyValue.2.1 36 = .ok (.if_icmp .ge 20, 3) := by decide +kernel
theorem d_X10_historyValue_39 : decode m_X10_historyValue.2.1 39 = .ok (.aload_n 0, 1) := by decide +kernel
theorem d_X10_historyValue_40 : decode m_X10_historyValue.2.1 40 = .ok (.iload_n 1, 1) := by decide +kernel
theorem d_X10_historyValue_41 : decode m_X10_historyValue.2.1 41 = .ok (.iload 4, 2) := by decide +kernel
theorem d_X10_historyValue_43 : decode m_X10_historyValue.2.1 43 = .ok (.invokevirtual 147, 3) := by decide +kernel
theorem d_X10_historyValue_46 : decode m_X10_historyValue.2.1 46 = .ok (.iload_n 2, 1) := by decide +kernel
theorem d_X10_historyValue_47 : decode m_X10_historyValue.2.1 47 = .ok (.if_icmp .gt 9, 3) := by decide +kernel
theorem d_X10_historyValue_50 : decode m_X10_historyValue.2.1 50 = .ok (.iinc 4 1, 3) := by decide +kernel
theorem d_X10_historyValue_53 : decode m_X10_historyValue.2.1 53 = .ok (.goto (-20), 3) := by decide +kernel
theorem d_X10_historyValue_56 : decode m_X10_historyValue.2.1 56 = .ok (.iload 4, 2) := by decide +kernel
theorem d_X10_historyValue_58 : decode m_X10_historyValue.2.1 58 = .ok (.iload_n 3, 1) := by decide +kernel
theorem d_X10_historyValue_59 : decode m_X10_historyValue.2.1 59 = .ok (.if_icmp .ne 13, 3) := by decide +kernel
theorem d_X10_historyValue_62 : decode m_X10_historyValue.2.1 62 = .ok (.aload_n 0, 1) := by decide +kernel
theorem d_X10_historyValue_63 : decode m_X10_historyValue.2.1 63 = .ok (.iload_n 1, 1) := by decide +kernel
theorem d_X10_historyValue_64 : decode m_X10_historyValue.2.1 64 = .ok (.iload_n 3, 1) := by decide +kernel
theorem d_X10_historyValue_65 : decode m_X10_historyValue.2.1 65 = .ok (.iconst 1, 1) := by decide +kernel
theorem d_X10_historyValue_66 : decode m_X10_historyValue.2.1 66 = .ok (.isub, 1) := by decide +kernel
theorem d_X10_historyValue_67 : decode m_X10_historyValue.2.1 67 = .ok (.invokevirtual 150, 3) := by decide +kernel
theorem d_X10_historyValue_70 : decode m_X10_historyValue.2.1 70 = .ok (.i2l, 1) := by decide +kernel
theorem d_X10_historyValue_71 : decode m_X10_historyValue.2.1 71 = .ok (.lreturn, 1) := by decide +kernel
theorem d_X10_historyValue_72 : decode m_X10_historyValue.2.1 72 = .ok (.aload_n 0, 1) := by decide +kernel
theorem d_X10_historyValue_73 : decode m_X10_historyValue.2.1 73 = .ok (.iload_n 1, 1) := by decide +kernel
theorem d_X10_historyValue_74 : decode m_X10_historyValue.2.1 74 = .ok (.iload 4, 2) := by decide +kernel
theorem d_X10_historyValue_76 : decode m_X10_historyValue.2.1 76 = .ok (.iconst 1, 1) := by decide +kernel
theorem d_X10_historyValue_77 : decode m_X10_historyValue.2.1 77 = .ok (.isub, 1) := by decide +kernel
theorem d_X10_historyValue_78 : decode m_X10_historyValue.2.1 78 = .ok (.invokevirtual 147, 3) := by decide +kernel
theorem d_X10_historyValue_81 : decode m_X10_historyValue.2.1 81 = .ok (.i2l, 1) := by decide +kernel
theorem d_X10_historyValue_82 : decode m_X10_historyValue.2.1 82 = .ok (.lstore 5, 2) := by decide +kernel
theorem d_X10_historyValue_84 : decode m_X10_historyValue.2.1 84 = .ok (.aload_n 0, 1) := by decide +kernel
theorem d_X10_historyValue_85 : decode m_X10_historyValue.2.1 85 = .ok (.iload_n 1, 1) := by decide +kernel
theorem d_X10_historyValue_86 : decode m_X10_historyValue.2.1 86 = .ok (.iload 4, 2) := by decide +kernel
theorem d_X10_historyValue_88 : decode m_X10_historyValue.2.1 88 = .ok (.iconst 1, 1) := by decide +kernel
theorem d_X10_historyValue_89 : decode m_X10_historyValue.2.1 89 = .ok (.isub, 1) := by decide +kernel
theorem d_X10_historyValue_90 : decode m_X10_historyValue.2.1 90 = .ok (.invokevirtual 150, 3) := by decide +kernel
theorem d_X10_historyValue_93 : decode m_X10_historyValue.2.1 93 = .ok (.i2l, 1) := by decide +kernel
theorem d_X10_historyValue_94 : decode m_X10_historyValue.2.1 94 = .ok (.lstore 7, 2) := by decide +kernel
theorem d_X10_historyValue_96 : decode m_X10_historyValue.2.1 96 = .ok (.lload 7, 2) := by decide +kernel
theorem d_X10_historyValue_98 : decode m_X10_historyValue.2.1 98 = .ok (.aload_n 0, 1) := by decide +kernel
theorem d_X10_historyValue_99 : decode m_X10_historyValue.2.1 99 = .ok (.iload_n 1, 1) := by decide +kernel
theorem d_X10_historyValue_100 : decode m_X10_historyValue.2.1 100 = .ok (.iload 4, 2) := by decide +kernel
theorem d_X10_historyValue_102 : decode m_X10_historyValue.2.1 102 = .ok (.invokevirtual 150, 3) := by decide +kernel
theorem d_X10_historyValue_105 : decode m_X10_historyValue.2.1 105 = .ok (.i2l, 1) := by decide +kernel
theorem d_X10_historyValue_106 : decode m_X10_historyValue.2.1 106 = .ok (.lload 7, 2) := by decide +kernel
theorem d_X10_historyValue_108 : decode m_X10_historyValue.2.1 108 = .ok (.lsub, 1) := by decide +kernel
theorem d_X10_historyValue_109 : decode m_X10_historyValue.2.1 109 = .ok (.iload_n 2, 1) := by decide +kernel
theorem d_X10_historyValue_110 : decode m_X10_historyValue.2.1 110 = .ok (.i2l, 1) := by decide +kernel
theorem d_X10_historyValue_111 : decode m_X10_historyValue.2.1 111 = .ok (.lload 5, 2) := by decide +kernel
theorem d_X10_historyValue_113 : decode m_X10_historyValue.2.1 113 = .ok (.lsub, 1) := by decide +kernel
theorem d_X10_historyValue_114 : decode m_X10_historyValue.2.1 114 = .ok (.lmul, 1) := by decide +kernel
theorem d_X10_historyValue_115 : decode m_X10_historyValue.2.1 115 = .ok (.aload_n 0, 1) := by decide +kernel
theorem d_X10_historyValue_116 : decode m_X10_historyValue.2.1 116 = .ok (.iload_n 1, 1) := by decide +kernel
theorem d_X10_historyValue_117 : decode m_X10_historyValue.2.1 117 = .ok (.iload 4, 2) := by decide +kernel
theorem d_X10_historyValue_119 : decode m_X10_historyValue.2.1 119 = .ok (.invokevirtual 147, 3) := by decide +kernel
theorem d_X10_historyValue_122 : decode m_X10_historyValue.2.1 122 = .ok (.i2l, 1) := by decide +kernel
theorem d_X10_historyValue_123 : decode m_X10_historyValue.2.1 123 = .ok (.lload 5, 2) := by decide +kernel
theorem d_X10_historyValue_125 : decode m_X10_historyValue.2.1 125 = .ok (.lsub, 1) := by decide +kernel
theorem d_X10_historyValue_126 : decode m_X10_historyValue.2.1 126 = .ok (.ldiv, 1) := by decide +kernel
theorem d_X10_historyValue_127 : decode m_X10_historyValue.2.1 127 = .ok (.ladd, 1) := by decide +kernel
theorem d_X10_historyValue_128 : decode m_X10_historyValue.2.1 128 = .ok (.lreturn, 1) := by decide +kernel
theorem d_X10_historySlope_0 : decode m_X10_historySlope.2.1 0 = .ok (.iconst 1, 1) := by decide +kernel
theorem d_X10_historySlope_1 : decode m_X10_historySlope.2.1 1 = .ok (.istore_n 3, 1) := by decide +kernel
theorem d_X10_historySlope_2 : decode m_X10_historySlope.2.1 2 = .ok (.iload_n 3, 1) := by decide +kernel
theorem d_X10_historySlope_3 : decode m_X10_historySlope.2.1 3 = .ok (.aload_n 0, 1) := by decide +kernel
theorem d_X10_historySlope_4 : decode m_X10_historySlope.2.1 4 = .ok (.iload_n 1, 1) := by decide +kernel
theorem d_X10_historySlope_5 : decode m_X10_historySlope.2.1 5 = .ok (.invokevirtual 144, 3) := by decide +kernel
theorem d_X10_historySlope_8 : decode m_X10_historySlope.2.1 8 = .ok (.if_icmp .ge 69, 3) := by decide +kernel
theorem d_X10_historySlope_11 : decode m_X10_historySlope.2.1 11 = .ok (.aload_n 0, 1) := by decide +kernel
theorem d_X10_historySlope_12 : decode m_X10_historySlope.2.1 12 = .ok (.iload_n 1, 1) := by decide +kernel
theorem d_X10_historySlope_13 : decode m_X10_historySlope.2.1 13 = .ok (.iload_n 3, 1) := by decide +kernel
theorem d_X10_historySlope_14 : decode m_X10_historySlope.2.1 14 = .ok (.iconst 1, 1) := by decide +kernel
theorem d_X10_historySlope_15 : decode m_X10_historySlope.2.1 15 = .ok (.isub, 1) := by decide +kernel
theorem d_X10_historySlope_16 : decode m_X10_historySlope.2.1 16 = .ok (.invokevirtual 147, 3) := by decide +kernel
theorem d_X10_historySlope_19 : decode m_X10_historySlope.2.1 19 = .ok (.iload_n 2, 1) := by decide +kernel
theorem d_X10_historySlope_20 : decode m_X10_historySlope.2.1 20 = .ok (.if_icmp .gt 51, 3) := by decide +kernel
theorem d_X10_historySlope_23 : decode m_X10_historySlope.2.1 23 = .ok (.iload_n 2, 1) := by decide +kernel
theorem d_X10_historySlope_24 : decode m_X10_historySlope.2.1 24 = .ok (.aload_n 0, 1) := by decide +kernel
theorem d_X10_historySlope_25 : decode m_X10_historySlope.2.1 25 = .ok (.iload_n 1, 1) := by decide +kernel
theorem d_X10_historySlope_26 : decode m_X10_historySlope.2.1 26 = .ok (.iload_n 3, 1) := by decide +kernel
theorem d_X10_historySlope_27 : decode m_X10_historySlope.2.1 27 = .ok (.invokevirtual 147, 3) := by decide +kernel
theorem d_X10_historySlope_30 : decode m_X10_historySlope.2.1 30 = .ok (.if_icmp .ge 41, 3) := by decide +kernel
theorem d_X10_historySlope_33 : decode m_X10_historySlope.2.1 33 = .ok (.aload_n 0, 1) := by decide +kernel
theorem d_X10_historySlope_34 : decode m_X10_historySlope.2.1 34 = .ok (.iload_n 1, 1) := by decide +kernel
theorem d_X10_historySlope_35 : decode m_X10_historySlope.2.1 35 = .ok (.iload_n 3, 1) := by decide +kernel
theorem d_X10_historySlope_36 : decode m_X10_historySlope.2.1 36 = .ok (.invokevirtual 150, 3) := by decide +kernel
theorem d_X10_historySlope_39 : decode m_X10_historySlope.2.1 39 = .ok (.aload_n 0, 1) := by decide +kernel
theorem d_X10_historySlope_40 : decode m_X10_historySlope.2.1 40 = .ok (.iload_n 1, 1) := by decide +kernel
theorem d_X10_historySlope_41 : decode m_X10_historySlope.2.1 41 = .ok (.iload_n 3, 1) := by decide +kernel
theorem d_X10_historySlope_42 : decode m_X10_historySlope.2.1 42 = .ok (.iconst 1, 1) := by decide +kernel
theorem d_X10_historySlope_43 : decode m_X10_historySlope.2.1 43 = .ok (.isub, 1) := by decide +kernel
theorem d_X10_historySlope_44 : decode m_X10_historySlope.2.1 44 = .ok (.invokevirtual 150, 3) := by decide +kernel
theorem d_X10_historySlope_47 : decode m_X10_historySlope.2.1 47 = .ok (.isub, 1) := by decide +kernel
theorem d_X10_historySlope_48 : decode m_X10_historySlope.2.1 48 = .ok (.i2l, 1) := by decide +kernel
theorem d_X10_historySlope_49 : decode m_X10_historySlope.2.1 49 = .ok (.ldc2_w 176, 3) := by decide +kernel
theorem d_X10_historySlope_52 : decode m_X10_historySlope.2.1 52 = .ok (.lmul, 1) := by decide +kernel
theorem d_X10_historySlope_53 : decode m_X10_historySlope.2.1 53 = .ok (.aload_n 0, 1) := by decide +kernel
theorem d_X10_historySlope_54 : decode m_X10_historySlope.2.1 54 = .ok (.iload_n 1, 1) := by decide +kernel
theorem d_X10_historySlope_55 : decode m_X10_historySlope.2.1 55 = .ok (.iload_n 3, 1) := by decide +kernel
theorem d_X10_historySlope_56 : decode m_X10_historySlope.2.1 56 = .ok (.invokevirtual 147, 3) := by decide +kernel
theorem d_X10_historySlope_59 : decode m_X10_historySlope.2.1 59 = .ok (.aload_n 0, 1) := by decide +kernel
theorem d_X10_historySlope_60 : decode m_X10_historySlope.2.1 60 = .ok (.iload_n 1, 1) := by decide +kernel
theorem d_X10_historySlope_61 : decode m_X10_historySlope.2.1 61 = .ok (.iload_n 3, 1) := by decide +kernel
theorem d_X10_historySlope_62 : decode m_X10_historySlope.2.1 62 = .ok (.iconst 1, 1) := by decide +kernel
theorem d_X10_historySlope_63 : decode m_X10_historySlope.2.1 63 = .ok (.isub, 1) := by decide +kernel
theorem d_X10_historySlope_64 : decode m_X10_historySlope.2.1 64 = .ok (.invokevirtual 147, 3) := by decide +kernel
theorem d_X10_historySlope_67 : decode m_X10_historySlope.2.1 67 = .ok (.isub, 1) := by decide +kernel
theorem d_X10_historySlope_68 : decode m_X10_historySlope.2.1 68 = .ok (.i2l, 1) := by decide +kernel
theorem d_X10_historySlope_69 : decode m_X10_historySlope.2.1 69 = .ok (.ldiv, 1) := by decide +kernel
theorem d_X10_historySlope_70 : decode m_X10_historySlope.2.1 70 = .ok (.lreturn, 1) := by decide +kernel
theorem d_X10_historySlope_71 : decode m_X10_historySlope.2.1 71 = .ok (.iinc 3 1, 3) := by decide +kernel
theorem d_X10_historySlope_74 : decode m_X10_historySlope.2.1 74 = .ok (.goto (-72), 3) := by decide +kernel
theorem d_X10_historySlope_77 : decode m_X10_historySlope.2.1 77 = .ok (.lconst 0, 1) := by decide +kernel
theorem d_X10_historySlope_78 : decode m_X10_historySlope.2.1 78 = .ok (.lreturn, 1) := by decide +kernel
theorem d_X10_stepOf_0 : decode m_X10_stepOf.2.1 0 = .ok (.iconst 0, 1) := by decide +kernel
theorem d_X10_stepOf_1 : decode m_X10_stepOf.2.1 1 = .ok (.istore_n 2, 1) := by decide +kernel
theorem d_X10_stepOf_2 : decode m_X10_stepOf.2.1 2 = .ok (.aload_n 0, 1) := by decide +kernel
theorem d_X10_stepOf_3 : decode m_X10_stepOf.2.1 3 = .ok (.getfield 178, 3) := by decide +kernel
theorem d_X10_stepOf_6 : decode m_X10_stepOf.2.1 6 = .ok (.iconst 1, 1) := by decide +kernel
theorem d_X10_stepOf_7 : decode m_X10_stepOf.2.1 7 = .ok (.isub, 1) := by decide +kernel
theorem d_X10_stepOf_8 : decode m_X10_stepOf.2.1 8 = .ok (.istore_n 3, 1) := by decide +kernel
theorem d_X10_stepOf_9 : decode m_X10_stepOf.2.1 9 = .ok (.iload_n 2, 1) := by decide +kernel
theorem d_X10_stepOf_10 : decode m_X10_stepOf.2.1 10 = .ok (.iload_n 3, 1) := by decide +kernel
theorem d_X10_stepOf_11 : decode m_X10_stepOf.2.1 11 = .ok (.if_icmp .ge 37, 3) := by decide +kernel
theorem d_X10_stepOf_14 : decode m_X10_stepOf.2.1 14 = .ok (.iload_n 2, 1) := by decide +kernel
theorem d_X10_stepOf_15 : decode m_X10_stepOf.2.1 15 = .ok (.iload_n 3, 1) := by decide +kernel
theorem d_X10_stepOf_16 : decode m_X10_stepOf.2.1 16 = .ok (.iadd, 1) := by decide +kernel
theorem d_X10_stepOf_17 : decode m_X10_stepOf.2.1 17 = .ok (.iconst 1, 1) := by decide +kernel
theorem d_X10_stepOf_18 : decode m_X10_stepOf.2.1 18 = .ok (.iadd, 1) := by decide +kernel
theorem d_X10_stepOf_19 : decode m_X10_stepOf.2.1 19 = .ok (.iconst 2, 1) := by decide +kernel
theorem d_X10_stepOf_20 : decode m_X10_stepOf.2.1 20 = .ok (.idiv, 1) := by decide +kernel
theorem d_X10_stepOf_21 : decode m_X10_stepOf.2.1 21 = .ok (.istore 4, 2) := by decide +kernel
theorem d_X10_stepOf_23 : decode m_X10_stepOf.2.1 23 = .ok (.aload_n 0, 1) := by decide +kernel
theorem d_X10_stepOf_24 : decode m_X10_stepOf.2.1 24 = .ok (.getfield 34, 3) := by decide +kernel
theorem d_X10_stepOf_27 : decode m_X10_stepOf.2.1 27 = .ok (.iload 4, 2) := by decide +kernel
theorem d_X10_stepOf_29 : decode m_X10_stepOf.2.1 29 = .ok (.iaload, 1) := by decide +kernel
theorem d_X10_stepOf_30 : decode m_X10_stepOf.2.1 30 = .ok (.iload_n 1, 1) := by decide +kernel
theorem d_X10_stepOf_31 : decode m_X10_stepOf.2.1 31 = .ok (.if_icmp .ge 9, 3) := by decide +kernel
theorem d_X10_stepOf_34 : decode m_X10_stepOf.2.1 34 = .ok (.iload 4, 2) := by decide +kernel
theorem d_X10_stepOf_36 : decode m_X10_stepOf.2.1 36 = .ok (.istore_n 2, 1) := by decide +kernel
theorem d_X10_stepOf_37 : decode m_X10_stepOf.2.1 37 = .ok (.goto 8, 3) := by decide +kernel
theorem d_X10_stepOf_40 : decode m_X10_stepOf.2.1 40 = .ok (.iload 4, 2) := by decide +kernel
theorem d_X10_stepOf_42 : decode m_X10_stepOf.2.1 42 = .ok (.iconst 1, 1) := by decide +kernel
theorem d_X10_stepOf_43 : decode m_X10_stepOf.2.1 43 = .ok (.isub, 1) := by decide +kernel
theorem d_X10_stepOf_44 : decode m_X10_stepOf.2.1 44 = .ok (.istore_n 3, 1) := by decide +kernel
theorem d_X10_stepOf_45 : decode m_X10_stepOf.2.1 45 = .ok (.goto (-36), 3) := by decide +kernel
theorem d_X10_stepOf_48 : decode m_X10_stepOf.2.1 48 = .ok (.iload_n 2, 1) := by decide +kernel
theorem d_X10_stepOf_49 : decode m_X10_stepOf.2.1 49 = .ok (.ireturn, 1) := by decide +kernel
theorem d_X10_bend_0 : decode m_X10_bend.2.1 0 = .ok (.aload_n 0, 1) := by decide +kernel
theorem d_X10_bend_1 : decode m_X10_bend.2.1 1 = .ok (.getfield 50, 3) := by decide +kernel
theorem d_X10_bend_4 : decode m_X10_bend.2.1 4 = .ok (.iconst 3, 1) := by decide +kernel
theorem d_X10_bend_5 : decode m_X10_bend.2.1 5 = .ok (.iload_n 1, 1) := by decide +kernel
theorem d_X10_bend_6 : decode m_X10_bend.2.1 6 = .ok (.imul, 1) := by decide +kernel
theorem d_X10_bend_7 : decode m_X10_bend.2.1 7 = .ok (.iload_n 2, 1) := by decide +kernel
theorem d_X10_bend_8 : decode m_X10_bend.2.1 8 = .ok (.iadd, 1) := by decide +kernel
theorem d_X10_bend_9 : decode m_X10_bend.2.1 9 = .ok (.laload, 1) := by decide +kernel
theorem d_X10_bend_10 : decode m_X10_bend.2.1 10 = .ok (.aload_n 0, 1) := by decide +kernel
theorem d_X10_bend_11 : decode m_X10_bend.2.1 11 = .ok (.getfield 43, 3) := by decide +kernel
theorem d_X10_bend_14 : decode m_X10_bend.2.1 14 = .ok (.iconst 3, 1) := by decide +kernel
theorem d_X10_bend_15 : decode m_X10_bend.2.1 15 = .ok (.iload_n 1, 1) := by decide +kernel
theorem d_X10_bend_16 : decode m_X10_bend.2.1 16 = .ok (.imul, 1) := by decide +kernel
theorem d_X10_bend_17 : decode m_X10_bend.2.1 17 = .ok (.iload_n 2, 1) := by decide +kernel
theorem d_X10_bend_18 : decode m_X10_bend.2.1 18 = .ok (.iadd, 1) := by decide +kernel
theorem d_X10_bend_19 : decode m_X10_bend.2.1 19 = .ok (.laload, 1) := by decide +kernel
theorem d_X10_bend_20 : decode m_X10_bend.2.1 20 = .ok (.lsub, 1) := by decide +kernel
theorem d_X10_bend_21 : decode m_X10_bend.2.1 21 = .ok (.aload_n 0, 1) := by decide +kernel
theorem d_X10_bend_22 : decode m_X10_bend.2.1 22 = .ok (.getfield 47, 3) := by decide +kernel
theorem d_X10_bend_25 : decode m_X10_bend.2.1 25 = .ok (.iconst 3, 1) := by decide +kernel
theorem d_X10_bend_26 : decode m_X10_bend.2.1 26 = .ok (.iload_n 1, 1) := by decide +kernel
theorem d_X10_bend_27 : decode m_X10_bend.2.1 27 = .ok (.imul, 1) := by decide +kernel
theorem d_X10_bend_28 : decode m_X10_bend.2.1 28 = .ok (.iload_n 2, 1) := by decide +kernel
theorem d_X10_bend_29 : decode m_X10_bend.2.1 29 = .ok (.iadd, 1) := by decide +kernel
theorem d_X10_bend_30 : decode m_X10_bend.2.1 30 = .ok (.laload, 1) := by decide +kernel
theorem d_X10_bend_31 : decode m_X10_bend.2.1 31 = .ok (.aload_n 0, 1) := by decide +kernel
theorem d_X10_bend_32 : decode m_X10_bend.2.1 32 = .ok (.getfield 37, 3) := by decide +kernel
theorem d_X10_bend_35 : decode m_X10_bend.2.1 35 = .ok (.iload_n 1, 1) := by decide +kernel
theorem d_X10_bend_36 : decode m_X10_bend.2.1 36 = .ok (.iaload, 1) := by decide +kernel
theorem d_X10_bend_37 : decode m_X10_bend.2.1 37 = .ok (.i2l, 1) := by decide +kernel
theorem d_X10_bend_38 : decode m_X10_bend.2.1 38 = .ok (.lmul, 1) := by decide +kernel
theorem d_X10_bend_39 : decode m_X10_bend.2.1 39 = .ok (.ldc2_w 176, 3) := by decide +kernel
theorem d_X10_bend_42 : decode m_X10_bend.2.1 42 = .ok (.ldiv, 1) := by decide +kernel
theorem d_X10_bend_43 : decode m_X10_bend.2.1 43 = .ok (.lsub, 1) := by decide +kernel
theorem d_X10_bend_44 : decode m_X10_bend.2.1 44 = .ok (.lreturn, 1) := by decide +kernel
theorem d_X10_toldValue_0 : decode m_X10_toldValue.2.1 0 = .ok (.iload_n 2, 1) := by decide +kernel
theorem d_X10_toldValue_1 : decode m_X10_toldValue.2.1 1 = .ok (.ifCond .gt 10, 3) := by decide +kernel
theorem d_X10_toldValue_4 : decode m_X10_toldValue.2.1 4 = .ok (.aload_n 0, 1) := by decide +kernel
theorem d_X10_toldValue_5 : decode m_X10_toldValue.2.1 5 = .ok (.iload_n 1, 1) := by decide +kernel
theorem d_X10_toldValue_6 : decode m_X10_toldValue.2.1 6 = .ok (.iload_n 2, 1) := by decide +kernel
theorem d_X10_toldValue_7 : decode m_X10_toldValue.2.1 7 = .ok (.invokevirtual 181, 3) := by decide +kernel
theorem d_X10_toldValue_10 : decode m_X10_toldValue.2.1 10 = .ok (.lreturn, 1) := by decide +kernel
theorem d_X10_toldValue_11 : decode m_X10_toldValue.2.1 11 = .ok (.aload_n 0, 1) := by decide +kernel
theorem d_X10_toldValue_12 : decode m_X10_toldValue.2.1 12 = .ok (.iload_n 2, 1) := by decide +kernel
theorem d_X10_toldValue_13 : decode m_X10_toldValue.2.1 13 = .ok (.invokevirtual 185, 3) := by decide +kernel
theorem d_X10_toldValue_16 : decode m_X10_toldValue.2.1 16 = .ok (.istore_n 3, 1) := by decide +kernel
theorem d_X10_toldValue_17 : decode m_X10_toldValue.2.1 17 = .ok (.iload_n 2, 1) := by decide +kernel
theorem d_X10_toldValue_18 : decode m_X10_toldValue.2.1 18 = .ok (.aload_n 0, 1) := by decide +kernel
theorem d_X10_toldValue_19 : decode m_X10_toldValue.2.1 19 = .ok (.getfield 34, 3) := by decide +kernel
theorem d_X10_toldValue_22 : decode m_X10_toldValue.2.1 22 = .ok (.iload_n 3, 1) := by decide +kernel
theorem d_X10_toldValue_23 : decode m_X10_toldValue.2.1 23 = .ok (.iaload, 1) := by decide +kernel
theorem d_X10_toldValue_24 : decode m_X10_toldValue.2.1 24 = .ok (.isub, 1) := by decide +kernel
theorem d_X10_toldValue_25 : decode m_X10_toldValue.2.1 25 = .ok (.i2l, 1) := by decide +kernel
theorem d_X10_toldValue_26 : decode m_X10_toldValue.2.1 26 = .ok (.lstore 4, 2) := by decide +kernel
theorem d_X10_toldValue_28 : decode m_X10_toldValue.2.1 28 = .ok (.aload_n 0, 1) := by decide +kernel
theorem d_X10_toldValue_29 : decode m_X10_toldValue.2.1 29 = .ok (.getfield 37, 3) := by decide +kernel
theorem d_X10_toldValue_32 : decode m_X10_toldValue.2.1 32 = .ok (.iload_n 3, 1) := by decide +kernel
theorem d_X10_toldValue_33 : decode m_X10_toldValue.2.1 33 = .ok (.iaload, 1) := by decide +kernel
theorem d_X10_toldValue_34 : decode m_X10_toldValue.2.1 34 = .ok (.i2l, 1) := by decide +kernel
theorem d_X10_toldValue_35 : decode m_X10_toldValue.2.1 35 = .ok (.lstore 6, 2) := by decide +kernel
theorem d_X10_toldValue_37 : decode m_X10_toldValue.2.1 37 = .ok (.lload 4, 2) := by decide +kernel
theorem d_X10_toldValue_39 : decode m_X10_toldValue.2.1 39 = .ok (.lload 6, 2) := by decide +kernel
theorem d_X10_toldValue_41 : decode m_X10_toldValue.2.1 41 = .ok (.lcmp, 1) := by decide +kernel
theorem d_X10_toldValue_42 : decode m_X10_toldValue.2.1 42 = .ok (.ifCond .ne 14, 3) := by decide +kernel
theorem d_X10_toldValue_45 : decode m_X10_toldValue.2.1 45 = .ok (.aload_n 0, 1) := by decide +kernel
theorem d_X10_toldValue_46 : decode m_X10_toldValue.2.1 46 = .ok (.getfield 50, 3) := by decide +kernel
theorem d_X10_toldValue_49 : decode m_X10_toldValue.2.1 49 = .ok (.iconst 3, 1) := by decide +kernel
theorem d_X10_toldValue_50 : decode m_X10_toldValue.2.1 50 = .ok (.iload_n 3, 1) := by decide +kernel
theorem d_X10_toldValue_51 : decode m_X10_toldValue.2.1 51 = .ok (.imul, 1) := by decide +kernel
theorem d_X10_toldValue_52 : decode m_X10_toldValue.2.1 52 = .ok (.iload_n 1, 1) := by decide +kernel
theorem d_X10_toldValue_53 : decode m_X10_toldValue.2.1 53 = .ok (.iadd, 1) := by decide +kernel
theorem d_X10_toldValue_54 : decode m_X10_toldValue.2.1 54 = .ok (.laload, 1) := by decide +kernel
theorem d_X10_toldValue_55 : decode m_X10_toldValue.2.1 55 = .ok (.lreturn, 1) := by decide +kernel
theorem d_X10_toldValue_56 : decode m_X10_toldValue.2.1 56 = .ok (.aload_n 0, 1) := by decide +kernel
theorem d_X10_toldValue_57 : decode m_X10_toldValue.2.1 57 = .ok (.getfield 43, 3) := by decide +kernel
theorem d_X10_toldValue_60 : decode m_X10_toldValue.2.1 60 = .ok (.iconst 3, 1) := by decide +kernel
theorem d_X10_toldValue_61 : decode m_X10_toldValue.2.1 61 = .ok (.iload_n 3, 1) := by decide +kernel
theorem d_X10_toldValue_62 : decode m_X10_toldValue.2.1 62 = .ok (.imul, 1) := by decide +kernel
theorem d_X10_toldValue_63 : decode m_X10_toldValue.2.1 63 = .ok (.iload_n 1, 1) := by decide +kernel
theorem d_X10_toldValue_64 : decode m_X10_toldValue.2.1 64 = .ok (.iadd, 1) := by decide +kernel
theorem d_X10_toldValue_65 : decode m_X10_toldValue.2.1 65 = .ok (.laload, 1) := by decide +kernel
theorem d_X10_toldValue_66 : decode m_X10_toldValue.2.1 66 = .ok (.aload_n 0, 1) := by decide +kernel
theorem d_X10_toldValue_67 : decode m_X10_toldValue.2.1 67 = .ok (.getfield 47, 3) := by decide +kernel
theorem d_X10_toldValue_70 : decode m_X10_toldValue.2.1 70 = .ok (.iconst 3, 1) := by decide +kernel
theorem d_X10_toldValue_71 : decode m_X10_toldValue.2.1 71 = .ok (.iload_n 3, 1) := by decide +kernel
theorem d_X10_toldValue_72 : decode m_X10_toldValue.2.1 72 = .ok (.imul, 1) := by decide +kernel
theorem d_X10_toldValue_73 : decode m_X10_toldValue.2.1 73 = .ok (.iload_n 1, 1) := by decide +kernel
theorem d_X10_toldValue_74 : decode m_X10_toldValue.2.1 74 = .ok (.iadd, 1) := by decide +kernel
theorem d_X10_toldValue_75 : decode m_X10_toldValue.2.1 75 = .ok (.laload, 1) := by decide +kernel
theorem d_X10_toldValue_76 : decode m_X10_toldValue.2.1 76 = .ok (.lload 4, 2) := by decide +kernel
theorem d_X10_toldValue_78 : decode m_X10_toldValue.2.1 78 = .ok (.lmul, 1) := by decide +kernel
theorem d_X10_toldValue_79 : decode m_X10_toldValue.2.1 79 = .ok (.ldc2_w 176, 3) := by decide +kernel
theorem d_X10_toldValue_82 : decode m_X10_toldValue.2.1 82 = .ok (.ldiv, 1) := by decide +kernel
theorem d_X10_toldValue_83 : decode m_X10_toldValue.2.1 83 = .ok (.ladd, 1) := by decide +kernel
theorem d_X10_toldValue_84 : decode m_X10_toldValue.2.1 84 = .ok (.aload_n 0, 1) := by decide +kernel
theorem d_X10_toldValue_85 : decode m_X10_toldValue.2.1 85 = .ok (.iload_n 3, 1) := by decide +kernel
theorem d_X10_toldValue_86 : decode m_X10_toldValue.2.1 86 = .ok (.iload_n 1, 1) := by decide +kernel
theorem d_X10_toldValue_87 : decode m_X10_toldValue.2.1 87 = .ok (.invokevirtual 188, 3) := by decide +kernel
theorem d_X10_toldValue_90 : decode m_X10_toldValue.2.1 90 = .ok (.lload 4, 2) := by decide +kernel
theorem d_X10_toldValue_92 : decode m_X10_toldValue.2.1 92 = .ok (.lmul, 1) := by decide +kernel
theorem d_X10_toldValue_93 : decode m_X10_toldValue.2.1 93 = .ok (.lload 4, 2) := by decide +kernel
theorem d_X10_toldValue_95 : decode m_X10_toldValue.2.1 95 = .ok (.lmul, 1) := by decide +kernel
theorem d_X10_toldValue_96 : decode m_X10_toldValue.2.1 96 = .ok (.lload 6, 2) := by decide +kernel
theorem d_X10_toldValue_98 : decode m_X10_toldValue.2.1 98 = .ok (.lload 6, 2) := by decide +kernel
theorem d_X10_toldValue_100 : decode m_X10_toldValue.2.1 100 = .ok (.lmul, 1) := by decide +kernel
theorem d_X10_toldValue_101 : decode m_X10_toldValue.2.1 101 = .ok (.ldiv, 1) := by decide +kernel
theorem d_X10_toldValue_102 : decode m_X10_toldValue.2.1 102 = .ok (.ladd, 1) := by decide +kernel
theorem d_X10_toldValue_103 : decode m_X10_toldValue.2.1 103 = .ok (.invokestatic 191, 3) := by decide +kernel
theorem d_X10_toldValue_106 : decode m_X10_toldValue.2.1 106 = .ok (.lreturn, 1) := by decide +kernel
theorem d_X10_toldSlope_0 : decode m_X10_toldSlope.2.1 0 = .ok (.iload_n 2, 1) := by decide +kernel
theorem d_X10_toldSlope_1 : decode m_X10_toldSlope.2.1 1 = .ok (.ifCond .gt 10, 3) := by decide +kernel
theorem d_X10_toldSlope_4 : decode m_X10_toldSlope.2.1 4 = .ok (.aload_n 0, 1) := by decide +kernel
theorem d_X10_toldSlope_5 : decode m_X10_toldSlope.2.1 5 = .ok (.iload_n 1, 1) := by decide +kernel
theorem d_X10_toldSlope_6 : decode m_X10_toldSlope.2.1 6 = .ok (.iload_n 2, 1) := by decide +kernel
theorem d_X10_toldSlope_7 : decode m_X10_toldSlope.2.1 7 = .ok (.invokevirtual 195, 3) := by decide +kernel
theorem d_X10_toldSlope_10 : decode m_X10_toldSlope.2.1 10 = .ok (.lreturn, 1) := by decide +kernel
theorem d_X10_toldSlope_11 : decode m_X10_toldSlope.2.1 11 = .ok (.aload_n 0, 1) := by decide +kernel
theorem d_X10_toldSlope_12 : decode m_X10_toldSlope.2.1 12 = .ok (.iload_n 2, 1) := by decide +kernel
theorem d_X10_toldSlope_13 : decode m_X10_toldSlope.2.1 13 = .ok (.invokevirtual 185, 3) := by decide +kernel
theorem d_X10_toldSlope_16 : decode m_X10_toldSlope.2.1 16 = .ok (.istore_n 3, 1) := by decide +kernel
theorem d_X10_toldSlope_17 : decode m_X10_toldSlope.2.1 17 = .ok (.iload_n 2, 1) := by decide +kernel
theorem d_X10_toldSlope_18 : decode m_X10_toldSlope.2.1 18 = .ok (.aload_n 0, 1) := by decide +kernel
theorem d_X10_toldSlope_19 : decode m_X10_toldSlope.2.1 19 = .ok (.getfield 34, 3) := by decide +kernel
theorem d_X10_toldSlope_22 : decode m_X10_toldSlope.2.1 22 = .ok (.iload_n 3, 1) := by decide +kernel
theorem d_X10_toldSlope_23 : decode m_X10_toldSlope.2.1 23 = .ok (.iaload, 1) := by decide +kernel
theorem d_X10_toldSlope_24 : decode m_X10_toldSlope.2.1 24 = .ok (.isub, 1) := by decide +kernel
theorem d_X10_toldSlope_25 : decode m_X10_toldSlope.2.1 25 = .ok (.i2l, 1) := by decide +kernel
theorem d_X10_toldSlope_26 : decode m_X10_toldSlope.2.1 26 = .ok (.lstore 4, 2) := by decide +kernel
theorem d_X10_toldSlope_28 : decode m_X10_toldSlope.2.1 28 = .ok (.aload_n 0, 1) := by decide +kernel
theorem d_X10_toldSlope_29 : decode m_X10_toldSlope.2.1 29 = .ok (.getfield 37, 3) := by decide +kernel
theorem d_X10_toldSlope_32 : decode m_X10_toldSlope.2.1 32 = .ok (.iload_n 3, 1) := by decide +kernel
theorem d_X10_toldSlope_33 : decode m_X10_toldSlope.2.1 33 = .ok (.iaload, 1) := by decide +kernel
theorem d_X10_toldSlope_34 : decode m_X10_toldSlope.2.1 34 = .ok (.i2l, 1) := by decide +kernel
theorem d_X10_toldSlope_35 : decode m_X10_toldSlope.2.1 35 = .ok (.lstore 6, 2) := by decide +kernel
theorem d_X10_toldSlope_37 : decode m_X10_toldSlope.2.1 37 = .ok (.aload_n 0, 1) := by decide +kernel
theorem d_X10_toldSlope_38 : decode m_X10_toldSlope.2.1 38 = .ok (.getfield 47, 3) := by decide +kernel
theorem d_X10_toldSlope_41 : decode m_X10_toldSlope.2.1 41 = .ok (.iconst 3, 1) := by decide +kernel
theorem d_X10_toldSlope_42 : decode m_X10_toldSlope.2.1 42 = .ok (.iload_n 3, 1) := by decide +kernel
theorem d_X10_toldSlope_43 : decode m_X10_toldSlope.2.1 43 = .ok (.imul, 1) := by decide +kernel
theorem d_X10_toldSlope_44 : decode m_X10_toldSlope.2.1 44 = .ok (.iload_n 1, 1) := by decide +kernel
theorem d_X10_toldSlope_45 : decode m_X10_toldSlope.2.1 45 = .ok (.iadd, 1) := by decide +kernel
theorem d_X10_toldSlope_46 : decode m_X10_toldSlope.2.1 46 = .ok (.laload, 1) := by decide +kernel
theorem d_X10_toldSlope_47 : decode m_X10_toldSlope.2.1 47 = .ok (.ldc2_w 198, 3) := by decide +kernel
theorem d_X10_toldSlope_50 : decode m_X10_toldSlope.2.1 50 = .ok (.aload_n 0, 1) := by decide +kernel
theorem d_X10_toldSlope_51 : decode m_X10_toldSlope.2.1 51 = .ok (.iload_n 3, 1) := by decide +kernel
theorem d_X10_toldSlope_52 : decode m_X10_toldSlope.2.1 52 = .ok (.iload_n 1, 1) := by decide +kernel
theorem d_X10_toldSlope_53 : decode m_X10_toldSlope.2.1 53 = .ok (.invokevirtual 188, 3) := by decide +kernel
theorem d_X10_toldSlope_56 : decode m_X10_toldSlope.2.1 56 = .ok (.lmul, 1) := by decide +kernel
theorem d_X10_toldSlope_57 : decode m_X10_toldSlope.2.1 57 = .ok (.lload 4, 2) := by decide +kernel
theorem d_X10_toldSlope_59 : decode m_X10_toldSlope.2.1 59 = .ok (.lmul, 1) := by decide +kernel
theorem d_X10_toldSlope_60 : decode m_X10_toldSlope.2.1 60 = .ok (.lload 6, 2) := by decide +kernel
theorem d_X10_toldSlope_62 : decode m_X10_toldSlope.2.1 62 = .ok (.lload 6, 2) := by decide +kernel
theorem d_X10_toldSlope_64 : decode m_X10_toldSlope.2.1 64 = .ok (.lmul, 1) := by decide +kernel
theorem d_X10_toldSlope_65 : decode m_X10_toldSlope.2.1 65 = .ok (.ldiv, 1) := by decide +kernel
theorem d_X10_toldSlope_66 : decode m_X10_toldSlope.2.1 66 = .ok (.ladd, 1) := by decide +kernel
theorem d_X10_toldSlope_67 : decode m_X10_toldSlope.2.1 67 = .ok (.invokestatic 191, 3) := by decide +kernel
theorem d_X10_toldSlope_70 : decode m_X10_toldSlope.2.1 70 = .ok (.lreturn, 1) := by decide +kernel
theorem d_X10_valueAt_0 : decode m_X10_valueAt.2.1 0 = .ok (.aload_n 0, 1) := by decide +kernel
theorem d_X10_valueAt_1 : decode m_X10_valueAt.2.1 1 = .ok (.getfield 200, 3) := by decide +kernel
theorem d_X10_valueAt_4 : decode m_X10_valueAt.2.1 4 = .ok (.ifCond .eq 49, 3) := by decide +kernel
theorem d_X10_valueAt_7 : decode m_X10_valueAt.2.1 7 = .ok (.iload_n 2, 1) := by decide +kernel
theorem d_X10_valueAt_8 : decode m_X10_valueAt.2.1 8 = .ok (.aload_n 0, 1) := by decide +kernel
theorem d_X10_valueAt_9 : decode m_X10_valueAt.2.1 9 = .ok (.getfield 204, 3) := by decide +kernel
theorem d_X10_valueAt_12 : decode m_X10_valueAt.2.1 12 = .ok (.if_icmp .le 41, 3) := by decide +kernel
theorem d_X10_valueAt_15 : decode m_X10_valueAt.2.1 15 = .ok (.aload_n 0, 1) := by decide +kernel
theorem d_X10_valueAt_16 : decode m_X10_valueAt.2.1 16 = .ok (.getfield 53, 3) := by decide +kernel
theorem d_X10_valueAt_19 : decode m_X10_valueAt.2.1 19 = .ok (.iload_n 1, 1) := by decide +kernel
theorem d_X10_valueAt_20 : decode m_X10_valueAt.2.1 20 = .ok (.laload, 1) := by decide +kernel
theorem d_X10_valueAt_21 : decode m_X10_valueAt.2.1 21 = .ok (.aload_n 0, 1) := by decide +kernel
theorem d_X10_valueAt_22 : decode m_X10_valueAt.2.1 22 = .ok (.getfield 56, 3) := by decide +kernel
theorem d_X10_valueAt_25 : decode m_X10_valueAt.2.1 25 = .ok (.iload_n 1, 1) := by decide +kernel
theorem d_X10_valueAt_26 : decode m_X10_valueAt.2.1 26 = .ok (.laload, 1) := by decide +kernel
theorem d_X10_valueAt_27 : decode m_X10_valueAt.2.1 27 = .ok (.aload_n 0, 1) := by decide +kernel
theorem d_X10_valueAt_28 : decode m_X10_valueAt.2.1 28 = .ok (.getfield 53, 3) := by decide +kernel
theorem d_X10_valueAt_31 : decode m_X10_valueAt.2.1 31 = .ok (.iload_n 1, 1) := by decide +kernel
theorem d_X10_valueAt_32 : decode m_X10_valueAt.2.1 32 = .ok (.laload, 1) := by decide +kernel
theorem d_X10_valueAt_33 : decode m_X10_valueAt.2.1 33 = .ok (.lsub, 1) := by decide +kernel
theorem d_X10_valueAt_34 : decode m_X10_valueAt.2.1 34 = .ok (.iload_n 2, 1) := by decide +kernel
theorem d_X10_valueAt_35 : decode m_X10_valueAt.2.1 35 = .ok (.aload_n 0, 1) := by decide +kernel
theorem d_X10_valueAt_36 : decode m_X10_valueAt.2.1 36 = .ok (.getfield 204, 3) := by decide +kernel
theorem d_X10_valueAt_39 : decode m_X10_valueAt.2.1 39 = .ok (.isub, 1) := by decide +kernel
theorem d_X10_valueAt_40 : decode m_X10_valueAt.2.1 40 = .ok (.i2l, 1) := by decide +kernel
theorem d_X10_valueAt_41 : decode m_X10_valueAt.2.1 41 = .ok (.lmul, 1) := by decide +kernel
theorem d_X10_valueAt_42 : decode m_X10_valueAt.2.1 42 = .ok (.aload_n 0, 1) := by decide +kernel
theorem d_X10_valueAt_43 : decode m_X10_valueAt.2.1 43 = .ok (.getfield 207, 3) := by decide +kernel
theorem d_X10_valueAt_46 : decode m_X10_valueAt.2.1 46 = .ok (.i2l, 1) := by decide +kernel
theorem d_X10_valueAt_47 : decode m_X10_valueAt.2.1 47 = .ok (.ldiv, 1) := by decide +kernel
theorem d_X10_valueAt_48 : decode m_X10_valueAt.2.1 48 = .ok (.ladd, 1) := by decide +kernel
theorem d_X10_valueAt_49 : decode m_X10_valueAt.2.1 49 = .ok (.invokestatic 191, 3) := by decide +kernel
theorem d_X10_valueAt_52 : decode m_X10_valueAt.2.1 52 = .ok (.lreturn, 1) := by decide +kernel
theorem d_X10_valueAt_53 : decode m_X10_valueAt.2.1 53 = .ok (.aload_n 0, 1) := by decide +kernel
theorem d_X10_valueAt_54 : decode m_X10_valueAt.2.1 54 = .ok (.iload_n 1, 1) := by decide +kernel
theorem d_X10_valueAt_55 : decode m_X10_valueAt.2.1 55 = .ok (.iload_n 2, 1) := by decide +kernel
theorem d_X10_valueAt_56 : decode m_X10_valueAt.2.1 56 = .ok (.invokevirtual 210, 3) := by decide +kernel
theorem d_X10_valueAt_59 : decode m_X10_valueAt.2.1 59 = .ok (.lreturn, 1) := by decide +kernel
theorem d_X10_slopeAt_0 : decode m_X10_slopeAt.2.1 0 = .ok (.aload_n 0, 1) := by decide +kernel
theorem d_X10_slopeAt_1 : decode m_X10_slopeAt.2.1 1 = .ok (.getfield 200, 3) := by decide +kernel
theorem d_X10_slopeAt_4 : decode m_X10_slopeAt.2.1 4 = .ok (.ifCond .eq 38, 3) := by decide +kernel
theorem d_X10_slopeAt_7 : decode m_X10_slopeAt.2.1 7 = .ok (.iload_n 2, 1) := by decide +kernel
theorem d_X10_slopeAt_8 : decode m_X10_slopeAt.2.1 8 = .ok (.aload_n 0, 1) := by decide +kernel
theorem d_X10_slopeAt_9 : decode m_X10_slopeAt.2.1 9 = .ok (.getfield 204, 3) := by decide +kernel
theorem d_X10_slopeAt_12 : decode m_X10_slopeAt.2.1 12 = .ok (.if_icmp .le 30, 3) := by decide +kernel
theorem d_X10_slopeAt_15 : decode m_X10_slopeAt.2.1 15 = .ok (.aload_n 0, 1) := by decide +kernel
theorem d_X10_slopeAt_16 : decode m_X10_slopeAt.2.1 16 = .ok (.getfield 56, 3) := by decide +kernel
theorem d_X10_slopeAt_19 : decode m_X10_slopeAt.2.1 19 = .ok (.iload_n 1, 1) := by decide +kernel
theorem d_X10_slopeAt_20 : decode m_X10_slopeAt.2.1 20 = .ok (.laload, 1) := by decide +kernel
theorem d_X10_slopeAt_21 : decode m_X10_slopeAt.2.1 21 = .ok (.aload_n 0, 1) := by decide +kernel
theorem d_X10_slopeAt_22 : decode m_X10_slopeAt.2.1 22 = .ok (.getfield 53, 3) := by decide +kernel
theorem d_X10_slopeAt_25 : decode m_X10_slopeAt.2.1 25 = .ok (.iload_n 1, 1) := by decide +kernel
theorem d_X10_slopeAt_26 : decode m_X10_slopeAt.2.1 26 = .ok (.laload, 1) := by decide +kernel
theorem d_X10_slopeAt_27 : decode m_X10_slopeAt.2.1 27 = .ok (.lsub, 1) := by decide +kernel
theorem d_X10_slopeAt_28 : decode m_X10_slopeAt.2.1 28 = .ok (.ldc2_w 176, 3) := by decide +kernel
theorem d_X10_slopeAt_31 : decode m_X10_slopeAt.2.1 31 = .ok (.lmul, 1) := by decide +kernel
theorem d_X10_slopeAt_32 : decode m_X10_slopeAt.2.1 32 = .ok (.aload_n 0, 1) := by decide +kernel
theorem d_X10_slopeAt_33 : decode m_X10_slopeAt.2.1 33 = .ok (.getfield 207, 3) := by decide +kernel
theorem d_X10_slopeAt_36 : decode m_X10_slopeAt.2.1 36 = .ok (.i2l, 1) := by decide +kernel
theorem d_X10_slopeAt_37 : decode m_X10_slopeAt.2.1 37 = .ok (.ldiv, 1) := by decide +kernel
theorem d_X10_slopeAt_38 : decode m_X10_slopeAt.2.1 38 = .ok (.invokestatic 191, 3) := by decide +kernel
theorem d_X10_slopeAt_41 : decode m_X10_slopeAt.2.1 41 = .ok (.lreturn, 1) := by decide +kernel
theorem d_X10_slopeAt_42 : decode m_X10_slopeAt.2.1 42 = .ok (.aload_n 0, 1) := by decide +kernel
theorem d_X10_slopeAt_43 : decode m_X10_slopeAt.2.1 43 = .ok (.iload_n 1, 1) := by decide +kernel
theorem d_X10_slopeAt_44 : decode m_X10_slopeAt.2.1 44 = .ok (.iload_n 2, 1) := by decide +kernel
theorem d_X10_slopeAt_45 : decode m_X10_slopeAt.2.1 45 = .ok (.invokevirtual 213, 3) := by decide +kernel
theorem d_X10_slopeAt_48 : decode m_X10_slopeAt.2.1 48 = .ok (.lreturn, 1) := by decide +kernel
theorem d_X10_rank_0 : decode m_X10_rank.2.1 0 = .ok (.iload_n 0, 1) := by decide +kernel
theorem d_X10_rank_1 : decode m_X10_rank.2.1 1 = .ok (.bipush 42, 2) := by decide +kernel
theorem d_X10_rank_3 : decode m_X10_rank.2.1 3 = .ok (.if_icmp .eq 9, 3) := by decide +kernel
theorem d_X10_rank_6 : decode m_X10_rank.2.1 6 = .ok (.iload_n 0, 1) := by decide +kernel
theorem d_X10_rank_7 : decode m_X10_rank.2.1 7 = .ok (.bipush 47, 2) := by decide +kernel
theorem d_X10_rank_9 : decode m_X10_rank.2.1 9 = .ok (.if_icmp .ne 7, 3) := by decide +kernel
theorem d_X10_rank_12 : decode m_X10_rank.2.1 12 = .ok (.iconst 2, 1) := by decide +kernel
theorem d_X10_rank_13 : decode m_X10_rank.2.1 13 = .ok (.goto 20, 3) := by decide +kernel
theorem d_X10_rank_16 : decode m_X10_rank.2.1 16 = .ok (.iload_n 0, 1) := by decide +kernel
theorem d_X10_rank_17 : decode m_X10_rank.2.1 17 = .ok (.bipush 43, 2) := by decide +kernel
theorem d_X10_rank_19 : decode m_X10_rank.2.1 19 = .ok (.if_icmp .eq 9, 3) := by decide +kernel
theorem d_X10_rank_22 : decode m_X10_rank.2.1 22 = .ok (.iload_n 0, 1) := by decide +kernel
theorem d_X10_rank_23 : decode m_X10_rank.2.1 23 = .ok (.bipush 45, 2) := by decide +kernel
theorem d_X10_rank_25 : decode m_X10_rank.2.1 25 = .ok (.if_icmp .ne 7, 3) := by decide +kernel
theorem d_X10_rank_28 : decode m_X10_rank.2.1 28 = .ok (.iconst 1, 1) := by decide +kernel
theorem d_X10_rank_29 : decode m_X10_rank.2.1 29 = .ok (.goto 4, 3) := by decide +kernel
theorem d_X10_rank_32 : decode m_X10_rank.2.1 32 = .ok (.iconst 0, 1) := by decide +kernel
theorem d_X10_rank_33 : decode m_X10_rank.2.1 33 = .ok (.ireturn, 1) := by decide +kernel
theorem d_X10_carriesOut_0 : decode m_X10_carriesOut.2.1 0 = .ok (.aload_n 0, 1) := by decide +kernel
theorem d_X10_carriesOut_1 : decode m_X10_carriesOut.2.1 1 = .ok (.dup, 1) := by decide +kernel
theorem d_X10_carriesOut_2 : decode m_X10_carriesOut.2.1 2 = .ok (.getfield 216, 3) := by decide +kernel
theorem d_X10_carriesOut_5 : decode m_X10_carriesOut.2.1 5 = .ok (.iconst 1, 1) := by decide +kernel
theorem d_X10_carriesOut_6 : decode m_X10_carriesOut.2.1 6 = .ok (.isub, 1) := by decide +kernel
theorem d_X10_carriesOut_7 : decode m_X10_carriesOut.2.1 7 = .ok (.putfield 216, 3) := by decide +kernel
theorem d_X10_carriesOut_10 : decode m_X10_carriesOut.2.1 10 = .ok (.aload_n 0, 1) := by decide +kernel
theorem d_X10_carriesOut_11 : decode m_X10_carriesOut.2.1 11 = .ok (.getfield 71, 3) := by decide +kernel
theorem d_X10_carriesOut_14 : decode m_X10_carriesOut.2.1 14 = .ok (.aload_n 0, 1) := by decide +kernel
theorem d_X10_carriesOut_15 : decode m_X10_carriesOut.2.1 15 = .ok (.getfield 216, 3) := by decide +kernel
theorem d_X10_carriesOut_18 : decode m_X10_carriesOut.2.1 18 = .ok (.iaload, 1) := by decide +kernel
theorem d_X10_carriesOut_19 : decode m_X10_carriesOut.2.1 19 = .ok (.istore_n 1, 1) := by decide +kernel
theorem d_X10_carriesOut_20 : decode m_X10_carriesOut.2.1 20 = .ok (.aload_n 0, 1) := by decide +kernel
theorem d_X10_carriesOut_21 : decode m_X10_carriesOut.2.1 21 = .ok (.dup, 1) := by decide +kernel
theorem d_X10_carriesOut_22 : decode m_X10_carriesOut.2.1 22 = .ok (.getfield 219, 3) := by decide +kernel
theorem d_X10_carriesOut_25 : decode m_X10_carriesOut.2.1 25 = .ok (.iconst 1, 1) := by decide +kernel
theorem d_X10_carriesOut_26 : decode m_X10_carriesOut.2.1 26 = .ok (.isub, 1) := by decide +kernel
theorem d_X10_carriesOut_27 : decode m_X10_carriesOut.2.1 27 = .ok (.putfield 219, 3) := by decide +kernel
theorem d_X10_carriesOut_30 : decode m_X10_carriesOut.2.1 30 = .ok (.aload_n 0, 1) := by decide +kernel
theorem d_X10_carriesOut_31 : decode m_X10_carriesOut.2.1 31 = .ok (.getfield 68, 3) := by decide +kernel
theorem d_X10_carriesOut_34 : decode m_X10_carriesOut.2.1 34 = .ok (.aload_n 0, 1) := by decide +kernel
theorem d_X10_carriesOut_35 : decode m_X10_carriesOut.2.1 35 = .ok (.getfield 219, 3) := by decide +kernel
theorem d_X10_carriesOut_38 : decode m_X10_carriesOut.2.1 38 = .ok (.laload, 1) := by decide +kernel
theorem d_X10_carriesOut_39 : decode m_X10_carriesOut.2.1 39 = .ok (.lstore_n 2, 1) := by decide +kernel
theorem d_X10_carriesOut_40 : decode m_X10_carriesOut.2.1 40 = .ok (.aload_n 0, 1) := by decide +kernel
theorem d_X10_carriesOut_41 : decode m_X10_carriesOut.2.1 41 = .ok (.getfield 68, 3) := by decide +kernel
theorem d_X10_carriesOut_44 : decode m_X10_carriesOut.2.1 44 = .ok (.aload_n 0, 1) := by decide +kernel
theorem d_X10_carriesOut_45 : decode m_X10_carriesOut.2.1 45 = .ok (.getfield 219, 3) := by decide +kernel
theorem d_X10_carriesOut_48 : decode m_X10_carriesOut.2.1 48 = .ok (.iconst 1, 1) := by decide +kernel
theorem d_X10_carriesOut_49 : decode m_X10_carriesOut.2.1 49 = .ok (.isub, 1) := by decide +kernel
theorem d_X10_carriesOut_50 : decode m_X10_carriesOut.2.1 50 = .ok (.laload, 1) := by decide +kernel
theorem d_X10_carriesOut_51 : decode m_X10_carriesOut.2.1 51 = .ok (.lstore 4, 2) := by decide +kernel
theorem d_X10_carriesOut_53 : decode m_X10_carriesOut.2.1 53 = .ok (.iload_n 1, 1) := by decide +kernel
theorem d_X10_carriesOut_54 : decode m_X10_carriesOut.2.1 54 = .ok (.bipush 43, 2) := by decide +kernel
theorem d_X10_carriesOut_56 : decode m_X10_carriesOut.2.1 56 = .ok (.if_icmp .ne 10, 3) := by decide +kernel
theorem d_X10_carriesOut_59 : decode m_X10_carriesOut.2.1 59 = .ok (.lload 4, 2) := by decide +kernel
theorem d_X10_carriesOut_61 : decode m_X10_carriesOut.2.1 61 = .ok (.lload_n 2, 1) := by decide +kernel
theorem d_X10_carriesOut_62 : decode m_X10_carriesOut.2.1 62 = .ok (.ladd, 1) := by decide +kernel
theorem d_X10_carriesOut_63 : decode m_X10_carriesOut.2.1 63 = .ok (.goto 51, 3) := by decide +kernel
theorem d_X10_carriesOut_66 : decode m_X10_carriesOut.2.1 66 = .ok (.iload_n 1, 1) := by decide +kernel
theorem d_X10_carriesOut_67 : decode m_X10_carriesOut.2.1 67 = .ok (.bipush 45, 2) := by decide +kernel
theorem d_X10_carriesOut_69 : decode m_X10_carriesOut.2.1 69 = .ok (.if_icmp .ne 10, 3) := by decide +kernel
theorem d_X10_carriesOut_72 : decode m_X10_carriesOut.2.1 72 = .ok (.lload 4, 2) := by decide +kernel
theorem d_X10_carriesOut_74 : decode m_X10_carriesOut.2.1 74 = .ok (.lload_n 2, 1) := by decide +kernel
theorem d_X10_carriesOut_75 : decode m_X10_carriesOut.2.1 75 = .ok (.lsub, 1) := by decide +kernel
theorem d_X10_carriesOut_76 : decode m_X10_carriesOut.2.1 76 = .ok (.goto 38, 3) := by decide +kernel
theorem d_X10_carriesOut_79 : decode m_X10_carriesOut.2.1 79 = .ok (.iload_n 1, 1) := by decide +kernel
theorem d_X10_carriesOut_80 : decode m_X10_carriesOut.2.1 80 = .ok (.bipush 42, 2) := by decide +kernel
theorem d_X10_carriesOut_82 : decode m_X10_carriesOut.2.1 82 = .ok (.if_icmp .ne 14, 3) := by decide +kernel
theorem d_X10_carriesOut_85 : decode m_X10_carriesOut.2.1 85 = .ok (.lload 4, 2) := by decide +kernel
theorem d_X10_carriesOut_87 : decode m_X10_carriesOut.2.1 87 = .ok (.lload_n 2, 1) := by decide +kernel
theorem d_X10_carriesOut_88 : decode m_X10_carriesOut.2.1 88 = .ok (.lmul, 1) := by decide +kernel
theorem d_X10_carriesOut_89 : decode m_X10_carriesOut.2.1 89 = .ok (.ldc2_w 176, 3) := by decide +kernel
theorem d_X10_carriesOut_92 : decode m_X10_carriesOut.2.1 92 = .ok (.ldiv, 1) := by decide +kernel
theorem d_X10_carriesOut_93 : decode m_X10_carriesOut.2.1 93 = .ok (.goto 21, 3) := by decide +kernel
theorem d_X10_carriesOut_96 : decode m_X10_carriesOut.2.1 96 = .ok (.lload_n 2, 1) := by decide +kernel
theorem d_X10_carriesOut_97 : decode m_X10_carriesOut.2.1 97 = .ok (.lconst 0, 1) := by decide +kernel
theorem d_X10_carriesOut_98 : decode m_X10_carriesOut.2.1 98 = .ok (.lcmp, 1) := by decide +kernel
theorem d_X10_carriesOut_99 : decode m_X10_carriesOut.2.1 99 = .ok (.ifCond .ne 7, 3) := by decide +kernel
theorem d_X10_carriesOut_102 : decode m_X10_carriesOut.2.1 102 = .ok (.lconst 0, 1) := by decide +kernel
theorem d_X10_carriesOut_103 : decode m_X10_carriesOut.2.1 103 = .ok (.goto 11, 3) := by decide +kernel
theorem d_X10_carriesOut_106 : decode m_X10_carriesOut.2.1 106 = .ok (.lload 4, 2) := by decide +kernel
theorem d_X10_carriesOut_108 : decode m_X10_carriesOut.2.1 108 = .ok (.ldc2_w 176, 3) := by decide +kernel
theorem d_X10_carriesOut_111 : decode m_X10_carriesOut.2.1 111 = .ok (.lmul, 1) := by decide +kernel
theorem d_X10_carriesOut_112 : decode m_X10_carriesOut.2.1 112 = .ok (.lload_n 2, 1) := by decide +kernel
theorem d_X10_carriesOut_113 : decode m_X10_carriesOut.2.1 113 = .ok (.ldiv, 1) := by decide +kernel
theorem d_X10_carriesOut_114 : decode m_X10_carriesOut.2.1 114 = .ok (.lstore 6, 2) := by decide +kernel
theorem d_X10_carriesOut_116 : decode m_X10_carriesOut.2.1 116 = .ok (.aload_n 0, 1) := by decide +kernel
theorem d_X10_carriesOut_117 : decode m_X10_carriesOut.2.1 117 = .ok (.getfield 68, 3) := by decide +kernel
theorem d_X10_carriesOut_120 : decode m_X10_carriesOut.2.1 120 = .ok (.aload_n 0, 1) := by decide +kernel
theorem d_X10_carriesOut_121 : decode m_X10_carriesOut.2.1 121 = .ok (.getfield 219, 3) := by decide +kernel
theorem d_X10_carriesOut_124 : decode m_X10_carriesOut.2.1 124 = .ok (.iconst 1, 1) := by decide +kernel
theorem d_X10_carriesOut_125 : decode m_X10_carriesOut.2.1 125 = .ok (.isub, 1) := by decide +kernel
theorem d_X10_carriesOut_126 : decode m_X10_carriesOut.2.1 126 = .ok (.lload 6, 2) := by decide +kernel
theorem d_X10_carriesOut_128 : decode m_X10_carriesOut.2.1 128 = .ok (.invokestatic 191, 3) := by decide +kernel
theorem d_X10_carriesOut_131 : decode m_X10_carriesOut.2.1 131 = .ok (.lastore, 1) := by decide +kernel
theorem d_X10_carriesOut_132 : decode m_X10_carriesOut.2.1 132 = .ok (.return_, 1) := by decide +kernel
theorem d_X10_carriesAll_0 : decode m_X10_carriesAll.2.1 0 = .ok (.aload_n 0, 1) := by decide +kernel
theorem d_X10_carriesAll_1 : decode m_X10_carriesAll.2.1 1 = .ok (.getfield 216, 3) := by decide +kernel
theorem d_X10_carriesAll_4 : decode m_X10_carriesAll.2.1 4 = .ok (.ifCond .le 28, 3) := by decide +kernel
theorem d_X10_carriesAll_7 : decode m_X10_carriesAll.2.1 7 = .ok (.aload_n 0, 1) := by decide +kernel
theorem d_X10_carriesAll_8 : decode m_X10_carriesAll.2.1 8 = .ok (.getfield 71, 3) := by decide +kernel
theorem d_X10_carriesAll_11 : decode m_X10_carriesAll.2.1 11 = .ok (.aload_n 0, 1) := by decide +kernel
theorem d_X10_carriesAll_12 : decode m_X10_carriesAll.2.1 12 = .ok (.getfield 216, 3) := by decide +kernel
theorem d_X10_carriesAll_15 : decode m_X10_carriesAll.2.1 15 = .ok (.iconst 1, 1) := by decide +kernel
theorem d_X10_carriesAll_16 : decode m_X10_carriesAll.2.1 16 = .ok (.isub, 1) := by decide +kernel
theorem d_X10_carriesAll_17 : decode m_X10_carriesAll.2.1 17 = .ok (.iaload, 1) := by decide +kernel
theorem d_X10_carriesAll_18 : decode m_X10_carriesAll.2.1 18 = .ok (.invokestatic 222, 3) := by decide +kernel
theorem d_X10_carriesAll_21 : decode m_X10_carriesAll.2.1 21 = .ok (.iload_n 1, 1) := by decide +kernel
theorem d_X10_carriesAll_22 : decode m_X10_carriesAll.2.1 22 = .ok (.if_icmp .lt 10, 3) := by decide +kernel
theorem d_X10_carriesAll_25 : decode m_X10_carriesAll.2.1 25 = .ok (.aload_n 0, 1) := by decide +kernel
theorem d_X10_carriesAll_26 : decode m_X10_carriesAll.2.1 26 = .ok (.invokevirtual 225, 3) := by decide +kernel
theorem d_X10_carriesAll_29 : decode m_X10_carriesAll.2.1 29 = .ok (.goto (-29), 3) := by decide +kernel
theorem d_X10_carriesAll_32 : decode m_X10_carriesAll.2.1 32 = .ok (.return_, 1) := by decide +kernel
theorem d_X10_negates_0 : decode m_X10_negates.2.1 0 = .ok (.aload_n 0, 1) := by decide +kernel
theorem d_X10_negates_1 : decode m_X10_negates.2.1 1 = .ok (.getfield 216, 3) := by decide +kernel
theorem d_X10_negates_4 : decode m_X10_negates.2.1 4 = .ok (.ifCond .le 58, 3) := by decide +kernel
theorem d_X10_negates_7 : decode m_X10_negates.2.1 7 = .ok (.aload_n 0, 1) := by decide +kernel
theorem d_X10_negates_8 : decode m_X10_negates.2.1 8 = .ok (.getfield 71, 3) := by decide +kernel
theorem d_X10_negates_11 : decode m_X10_negates.2.1 11 = .ok (.aload_n 0, 1) := by decide +kernel
theorem d_X10_negates_12 : decode m_X10_negates.2.1 12 = .ok (.getfield 216, 3) := by decide +kernel
theorem d_X10_negates_15 : decode m_X10_negates.2.1 15 = .ok (.iconst 1, 1) := by decide +kernel
theorem d_X10_negates_16 : decode m_X10_negates.2.1 16 = .ok (.isub, 1) := by decide +kernel
theorem d_X10_negates_17 : decode m_X10_negates.2.1 17 = .ok (.iaload, 1) := by decide +kernel
theorem d_X10_negates_18 : decode m_X10_negates.2.1 18 = .ok (.bipush 126, 2) := by decide +kernel
theorem d_X10_negates_20 : decode m_X10_negates.2.1 20 = .ok (.if_icmp .ne 42, 3) := by decide +kernel
theorem d_X10_negates_23 : decode m_X10_negates.2.1 23 = .ok (.aload_n 0, 1) := by decide +kernel
theorem d_X10_negates_24 : decode m_X10_negates.2.1 24 = .ok (.dup, 1) := by decide +kernel
theorem d_X10_negates_25 : decode m_X10_negates.2.1 25 = .ok (.getfield 216, 3) := by decide +kernel
theorem d_X10_negates_28 : decode m_X10_negates.2.1 28 = .ok (.iconst 1, 1) := by decide +kernel
theorem d_X10_negates_29 : decode m_X10_negates.2.1 29 = .ok (.isub, 1) := by decide +kernel
theorem d_X10_negates_30 : decode m_X10_negates.2.1 30 = .ok (.putfield 216, 3) := by decide +kernel
theorem d_X10_negates_33 : decode m_X10_negates.2.1 33 = .ok (.aload_n 0, 1) := by decide +kernel
theorem d_X10_negates_34 : decode m_X10_negates.2.1 34 = .ok (.getfield 68, 3) := by decide +kernel
theorem d_X10_negates_37 : decode m_X10_negates.2.1 37 = .ok (.aload_n 0, 1) := by decide +kernel
theorem d_X10_negates_38 : decode m_X10_negates.2.1 38 = .ok (.getfield 219, 3) := by decide +kernel
theorem d_X10_negates_41 : decode m_X10_negates.2.1 41 = .ok (.iconst 1, 1) := by decide +kernel
theorem d_X10_negates_42 : decode m_X10_negates.2.1 42 = .ok (.isub, 1) := by decide +kernel
theorem d_X10_negates_43 : decode m_X10_negates.2.1 43 = .ok (.aload_n 0, 1) := by decide +kernel
theorem d_X10_negates_44 : decode m_X10_negates.2.1 44 = .ok (.getfield 68, 3) := by decide +kernel
theorem d_X10_negates_47 : decode m_X10_negates.2.1 47 = .ok (.aload_n 0, 1) := by decide +kernel
theorem d_X10_negates_48 : decode m_X10_negates.2.1 48 = .ok (.getfield 219, 3) := by decide +kernel
theorem d_X10_negates_51 : decode m_X10_negates.2.1 51 = .ok (.iconst 1, 1) := by decide +kernel
theorem d_X10_negates_52 : decode m_X10_negates.2.1 52 = .ok (.isub, 1) := by decide +kernel
theorem d_X10_negates_53 : decode m_X10_negates.2.1 53 = .ok (.laload, 1) := by decide +kernel
theorem d_X10_negates_54 : decode m_X10_negates.2.1 54 = .ok (.lneg, 1) := by decide +kernel
theorem d_X10_negates_55 : decode m_X10_negates.2.1 55 = .ok (.invokestatic 191, 3) := by decide +kernel
theorem d_X10_negates_58 : decode m_X10_negates.2.1 58 = .ok (.lastore, 1) := by decide +kernel
theorem d_X10_negates_59 : decode m_X10_negates.2.1 59 = .ok (.goto (-59), 3) := by decide +kernel
theorem d_X10_negates_62 : decode m_X10_negates.2.1 62 = .ok (.return_, 1) := by decide +kernel
theorem d_X10_puts_0 : decode m_X10_puts.2.1 0 = .ok (.aload_n 0, 1) := by decide +kernel
theorem d_X10_puts_1 : decode m_X10_puts.2.1 1 = .ok (.getfield 68, 3) := by decide +kernel
theorem d_X10_puts_4 : decode m_X10_puts.2.1 4 = .ok (.aload_n 0, 1) := by decide +kernel
theorem d_X10_puts_5 : decode m_X10_puts.2.1 5 = .ok (.getfield 219, 3) := by decide +kernel
theorem d_X10_puts_8 : decode m_X10_puts.2.1 8 = .ok (.lload_n 1, 1) := by decide +kernel
theorem d_X10_puts_9 : decode m_X10_puts.2.1 9 = .ok (.lastore, 1) := by decide +kernel
theorem d_X10_puts_10 : decode m_X10_puts.2.1 10 = .ok (.aload_n 0, 1) := by decide +kernel
theorem d_X10_puts_11 : decode m_X10_puts.2.1 11 = .ok (.dup, 1) := by decide +kernel
theorem d_X10_puts_12 : decode m_X10_puts.2.1 12 = .ok (.getfield 219, 3) := by decide +kernel
theorem d_X10_puts_15 : decode m_X10_puts.2.1 15 = .ok (.iconst 1, 1) := by decide +kernel
theorem d_X10_puts_16 : decode m_X10_puts.2.1 16 = .ok (.iadd, 1) := by decide +kernel
theorem d_X10_puts_17 : decode m_X10_puts.2.1 17 = .ok (.putfield 219, 3) := by decide +kernel
theorem d_X10_puts_20 : decode m_X10_puts.2.1 20 = .ok (.aload_n 0, 1) := by decide +kernel
theorem d_X10_puts_21 : decode m_X10_puts.2.1 21 = .ok (.invokevirtual 228, 3) := by decide +kernel
theorem d_X10_puts_24 : decode m_X10_puts.2.1 24 = .ok (.return_, 1) := by decide +kernel
theorem d_X10_putsSign_0 : decode m_X10_putsSign.2.1 0 = .ok (.aload_n 0, 1) := by decide +kernel
theorem d_X10_putsSign_1 : decode m_X10_putsSign.2.1 1 = .ok (.getfield 71, 3) := by decide +kernel
theorem d_X10_putsSign_4 : decode m_X10_putsSign.2.1 4 = .ok (.aload_n 0, 1) := by decide +kernel
theorem d_X10_putsSign_5 : decode m_X10_putsSign.2.1 5 = .ok (.getfield 216, 3) := by decide +kernel
theorem d_X10_putsSign_8 : decode m_X10_putsSign.2.1 8 = .ok (.iload_n 1, 1) := by decide +kernel
theorem d_X10_putsSign_9 : decode m_X10_putsSign.2.1 9 = .ok (.iastore, 1) := by decide +kernel
theorem d_X10_putsSign_10 : decode m_X10_putsSign.2.1 10 = .ok (.aload_n 0, 1) := by decide +kernel
theorem d_X10_putsSign_11 : decode m_X10_putsSign.2.1 11 = .ok (.dup, 1) := by decide +kernel
theorem d_X10_putsSign_12 : decode m_X10_putsSign.2.1 12 = .ok (.getfield 216, 3) := by decide +kernel
theorem d_X10_putsSign_15 : decode m_X10_putsSign.2.1 15 = .ok (.iconst 1, 1) := by decide +kernel
theorem d_X10_putsSign_16 : decode m_X10_putsSign.2.1 16 = .ok (.iadd, 1) := by decide +kernel
theorem d_X10_putsSign_17 : decode m_X10_putsSign.2.1 17 = .ok (.putfield 216, 3) := by decide +kernel
theorem d_X10_putsSign_20 : decode m_X10_putsSign.2.1 20 = .ok (.return_, 1) := by decide +kernel
theorem d_X10_shuts_0 : decode m_X10_shuts.2.1 0 = .ok (.aload_n 0, 1) := by decide +kernel
theorem d_X10_shuts_1 : decode m_X10_shuts.2.1 1 = .ok (.iconst 1, 1) := by decide +kernel
theorem d_X10_shuts_2 : decode m_X10_shuts.2.1 2 = .ok (.invokevirtual 231, 3) := by decide +kernel
theorem d_X10_shuts_5 : decode m_X10_shuts.2.1 5 = .ok (.aload_n 0, 1) := by decide +kernel
theorem d_X10_shuts_6 : decode m_X10_shuts.2.1 6 = .ok (.dup, 1) := by decide +kernel
theorem d_X10_shuts_7 : decode m_X10_shuts.2.1 7 = .ok (.getfield 216, 3) := by decide +kernel
theorem d_X10_shuts_10 : decode m_X10_shuts.2.1 10 = .ok (.iconst 1, 1) := by decide +kernel
theorem d_X10_shuts_11 : decode m_X10_shuts.2.1 11 = .ok (.isub, 1) := by decide +kernel
theorem d_X10_shuts_12 : decode m_X10_shuts.2.1 12 = .ok (.putfield 216, 3) := by decide +kernel
theorem d_X10_shuts_15 : decode m_X10_shuts.2.1 15 = .ok (.aload_n 0, 1) := by decide +kernel
theorem d_X10_shuts_16 : decode m_X10_shuts.2.1 16 = .ok (.getfield 71, 3) := by decide +kernel
theorem d_X10_shuts_19 : decode m_X10_shuts.2.1 19 = .ok (.aload_n 0, 1) := by decide +kernel
theorem d_X10_shuts_20 : decode m_X10_shuts.2.1 20 = .ok (.getfield 216, 3) := by decide +kernel
theorem d_X10_shuts_23 : decode m_X10_shuts.2.1 23 = .ok (.iaload, 1) := by decide +kernel
theorem d_X10_shuts_24 : decode m_X10_shuts.2.1 24 = .ok (.bipush 44, 2) := by decide +kernel
theorem d_X10_shuts_26 : decode m_X10_shuts.2.1 26 = .ok (.if_icmp .ne 107, 3) := by decide +kernel
theorem d_X10_shuts_29 : decode m_X10_shuts.2.1 29 = .ok (.aload_n 0, 1) := by decide +kernel
theorem d_X10_shuts_30 : decode m_X10_shuts.2.1 30 = .ok (.dup, 1) := by decide +kernel
theorem d_X10_shuts_31 : decode m_X10_shuts.2.1 31 = .ok (.getfield 216, 3) := by decide +kernel
theorem d_X10_shuts_34 : decode m_X10_shuts.2.1 34 = .ok (.iconst 1, 1) := by decide +kernel
theorem d_X10_shuts_35 : decode m_X10_shuts.2.1 35 = .ok (.isub, 1) := by decide +kernel
theorem d_X10_shuts_36 : decode m_X10_shuts.2.1 36 = .ok (.putfield 216, 3) := by decide +kernel
theorem d_X10_shuts_39 : decode m_X10_shuts.2.1 39 = .ok (.aload_n 0, 1) := by decide +kernel
theorem d_X10_shuts_40 : decode m_X10_shuts.2.1 40 = .ok (.dup, 1) := by decide +kernel
theorem d_X10_shuts_41 : decode m_X10_shuts.2.1 41 = .ok (.getfield 219, 3) := by decide +kernel
theorem d_X10_shuts_44 : decode m_X10_shuts.2.1 44 = .ok (.iconst 1, 1) := by decide +kernel
theorem d_X10_shuts_45 : decode m_X10_shuts.2.1 45 = .ok (.isub, 1) := by decide +kernel
theorem d_X10_shuts_46 : decode m_X10_shuts.2.1 46 = .ok (.putfield 219, 3) := by decide +kernel
theorem d_X10_shuts_49 : decode m_X10_shuts.2.1 49 = .ok (.aload_n 0, 1) := by decide +kernel
theorem d_X10_shuts_50 : decode m_X10_shuts.2.1 50 = .ok (.getfield 68, 3) := by decide +kernel
theorem d_X10_shuts_53 : decode m_X10_shuts.2.1 53 = .ok (.aload_n 0, 1) := by decide +kernel
theorem d_X10_shuts_54 : decode m_X10_shuts.2.1 54 = .ok (.getfield 219, 3) := by decide +kernel
theorem d_X10_shuts_57 : decode m_X10_shuts.2.1 57 = .ok (.laload, 1) := by decide +kernel
theorem d_X10_shuts_58 : decode m_X10_shuts.2.1 58 = .ok (.lstore_n 1, 1) := by decide +kernel
theorem d_X10_shuts_59 : decode m_X10_shuts.2.1 59 = .ok (.aload_n 0, 1) := by decide +kernel
theorem d_X10_shuts_60 : decode m_X10_shuts.2.1 60 = .ok (.getfield 68, 3) := by decide +kernel
theorem d_X10_shuts_63 : decode m_X10_shuts.2.1 63 = .ok (.aload_n 0, 1) := by decide +kernel
theorem d_X10_shuts_64 : decode m_X10_shuts.2.1 64 = .ok (.getfield 219, 3) := by decide +kernel
theorem d_X10_shuts_67 : decode m_X10_shuts.2.1 67 = .ok (.iconst 1, 1) := by decide +kernel
theorem d_X10_shuts_68 : decode m_X10_shuts.2.1 68 = .ok (.isub, 1) := by decide +kernel
theorem d_X10_shuts_69 : decode m_X10_shuts.2.1 69 = .ok (.laload, 1) := by decide +kernel
theorem d_X10_shuts_70 : decode m_X10_shuts.2.1 70 = .ok (.lstore_n 3, 1) := by decide +kernel
theorem d_X10_shuts_71 : decode m_X10_shuts.2.1 71 = .ok (.aload_n 0, 1) := by decide +kernel
theorem d_X10_shuts_72 : decode m_X10_shuts.2.1 72 = .ok (.getfield 71, 3) := by decide +kernel
theorem d_X10_shuts_75 : decode m_X10_shuts.2.1 75 = .ok (.aload_n 0, 1) := by decide +kernel
theorem d_X10_shuts_76 : decode m_X10_shuts.2.1 76 = .ok (.getfield 216, 3) := by decide +kernel
theorem d_X10_shuts_79 : decode m_X10_shuts.2.1 79 = .ok (.iaload, 1) := by decide +kernel
theorem d_X10_shuts_80 : decode m_X10_shuts.2.1 80 = .ok (.bipush 105, 2) := by decide +kernel
theorem d_X10_shuts_82 : decode m_X10_shuts.2.1 82 = .ok (.if_icmp .ne 17, 3) := by decide +kernel
theorem d_X10_shuts_85 : decode m_X10_shuts.2.1 85 = .ok (.lload_n 3, 1) := by decide +kernel
theorem d_X10_shuts_86 : decode m_X10_shuts.2.1 86 = .ok (.lload_n 1, 1) := by decide +kernel
theorem d_X10_shuts_87 : decode m_X10_shuts.2.1 87 = .ok (.lcmp, 1) := by decide +kernel
theorem d_X10_shuts_88 : decode m_X10_shuts.2.1 88 = .ok (.ifCond .ge 7, 3) := by decide +kernel
theorem d_X10_shuts_91 : decode m_X10_shuts.2.1 91 = .ok (.iconst 1, 1) := by decide +kernel
theorem d_X10_shuts_92 : decode m_X10_shuts.2.1 92 = .ok (.goto 18, 3) := by decide +kernel
theorem d_X10_shuts_95 : decode m_X10_shuts.2.1 95 = .ok (.iconst 0, 1) := by decide +kernel
theorem d_X10_shuts_96 : decode m_X10_shuts.2.1 96 = .ok (.goto 14, 3) := by decide +kernel
theorem d_X10_shuts_99 : decode m_X10_shuts.2.1 99 = .ok (.lload_n 3, 1) := by decide +kernel
theorem d_X10_shuts_100 : decode m_X10_shuts.2.1 100 = .ok (.lload_n 1, 1) := by decide +kernel
theorem d_X10_shuts_101 : decode m_X10_shuts.2.1 101 = .ok (.lcmp, 1) := by decide +kernel
theorem d_X10_shuts_102 : decode m_X10_shuts.2.1 102 = .ok (.ifCond .le 7, 3) := by decide +kernel
theorem d_X10_shuts_105 : decode m_X10_shuts.2.1 105 = .ok (.iconst 1, 1) := by decide +kernel
theorem d_X10_shuts_106 : decode m_X10_shuts.2.1 106 = .ok (.goto 4, 3) := by decide +kernel
theorem d_X10_shuts_109 : decode m_X10_shuts.2.1 109 = .ok (.iconst 0, 1) := by decide +kernel
theorem d_X10_shuts_110 : decode m_X10_shuts.2.1 110 = .ok (.istore 5, 2) := by decide +kernel
theorem d_X10_shuts_112 : decode m_X10_shuts.2.1 112 = .ok (.aload_n 0, 1) := by decide +kernel
theorem d_X10_shuts_113 : decode m_X10_shuts.2.1 113 = .ok (.getfield 68, 3) := by decide +kernel
theorem d_X10_shuts_116 : decode m_X10_shuts.2.1 116 = .ok (.aload_n 0, 1) := by decide +kernel
theorem d_X10_shuts_117 : decode m_X10_shuts.2.1 117 = .ok (.getfield 219, 3) := by decide +kernel
theorem d_X10_shuts_120 : decode m_X10_shuts.2.1 120 = .ok (.iconst 1, 1) := by decide +kernel
theorem d_X10_shuts_121 : decode m_X10_shuts.2.1 121 = .ok (.isub, 1) := by decide +kernel
theorem d_X10_shuts_122 : decode m_X10_shuts.2.1 122 = .ok (.iload 5, 2) := by decide +kernel
theorem d_X10_shuts_124 : decode m_X10_shuts.2.1 124 = .ok (.ifCond .eq 7, 3) := by decide +kernel
theorem d_X10_shuts_127 : decode m_X10_shuts.2.1 127 = .ok (.lload_n 3, 1) := by decide +kernel
theorem d_X10_shuts_128 : decode m_X10_shuts.2.1 128 = .ok (.goto 4, 3) := by decide +kernel
theorem d_X10_shuts_131 : decode m_X10_shuts.2.1 131 = .ok (.lload_n 1, 1) := by decide +kernel
theorem d_X10_shuts_132 : decode m_X10_shuts.2.1 132 = .ok (.lastore, 1) := by decide +kernel
theorem d_X10_shuts_133 : decode m_X10_shuts.2.1 133 = .ok (.aload_n 0, 1) := by decide +kernel
theorem d_X10_shuts_134 : decode m_X10_shuts.2.1 134 = .ok (.invokevirtual 228, 3) := by decide +kernel
theorem d_X10_shuts_137 : decode m_X10_shuts.2.1 137 = .ok (.return_, 1) := by decide +kernel
theorem d_X10_numberAt_0 : decode m_X10_numberAt.2.1 0 = .ok (.lconst 0, 1) := by decide +kernel
theorem d_X10_numberAt_1 : decode m_X10_numberAt.2.1 1 = .ok (.lstore_n 3, 1) := by decide +kernel
theorem d_X10_numberAt_2 : decode m_X10_numberAt.2.1 2 = .ok (.iload_n 2, 1) := by decide +kernel
theorem d_X10_numberAt_3 : decode m_X10_numberAt.2.1 3 = .ok (.istore 5, 2) := by decide +kernel
theorem d_X10_numberAt_5 : decode m_X10_numberAt.2.1 5 = .ok (.aload_n 0, 1) := by decide +kernel
theorem d_X10_numberAt_6 : decode m_X10_numberAt.2.1 6 = .ok (.iload_n 1, 1) := by decide +kernel
theorem d_X10_numberAt_7 : decode m_X10_numberAt.2.1 7 = .ok (.iload 5, 2) := by decide +kernel
theorem d_X10_numberAt_9 : decode m_X10_numberAt.2.1 9 = .ok (.invokevirtual 130, 3) := by decide +kernel
theorem d_X10_numberAt_12 : decode m_X10_numberAt.2.1 12 = .ok (.invokestatic 105, 3) := by decide +kernel
theorem d_X10_numberAt_15 : decode m_X10_numberAt.2.1 15 = .ok (.ifCond .eq 28, 3) := by decide +kernel
theorem d_X10_numberAt_18 : decode m_X10_numberAt.2.1 18 = .ok (.ldc2_w 235, 3) := by decide +kernel
theorem d_X10_numberAt_21 : decode m_X10_numberAt.2.1 21 = .ok (.lload_n 3, 1) := by decide +kernel
theorem d_X10_numberAt_22 : decode m_X10_numberAt.2.1 22 = .ok (.lmul, 1) := by decide +kernel
theorem d_X10_numberAt_23 : decode m_X10_numberAt.2.1 23 = .ok (.aload_n 0, 1) := by decide +kernel
theorem d_X10_numberAt_24 : decode m_X10_numberAt.2.1 24 = .ok (.iload_n 1, 1) := by decide +kernel
theorem d_X10_numberAt_25 : decode m_X10_numberAt.2.1 25 = .ok (.iload 5, 2) := by decide +kernel
theorem d_X10_numberAt_27 : decode m_X10_numberAt.2.1 27 = .ok (.invokevirtual 130, 3) := by decide +kernel
theorem d_X10_numberAt_30 : decode m_X10_numberAt.2.1 30 = .ok (.i2l, 1) := by decide +kernel
theorem d_X10_numberAt_31 : decode m_X10_numberAt.2.1 31 = .ok (.ladd, 1) := by decide +kernel
theorem d_X10_numberAt_32 : decode m_X10_numberAt.2.1 32 = .ok (.ldc2_w 237, 3) := by decide +kernel
theorem d_X10_numberAt_35 : decode m_X10_numberAt.2.1 35 = .ok (.lsub, 1) := by decide +kernel
theorem d_X10_numberAt_36 : decode m_X10_numberAt.2.1 36 = .ok (.lstore_n 3, 1) := by decide +kernel
theorem d_X10_numberAt_37 : decode m_X10_numberAt.2.1 37 = .ok (.iinc 5 1, 3) := by decide +kernel
theorem d_X10_numberAt_40 : decode m_X10_numberAt.2.1 40 = .ok (.goto (-35), 3) := by decide +kernel
theorem d_X10_numberAt_43 : decode m_X10_numberAt.2.1 43 = .ok (.aload_n 0, 1) := by decide +kernel
theorem d_X10_numberAt_44 : decode m_X10_numberAt.2.1 44 = .ok (.iload_n 1, 1) := by decide +kernel
theorem d_X10_numberAt_45 : decode m_X10_numberAt.2.1 45 = .ok (.iload 5, 2) := by decide +kernel
theorem d_X10_numberAt_47 : decode m_X10_numberAt.2.1 47 = .ok (.invokevirtual 130, 3) := by decide +kernel
theorem d_X10_numberAt_50 : decode m_X10_numberAt.2.1 50 = .ok (.bipush 46, 2) := by decide +kernel
theorem d_X10_numberAt_52 : decode m_X10_numberAt.2.1 52 = .ok (.if_icmp .ne 7, 3) := by decide +kernel
theorem d_X10_numberAt_55 : decode m_X10_numberAt.2.1 55 = .ok (.iconst 1, 1) := by decide +kernel
theorem d_X10_numberAt_56 : decode m_X10_numberAt.2.1 56 = .ok (.goto 4, 3) := by decide +kernel
theorem d_X10_numberAt_59 : decode m_X10_numberAt.2.1 59 = .ok (.iconst 0, 1) := by decide +kernel
theorem d_X10_numberAt_60 : decode m_X10_numberAt.2.1 60 = .ok (.istore 6, 2) := by decide +kernel
theorem d_X10_numberAt_62 : decode m_X10_numberAt.2.1 62 = .ok (.iconst 0, 1) := by decide +kernel
theorem d_X10_numberAt_63 : decode m_X10_numberAt.2.1 63 = .ok (.istore 7, 2) := by decide +kernel
theorem d_X10_numberAt_65 : decode m_X10_numberAt.2.1 65 = .ok (.iload 7, 2) := by decide +kernel
theorem d_X10_numberAt_67 : decode m_X10_numberAt.2.1 67 = .ok (.iconst 3, 1) := by decide +kernel
theorem d_X10_numberAt_68 : decode m_X10_numberAt.2.1 68 = .ok (.if_icmp .ge 76, 3) := by decide +kernel
theorem d_X10_numberAt_71 : decode m_X10_numberAt.2.1 71 = .ok (.iload 5, 2) := by decide +kernel
theorem d_X10_numberAt_73 : decode m_X10_numberAt.2.1 73 = .ok (.iload 6, 2) := by decide +kernel
theorem d_X10_numberAt_75 : decode m_X10_numberAt.2.1 75 = .ok (.ifCond .eq 7, 3) := by decide +kernel
theorem d_X10_numberAt_78 : decode m_X10_numberAt.2.1 78 = .ok (.iconst 1, 1) := by decide +kernel
theorem d_X10_numberAt_79 : decode m_X10_numberAt.2.1 79 = .ok (.goto 4, 3) := by decide +kernel
theorem d_X10_numberAt_82 : decode m_X10_numberAt.2.1 82 = .ok (.iconst 0, 1) := by decide +kernel
theorem d_X10_numberAt_83 : decode m_X10_numberAt.2.1 83 = .ok (.iadd, 1) := by decide +kernel
theorem d_X10_numberAt_84 : decode m_X10_numberAt.2.1 84 = .ok (.istore 5, 2) := by decide +kernel
theorem d_X10_numberAt_86 : decode m_X10_numberAt.2.1 86 = .ok (.iload 6, 2) := by decide +kernel
theorem d_X10_numberAt_88 : decode m_X10_numberAt.2.1 88 = .ok (.ifCond .eq 20, 3) := by decide +kernel
theorem d_X10_numberAt_91 : decode m_X10_numberAt.2.1 91 = .ok (.aload_n 0, 1) := by decide +kernel
theorem d_X10_numberAt_92 : decode m_X10_numberAt.2.1 92 = .ok (.iload_n 1, 1) := by decide +kernel
theorem d_X10_numberAt_93 : decode m_X10_numberAt.2.1 93 = .ok (.iload 5, 2) := by decide +kernel
theorem d_X10_numberAt_95 : decode m_X10_numberAt.2.1 95 = .ok (.invokevirtual 130, 3) := by decide +kernel
theorem d_X10_numberAt_98 : decode m_X10_numberAt.2.1 98 = .ok (.invokestatic 105, 3) := by decide +kernel
theorem d_X10_numberAt_101 : decode m_X10_numberAt.2.1 101 = .ok (.ifCond .eq 7, 3) := by decide +kernel
theorem d_X10_numberAt_104 : decode m_X10_numberAt.2.1 104 = .ok (.iconst 1, 1) := by decide +kernel
theorem d_X10_numberAt_105 : decode m_X10_numberAt.2.1 105 = .ok (.goto 4, 3) := by decide +kernel
theorem d_X10_numberAt_108 : decode m_X10_numberAt.2.1 108 = .ok (.iconst 0, 1) := by decide +kernel
theorem d_X10_numberAt_109 : decode m_X10_numberAt.2.1 109 = .ok (.istore 6, 2) := by decide +kernel
theorem d_X10_numberAt_111 : decode m_X10_numberAt.2.1 111 = .ok (.ldc2_w 235, 3) := by decide +kernel
theorem d_X10_numberAt_114 : decode m_X10_numberAt.2.1 114 = .ok (.lload_n 3, 1) := by decide +kernel
theorem d_X10_numberAt_115 : decode m_X10_numberAt.2.1 115 = .ok (.lmul, 1) := by decide +kernel
theorem d_X10_numberAt_116 : decode m_X10_numberAt.2.1 116 = .ok (.iload 6, 2) := by decide +kernel
theorem d_X10_numberAt_118 : decode m_X10_numberAt.2.1 118 = .ok (.ifCond .eq 16, 3) := by decide +kernel
theorem d_X10_numberAt_121 : decode m_X10_numberAt.2.1 121 = .ok (.aload_n 0, 1) := by decide +kernel
theorem d_X10_numberAt_122 : decode m_X10_numberAt.2.1 122 = .ok (.iload_n 1, 1) := by decide +kernel
theorem d_X10_numberAt_123 : decode m_X10_numberAt.2.1 123 = .ok (.iload 5, 2) := by decide +kernel
theorem d_X10_numberAt_125 : decode m_X10_numberAt.2.1 125 = .ok (.invokevirtual 130, 3) := by decide +kernel
theorem d_X10_numberAt_128 : decode m_X10_numberAt.2.1 128 = .ok (.bipush 48, 2) := by decide +kernel
theorem d_X10_numberAt_130 : decode m_X10_numberAt.2.1 130 = .ok (.isub, 1) := by decide +kernel
theorem d_X10_numberAt_131 : decode m_X10_numberAt.2.1 131 = .ok (.goto 4, 3) := by decide +kernel
theorem d_X10_numberAt_134 : decode m_X10_numberAt.2.1 134 = .ok (.iconst 0, 1) := by decide +kernel
theorem d_X10_numberAt_135 : decode m_X10_numberAt.2.1 135 = .ok (.i2l, 1) := by decide +kernel
theorem d_X10_numberAt_136 : decode m_X10_numberAt.2.1 136 = .ok (.ladd, 1) := by decide +kernel
theorem d_X10_numberAt_137 : decode m_X10_numberAt.2.1 137 = .ok (.lstore_n 3, 1) := by decide +kernel
theorem d_X10_numberAt_138 : decode m_X10_numberAt.2.1 138 = .ok (.iinc 7 1, 3) := by decide +kernel
theorem d_X10_numberAt_141 : decode m_X10_numberAt.2.1 141 = .ok (.goto (-76), 3) := by decide +kernel
theorem d_X10_numberAt_144 : decode m_X10_numberAt.2.1 144 = .ok (.lload_n 3, 1) := by decide +kernel
theorem d_X10_numberAt_145 : decode m_X10_numberAt.2.1 145 = .ok (.lreturn, 1) := by decide +kernel
theorem d_X10_behindNumber_0 : decode m_X10_behindNumber.2.1 0 = .ok (.iload_n 2, 1) := by decide +kernel
theorem d_X10_behindNumber_1 : decode m_X10_behindNumber.2.1 1 = .ok (.istore_n 3, 1) := by decide +kernel
theorem d_X10_behindNumber_2 : decode m_X10_behindNumber.2.1 2 = .ok (.aload_n 0, 1) := by decide +kernel
theorem d_X10_behindNumber_3 : decode m_X10_behindNumber.2.1 3 = .ok (.iload_n 1, 1) := by decide +kernel
theorem d_X10_behindNumber_4 : decode m_X10_behindNumber.2.1 4 = .ok (.iload_n 3, 1) := by decide +kernel
theorem d_X10_behindNumber_5 : decode m_X10_behindNumber.2.1 5 = .ok (.invokevirtual 130, 3) := by decide +kernel
theorem d_X10_behindNumber_8 : decode m_X10_behindNumber.2.1 8 = .ok (.invokestatic 105, 3) := by decide +kernel
theorem d_X10_behindNumber_11 : decode m_X10_behindNumber.2.1 11 = .ok (.ifCond .ne 14, 3) := by decide +kernel
theorem d_X10_behindNumber_14 : decode m_X10_behindNumber.2.1 14 = .ok (.aload_n 0, 1) := by decide +kernel
theorem d_X10_behindNumber_15 : decode m_X10_behindNumber.2.1 15 = .ok (.iload_n 1, 1) := by decide +kernel
theorem d_X10_behindNumber_16 : decode m_X10_behindNumber.2.1 16 = .ok (.iload_n 3, 1) := by decide +kernel
theorem d_X10_behindNumber_17 : decode m_X10_behindNumber.2.1 17 = .ok (.invokevirtual 130, 3) := by decide +kernel
theorem d_X10_behindNumber_20 : decode m_X10_behindNumber.2.1 20 = .ok (.bipush 46, 2) := by decide +kernel
theorem d_X10_behindNumber_22 : decode m_X10_behindNumber.2.1 22 = .ok (.if_icmp .ne 9, 3) := by decide +kernel
theorem d_X10_behindNumber_25 : decode m_X10_behindNumber.2.1 25 = .ok (.iinc 3 1, 3) := by decide +kernel
theorem d_X10_behindNumber_28 : decode m_X10_behindNumber.2.1 28 = .ok (.goto (-26), 3) := by decide +kernel
theorem d_X10_behindNumber_31 : decode m_X10_behindNumber.2.1 31 = .ok (.iload_n 3, 1) := by decide +kernel
theorem d_X10_behindNumber_32 : decode m_X10_behindNumber.2.1 32 = .ok (.ireturn, 1) := by decide +kernel
theorem d_X10_worksOut_0 : decode m_X10_worksOut.2.1 0 = .ok (.aload_n 0, 1) := by decide +kernel
theorem d_X10_worksOut_1 : decode m_X10_worksOut.2.1 1 = .ok (.iconst 0, 1) := by decide +kernel
theorem d_X10_worksOut_2 : decode m_X10_worksOut.2.1 2 = .ok (.putfield 219, 3) := by decide +kernel
theorem d_X10_worksOut_5 : decode m_X10_worksOut.2.1 5 = .ok (.aload_n 0, 1) := by decide +kernel
theorem d_X10_worksOut_6 : decode m_X10_worksOut.2.1 6 = .ok (.iconst 0, 1) := by decide +kernel
theorem d_X10_worksOut_7 : decode m_X10_worksOut.2.1 7 = .ok (.putfield 216, 3) := by decide +kernel
theorem d_X10_worksOut_10 : decode m_X10_worksOut.2.1 10 = .ok (.iconst 1, 1) := by decide +kernel
theorem d_X10_worksOut_11 : decode m_X10_worksOut.2.1 11 = .ok (.istore_n 3, 1) := by decide +kernel
theorem d_X10_worksOut_12 : decode m_X10_worksOut.2.1 12 = .ok (.iconst 0, 1) := by decide +kernel
theorem d_X10_worksOut_13 : decode m_X10_worksOut.2.1 13 = .ok (.istore 4, 2) := by decide +kernel
theorem d_X10_worksOut_15 : decode m_X10_worksOut.2.1 15 = .ok (.iload 4, 2) := by decide +kernel
theorem d_X10_worksOut_17 : decode m_X10_worksOut.2.1 17 = .ok (.aload_n 0, 1) := by decide +kernel
theorem d_X10_worksOut_18 : decode m_X10_worksOut.2.1 18 = .ok (.getfield 7, 3) := by decide +kernel
theorem d_X10_worksOut_21 : decode m_X10_worksOut.2.1 21 = .ok (.bipush 48, 2) := by decide +kernel
theorem d_X10_worksOut_23 : decode m_X10_worksOut.2.1 23 = .ok (.bipush 81, 2) := by decide +kernel
theorem d_X10_worksOut_25 : decode m_X10_worksOut.2.1 25 = .ok (.iload_n 1, 1) := by decide +kernel
theorem d_X10_worksOut_26 : decode m_X10_worksOut.2.1 26 = .ok (.imul, 1) := by decide +kernel
theorem d_X10_worksOut_27 : decode m_X10_worksOut.2.1 27 = .ok (.iadd, 1) := by decide +kernel
theorem d_X10_worksOut_28 : decode m_X10_worksOut.2.1 28 = .ok (.iaload, 1) := by decide +kernel
theorem d_X10_worksOut_29 : decode m_X10_worksOut.2.1 29 = .ok (.if_icmp .ge 300, 3) := by decide +kernel
theorem d_X10_worksOut_32 : decode m_X10_worksOut.2.1 32 = .ok (.aload_n 0, 1) := by decide +kernel
theorem d_X10_worksOut_33 : decode m_X10_worksOut.2.1 33 = .ok (.iload_n 1, 1) := by decide +kernel
theorem d_X10_worksOut_34 : decode m_X10_worksOut.2.1 34 = .ok (.iload 4, 2) := by decide +kernel
theorem d_X10_worksOut_36 : decode m_X10_worksOut.2.1 36 = .ok (.invokevirtual 130, 3) := by decide +kernel
theorem d_X10_worksOut_39 : decode m_X10_worksOut.2.1 39 = .ok (.istore 5, 2) := by decide +kernel
theorem d_X10_worksOut_41 : decode m_X10_worksOut.2.1 41 = .ok (.iload 4, 2) := by decide +kernel
theorem d_X10_worksOut_43 : decode m_X10_worksOut.2.1 43 = .ok (.iconst 1, 1) := by decide +kernel
theorem d_X10_worksOut_44 : decode m_X10_worksOut.2.1 44 = .ok (.iadd, 1) := by decide +kernel
theorem d_X10_worksOut_45 : decode m_X10_worksOut.2.1 45 = .ok (.istore 6, 2) := by decide +kernel
theorem d_X10_worksOut_47 : decode m_X10_worksOut.2.1 47 = .ok (.iconst 1, 1) := by decide +kernel
theorem d_X10_worksOut_48 : decode m_X10_worksOut.2.1 48 = .ok (.istore 7, 2) := by decide +kernel
theorem d_X10_worksOut_50 : decode m_X10_worksOut.2.1 50 = .ok (.iload 5, 2) := by decide +kernel
theorem d_X10_worksOut_52 : decode m_X10_worksOut.2.1 52 = .ok (.invokestatic 105, 3) := by decide +kernel
theorem d_X10_worksOut_55 : decode m_X10_worksOut.2.1 55 = .ok (.ifCond .eq 26, 3) := by decide +kernel
theorem d_X10_worksOut_58 : decode m_X10_worksOut.2.1 58 = .ok (.aload_n 0, 1) := by decide +kernel
theorem d_X10_worksOut_59 : decode m_X10_worksOut.2.1 59 = .ok (.aload_n 0, 1) := by decide +kernel
theorem d_X10_worksOut_60 : decode m_X10_worksOut.2.1 60 = .ok (.iload_n 1, 1) := by decide +kernel
theorem d_X10_worksOut_61 : decode m_X10_worksOut.2.1 61 = .ok (.iload 4, 2) := by decide +kernel
theorem d_X10_worksOut_63 : decode m_X10_worksOut.2.1 63 = .ok (.invokevirtual 239, 3) := by decide +kernel
theorem d_X10_worksOut_66 : decode m_X10_worksOut.2.1 66 = .ok (.invokevirtual 242, 3) := by decide +kernel
theorem d_X10_worksOut_69 : decode m_X10_worksOut.2.1 69 = .ok (.aload_n 0, 1) := by decide +kernel
theorem d_X10_worksOut_70 : decode m_X10_worksOut.2.1 70 = .ok (.iload_n 1, 1) := by decide +kernel
theorem d_X10_worksOut_71 : decode m_X10_worksOut.2.1 71 = .ok (.iload 4, 2) := by decide +kernel
theorem d_X10_worksOut_73 : decode m_X10_worksOut.2.1 73 = .ok (.invokevirtual 246, 3) := by decide +kernel
theorem d_X10_worksOut_76 : decode m_X10_worksOut.2.1 76 = .ok (.istore 6, 2) := by decide +kernel
theorem d_X10_worksOut_78 : decode m_X10_worksOut.2.1 78 = .ok (.goto 233, 3) := by decide +kernel
theorem d_X10_worksOut_81 : decode m_X10_worksOut.2.1 81 = .ok (.iload 5, 2) := by decide +kernel
theorem d_X10_worksOut_83 : decode m_X10_worksOut.2.1 83 = .ok (.bipush 116, 2) := by decide +kernel
theorem d_X10_worksOut_85 : decode m_X10_worksOut.2.1 85 = .ok (.if_icmp .ne 12, 3) := by decide +kernel
theorem d_X10_worksOut_88 : decode m_X10_worksOut.2.1 88 = .ok (.aload_n 0, 1) := by decide +kernel
theorem d_X10_worksOut_89 : decode m_X10_worksOut.2.1 89 = .ok (.iload_n 2, 1) := by decide +kernel
theorem d_X10_worksOut_90 : decode m_X10_worksOut.2.1 90 = .ok (.i2l, 1) := by decide +kernel
theorem d_X10_worksOut_91 : decode m_X10_worksOut.2.1 91 = .ok (.invokevirtual 242, 3) := by decide +kernel
theorem d_X10_worksOut_94 : decode m_X10_worksOut.2.1 94 = .ok (.goto 217, 3) := by decide +kernel
theorem d_X10_worksOut_97 : decode m_X10_worksOut.2.1 97 = .ok (.iload 5, 2) := by decide +kernel
theorem d_X10_worksOut_99 : decode m_X10_worksOut.2.1 99 = .ok (.invokestatic 113, 3) := by decide +kernel
theorem d_X10_worksOut_102 : decode m_X10_worksOut.2.1 102 = .ok (.ifCond .eq 146, 3) := by decide +kernel
theorem d_X10_worksOut_105 : decode m_X10_worksOut.2.1 105 = .ok (.aload_n 0, 1) := by decide +kernel
theorem d_X10_worksOut_106 : decode m_X10_worksOut.2.1 106 = .ok (.iload_n 1, 1) := by decide +kernel
theorem d_X10_worksOut_107 : decode m_X10_worksOut.2.1 107 = .ok (.iload 4, 2) := by decide +kernel
theorem d_X10_worksOut_109 : decode m_X10_worksOut.2.1 109 = .ok (.iconst 1, 1) := by decide +kernel
theorem d_X10_worksOut_110 : decode m_X10_worksOut.2.1 110 = .ok (.iadd, 1) := by decide +kernel
theorem d_X10_worksOut_111 : decode m_X10_worksOut.2.1 111 = .ok (.invokevirtual 130, 3) := by decide +kernel
theorem d_X10_worksOut_114 : decode m_X10_worksOut.2.1 114 = .ok (.bipush 39, 2) := by decide +kernel
theorem d_X10_worksOut_116 : decode m_X10_worksOut.2.1 116 = .ok (.if_icmp .ne 7, 3) := by decide +kernel
theorem d_X10_worksOut_119 : decode m_X10_worksOut.2.1 119 = .ok (.iconst 1, 1) := by decide +kernel
theorem d_X10_worksOut_120 : decode m_X10_worksOut.2.1 120 = .ok (.goto 4, 3) := by decide +kernel
theorem d_X10_worksOut_123 : decode m_X10_worksOut.2.1 123 = .ok (.iconst 0, 1) := by decide +kernel
theorem d_X10_worksOut_124 : decode m_X10_worksOut.2.1 124 = .ok (.istore 8, 2) := by decide +kernel
theorem d_X10_worksOut_126 : decode m_X10_worksOut.2.1 126 = .ok (.iload 8, 2) := by decide +kernel
theorem d_X10_worksOut_128 : decode m_X10_worksOut.2.1 128 = .ok (.ifCond .eq 10, 3) := by decide +kernel
theorem d_X10_worksOut_131 : decode m_X10_worksOut.2.1 131 = .ok (.iload 4, 2) := by decide +kernel
theorem d_X10_worksOut_133 : decode m_X10_worksOut.2.1 133 = .ok (.iconst 2, 1) := by decide +kernel
theorem d_X10_worksOut_134 : decode m_X10_worksOut.2.1 134 = .ok (.iadd, 1) := by decide +kernel
theorem d_X10_worksOut_135 : decode m_X10_worksOut.2.1 135 = .ok (.goto 7, 3) := by decide +kernel
theorem d_X10_worksOut_138 : decode m_X10_worksOut.2.1 138 = .ok (.iload 4, 2) := by decide +kernel
theorem d_X10_worksOut_140 : decode m_X10_worksOut.2.1 140 = .ok (.iconst 1, 1) := by decide +kernel
theorem d_X10_worksOut_141 : decode m_X10_worksOut.2.1 141 = .ok (.iadd, 1) := by decide +kernel
theorem d_X10_worksOut_142 : decode m_X10_worksOut.2.1 142 = .ok (.istore 9, 2) := by decide +kernel
theorem d_X10_worksOut_144 : decode m_X10_worksOut.2.1 144 = .ok (.aload_n 0, 1) := by decide +kernel
theorem d_X10_worksOut_145 : decode m_X10_worksOut.2.1 145 = .ok (.iload_n 1, 1) := by decide +kernel
theorem d_X10_worksOut_146 : decode m_X10_worksOut.2.1 146 = .ok (.iload 9, 2) := by decide +kernel
theorem d_X10_worksOut_148 : decode m_X10_worksOut.2.1 148 = .ok (.invokevirtual 130, 3) := by decide +kernel
theorem d_X10_worksOut_151 : decode m_X10_worksOut.2.1 151 = .ok (.bipush 64, 2) := by decide +kernel
theorem d_X10_worksOut_153 : decode m_X10_worksOut.2.1 153 = .ok (.if_icmp .ne 7, 3) := by decide +kernel
theorem d_X10_worksOut_156 : decode m_X10_worksOut.2.1 156 = .ok (.iconst 1, 1) := by decide +kernel
theorem d_X10_worksOut_157 : decode m_X10_worksOut.2.1 157 = .ok (.goto 4, 3) := by decide +kernel
theorem d_X10_worksOut_160 : decode m_X10_worksOut.2.1 160 = .ok (.iconst 0, 1) := by decide +kernel
theorem d_X10_worksOut_161 : decode m_X10_worksOut.2.1 161 = .ok (.istore 10, 2) := by decide +kernel
theorem d_X10_worksOut_163 : decode m_X10_worksOut.2.1 163 = .ok (.iload 10, 2) := by decide +kernel
theorem d_X10_worksOut_165 : decode m_X10_worksOut.2.1 165 = .ok (.ifCond .eq 25, 3) := by decide +kernel
theorem d_X10_worksOut_168 : decode m_X10_worksOut.2.1 168 = .ok (.iload_n 2, 1) := by decide +kernel
theorem d_X10_worksOut_169 : decode m_X10_worksOut.2.1 169 = .ok (.aload_n 0, 1) := by decide +kernel
theorem d_X10_worksOut_170 : decode m_X10_worksOut.2.1 170 = .ok (.aload_n 0, 1) := by decide +kernel
theorem d_X10_worksOut_171 : decode m_X10_worksOut.2.1 171 = .ok (.iload_n 1, 1) := by decide +kernel
theorem d_X10_worksOut_172 : decode m_X10_worksOut.2.1 172 = .ok (.iload 9, 2) := by decide +kernel
theorem d_X10_worksOut_174 : decode m_X10_worksOut.2.1 174 = .ok (.iconst 1, 1) := by decide +kernel
theorem d_X10_worksOut_175 : decode m_X10_worksOut.2.1 175 = .ok (.iadd, 1) := by decide +kernel
theorem d_X10_worksOut_176 : decode m_X10_worksOut.2.1 176 = .ok (.invokevirtual 130, 3) := by decide +kernel
theorem d_X10_worksOut_179 : decode m_X10_worksOut.2.1 179 = .ok (.bipush 48, 2) := by decide +kernel
theorem d_X10_worksOut_181 : decode m_X10_worksOut.2.1 181 = .ok (.isub, 1) := by decide +kernel
theorem d_X10_worksOut_182 : decode m_X10_worksOut.2.1 182 = .ok (.iload_n 2, 1) := by decide +kernel
theorem d_X10_worksOut_183 : decode m_X10_worksOut.2.1 183 = .ok (.invokevirtual 153, 3) := by decide +kernel
theorem d_X10_worksOut_186 : decode m_X10_worksOut.2.1 186 = .ok (.isub, 1) := by decide +kernel
theorem d_X10_worksOut_187 : decode m_X10_worksOut.2.1 187 = .ok (.goto 4, 3) := by decide +kernel
theorem d_X10_worksOut_190 : decode m_X10_worksOut.2.1 190 = .ok (.iload_n 2, 1) := by decide +kernel
theorem d_X10_worksOut_191 : decode m_X10_worksOut.2.1 191 = .ok (.istore 11, 2) := by decide +kernel
theorem d_X10_worksOut_193 : decode m_X10_worksOut.2.1 193 = .ok (.aload_n 0, 1) := by decide +kernel
theorem d_X10_worksOut_194 : decode m_X10_worksOut.2.1 194 = .ok (.iload 8, 2) := by decide +kernel
theorem d_X10_worksOut_196 : decode m_X10_worksOut.2.1 196 = .ok (.ifCond .eq 17, 3) := by decide +kernel
theorem d_X10_worksOut_199 : decode m_X10_worksOut.2.1 199 = .ok (.aload_n 0, 1) := by decide +kernel
theorem d_X10_worksOut_200 : decode m_X10_worksOut.2.1 200 = .ok (.iload 5, 2) := by decide +kernel
theorem d_X10_worksOut_202 : decode m_X10_worksOut.2.1 202 = .ok (.bipush 120, 2) := by decide +kernel
theorem d_X10_worksOut_204 : decode m_X10_worksOut.2.1 204 = .ok (.isub, 1) := by decide +kernel
theorem d_X10_worksOut_205 : decode m_X10_worksOut.2.1 205 = .ok (.iload 11, 2) := by decide +kernel
theorem d_X10_worksOut_207 : decode m_X10_worksOut.2.1 207 = .ok (.invokevirtual 249, 3) := by decide +kernel
theorem d_X10_worksOut_210 : decode m_X10_worksOut.2.1 210 = .ok (.goto 14, 3) := by decide +kernel
theorem d_X10_worksOut_213 : decode m_X10_worksOut.2.1 213 = .ok (.aload_n 0, 1) := by decide +kernel
theorem d_X10_worksOut_214 : decode m_X10_worksOut.2.1 214 = .ok (.iload 5, 2) := by decide +kernel
theorem d_X10_worksOut_216 : decode m_X10_worksOut.2.1 216 = .ok (.bipush 120, 2) := by decide +kernel
theorem d_X10_worksOut_218 : decode m_X10_worksOut.2.1 218 = .ok (.isub, 1) := by decide +kernel
theorem d_X10_worksOut_219 : decode m_X10_worksOut.2.1 219 = .ok (.iload 11, 2) := by decide +kernel
theorem d_X10_worksOut_221 : decode m_X10_worksOut.2.1 221 = .ok (.invokevirtual 252, 3) := by decide +kernel
theorem d_X10_worksOut_224 : decode m_X10_worksOut.2.1 224 = .ok (.invokevirtual 242, 3) := by decide +kernel
theorem d_X10_worksOut_227 : decode m_X10_worksOut.2.1 227 = .ok (.iload 10, 2) := by decide +kernel
theorem d_X10_worksOut_229 : decode m_X10_worksOut.2.1 229 = .ok (.ifCond .eq 10, 3) := by decide +kernel
theorem d_X10_worksOut_232 : decode m_X10_worksOut.2.1 232 = .ok (.iload 9, 2) := by decide +kernel
theorem d_X10_worksOut_234 : decode m_X10_worksOut.2.1 234 = .ok (.iconst 2, 1) := by decide +kernel
theorem d_X10_worksOut_235 : decode m_X10_worksOut.2.1 235 = .ok (.iadd, 1) := by decide +kernel
theorem d_X10_worksOut_236 : decode m_X10_worksOut.2.1 236 = .ok (.goto 7, 3) := by decide +kernel
theorem d_X10_worksOut_239 : decode m_X10_worksOut.2.1 239 = .ok (.iload 4, 2) := by decide +kernel
theorem d_X10_worksOut_241 : decode m_X10_worksOut.2.1 241 = .ok (.iconst 1, 1) := by decide +kernel
theorem d_X10_worksOut_242 : decode m_X10_worksOut.2.1 242 = .ok (.iadd, 1) := by decide +kernel
theorem d_X10_worksOut_243 : decode m_X10_worksOut.2.1 243 = .ok (.istore 6, 2) := by decide +kernel
theorem d_X10_worksOut_245 : decode m_X10_worksOut.2.1 245 = .ok (.goto 66, 3) := by decide +kernel
theorem d_X10_worksOut_248 : decode m_X10_worksOut.2.1 248 = .ok (.iload 5, 2) := by decide +kernel
theorem d_X10_worksOut_250 : decode m_X10_worksOut.2.1 250 = .ok (.bipush 41, 2) := by decide +kernel
theorem d_X10_worksOut_252 : decode m_X10_worksOut.2.1 252 = .ok (.if_icmp .ne 10, 3) := by decide +kernel
theorem d_X10_worksOut_255 : decode m_X10_worksOut.2.1 255 = .ok (.aload_n 0, 1) := by decide +kernel
theorem d_X10_worksOut_256 : decode m_X10_worksOut.2.1 256 = .ok (.invokevirtual 255, 3) := by decide +kernel
theorem d_X10_worksOut_259 : decode m_X10_worksOut.2.1 259 = .ok (.goto 52, 3) := by decide +kernel
theorem d_X10_worksOut_262 : decode m_X10_worksOut.2.1 262 = .ok (.iconst 0, 1) := by decide +kernel
theorem d_X10_worksOut_263 : decode m_X10_worksOut.2.1 263 = .ok (.istore 7, 2) := by decide +kernel
theorem d_X10_worksOut_265 : decode m_X10_worksOut.2.1 265 = .ok (.iload 5, 2) := by decide +kernel
theorem d_X10_worksOut_267 : decode m_X10_worksOut.2.1 267 = .ok (.bipush 109, 2) := by decide +kernel
theorem d_X10_worksOut_269 : decode m_X10_worksOut.2.1 269 = .ok (.if_icmp .ne 10, 3) := by decide +kernel
theorem d_X10_worksOut_272 : decode m_X10_worksOut.2.1 272 = .ok (.iload 4, 2) := by decide +kernel
theorem d_X10_worksOut_274 : decode m_X10_worksOut.2.1 274 = .ok (.iconst 4, 1) := by decide +kernel
theorem d_X10_worksOut_275 : decode m_X10_worksOut.2.1 275 = .ok (.iadd, 1) := by decide +kernel
theorem d_X10_worksOut_276 : decode m_X10_worksOut.2.1 276 = .ok (.goto 7, 3) := by decide +kernel
theorem d_X10_worksOut_279 : decode m_X10_worksOut.2.1 279 = .ok (.iload 4, 2) := by decide +kernel
theorem d_X10_worksOut_281 : decode m_X10_worksOut.2.1 281 = .ok (.iconst 1, 1) := by decide +kernel
theorem d_X10_worksOut_282 : decode m_X10_worksOut.2.1 282 = .ok (.iadd, 1) := by decide +kernel
theorem d_X10_worksOut_283 : decode m_X10_worksOut.2.1 283 = .ok (.istore 6, 2) := by decide +kernel
theorem d_X10_worksOut_285 : decode m_X10_worksOut.2.1 285 = .ok (.aload_n 0, 1) := by decide +kernel
theorem d_X10_worksOut_286 : decode m_X10_worksOut.2.1 286 = .ok (.iload 5, 2) := by decide +kernel
theorem d_X10_worksOut_288 : decode m_X10_worksOut.2.1 288 = .ok (.bipush 109, 2) := by decide +kernel
theorem d_X10_worksOut_290 : decode m_X10_worksOut.2.1 290 = .ok (.if_icmp .ne 15, 3) := by decide +kernel
theorem d_X10_worksOut_293 : decode m_X10_worksOut.2.1 293 = .ok (.aload_n 0, 1) := by decide +kernel
theorem d_X10_worksOut_294 : decode m_X10_worksOut.2.1 294 = .ok (.iload_n 1, 1) := by decide +kernel
theorem d_X10_worksOut_295 : decode m_X10_worksOut.2.1 295 = .ok (.iload 4, 2) := by decide +kernel
theorem d_X10_worksOut_297 : decode m_X10_worksOut.2.1 297 = .ok (.iconst 1, 1) := by decide +kernel
theorem d_X10_worksOut_298 : decode m_X10_worksOut.2.1 298 = .ok (.iadd, 1) := by decide +kernel
theorem d_X10_worksOut_299 : decode m_X10_worksOut.2.1 299 = .ok (.invokevirtual 130, 3) := by decide +kernel
theorem d_X10_worksOut_302 : decode m_X10_worksOut.2.1 302 = .ok (.goto 5, 3) := by decide +kernel
theorem d_X10_worksOut_305 : decode m_X10_worksOut.2.1 305 = .ok (.iload 5, 2) := by decide +kernel
theorem d_X10_worksOut_307 : decode m_X10_worksOut.2.1 307 = .ok (.iload_n 3, 1) := by decide +kernel
theorem d_X10_worksOut_308 : decode m_X10_worksOut.2.1 308 = .ok (.invokevirtual 258, 3) := by decide +kernel
theorem d_X10_worksOut_311 : decode m_X10_worksOut.2.1 311 = .ok (.iload 7, 2) := by decide +kernel
theorem d_X10_worksOut_313 : decode m_X10_worksOut.2.1 313 = .ok (.ifCond .ne 7, 3) := by decide +kernel
theorem d_X10_worksOut_316 : decode m_X10_worksOut.2.1 316 = .ok (.iconst 1, 1) := by decide +kernel
theorem d_X10_worksOut_317 : decode m_X10_worksOut.2.1 317 = .ok (.goto 4, 3) := by decide +kernel
theorem d_X10_worksOut_320 : decode m_X10_worksOut.2.1 320 = .ok (.iconst 0, 1) := by decide +kernel
theorem d_X10_worksOut_321 : decode m_X10_worksOut.2.1 321 = .ok (.istore_n 3, 1) := by decide +kernel
theorem d_X10_worksOut_322 : decode m_X10_worksOut.2.1 322 = .ok (.iload 6, 2) := by decide +kernel
theorem d_X10_worksOut_324 : decode m_X10_worksOut.2.1 324 = .ok (.istore 4, 2) := by decide +kernel
theorem d_X10_worksOut_326 : decode m_X10_worksOut.2.1 326 = .ok (.goto (-311), 3) := by decide +kernel
theorem d_X10_worksOut_329 : decode m_X10_worksOut.2.1 329 = .ok (.aload_n 0, 1) := by decide +kernel
theorem d_X10_worksOut_330 : decode m_X10_worksOut.2.1 330 = .ok (.iconst 1, 1) := by decide +kernel
theorem d_X10_worksOut_331 : decode m_X10_worksOut.2.1 331 = .ok (.invokevirtual 231, 3) := by decide +kernel
theorem d_X10_worksOut_334 : decode m_X10_worksOut.2.1 334 = .ok (.aload_n 0, 1) := by decide +kernel
theorem d_X10_worksOut_335 : decode m_X10_worksOut.2.1 335 = .ok (.getfield 68, 3) := by decide +kernel
theorem d_X10_worksOut_338 : decode m_X10_worksOut.2.1 338 = .ok (.iconst 0, 1) := by decide +kernel
theorem d_X10_worksOut_339 : decode m_X10_worksOut.2.1 339 = .ok (.laload, 1) := by decide +kernel
theorem d_X10_worksOut_340 : decode m_X10_worksOut.2.1 340 = .ok (.lreturn, 1) := by decide +kernel
theorem d_X10_opens_0 : decode m_X10_opens.2.1 0 = .ok (.iload_n 1, 1) := by decide +kernel
theorem d_X10_opens_1 : decode m_X10_opens.2.1 1 = .ok (.bipush 40, 2) := by decide +kernel
theorem d_X10_opens_3 : decode m_X10_opens.2.1 3 = .ok (.if_icmp .eq 15, 3) := by decide +kernel
theorem d_X10_opens_6 : decode m_X10_opens.2.1 6 = .ok (.iload_n 1, 1) := by decide +kernel
theorem d_X10_opens_7 : decode m_X10_opens.2.1 7 = .ok (.bipush 105, 2) := by decide +kernel
theorem d_X10_opens_9 : decode m_X10_opens.2.1 9 = .ok (.if_icmp .eq 9, 3) := by decide +kernel
theorem d_X10_opens_12 : decode m_X10_opens.2.1 12 = .ok (.iload_n 1, 1) := by decide +kernel
theorem d_X10_opens_13 : decode m_X10_opens.2.1 13 = .ok (.bipush 97, 2) := by decide +kernel
theorem d_X10_opens_15 : decode m_X10_opens.2.1 15 = .ok (.if_icmp .ne 11, 3) := by decide +kernel
theorem d_X10_opens_18 : decode m_X10_opens.2.1 18 = .ok (.aload_n 0, 1) := by decide +kernel
theorem d_X10_opens_19 : decode m_X10_opens.2.1 19 = .ok (.iload_n 1, 1) := by decide +kernel
theorem d_X10_opens_20 : decode m_X10_opens.2.1 20 = .ok (.invokevirtual 262, 3) := by decide +kernel
theorem d_X10_opens_23 : decode m_X10_opens.2.1 23 = .ok (.goto 48, 3) := by decide +kernel
theorem d_X10_opens_26 : decode m_X10_opens.2.1 26 = .ok (.iload_n 1, 1) := by decide +kernel
theorem d_X10_opens_27 : decode m_X10_opens.2.1 27 = .ok (.bipush 44, 2) := by decide +kernel
theorem d_X10_opens_29 : decode m_X10_opens.2.1 29 = .ok (.if_icmp .ne 16, 3) := by decide +kernel
theorem d_X10_opens_32 : decode m_X10_opens.2.1 32 = .ok (.aload_n 0, 1) := by decide +kernel
theorem d_X10_opens_33 : decode m_X10_opens.2.1 33 = .ok (.iconst 1, 1) := by decide +kernel
theorem d_X10_opens_34 : decode m_X10_opens.2.1 34 = .ok (.invokevirtual 231, 3) := by decide +kernel
theorem d_X10_opens_37 : decode m_X10_opens.2.1 37 = .ok (.aload_n 0, 1) := by decide +kernel
theorem d_X10_opens_38 : decode m_X10_opens.2.1 38 = .ok (.iload_n 1, 1) := by decide +kernel
theorem d_X10_opens_39 : decode m_X10_opens.2.1 39 = .ok (.invokevirtual 262, 3) := by decide +kernel
theorem d_X10_opens_42 : decode m_X10_opens.2.1 42 = .ok (.goto 29, 3) := by decide +kernel
theorem d_X10_opens_45 : decode m_X10_opens.2.1 45 = .ok (.iload_n 2, 1) := by decide +kernel
theorem d_X10_opens_46 : decode m_X10_opens.2.1 46 = .ok (.ifCond .eq 12, 3) := by decide +kernel
theorem d_X10_opens_49 : decode m_X10_opens.2.1 49 = .ok (.aload_n 0, 1) := by decide +kernel
theorem d_X10_opens_50 : decode m_X10_opens.2.1 50 = .ok (.bipush 126, 2) := by decide +kernel
theorem d_X10_opens_52 : decode m_X10_opens.2.1 52 = .ok (.invokevirtual 262, 3) := by decide +kernel
theorem d_X10_opens_55 : decode m_X10_opens.2.1 55 = .ok (.goto 16, 3) := by decide +kernel
theorem d_X10_opens_58 : decode m_X10_opens.2.1 58 = .ok (.aload_n 0, 1) := by decide +kernel
theorem d_X10_opens_59 : decode m_X10_opens.2.1 59 = .ok (.iload_n 1, 1) := by decide +kernel
theorem d_X10_opens_60 : decode m_X10_opens.2.1 60 = .ok (.invokestatic 222, 3) := by decide +kernel
theorem d_X10_opens_63 : decode m_X10_opens.2.1 63 = .ok (.invokevirtual 231, 3) := by decide +kernel
theorem d_X10_opens_66 : decode m_X10_opens.2.1 66 = .ok (.aload_n 0, 1) := by decide +kernel
theorem d_X10_opens_67 : decode m_X10_opens.2.1 67 = .ok (.iload_n 1, 1) := by decide +kernel
theorem d_X10_opens_68 : decode m_X10_opens.2.1 68 = .ok (.invokevirtual 262, 3) := by decide +kernel
theorem d_X10_opens_71 : decode m_X10_opens.2.1 71 = .ok (.return_, 1) := by decide +kernel
theorem d_X10_solvesAll_0 : decode m_X10_solvesAll.2.1 0 = .ok (.aload_n 0, 1) := by decide +kernel
theorem d_X10_solvesAll_1 : decode m_X10_solvesAll.2.1 1 = .ok (.invokevirtual 265, 3) := by decide +kernel
theorem d_X10_solvesAll_4 : decode m_X10_solvesAll.2.1 4 = .ok (.aload_n 0, 1) := by decide +kernel
theorem d_X10_solvesAll_5 : decode m_X10_solvesAll.2.1 5 = .ok (.iconst 0, 1) := by decide +kernel
theorem d_X10_solvesAll_6 : decode m_X10_solvesAll.2.1 6 = .ok (.putfield 178, 3) := by decide +kernel
theorem d_X10_solvesAll_9 : decode m_X10_solvesAll.2.1 9 = .ok (.aload_n 0, 1) := by decide +kernel
theorem d_X10_solvesAll_10 : decode m_X10_solvesAll.2.1 10 = .ok (.iconst 0, 1) := by decide +kernel
theorem d_X10_solvesAll_11 : decode m_X10_solvesAll.2.1 11 = .ok (.putfield 91, 3) := by decide +kernel
theorem d_X10_solvesAll_14 : decode m_X10_solvesAll.2.1 14 = .ok (.iconst 0, 1) := by decide +kernel
theorem d_X10_solvesAll_15 : decode m_X10_solvesAll.2.1 15 = .ok (.istore_n 1, 1) := by decide +kernel
theorem d_X10_solvesAll_16 : decode m_X10_solvesAll.2.1 16 = .ok (.iload_n 1, 1) := by decide +kernel
theorem d_X10_solvesAll_17 : decode m_X10_solvesAll.2.1 17 = .ok (.aload_n 0, 1) := by decide +kernel
theorem d_X10_solvesAll_18 : decode m_X10_solvesAll.2.1 18 = .ok (.getfield 7, 3) := by decide +kernel
theorem d_X10_solvesAll_21 : decode m_X10_solvesAll.2.1 21 = .ok (.sipush 291, 3) := by decide +kernel
theorem d_X10_solvesAll_24 : decode m_X10_solvesAll.2.1 24 = .ok (.iaload, 1) := by decide +kernel
theorem d_X10_solvesAll_25 : decode m_X10_solvesAll.2.1 25 = .ok (.if_icmp .ge 23, 3) := by decide +kernel
theorem d_X10_solvesAll_28 : decode m_X10_solvesAll.2.1 28 = .ok (.aload_n 0, 1) := by decide +kernel
theorem d_X10_solvesAll_29 : decode m_X10_solvesAll.2.1 29 = .ok (.aload_n 0, 1) := by decide +kernel
theorem d_X10_solvesAll_30 : decode m_X10_solvesAll.2.1 30 = .ok (.getfield 7, 3) := by decide +kernel
theorem d_X10_solvesAll_33 : decode m_X10_solvesAll.2.1 33 = .ok (.sipush 292, 3) := by decide +kernel
theorem d_X10_solvesAll_36 : decode m_X10_solvesAll.2.1 36 = .ok (.iload_n 1, 1) := by decide +kernel
theorem d_X10_solvesAll_37 : decode m_X10_solvesAll.2.1 37 = .ok (.iadd, 1) := by decide +kernel
theorem d_X10_solvesAll_38 : decode m_X10_solvesAll.2.1 38 = .ok (.iaload, 1) := by decide +kernel
theorem d_X10_solvesAll_39 : decode m_X10_solvesAll.2.1 39 = .ok (.invokevirtual 268, 3) := by decide +kernel
theorem d_X10_solvesAll_42 : decode m_X10_solvesAll.2.1 42 = .ok (.iinc 1 1, 3) := by decide +kernel
theorem d_X10_solvesAll_45 : decode m_X10_solvesAll.2.1 45 = .ok (.goto (-29), 3) := by decide +kernel
theorem d_X10_solvesAll_48 : decode m_X10_solvesAll.2.1 48 = .ok (.return_, 1) := by decide +kernel
theorem d_X10_goesTo_0 : decode m_X10_goesTo.2.1 0 = .ok (.aload_n 0, 1) := by decide +kernel
theorem d_X10_goesTo_1 : decode m_X10_goesTo.2.1 1 = .ok (.getfield 91, 3) := by decide +kernel
theorem d_X10_goesTo_4 : decode m_X10_goesTo.2.1 4 = .ok (.iload_n 1, 1) := by decide +kernel
theorem d_X10_goesTo_5 : decode m_X10_goesTo.2.1 5 = .ok (.if_icmp .ge 99, 3) := by decide +kernel
theorem d_X10_goesTo_8 : decode m_X10_goesTo.2.1 8 = .ok (.aload_n 0, 1) := by decide +kernel
theorem d_X10_goesTo_9 : decode m_X10_goesTo.2.1 9 = .ok (.getfield 7, 3) := by decide +kernel
theorem d_X10_goesTo_12 : decode m_X10_goesTo.2.1 12 = .ok (.iconst 0, 1) := by decide +kernel
theorem d_X10_goesTo_13 : decode m_X10_goesTo.2.1 13 = .ok (.iaload, 1) := by decide +kernel
theorem d_X10_goesTo_14 : decode m_X10_goesTo.2.1 14 = .ok (.istore_n 2, 1) := by decide +kernel
theorem d_X10_goesTo_15 : decode m_X10_goesTo.2.1 15 = .ok (.iload_n 1, 1) := by decide +kernel
theorem d_X10_goesTo_16 : decode m_X10_goesTo.2.1 16 = .ok (.aload_n 0, 1) := by decide +kernel
theorem d_X10_goesTo_17 : decode m_X10_goesTo.2.1 17 = .ok (.getfield 91, 3) := by decide +kernel
theorem d_X10_goesTo_20 : decode m_X10_goesTo.2.1 20 = .ok (.isub, 1) := by decide +kernel
theorem d_X10_goesTo_21 : decode m_X10_goesTo.2.1 21 = .ok (.iload_n 2, 1) := by decide +kernel
theorem d_X10_goesTo_22 : decode m_X10_goesTo.2.1 22 = .ok (.if_icmp .ge 12, 3) := by decide +kernel
theorem d_X10_goesTo_25 : decode m_X10_goesTo.2.1 25 = .ok (.iload_n 1, 1) := by decide +kernel
theorem d_X10_goesTo_26 : decode m_X10_goesTo.2.1 26 = .ok (.aload_n 0, 1) := by decide +kernel
theorem d_X10_goesTo_27 : decode m_X10_goesTo.2.1 27 = .ok (.getfield 91, 3) := by decide +kernel
theorem d_X10_goesTo_30 : decode m_X10_goesTo.2.1 30 = .ok (.isub, 1) := by decide +kernel
theorem d_X10_goesTo_31 : decode m_X10_goesTo.2.1 31 = .ok (.goto 4, 3) := by decide +kernel
theorem d_X10_goesTo_34 : decode m_X10_goesTo.2.1 34 = .ok (.iload_n 2, 1) := by decide +kernel
theorem d_X10_goesTo_35 : decode m_X10_goesTo.2.1 35 = .ok (.istore_n 2, 1) := by decide +kernel
theorem d_X10_goesTo_36 : decode m_X10_goesTo.2.1 36 = .ok (.aload_n 0, 1) := by decide +kernel
theorem d_X10_goesTo_37 : decode m_X10_goesTo.2.1 37 = .ok (.aload_n 0, 1) := by decide +kernel
theorem d_X10_goesTo_38 : decode m_X10_goesTo.2.1 38 = .ok (.getfield 91, 3) := by decide +kernel
theorem d_X10_goesTo_41 : decode m_X10_goesTo.2.1 41 = .ok (.invokevirtual 271, 3) := by decide +kernel
theorem d_X10_goesTo_44 : decode m_X10_goesTo.2.1 44 = .ok (.aload_n 0, 1) := by decide +kernel
theorem d_X10_goesTo_45 : decode m_X10_goesTo.2.1 45 = .ok (.getfield 91, 3) := by decide +kernel
theorem d_X10_goesTo_48 : decode m_X10_goesTo.2.1 48 = .ok (.isub, 1) := by decide +kernel
theorem d_X10_goesTo_49 : decode m_X10_goesTo.2.1 49 = .ok (.iload_n 2, 1) := by decide +kernel
theorem d_X10_goesTo_50 : decode m_X10_goesTo.2.1 50 = .ok (.if_icmp .ge 34, 3) := by decide +kernel
theorem d_X10_goesTo_53 : decode m_X10_goesTo.2.1 53 = .ok (.aload_n 0, 1) := by decide +kernel
theorem d_X10_goesTo_54 : decode m_X10_goesTo.2.1 54 = .ok (.aload_n 0, 1) := by decide +kernel
theorem d_X10_goesTo_55 : decode m_X10_goesTo.2.1 55 = .ok (.getfield 91, 3) := by decide +kernel
theorem d_X10_goesTo_58 : decode m_X10_goesTo.2.1 58 = .ok (.invokevirtual 271, 3) := by decide +kernel
theorem d_X10_goesTo_61 : decode m_X10_goesTo.2.1 61 = .ok (.aload_n 0, 1) := by decide +kernel
theorem d_X10_goesTo_62 : decode m_X10_goesTo.2.1 62 = .ok (.getfield 91, 3) := by decide +kernel
theorem d_X10_goesTo_65 : decode m_X10_goesTo.2.1 65 = .ok (.if_icmp .le 19, 3) := by decide +kernel
theorem d_X10_goesTo_68 : decode m_X10_goesTo.2.1 68 = .ok (.aload_n 0, 1) := by decide +kernel
theorem d_X10_goesTo_69 : decode m_X10_goesTo.2.1 69 = .ok (.aload_n 0, 1) := by decide +kernel
theorem d_X10_goesTo_70 : decode m_X10_goesTo.2.1 70 = .ok (.getfield 91, 3) := by decide +kernel
theorem d_X10_goesTo_73 : decode m_X10_goesTo.2.1 73 = .ok (.invokevirtual 271, 3) := by decide +kernel
theorem d_X10_goesTo_76 : decode m_X10_goesTo.2.1 76 = .ok (.aload_n 0, 1) := by decide +kernel
theorem d_X10_goesTo_77 : decode m_X10_goesTo.2.1 77 = .ok (.getfield 91, 3) := by decide +kernel
theorem d_X10_goesTo_80 : decode m_X10_goesTo.2.1 80 = .ok (.isub, 1) := by decide +kernel
theorem d_X10_goesTo_81 : decode m_X10_goesTo.2.1 81 = .ok (.goto 4, 3) := by decide +kernel
theorem d_X10_goesTo_84 : decode m_X10_goesTo.2.1 84 = .ok (.iload_n 2, 1) := by decide +kernel
theorem d_X10_goesTo_85 : decode m_X10_goesTo.2.1 85 = .ok (.istore_n 2, 1) := by decide +kernel
theorem d_X10_goesTo_86 : decode m_X10_goesTo.2.1 86 = .ok (.aload_n 0, 1) := by decide +kernel
theorem d_X10_goesTo_87 : decode m_X10_goesTo.2.1 87 = .ok (.iload_n 2, 1) := by decide +kernel
theorem d_X10_goesTo_88 : decode m_X10_goesTo.2.1 88 = .ok (.invokevirtual 274, 3) := by decide +kernel
theorem d_X10_goesTo_91 : decode m_X10_goesTo.2.1 91 = .ok (.aload_n 0, 1) := by decide +kernel
theorem d_X10_goesTo_92 : decode m_X10_goesTo.2.1 92 = .ok (.dup, 1) := by decide +kernel
theorem d_X10_goesTo_93 : decode m_X10_goesTo.2.1 93 = .ok (.getfield 91, 3) := by decide +kernel
theorem d_X10_goesTo_96 : decode m_X10_goesTo.2.1 96 = .ok (.iload_n 2, 1) := by decide +kernel
theorem d_X10_goesTo_97 : decode m_X10_goesTo.2.1 97 = .ok (.iadd, 1) := by decide +kernel
theorem d_X10_goesTo_98 : decode m_X10_goesTo.2.1 98 = .ok (.putfield 91, 3) := by decide +kernel
theorem d_X10_goesTo_101 : decode m_X10_goesTo.2.1 101 = .ok (.goto (-101), 3) := by decide +kernel
theorem d_X10_goesTo_104 : decode m_X10_goesTo.2.1 104 = .ok (.return_, 1) := by decide +kernel
theorem d_X10_needsRounds_0 : decode m_X10_needsRounds.2.1 0 = .ok (.iconst 0, 1) := by decide +kernel
theorem d_X10_needsRounds_1 : decode m_X10_needsRounds.2.1 1 = .ok (.istore_n 3, 1) := by decide +kernel
theorem d_X10_needsRounds_2 : decode m_X10_needsRounds.2.1 2 = .ok (.iconst 0, 1) := by decide +kernel
theorem d_X10_needsRounds_3 : decode m_X10_needsRounds.2.1 3 = .ok (.istore 4, 2) := by decide +kernel
theorem d_X10_needsRounds_5 : decode m_X10_needsRounds.2.1 5 = .ok (.iload 4, 2) := by decide +kernel
theorem d_X10_needsRounds_7 : decode m_X10_needsRounds.2.1 7 = .ok (.iconst 3, 1) := by decide +kernel
theorem d_X10_needsRounds_8 : decode m_X10_needsRounds.2.1 8 = .ok (.if_icmp .ge 69, 3) := by decide +kernel
theorem d_X10_needsRounds_11 : decode m_X10_needsRounds.2.1 11 = .ok (.aload_n 0, 1) := by decide +kernel
theorem d_X10_needsRounds_12 : decode m_X10_needsRounds.2.1 12 = .ok (.invokevirtual 162, 3) := by decide +kernel
theorem d_X10_needsRounds_15 : decode m_X10_needsRounds.2.1 15 = .ok (.iload 4, 2) := by decide +kernel
theorem d_X10_needsRounds_17 : decode m_X10_needsRounds.2.1 17 = .ok (.ishr, 1) := by decide +kernel
theorem d_X10_needsRounds_18 : decode m_X10_needsRounds.2.1 18 = .ok (.iconst 1, 1) := by decide +kernel
theorem d_X10_needsRounds_19 : decode m_X10_needsRounds.2.1 19 = .ok (.iand, 1) := by decide +kernel
theorem d_X10_needsRounds_20 : decode m_X10_needsRounds.2.1 20 = .ok (.iconst 1, 1) := by decide +kernel
theorem d_X10_needsRounds_21 : decode m_X10_needsRounds.2.1 21 = .ok (.if_icmp .ne 7, 3) := by decide +kernel
theorem d_X10_needsRounds_24 : decode m_X10_needsRounds.2.1 24 = .ok (.iconst 1, 1) := by decide +kernel
theorem d_X10_needsRounds_25 : decode m_X10_needsRounds.2.1 25 = .ok (.goto 4, 3) := by decide +kernel
theorem d_X10_needsRounds_28 : decode m_X10_needsRounds.2.1 28 = .ok (.iconst 0, 1) := by decide +kernel
theorem d_X10_needsRounds_29 : decode m_X10_needsRounds.2.1 29 = .ok (.istore 5, 2) := by decide +kernel
theorem d_X10_needsRounds_31 : decode m_X10_needsRounds.2.1 31 = .ok (.iload_n 3, 1) := by decide +kernel
theorem d_X10_needsRounds_32 : decode m_X10_needsRounds.2.1 32 = .ok (.ifCond .ne 33, 3) := by decide +kernel
theorem d_X10_needsRounds_35 : decode m_X10_needsRounds.2.1 35 = .ok (.iload 5, 2) := by decide +kernel
theorem d_X10_needsRounds_37 : decode m_X10_needsRounds.2.1 37 = .ok (.ifCond .eq 32, 3) := by decide +kernel
theorem d_X10_needsRounds_40 : decode m_X10_needsRounds.2.1 40 = .ok (.aload_n 0, 1) := by decide +kernel
theorem d_X10_needsRounds_41 : decode m_X10_needsRounds.2.1 41 = .ok (.iload 4, 2) := by decide +kernel
theorem d_X10_needsRounds_43 : decode m_X10_needsRounds.2.1 43 = .ok (.iload_n 1, 1) := by decide +kernel
theorem d_X10_needsRounds_44 : decode m_X10_needsRounds.2.1 44 = .ok (.iload_n 2, 1) := by decide +kernel
theorem d_X10_needsRounds_45 : decode m_X10_needsRounds.2.1 45 = .ok (.iadd, 1) := by decide +kernel
theorem d_X10_needsRounds_46 : decode m_X10_needsRounds.2.1 46 = .ok (.invokevirtual 153, 3) := by decide +kernel
theorem d_X10_needsRounds_49 : decode m_X10_needsRounds.2.1 49 = .ok (.iload_n 2, 1) := by decide +kernel
theorem d_X10_needsRounds_50 : decode m_X10_needsRounds.2.1 50 = .ok (.if_icmp .ge 19, 3) := by decide +kernel
theorem d_X10_needsRounds_53 : decode m_X10_needsRounds.2.1 53 = .ok (.aload_n 0, 1) := by decide +kernel
theorem d_X10_needsRounds_54 : decode m_X10_needsRounds.2.1 54 = .ok (.iload 4, 2) := by decide +kernel
theorem d_X10_needsRounds_56 : decode m_X10_needsRounds.2.1 56 = .ok (.iload_n 1, 1) := by decide +kernel
theorem d_X10_needsRounds_57 : decode m_X10_needsRounds.2.1 57 = .ok (.iload_n 2, 1) := by decide +kernel
theorem d_X10_needsRounds_58 : decode m_X10_needsRounds.2.1 58 = .ok (.iadd, 1) := by decide +kernel
theorem d_X10_needsRounds_59 : decode m_X10_needsRounds.2.1 59 = .ok (.invokevirtual 153, 3) := by decide +kernel
theorem d_X10_needsRounds_62 : decode m_X10_needsRounds.2.1 62 = .ok (.ifCond .eq 7, 3) := by decide +kernel
theorem d_X10_needsRounds_65 : decode m_X10_needsRounds.2.1 65 = .ok (.iconst 1, 1) := by decide +kernel
theorem d_X10_needsRounds_66 : decode m_X10_needsRounds.2.1 66 = .ok (.goto 4, 3) := by decide +kernel
theorem d_X10_needsRounds_69 : decode m_X10_needsRounds.2.1 69 = .ok (.iconst 0, 1) := by decide +kernel
theorem d_X10_needsRounds_70 : decode m_X10_needsRounds.2.1 70 = .ok (.istore_n 3, 1) := by decide +kernel
theorem d_X10_needsRounds_71 : decode m_X10_needsRounds.2.1 71 = .ok (.iinc 4 1, 3) := by decide +kernel
theorem d_X10_needsRounds_74 : decode m_X10_needsRounds.2.1 74 = .ok (.goto (-69), 3) := by decide +kernel
theorem d_X10_needsRounds_77 : decode m_X10_needsRounds.2.1 77 = .ok (.iload_n 3, 1) := by decide +kernel
theorem d_X10_needsRounds_78 : decode m_X10_needsRounds.2.1 78 = .ok (.ireturn, 1) := by decide +kernel
theorem d_X10_guesses_0 : decode m_X10_guesses.2.1 0 = .ok (.aload_n 0, 1) := by decide +kernel
theorem d_X10_guesses_1 : decode m_X10_guesses.2.1 1 = .ok (.iconst 1, 1) := by decide +kernel
theorem d_X10_guesses_2 : decode m_X10_guesses.2.1 2 = .ok (.putfield 200, 3) := by decide +kernel
theorem d_X10_guesses_5 : decode m_X10_guesses.2.1 5 = .ok (.iconst 0, 1) := by decide +kernel
theorem d_X10_guesses_6 : decode m_X10_guesses.2.1 6 = .ok (.istore_n 3, 1) := by decide +kernel
theorem d_X10_guesses_7 : decode m_X10_guesses.2.1 7 = .ok (.iload_n 3, 1) := by decide +kernel
theorem d_X10_guesses_8 : decode m_X10_guesses.2.1 8 = .ok (.iconst 3, 1) := by decide +kernel
theorem d_X10_guesses_9 : decode m_X10_guesses.2.1 9 = .ok (.if_icmp .ge 23, 3) := by decide +kernel
theorem d_X10_guesses_12 : decode m_X10_guesses.2.1 12 = .ok (.aload_n 0, 1) := by decide +kernel
theorem d_X10_guesses_13 : decode m_X10_guesses.2.1 13 = .ok (.getfield 62, 3) := by decide +kernel
theorem d_X10_guesses_16 : decode m_X10_guesses.2.1 16 = .ok (.iload_n 3, 1) := by decide +kernel
theorem d_X10_guesses_17 : decode m_X10_guesses.2.1 17 = .ok (.aload_n 0, 1) := by decide +kernel
theorem d_X10_guesses_18 : decode m_X10_guesses.2.1 18 = .ok (.iload_n 3, 1) := by decide +kernel
theorem d_X10_guesses_19 : decode m_X10_guesses.2.1 19 = .ok (.iload_n 1, 1) := by decide +kernel
theorem d_X10_guesses_20 : decode m_X10_guesses.2.1 20 = .ok (.iload_n 2, 1) := by decide +kernel
theorem d_X10_guesses_21 : decode m_X10_guesses.2.1 21 = .ok (.iadd, 1) := by decide +kernel
theorem d_X10_guesses_22 : decode m_X10_guesses.2.1 22 = .ok (.invokevirtual 277, 3) := by decide +kernel
theorem d_X10_guesses_25 : decode m_X10_guesses.2.1 25 = .ok (.lastore, 1) := by decide +kernel
theorem d_X10_guesses_26 : decode m_X10_guesses.2.1 26 = .ok (.iinc 3 1, 3) := by decide +kernel
theorem d_X10_guesses_29 : decode m_X10_guesses.2.1 29 = .ok (.goto (-22), 3) := by decide +kernel
theorem d_X10_guesses_32 : decode m_X10_guesses.2.1 32 = .ok (.aload_n 0, 1) := by decide +kernel
theorem d_X10_guesses_33 : decode m_X10_guesses.2.1 33 = .ok (.iconst 0, 1) := by decide +kernel
theorem d_X10_guesses_34 : decode m_X10_guesses.2.1 34 = .ok (.putfield 200, 3) := by decide +kernel
theorem d_X10_guesses_37 : decode m_X10_guesses.2.1 37 = .ok (.iconst 0, 1) := by decide +kernel
theorem d_X10_guesses_38 : decode m_X10_guesses.2.1 38 = .ok (.istore_n 3, 1) := by decide +kernel
theorem d_X10_guesses_39 : decode m_X10_guesses.2.1 39 = .ok (.iload_n 3, 1) := by decide +kernel
theorem d_X10_guesses_40 : decode m_X10_guesses.2.1 40 = .ok (.iconst 3, 1) := by decide +kernel
theorem d_X10_guesses_41 : decode m_X10_guesses.2.1 41 = .ok (.if_icmp .ge 45, 3) := by decide +kernel
theorem d_X10_guesses_44 : decode m_X10_guesses.2.1 44 = .ok (.aload_n 0, 1) := by decide +kernel
theorem d_X10_guesses_45 : decode m_X10_guesses.2.1 45 = .ok (.getfield 56, 3) := by decide +kernel
theorem d_X10_guesses_48 : decode m_X10_guesses.2.1 48 = .ok (.iload_n 3, 1) := by decide +kernel
theorem d_X10_guesses_49 : decode m_X10_guesses.2.1 49 = .ok (.aload_n 0, 1) := by decide +kernel
theorem d_X10_guesses_50 : decode m_X10_guesses.2.1 50 = .ok (.getfield 53, 3) := by decide +kernel
theorem d_X10_guesses_53 : decode m_X10_guesses.2.1 53 = .ok (.iload_n 3, 1) := by decide +kernel
theorem d_X10_guesses_54 : decode m_X10_guesses.2.1 54 = .ok (.laload, 1) := by decide +kernel
theorem d_X10_guesses_55 : decode m_X10_guesses.2.1 55 = .ok (.aload_n 0, 1) := by decide +kernel
theorem d_X10_guesses_56 : decode m_X10_guesses.2.1 56 = .ok (.getfield 59, 3) := by decide +kernel
theorem d_X10_guesses_59 : decode m_X10_guesses.2.1 59 = .ok (.iload_n 3, 1) := by decide +kernel
theorem d_X10_guesses_60 : decode m_X10_guesses.2.1 60 = .ok (.laload, 1) := by decide +kernel
theorem d_X10_guesses_61 : decode m_X10_guesses.2.1 61 = .ok (.aload_n 0, 1) := by decide +kernel
theorem d_X10_guesses_62 : decode m_X10_guesses.2.1 62 = .ok (.getfield 62, 3) := by decide +kernel
theorem d_X10_guesses_65 : decode m_X10_guesses.2.1 65 = .ok (.iload_n 3, 1) := by decide +kernel
theorem d_X10_guesses_66 : decode m_X10_guesses.2.1 66 = .ok (.laload, 1) := by decide +kernel
theorem d_X10_guesses_67 : decode m_X10_guesses.2.1 67 = .ok (.ladd, 1) := by decide +kernel
theorem d_X10_guesses_68 : decode m_X10_guesses.2.1 68 = .ok (.iload_n 2, 1) := by decide +kernel
theorem d_X10_guesses_69 : decode m_X10_guesses.2.1 69 = .ok (.i2l, 1) := by decide +kernel
theorem d_X10_guesses_70 : decode m_X10_guesses.2.1 70 = .ok (.lmul, 1) := by decide +kernel
theorem d_X10_guesses_71 : decode m_X10_guesses.2.1 71 = .ok (.ldc2_w 198, 3) := by decide +kernel
theorem d_X10_guesses_74 : decode m_X10_guesses.2.1 74 = .ok (.ldiv, 1) := by decide +kernel
theorem d_X10_guesses_75 : decode m_X10_guesses.2.1 75 = .ok (.ladd, 1) := by decide +kernel
theorem d_X10_guesses_76 : decode m_X10_guesses.2.1 76 = .ok (.invokestatic 191, 3) := by decide +kernel
theorem d_X10_guesses_79 : decode m_X10_guesses.2.1 79 = .ok (.lastore, 1) := by decide +kernel
theorem d_X10_guesses_80 : decode m_X10_guesses.2.1 80 = .ok (.iinc 3 1, 3) := by decide +kernel
theorem d_X10_guesses_83 : decode m_X10_guesses.2.1 83 = .ok (.goto (-44), 3) := by decide +kernel
theorem d_X10_guesses_86 : decode m_X10_guesses.2.1 86 = .ok (.return_, 1) := by decide +kernel
theorem d_X10_stepBy_0 : decode m_X10_stepBy.2.1 0 = .ok (.aload_n 0, 1) := by decide +kernel
theorem d_X10_stepBy_1 : decode m_X10_stepBy.2.1 1 = .ok (.getfield 91, 3) := by decide +kernel
theorem d_X10_stepBy_4 : decode m_X10_stepBy.2.1 4 = .ok (.istore_n 2, 1) := by decide +kernel
theorem d_X10_stepBy_5 : decode m_X10_stepBy.2.1 5 = .ok (.aload_n 0, 1) := by decide +kernel
theorem d_X10_stepBy_6 : decode m_X10_stepBy.2.1 6 = .ok (.iload_n 2, 1) := by decide +kernel
theorem d_X10_stepBy_7 : decode m_X10_stepBy.2.1 7 = .ok (.putfield 204, 3) := by decide +kernel
theorem d_X10_stepBy_10 : decode m_X10_stepBy.2.1 10 = .ok (.aload_n 0, 1) := by decide +kernel
theorem d_X10_stepBy_11 : decode m_X10_stepBy.2.1 11 = .ok (.iload_n 1, 1) := by decide +kernel
theorem d_X10_stepBy_12 : decode m_X10_stepBy.2.1 12 = .ok (.putfield 207, 3) := by decide +kernel
theorem d_X10_stepBy_15 : decode m_X10_stepBy.2.1 15 = .ok (.iconst 0, 1) := by decide +kernel
theorem d_X10_stepBy_16 : decode m_X10_stepBy.2.1 16 = .ok (.istore_n 3, 1) := by decide +kernel
theorem d_X10_stepBy_17 : decode m_X10_stepBy.2.1 17 = .ok (.iload_n 3, 1) := by decide +kernel
theorem d_X10_stepBy_18 : decode m_X10_stepBy.2.1 18 = .ok (.iconst 3, 1) := by decide +kernel
theorem d_X10_stepBy_19 : decode m_X10_stepBy.2.1 19 = .ok (.if_icmp .ge 33, 3) := by decide +kernel
theorem d_X10_stepBy_22 : decode m_X10_stepBy.2.1 22 = .ok (.aload_n 0, 1) := by decide +kernel
theorem d_X10_stepBy_23 : decode m_X10_stepBy.2.1 23 = .ok (.getfield 53, 3) := by decide +kernel
theorem d_X10_stepBy_26 : decode m_X10_stepBy.2.1 26 = .ok (.iload_n 3, 1) := by decide +kernel
theorem d_X10_stepBy_27 : decode m_X10_stepBy.2.1 27 = .ok (.aload_n 0, 1) := by decide +kernel
theorem d_X10_stepBy_28 : decode m_X10_stepBy.2.1 28 = .ok (.iload_n 3, 1) := by decide +kernel
theorem d_X10_stepBy_29 : decode m_X10_stepBy.2.1 29 = .ok (.iload_n 2, 1) := by decide +kernel
theorem d_X10_stepBy_30 : decode m_X10_stepBy.2.1 30 = .ok (.invokevirtual 210, 3) := by decide +kernel
theorem d_X10_stepBy_33 : decode m_X10_stepBy.2.1 33 = .ok (.lastore, 1) := by decide +kernel
theorem d_X10_stepBy_34 : decode m_X10_stepBy.2.1 34 = .ok (.aload_n 0, 1) := by decide +kernel
theorem d_X10_stepBy_35 : decode m_X10_stepBy.2.1 35 = .ok (.getfield 59, 3) := by decide +kernel
theorem d_X10_stepBy_38 : decode m_X10_stepBy.2.1 38 = .ok (.iload_n 3, 1) := by decide +kernel
theorem d_X10_stepBy_39 : decode m_X10_stepBy.2.1 39 = .ok (.aload_n 0, 1) := by decide +kernel
theorem d_X10_stepBy_40 : decode m_X10_stepBy.2.1 40 = .ok (.iload_n 3, 1) := by decide +kernel
theorem d_X10_stepBy_41 : decode m_X10_stepBy.2.1 41 = .ok (.iload_n 2, 1) := by decide +kernel
theorem d_X10_stepBy_42 : decode m_X10_stepBy.2.1 42 = .ok (.invokevirtual 277, 3) := by decide +kernel
theorem d_X10_stepBy_45 : decode m_X10_stepBy.2.1 45 = .ok (.lastore, 1) := by decide +kernel
theorem d_X10_stepBy_46 : decode m_X10_stepBy.2.1 46 = .ok (.iinc 3 1, 3) := by decide +kernel
theorem d_X10_stepBy_49 : decode m_X10_stepBy.2.1 49 = .ok (.goto (-32), 3) := by decide +kernel
theorem d_X10_stepBy_52 : decode m_X10_stepBy.2.1 52 = .ok (.iconst 0, 1) := by decide +kernel
theorem d_X10_stepBy_53 : decode m_X10_stepBy.2.1 53 = .ok (.istore_n 3, 1) := by decide +kernel
theorem d_X10_stepBy_54 : decode m_X10_stepBy.2.1 54 = .ok (.iload_n 3, 1) := by decide +kernel
theorem d_X10_stepBy_55 : decode m_X10_stepBy.2.1 55 = .ok (.iconst 3, 1) := by decide +kernel
theorem d_X10_stepBy_56 : decode m_X10_stepBy.2.1 56 = .ok (.if_icmp .ge 38, 3) := by decide +kernel
theorem d_X10_stepBy_59 : decode m_X10_stepBy.2.1 59 = .ok (.aload_n 0, 1) := by decide +kernel
theorem d_X10_stepBy_60 : decode m_X10_stepBy.2.1 60 = .ok (.getfield 56, 3) := by decide +kernel
theorem d_X10_stepBy_63 : decode m_X10_stepBy.2.1 63 = .ok (.iload_n 3, 1) := by decide +kernel
theorem d_X10_stepBy_64 : decode m_X10_stepBy.2.1 64 = .ok (.aload_n 0, 1) := by decide +kernel
theorem d_X10_stepBy_65 : decode m_X10_stepBy.2.1 65 = .ok (.getfield 53, 3) := by decide +kernel
theorem d_X10_stepBy_68 : decode m_X10_stepBy.2.1 68 = .ok (.iload_n 3, 1) := by decide +kernel
theorem d_X10_stepBy_69 : decode m_X10_stepBy.2.1 69 = .ok (.laload, 1) := by decide +kernel
theorem d_X10_stepBy_70 : decode m_X10_stepBy.2.1 70 = .ok (.aload_n 0, 1) := by decide +kernel
theorem d_X10_stepBy_71 : decode m_X10_stepBy.2.1 71 = .ok (.getfield 59, 3) := by decide +kernel
theorem d_X10_stepBy_74 : decode m_X10_stepBy.2.1 74 = .ok (.iload_n 3, 1) := by decide +kernel
theorem d_X10_stepBy_75 : decode m_X10_stepBy.2.1 75 = .ok (.laload, 1) := by decide +kernel
theorem d_X10_stepBy_76 : decode m_X10_stepBy.2.1 76 = .ok (.iload_n 1, 1) := by decide +kernel
theorem d_X10_stepBy_77 : decode m_X10_stepBy.2.1 77 = .ok (.i2l, 1) := by decide +kernel
theorem d_X10_stepBy_78 : decode m_X10_stepBy.2.1 78 = .ok (.lmul, 1) := by decide +kernel
theorem d_X10_stepBy_79 : decode m_X10_stepBy.2.1 79 = .ok (.ldc2_w 176, 3) := by decide +kernel
theorem d_X10_stepBy_82 : decode m_X10_stepBy.2.1 82 = .ok (.ldiv, 1) := by decide +kernel
theorem d_X10_stepBy_83 : decode m_X10_stepBy.2.1 83 = .ok (.ladd, 1) := by decide +kernel
theorem d_X10_stepBy_84 : decode m_X10_stepBy.2.1 84 = .ok (.invokestatic 191, 3) := by decide +kernel
theorem d_X10_stepBy_87 : decode m_X10_stepBy.2.1 87 = .ok (.lastore, 1) := by decide +kernel
theorem d_X10_stepBy_88 : decode m_X10_stepBy.2.1 88 = .ok (.iinc 3 1, 3) := by decide +kernel
theorem d_X10_stepBy_91 : decode m_X10_stepBy.2.1 91 = .ok (.goto (-37), 3) := by decide +kernel
theorem d_X10_stepBy_94 : decode m_X10_stepBy.2.1 94 = .ok (.aload_n 0, 1) := by decide +kernel
theorem d_X10_stepBy_95 : decode m_X10_stepBy.2.1 95 = .ok (.iload_n 2, 1) := by decide +kernel
theorem d_X10_stepBy_96 : decode m_X10_stepBy.2.1 96 = .ok (.iload_n 1, 1) := by decide +kernel
theorem d_X10_stepBy_97 : decode m_X10_stepBy.2.1 97 = .ok (.invokevirtual 280, 3) := by decide +kernel
theorem d_X10_stepBy_100 : decode m_X10_stepBy.2.1 100 = .ok (.aload_n 0, 1) := by decide +kernel
theorem d_X10_stepBy_101 : decode m_X10_stepBy.2.1 101 = .ok (.iload_n 2, 1) := by decide +kernel
theorem d_X10_stepBy_102 : decode m_X10_stepBy.2.1 102 = .ok (.iload_n 1, 1) := by decide +kernel
theorem d_X10_stepBy_103 : decode m_X10_stepBy.2.1 103 = .ok (.invokevirtual 284, 3) := by decide +kernel
theorem d_X10_stepBy_106 : decode m_X10_stepBy.2.1 106 = .ok (.ifCond .eq 12, 3) := by decide +kernel
theorem d_X10_stepBy_109 : decode m_X10_stepBy.2.1 109 = .ok (.aload_n 0, 1) := by decide +kernel
theorem d_X10_stepBy_110 : decode m_X10_stepBy.2.1 110 = .ok (.getfield 7, 3) := by decide +kernel
theorem d_X10_stepBy_113 : decode m_X10_stepBy.2.1 113 = .ok (.iconst 1, 1) := by decide +kernel
theorem d_X10_stepBy_114 : decode m_X10_stepBy.2.1 114 = .ok (.iaload, 1) := by decide +kernel
theorem d_X10_stepBy_115 : decode m_X10_stepBy.2.1 115 = .ok (.goto 4, 3) := by decide +kernel
theorem d_X10_stepBy_118 : decode m_X10_stepBy.2.1 118 = .ok (.iconst 0, 1) := by decide +kernel
theorem d_X10_stepBy_119 : decode m_X10_stepBy.2.1 119 = .ok (.istore_n 3, 1) := by decide +kernel
theorem d_X10_stepBy_120 : decode m_X10_stepBy.2.1 120 = .ok (.iconst 0, 1) := by decide +kernel
theorem d_X10_stepBy_121 : decode m_X10_stepBy.2.1 121 = .ok (.istore 4, 2) := by decide +kernel
theorem d_X10_stepBy_123 : decode m_X10_stepBy.2.1 123 = .ok (.iload 4, 2) := by decide +kernel
theorem d_X10_stepBy_125 : decode m_X10_stepBy.2.1 125 = .ok (.iload_n 3, 1) := by decide +kernel
theorem d_X10_stepBy_126 : decode m_X10_stepBy.2.1 126 = .ok (.if_icmp .ge 15, 3) := by decide +kernel
theorem d_X10_stepBy_129 : decode m_X10_stepBy.2.1 129 = .ok (.aload_n 0, 1) := by decide +kernel
theorem d_X10_stepBy_130 : decode m_X10_stepBy.2.1 130 = .ok (.iload_n 2, 1) := by decide +kernel
theorem d_X10_stepBy_131 : decode m_X10_stepBy.2.1 131 = .ok (.iload_n 1, 1) := by decide +kernel
theorem d_X10_stepBy_132 : decode m_X10_stepBy.2.1 132 = .ok (.invokevirtual 280, 3) := by decide +kernel
theorem d_X10_stepBy_135 : decode m_X10_stepBy.2.1 135 = .ok (.iinc 4 1, 3) := by decide +kernel
theorem d_X10_stepBy_138 : decode m_X10_stepBy.2.1 138 = .ok (.goto (-15), 3) := by decide +kernel
theorem d_X10_stepBy_141 : decode m_X10_stepBy.2.1 141 = .ok (.aload_n 0, 1) := by decide +kernel
theorem d_X10_stepBy_142 : decode m_X10_stepBy.2.1 142 = .ok (.getfield 34, 3) := by decide +kernel
theorem d_X10_stepBy_145 : decode m_X10_stepBy.2.1 145 = .ok (.aload_n 0, 1) := by decide +kernel
theorem d_X10_stepBy_146 : decode m_X10_stepBy.2.1 146 = .ok (.getfield 178, 3) := by decide +kernel
theorem d_X10_stepBy_149 : decode m_X10_stepBy.2.1 149 = .ok (.iload_n 2, 1) := by decide +kernel
theorem d_X10_stepBy_150 : decode m_X10_stepBy.2.1 150 = .ok (.iastore, 1) := by decide +kernel
theorem d_X10_stepBy_151 : decode m_X10_stepBy.2.1 151 = .ok (.aload_n 0, 1) := by decide +kernel
theorem d_X10_stepBy_152 : decode m_X10_stepBy.2.1 152 = .ok (.getfield 37, 3) := by decide +kernel
theorem d_X10_stepBy_155 : decode m_X10_stepBy.2.1 155 = .ok (.aload_n 0, 1) := by decide +kernel
theorem d_X10_stepBy_156 : decode m_X10_stepBy.2.1 156 = .ok (.getfield 178, 3) := by decide +kernel
theorem d_X10_stepBy_159 : decode m_X10_stepBy.2.1 159 = .ok (.iload_n 1, 1) := by decide +kernel
theorem d_X10_stepBy_160 : decode m_X10_stepBy.2.1 160 = .ok (.iastore, 1) := by decide +kernel
theorem d_X10_stepBy_161 : decode m_X10_stepBy.2.1 161 = .ok (.aload_n 0, 1) := by decide +kernel
theorem d_X10_stepBy_162 : decode m_X10_stepBy.2.1 162 = .ok (.getfield 40, 3) := by decide +kernel
theorem d_X10_stepBy_165 : decode m_X10_stepBy.2.1 165 = .ok (.aload_n 0, 1) := by decide +kernel
theorem d_X10_stepBy_166 : decode m_X10_stepBy.2.1 166 = .ok (.getfield 178, 3) := by decide +kernel
theorem d_X10_stepBy_169 : decode m_X10_stepBy.2.1 169 = .ok (.iload_n 3, 1) := by decide +kernel
theorem d_X10_stepBy_170 : decode m_X10_stepBy.2.1 170 = .ok (.iastore, 1) := by decide +kernel
theorem d_X10_stepBy_171 : decode m_X10_stepBy.2.1 171 = .ok (.iconst 0, 1) := by decide +kernel
theorem d_X10_stepBy_172 : decode m_X10_stepBy.2.1 172 = .ok (.istore 4, 2) := by decide +kernel
theorem d_X10_stepBy_174 : decode m_X10_stepBy.2.1 174 = .ok (.iload 4, 2) := by decide +kernel
theorem d_X10_stepBy_176 : decode m_X10_stepBy.2.1 176 = .ok (.iconst 3, 1) := by decide +kernel
theorem d_X10_stepBy_177 : decode m_X10_stepBy.2.1 177 = .ok (.if_icmp .ge 72, 3) := by decide +kernel
theorem d_X10_stepBy_180 : decode m_X10_stepBy.2.1 180 = .ok (.aload_n 0, 1) := by decide +kernel
theorem d_X10_stepBy_181 : decode m_X10_stepBy.2.1 181 = .ok (.getfield 43, 3) := by decide +kernel
theorem d_X10_stepBy_184 : decode m_X10_stepBy.2.1 184 = .ok (.iconst 3, 1) := by decide +kernel
theorem d_X10_stepBy_185 : decode m_X10_stepBy.2.1 185 = .ok (.aload_n 0, 1) := by decide +kernel
theorem d_X10_stepBy_186 : decode m_X10_stepBy.2.1 186 = .ok (.getfield 178, 3) := by decide +kernel
theorem d_X10_stepBy_189 : decode m_X10_stepBy.2.1 189 = .ok (.imul, 1) := by decide +kernel
theorem d_X10_stepBy_190 : decode m_X10_stepBy.2.1 190 = .ok (.iload 4, 2) := by decide +kernel
theorem d_X10_stepBy_192 : decode m_X10_stepBy.2.1 192 = .ok (.iadd, 1) := by decide +kernel
theorem d_X10_stepBy_193 : decode m_X10_stepBy.2.1 193 = .ok (.aload_n 0, 1) := by decide +kernel
theorem d_X10_stepBy_194 : decode m_X10_stepBy.2.1 194 = .ok (.getfield 53, 3) := by decide +kernel
theorem d_X10_stepBy_197 : decode m_X10_stepBy.2.1 197 = .ok (.iload 4, 2) := by decide +kernel
theorem d_X10_stepBy_199 : decode m_X10_stepBy.2.1 199 = .ok (.laload, 1) := by decide +kernel
theorem d_X10_stepBy_200 : decode m_X10_stepBy.2.1 200 = .ok (.lastore, 1) := by decide +kernel
theorem d_X10_stepBy_201 : decode m_X10_stepBy.2.1 201 = .ok (.aload_n 0, 1) := by decide +kernel
theorem d_X10_stepBy_202 : decode m_X10_stepBy.2.1 202 = .ok (.getfield 47, 3) := by decide +kernel
theorem d_X10_stepBy_205 : decode m_X10_stepBy.2.1 205 = .ok (.iconst 3, 1) := by decide +kernel
theorem d_X10_stepBy_206 : decode m_X10_stepBy.2.1 206 = .ok (.aload_n 0, 1) := by decide +kernel
theorem d_X10_stepBy_207 : decode m_X10_stepBy.2.1 207 = .ok (.getfield 178, 3) := by decide +kernel
theorem d_X10_stepBy_210 : decode m_X10_stepBy.2.1 210 = .ok (.imul, 1) := by decide +kernel
theorem d_X10_stepBy_211 : decode m_X10_stepBy.2.1 211 = .ok (.iload 4, 2) := by decide +kernel
theorem d_X10_stepBy_213 : decode m_X10_stepBy.2.1 213 = .ok (.iadd, 1) := by decide +kernel
theorem d_X10_stepBy_214 : decode m_X10_stepBy.2.1 214 = .ok (.aload_n 0, 1) := by decide +kernel
theorem d_X10_stepBy_215 : decode m_X10_stepBy.2.1 215 = .ok (.getfield 59, 3) := by decide +kernel
theorem d_X10_stepBy_218 : decode m_X10_stepBy.2.1 218 = .ok (.iload 4, 2) := by decide +kernel
theorem d_X10_stepBy_220 : decode m_X10_stepBy.2.1 220 = .ok (.laload, 1) := by decide +kernel
theorem d_X10_stepBy_221 : decode m_X10_stepBy.2.1 221 = .ok (.lastore, 1) := by decide +kernel
theorem d_X10_stepBy_222 : decode m_X10_stepBy.2.1 222 = .ok (.aload_n 0, 1) := by decide +kernel
theorem d_X10_stepBy_223 : decode m_X10_stepBy.2.1 223 = .ok (.getfield 50, 3) := by decide +kernel
theorem d_X10_stepBy_226 : decode m_X10_stepBy.2.1 226 = .ok (.iconst 3, 1) := by decide +kernel
theorem d_X10_stepBy_227 : decode m_X10_stepBy.2.1 227 = .ok (.aload_n 0, 1) := by decide +kernel
theorem d_X10_stepBy_228 : decode m_X10_stepBy.2.1 228 = .ok (.getfield 178, 3) := by decide +kernel
theorem d_X10_stepBy_231 : decode m_X10_stepBy.2.1 231 = .ok (.imul, 1) := by decide +kernel
theorem d_X10_stepBy_232 : decode m_X10_stepBy.2.1 232 = .ok (.iload 4, 2) := by decide +kernel
theorem d_X10_stepBy_234 : decode m_X10_stepBy.2.1 234 = .ok (.iadd, 1) := by decide +kernel
theorem d_X10_stepBy_235 : decode m_X10_stepBy.2.1 235 = .ok (.aload_n 0, 1) := by decide +kernel
theorem d_X10_stepBy_236 : decode m_X10_stepBy.2.1 236 = .ok (.getfield 56, 3) := by decide +kernel
theorem d_X10_stepBy_239 : decode m_X10_stepBy.2.1 239 = .ok (.iload 4, 2) := by decide +kernel
theorem d_X10_stepBy_241 : decode m_X10_stepBy.2.1 241 = .ok (.laload, 1) := by decide +kernel
theorem d_X10_stepBy_242 : decode m_X10_stepBy.2.1 242 = .ok (.lastore, 1) := by decide +kernel
theorem d_X10_stepBy_243 : decode m_X10_stepBy.2.1 243 = .ok (.iinc 4 1, 3) := by decide +kernel
theorem d_X10_stepBy_246 : decode m_X10_stepBy.2.1 246 = .ok (.goto (-72), 3) := by decide +kernel
theorem d_X10_stepBy_249 : decode m_X10_stepBy.2.1 249 = .ok (.aload_n 0, 1) := by decide +kernel
theorem d_X10_stepBy_250 : decode m_X10_stepBy.2.1 250 = .ok (.dup, 1) := by decide +kernel
theorem d_X10_stepBy_251 : decode m_X10_stepBy.2.1 251 = .ok (.getfield 178, 3) := by decide +kernel
theorem d_X10_stepBy_254 : decode m_X10_stepBy.2.1 254 = .ok (.iconst 1, 1) := by decide +kernel
theorem d_X10_stepBy_255 : decode m_X10_stepBy.2.1 255 = .ok (.iadd, 1) := by decide +kernel
theorem d_X10_stepBy_256 : decode m_X10_stepBy.2.1 256 = .ok (.putfield 178, 3) := by decide +kernel
theorem d_X10_stepBy_259 : decode m_X10_stepBy.2.1 259 = .ok (.return_, 1) := by decide +kernel
theorem d_X10_solve_0 : decode m_X10_solve.2.1 0 = .ok (.iload_n 1, 1) := by decide +kernel
theorem d_X10_solve_1 : decode m_X10_solve.2.1 1 = .ok (.iconst 1, 1) := by decide +kernel
theorem d_X10_solve_2 : decode m_X10_solve.2.1 2 = .ok (.sipush 2000, 3) := by decide +kernel
theorem d_X10_solve_5 : decode m_X10_solve.2.1 5 = .ok (.invokestatic 86, 3) := by decide +kernel
theorem d_X10_solve_8 : decode m_X10_solve.2.1 8 = .ok (.ifCond .ne 6, 3) := by decide +kernel
theorem d_X10_solve_11 : decode m_X10_solve.2.1 11 = .ok (.ldc 90, 2) := by decide +kernel
theorem d_X10_solve_13 : decode m_X10_solve.2.1 13 = .ok (.ireturn, 1) := by decide +kernel
theorem d_X10_solve_14 : decode m_X10_solve.2.1 14 = .ok (.aload_n 0, 1) := by decide +kernel
theorem d_X10_solve_15 : decode m_X10_solve.2.1 15 = .ok (.getfield 91, 3) := by decide +kernel
theorem d_X10_solve_18 : decode m_X10_solve.2.1 18 = .ok (.iload_n 1, 1) := by decide +kernel
theorem d_X10_solve_19 : decode m_X10_solve.2.1 19 = .ok (.iadd, 1) := by decide +kernel
theorem d_X10_solve_20 : decode m_X10_solve.2.1 20 = .ok (.sipush 8000, 3) := by decide +kernel
theorem d_X10_solve_23 : decode m_X10_solve.2.1 23 = .ok (.if_icmp .le 6, 3) := by decide +kernel
theorem d_X10_solve_26 : decode m_X10_solve.2.1 26 = .ok (.ldc 100, 2) := by decide +kernel
theorem d_X10_solve_28 : decode m_X10_solve.2.1 28 = .ok (.ireturn, 1) := by decide +kernel
theorem d_X10_solve_29 : decode m_X10_solve.2.1 29 = .ok (.aload_n 0, 1) := by decide +kernel
theorem d_X10_solve_30 : decode m_X10_solve.2.1 30 = .ok (.invokevirtual 94, 3) := by decide +kernel
theorem d_X10_solve_33 : decode m_X10_solve.2.1 33 = .ok (.aload_n 0, 1) := by decide +kernel
theorem d_X10_solve_34 : decode m_X10_solve.2.1 34 = .ok (.getfield 91, 3) := by decide +kernel
theorem d_X10_solve_37 : decode m_X10_solve.2.1 37 = .ok (.iload_n 1, 1) := by decide +kernel
theorem d_X10_solve_38 : decode m_X10_solve.2.1 38 = .ok (.iadd, 1) := by decide +kernel
theorem d_X10_solve_39 : decode m_X10_solve.2.1 39 = .ok (.istore_n 2, 1) := by decide +kernel
theorem d_X10_solve_40 : decode m_X10_solve.2.1 40 = .ok (.aload_n 0, 1) := by decide +kernel
theorem d_X10_solve_41 : decode m_X10_solve.2.1 41 = .ok (.getfield 7, 3) := by decide +kernel
theorem d_X10_solve_44 : decode m_X10_solve.2.1 44 = .ok (.sipush 292, 3) := by decide +kernel
theorem d_X10_solve_47 : decode m_X10_solve.2.1 47 = .ok (.aload_n 0, 1) := by decide +kernel
theorem d_X10_solve_48 : decode m_X10_solve.2.1 48 = .ok (.getfield 7, 3) := by decide +kernel
theorem d_X10_solve_51 : decode m_X10_solve.2.1 51 = .ok (.sipush 291, 3) := by decide +kernel
theorem d_X10_solve_54 : decode m_X10_solve.2.1 54 = .ok (.iaload, 1) := by decide +kernel
theorem d_X10_solve_55 : decode m_X10_solve.2.1 55 = .ok (.iadd, 1) := by decide +kernel
theorem d_X10_solve_56 : decode m_X10_solve.2.1 56 = .ok (.iload_n 2, 1) := by decide +kernel
theorem d_X10_solve_57 : decode m_X10_solve.2.1 57 = .ok (.iastore, 1) := by decide +kernel
theorem d_X10_solve_58 : decode m_X10_solve.2.1 58 = .ok (.aload_n 0, 1) := by decide +kernel
theorem d_X10_solve_59 : decode m_X10_solve.2.1 59 = .ok (.getfield 7, 3) := by decide +kernel
theorem d_X10_solve_62 : decode m_X10_solve.2.1 62 = .ok (.sipush 291, 3) := by decide +kernel
theorem d_X10_solve_65 : decode m_X10_solve.2.1 65 = .ok (.dup2, 1) := by decide +kernel
theorem d_X10_solve_66 : decode m_X10_solve.2.1 66 = .ok (.iaload, 1) := by decide +kernel
theorem d_X10_solve_67 : decode m_X10_solve.2.1 67 = .ok (.iconst 1, 1) := by decide +kernel
theorem d_X10_solve_68 : decode m_X10_solve.2.1 68 = .ok (.iadd, 1) := by decide +kernel
theorem d_X10_solve_69 : decode m_X10_solve.2.1 69 = .ok (.iastore, 1) := by decide +kernel
theorem d_X10_solve_70 : decode m_X10_solve.2.1 70 = .ok (.aload_n 0, 1) := by decide +kernel
theorem d_X10_solve_71 : decode m_X10_solve.2.1 71 = .ok (.iload_n 2, 1) := by decide +kernel
theorem d_X10_solve_72 : decode m_X10_solve.2.1 72 = .ok (.invokevirtual 268, 3) := by decide +kernel
theorem d_X10_solve_75 : decode m_X10_solve.2.1 75 = .ok (.aload_n 0, 1) := by decide +kernel
theorem d_X10_solve_76 : decode m_X10_solve.2.1 76 = .ok (.getfield 91, 3) := by decide +kernel
theorem d_X10_solve_79 : decode m_X10_solve.2.1 79 = .ok (.ireturn, 1) := by decide +kernel
theorem d_X10_value_0 : decode m_X10_value.2.1 0 = .ok (.iload_n 1, 1) := by decide +kernel
theorem d_X10_value_1 : decode m_X10_value.2.1 1 = .ok (.invokestatic 136, 3) := by decide +kernel
theorem d_X10_value_4 : decode m_X10_value.2.1 4 = .ok (.ifCond .eq 16, 3) := by decide +kernel
theorem d_X10_value_7 : decode m_X10_value.2.1 7 = .ok (.iload_n 2, 1) := by decide +kernel
theorem d_X10_value_8 : decode m_X10_value.2.1 8 = .ok (.sipush (-10000), 3) := by decide +kernel
theorem d_X10_value_11 : decode m_X10_value.2.1 11 = .ok (.sipush 8000, 3) := by decide +kernel
theorem d_X10_value_14 : decode m_X10_value.2.1 14 = .ok (.invokestatic 86, 3) := by decide +kernel
theorem d_X10_value_17 : decode m_X10_value.2.1 17 = .ok (.ifCond .ne 6, 3) := by decide +kernel
theorem d_X10_value_20 : decode m_X10_value.2.1 20 = .ok (.ldc 90, 2) := by decide +kernel
theorem d_X10_value_22 : decode m_X10_value.2.1 22 = .ok (.ireturn, 1) := by decide +kernel
theorem d_X10_value_23 : decode m_X10_value.2.1 23 = .ok (.iload_n 2, 1) := by decide +kernel
theorem d_X10_value_24 : decode m_X10_value.2.1 24 = .ok (.aload_n 0, 1) := by decide +kernel
theorem d_X10_value_25 : decode m_X10_value.2.1 25 = .ok (.getfield 91, 3) := by decide +kernel
theorem d_X10_value_28 : decode m_X10_value.2.1 28 = .ok (.if_icmp .le 8, 3) := by decide +kernel
theorem d_X10_value_31 : decode m_X10_value.2.1 31 = .ok (.ldc 125, 2) := by decide +kernel
theorem d_X10_value_33 : decode m_X10_value.2.1 33 = .ok (.goto 10, 3) := by decide +kernel
theorem d_X10_value_36 : decode m_X10_value.2.1 36 = .ok (.aload_n 0, 1) := by decide +kernel
theorem d_X10_value_37 : decode m_X10_value.2.1 37 = .ok (.iload_n 1, 1) := by decide +kernel
theorem d_X10_value_38 : decode m_X10_value.2.1 38 = .ok (.iload_n 2, 1) := by decide +kernel
theorem d_X10_value_39 : decode m_X10_value.2.1 39 = .ok (.invokevirtual 210, 3) := by decide +kernel
theorem d_X10_value_42 : decode m_X10_value.2.1 42 = .ok (.l2i, 1) := by decide +kernel
theorem d_X10_value_43 : decode m_X10_value.2.1 43 = .ok (.ireturn, 1) := by decide +kernel
theorem d_X10_slope_0 : decode m_X10_slope.2.1 0 = .ok (.iload_n 1, 1) := by decide +kernel
theorem d_X10_slope_1 : decode m_X10_slope.2.1 1 = .ok (.invokestatic 136, 3) := by decide +kernel
theorem d_X10_slope_4 : decode m_X10_slope.2.1 4 = .ok (.ifCond .eq 16, 3) := by decide +kernel
theorem d_X10_slope_7 : decode m_X10_slope.2.1 7 = .ok (.iload_n 2, 1) := by decide +kernel
theorem d_X10_slope_8 : decode m_X10_slope.2.1 8 = .ok (.sipush (-10000), 3) := by decide +kernel
theorem d_X10_slope_11 : decode m_X10_slope.2.1 11 = .ok (.sipush 8000, 3) := by decide +kernel
theorem d_X10_slope_14 : decode m_X10_slope.2.1 14 = .ok (.invokestatic 86, 3) := by decide +kernel
theorem d_X10_slope_17 : decode m_X10_slope.2.1 17 = .ok (.ifCond .ne 6, 3) := by decide +kernel
theorem d_X10_slope_20 : decode m_X10_slope.2.1 20 = .ok (.ldc 90, 2) := by decide +kernel
theorem d_X10_slope_22 : decode m_X10_slope.2.1 22 = .ok (.ireturn, 1) := by decide +kernel
theorem d_X10_slope_23 : decode m_X10_slope.2.1 23 = .ok (.iload_n 2, 1) := by decide +kernel
theorem d_X10_slope_24 : decode m_X10_slope.2.1 24 = .ok (.aload_n 0, 1) := by decide +kernel
theorem d_X10_slope_25 : decode m_X10_slope.2.1 25 = .ok (.getfield 91, 3) := by decide +kernel
theorem d_X10_slope_28 : decode m_X10_slope.2.1 28 = .ok (.if_icmp .le 8, 3) := by decide +kernel
theorem d_X10_slope_31 : decode m_X10_slope.2.1 31 = .ok (.ldc 125, 2) := by decide +kernel
theorem d_X10_slope_33 : decode m_X10_slope.2.1 33 = .ok (.goto 10, 3) := by decide +kernel
theorem d_X10_slope_36 : decode m_X10_slope.2.1 36 = .ok (.aload_n 0, 1) := by decide +kernel
theorem d_X10_slope_37 : decode m_X10_slope.2.1 37 = .ok (.iload_n 1, 1) := by decide +kernel
theorem d_X10_slope_38 : decode m_X10_slope.2.1 38 = .ok (.iload_n 2, 1) := by decide +kernel
theorem d_X10_slope_39 : decode m_X10_slope.2.1 39 = .ok (.invokevirtual 213, 3) := by decide +kernel
theorem d_X10_slope_42 : decode m_X10_slope.2.1 42 = .ok (.l2i, 1) := by decide +kernel
theorem d_X10_slope_43 : decode m_X10_slope.2.1 43 = .ok (.ireturn, 1) := by decide +kernel
theorem d_X10_rightAt_0 : decode m_X10_rightAt.2.1 0 = .ok (.iload_n 1, 1) := by decide +kernel
theorem d_X10_rightAt_1 : decode m_X10_rightAt.2.1 1 = .ok (.invokestatic 136, 3) := by decide +kernel
theorem d_X10_rightAt_4 : decode m_X10_rightAt.2.1 4 = .ok (.ifCond .eq 14, 3) := by decide +kernel
theorem d_X10_rightAt_7 : decode m_X10_rightAt.2.1 7 = .ok (.iload_n 2, 1) := by decide +kernel
theorem d_X10_rightAt_8 : decode m_X10_rightAt.2.1 8 = .ok (.iconst 0, 1) := by decide +kernel
theorem d_X10_rightAt_9 : decode m_X10_rightAt.2.1 9 = .ok (.sipush 8000, 3) := by decide +kernel
theorem d_X10_rightAt_12 : decode m_X10_rightAt.2.1 12 = .ok (.invokestatic 86, 3) := by decide +kernel
theorem d_X10_rightAt_15 : decode m_X10_rightAt.2.1 15 = .ok (.ifCond .ne 6, 3) := by decide +kernel
theorem d_X10_rightAt_18 : decode m_X10_rightAt.2.1 18 = .ok (.ldc 90, 2) := by decide +kernel
theorem d_X10_rightAt_20 : decode m_X10_rightAt.2.1 20 = .ok (.ireturn, 1) := by decide +kernel
theorem d_X10_rightAt_21 : decode m_X10_rightAt.2.1 21 = .ok (.iload_n 2, 1) := by decide +kernel
theorem d_X10_rightAt_22 : decode m_X10_rightAt.2.1 22 = .ok (.aload_n 0, 1) := by decide +kernel
theorem d_X10_rightAt_23 : decode m_X10_rightAt.2.1 23 = .ok (.getfield 91, 3) := by decide +kernel
theorem d_X10_rightAt_26 : decode m_X10_rightAt.2.1 26 = .ok (.if_icmp .le 8, 3) := by decide +kernel
theorem d_X10_rightAt_29 : decode m_X10_rightAt.2.1 29 = .ok (.ldc 125, 2) := by decide +kernel
theorem d_X10_rightAt_31 : decode m_X10_rightAt.2.1 31 = .ok (.goto 10, 3) := by decide +kernel
theorem d_X10_rightAt_34 : decode m_X10_rightAt.2.1 34 = .ok (.aload_n 0, 1) := by decide +kernel
theorem d_X10_rightAt_35 : decode m_X10_rightAt.2.1 35 = .ok (.iload_n 1, 1) := by decide +kernel
theorem d_X10_rightAt_36 : decode m_X10_rightAt.2.1 36 = .ok (.iload_n 2, 1) := by decide +kernel
theorem d_X10_rightAt_37 : decode m_X10_rightAt.2.1 37 = .ok (.invokevirtual 277, 3) := by decide +kernel
theorem d_X10_rightAt_40 : decode m_X10_rightAt.2.1 40 = .ok (.l2i, 1) := by decide +kernel
theorem d_X10_rightAt_41 : decode m_X10_rightAt.2.1 41 = .ok (.ireturn, 1) := by decide +kernel
theorem d_X10_step_0 : decode m_X10_step.2.1 0 = .ok (.iload_n 1, 1) := by decide +kernel
theorem d_X10_step_1 : decode m_X10_step.2.1 1 = .ok (.ifCond .lt 12, 3) := by decide +kernel
theorem d_X10_step_4 : decode m_X10_step.2.1 4 = .ok (.iload_n 2, 1) := by decide +kernel
theorem d_X10_step_5 : decode m_X10_step.2.1 5 = .ok (.iconst 0, 1) := by decide +kernel
theorem d_X10_step_6 : decode m_X10_step.2.1 6 = .ok (.iconst 5, 1) := by decide +kernel
theorem d_X10_step_7 : decode m_X10_step.2.1 7 = .ok (.invokestatic 86, 3) := by decide +kernel
theorem d_X10_step_10 : decode m_X10_step.2.1 10 = .ok (.ifCond .ne 6, 3) := by decide +kernel
theorem d_X10_step_13 : decode m_X10_step.2.1 13 = .ok (.ldc 90, 2) := by decide +kernel
theorem d_X10_step_15 : decode m_X10_step.2.1 15 = .ok (.ireturn, 1) := by decide +kernel
theorem d_X10_step_16 : decode m_X10_step.2.1 16 = .ok (.iload_n 1, 1) := by decide +kernel
theorem d_X10_step_17 : decode m_X10_step.2.1 17 = .ok (.aload_n 0, 1) := by decide +kernel
theorem d_X10_step_18 : decode m_X10_step.2.1 18 = .ok (.getfield 178, 3) := by decide +kernel
theorem d_X10_step_21 : decode m_X10_step.2.1 21 = .ok (.if_icmp .lt 6, 3) := by decide +kernel
theorem d_X10_step_24 : decode m_X10_step.2.1 24 = .ok (.ldc 125, 2) := by decide +kernel
theorem d_X10_step_26 : decode m_X10_step.2.1 26 = .ok (.ireturn, 1) := by decide +kernel
theorem d_X10_step_27 : decode m_X10_step.2.1 27 = .ok (.iload_n 2, 1) := by decide +kernel
theorem d_X10_step_28 : decode m_X10_step.2.1 28 = .ok (.ifCond .ne 12, 3) := by decide +kernel
theorem d_X10_step_31 : decode m_X10_step.2.1 31 = .ok (.aload_n 0, 1) := by decide +kernel
theorem d_X10_step_32 : decode m_X10_step.2.1 32 = .ok (.getfield 34, 3) := by decide +kernel
theorem d_X10_step_35 : decode m_X10_step.2.1 35 = .ok (.iload_n 1, 1) := by decide +kernel
theorem d_X10_step_36 : decode m_X10_step.2.1 36 = .ok (.iaload, 1) := by decide +kernel
theorem d_X10_step_37 : decode m_X10_step.2.1 37 = .ok (.goto 44, 3) := by decide +kernel
theorem d_X10_step_40 : decode m_X10_step.2.1 40 = .ok (.iload_n 2, 1) := by decide +kernel
theorem d_X10_step_41 : decode m_X10_step.2.1 41 = .ok (.iconst 1, 1) := by decide +kernel
theorem d_X10_step_42 : decode m_X10_step.2.1 42 = .ok (.if_icmp .ne 12, 3) := by decide +kernel
theorem d_X10_step_45 : decode m_X10_step.2.1 45 = .ok (.aload_n 0, 1) := by decide +kernel
theorem d_X10_step_46 : decode m_X10_step.2.1 46 = .ok (.getfield 37, 3) := by decide +kernel
theorem d_X10_step_49 : decode m_X10_step.2.1 49 = .ok (.iload_n 1, 1) := by decide +kernel
theorem d_X10_step_50 : decode m_X10_step.2.1 50 = .ok (.iaload, 1) := by decide +kernel
theorem d_X10_step_51 : decode m_X10_step.2.1 51 = .ok (.goto 30, 3) := by decide +kernel
theorem d_X10_step_54 : decode m_X10_step.2.1 54 = .ok (.iload_n 2, 1) := by decide +kernel
theorem d_X10_step_55 : decode m_X10_step.2.1 55 = .ok (.iconst 5, 1) := by decide +kernel
theorem d_X10_step_56 : decode m_X10_step.2.1 56 = .ok (.if_icmp .ne 12, 3) := by decide +kernel
theorem d_X10_step_59 : decode m_X10_step.2.1 59 = .ok (.aload_n 0, 1) := by decide +kernel
theorem d_X10_step_60 : decode m_X10_step.2.1 60 = .ok (.getfield 40, 3) := by decide +kernel
theorem d_X10_step_63 : decode m_X10_step.2.1 63 = .ok (.iload_n 1, 1) := by decide +kernel
theorem d_X10_step_64 : decode m_X10_step.2.1 64 = .ok (.iaload, 1) := by decide +kernel
theorem d_X10_step_65 : decode m_X10_step.2.1 65 = .ok (.goto 16, 3) := by decide +kernel
theorem d_X10_step_68 : decode m_X10_step.2.1 68 = .ok (.aload_n 0, 1) := by decide +kernel
theorem d_X10_step_69 : decode m_X10_step.2.1 69 = .ok (.getfield 47, 3) := by decide +kernel
theorem d_X10_step_72 : decode m_X10_step.2.1 72 = .ok (.iconst 3, 1) := by decide +kernel
theorem d_X10_step_73 : decode m_X10_step.2.1 73 = .ok (.iload_n 1, 1) := by decide +kernel
theorem d_X10_step_74 : decode m_X10_step.2.1 74 = .ok (.imul, 1) := by decide +kernel
theorem d_X10_step_75 : decode m_X10_step.2.1 75 = .ok (.iload_n 2, 1) := by decide +kernel
theorem d_X10_step_76 : decode m_X10_step.2.1 76 = .ok (.iadd, 1) := by decide +kernel
theorem d_X10_step_77 : decode m_X10_step.2.1 77 = .ok (.iconst 2, 1) := by decide +kernel
theorem d_X10_step_78 : decode m_X10_step.2.1 78 = .ok (.isub, 1) := by decide +kernel
theorem d_X10_step_79 : decode m_X10_step.2.1 79 = .ok (.laload, 1) := by decide +kernel
theorem d_X10_step_80 : decode m_X10_step.2.1 80 = .ok (.l2i, 1) := by decide +kernel
theorem d_X10_step_81 : decode m_X10_step.2.1 81 = .ok (.ireturn, 1) := by decide +kernel
theorem d_X10_crossing_0 : decode m_X10_crossing.2.1 0 = .ok (.iload_n 1, 1) := by decide +kernel
theorem d_X10_crossing_1 : decode m_X10_crossing.2.1 1 = .ok (.invokestatic 136, 3) := by decide +kernel
theorem d_X10_crossing_4 : decode m_X10_crossing.2.1 4 = .ok (.ifCond .eq 27, 3) := by decide +kernel
theorem d_X10_crossing_7 : decode m_X10_crossing.2.1 7 = .ok (.iload_n 2, 1) := by decide +kernel
theorem d_X10_crossing_8 : decode m_X10_crossing.2.1 8 = .ok (.ldc_w 288, 3) := by decide +kernel
theorem d_X10_crossing_11 : decode m_X10_crossing.2.1 11 = .ok (.ldc_w 289, 3) := by decide +kernel
theorem d_X10_crossing_14 : decode m_X10_crossing.2.1 14 = .ok (.invokestatic 86, 3) := by decide +kernel
theorem d_X10_crossing_17 : decode m_X10_crossing.2.1 17 = .ok (.ifCond .eq 14, 3) := by decide +kernel
theorem d_X10_crossing_20 : decode m_X10_crossing.2.1 20 = .ok (.iload_n 3, 1) := by decide +kernel
theorem d_X10_crossing_21 : decode m_X10_crossing.2.1 21 = .ok (.iconst 1, 1) := by decide +kernel
theorem d_X10_crossing_22 : decode m_X10_crossing.2.1 22 = .ok (.sipush 8000, 3) := by decide +kernel
theorem d_X10_crossing_25 : decode m_X10_crossing.2.1 25 = .ok (.invokestatic 86, 3) := by decide +kernel
theorem d_X10_crossing_28 : decode m_X10_crossing.2.1 28 = .ok (.ifCond .ne 6, 3) := by decide +kernel
theorem d_X10_crossing_31 : decode m_X10_crossing.2.1 31 = .ok (.ldc 90, 2) := by decide +kernel
theorem d_X10_crossing_33 : decode m_X10_crossing.2.1 33 = .ok (.ireturn, 1) := by decide +kernel
theorem d_X10_crossing_34 : decode m_X10_crossing.2.1 34 = .ok (.iload_n 3, 1) := by decide +kernel
theorem d_X10_crossing_35 : decode m_X10_crossing.2.1 35 = .ok (.istore 4, 2) := by decide +kernel
theorem d_X10_crossing_37 : decode m_X10_crossing.2.1 37 = .ok (.iload 4, 2) := by decide +kernel
theorem d_X10_crossing_39 : decode m_X10_crossing.2.1 39 = .ok (.aload_n 0, 1) := by decide +kernel
theorem d_X10_crossing_40 : decode m_X10_crossing.2.1 40 = .ok (.getfield 91, 3) := by decide +kernel
theorem d_X10_crossing_43 : decode m_X10_crossing.2.1 43 = .ok (.if_icmp .gt 40, 3) := by decide +kernel
theorem d_X10_crossing_46 : decode m_X10_crossing.2.1 46 = .ok (.aload_n 0, 1) := by decide +kernel
theorem d_X10_crossing_47 : decode m_X10_crossing.2.1 47 = .ok (.iload_n 1, 1) := by decide +kernel
theorem d_X10_crossing_48 : decode m_X10_crossing.2.1 48 = .ok (.iload 4, 2) := by decide +kernel
theorem d_X10_crossing_50 : decode m_X10_crossing.2.1 50 = .ok (.invokevirtual 210, 3) := by decide +kernel
theorem d_X10_crossing_53 : decode m_X10_crossing.2.1 53 = .ok (.iload_n 2, 1) := by decide +kernel
theorem d_X10_crossing_54 : decode m_X10_crossing.2.1 54 = .ok (.i2l, 1) := by decide +kernel
theorem d_X10_crossing_55 : decode m_X10_crossing.2.1 55 = .ok (.lcmp, 1) := by decide +kernel
theorem d_X10_crossing_56 : decode m_X10_crossing.2.1 56 = .ok (.ifCond .lt 21, 3) := by decide +kernel
theorem d_X10_crossing_59 : decode m_X10_crossing.2.1 59 = .ok (.aload_n 0, 1) := by decide +kernel
theorem d_X10_crossing_60 : decode m_X10_crossing.2.1 60 = .ok (.iload_n 1, 1) := by decide +kernel
theorem d_X10_crossing_61 : decode m_X10_crossing.2.1 61 = .ok (.iload 4, 2) := by decide +kernel
theorem d_X10_crossing_63 : decode m_X10_crossing.2.1 63 = .ok (.iconst 1, 1) := by decide +kernel
theorem d_X10_crossing_64 : decode m_X10_crossing.2.1 64 = .ok (.isub, 1) := by decide +kernel
theorem d_X10_crossing_65 : decode m_X10_crossing.2.1 65 = .ok (.invokevirtual 210, 3) := by decide +kernel
theorem d_X10_crossing_68 : decode m_X10_crossing.2.1 68 = .ok (.iload_n 2, 1) := by decide +kernel
theorem d_X10_crossing_69 : decode m_X10_crossing.2.1 69 = .ok (.i2l, 1) := by decide +kernel
theorem d_X10_crossing_70 : decode m_X10_crossing.2.1 70 = .ok (.lcmp, 1) := by decide +kernel
theorem d_X10_crossing_71 : decode m_X10_crossing.2.1 71 = .ok (.ifCond .ge 6, 3) := by decide +kernel
theorem d_X10_crossing_74 : decode m_X10_crossing.2.1 74 = .ok (.iload 4, 2) := by decide +kernel
theorem d_X10_crossing_76 : decode m_X10_crossing.2.1 76 = .ok (.ireturn, 1) := by decide +kernel
theorem d_X10_crossing_77 : decode m_X10_crossing.2.1 77 = .ok (.iinc 4 1, 3) := by decide +kernel
theorem d_X10_crossing_80 : decode m_X10_crossing.2.1 80 = .ok (.goto (-43), 3) := by decide +kernel
theorem d_X10_crossing_83 : decode m_X10_crossing.2.1 83 = .ok (.ldc 125, 2) := by decide +kernel
theorem d_X10_crossing_85 : decode m_X10_crossing.2.1 85 = .ok (.ireturn, 1) := by decide +kernel
theorem d_X10_greatest_0 : decode m_X10_greatest.2.1 0 = .ok (.iload_n 1, 1) := by decide +kernel
theorem d_X10_greatest_1 : decode m_X10_greatest.2.1 1 = .ok (.invokestatic 136, 3) := by decide +kernel
theorem d_X10_greatest_4 : decode m_X10_greatest.2.1 4 = .ok (.ifCond .eq 35, 3) := by decide +kernel
theorem d_X10_greatest_7 : decode m_X10_greatest.2.1 7 = .ok (.iload_n 2, 1) := by decide +kernel
theorem d_X10_greatest_8 : decode m_X10_greatest.2.1 8 = .ok (.iconst 0, 1) := by decide +kernel
theorem d_X10_greatest_9 : decode m_X10_greatest.2.1 9 = .ok (.sipush 8000, 3) := by decide +kernel
theorem d_X10_greatest_12 : decode m_X10_greatest.2.1 12 = .ok (.invokestatic 86, 3) := by decide +kernel
theorem d_X10_greatest_15 : decode m_X10_greatest.2.1 15 = .ok (.ifCond .eq 24, 3) := by decide +kernel
theorem d_X10_greatest_18 : decode m_X10_greatest.2.1 18 = .ok (.iload_n 3, 1) := by decide +kernel
theorem d_X10_greatest_19 : decode m_X10_greatest.2.1 19 = .ok (.iload_n 2, 1) := by decide +kernel
theorem d_X10_greatest_20 : decode m_X10_greatest.2.1 20 = .ok (.sipush 8000, 3) := by decide +kernel
theorem d_X10_greatest_23 : decode m_X10_greatest.2.1 23 = .ok (.invokestatic 86, 3) := by decide +kernel
theorem d_X10_greatest_26 : decode m_X10_greatest.2.1 26 = .ok (.ifCond .eq 13, 3) := by decide +kernel
theorem d_X10_greatest_29 : decode m_X10_greatest.2.1 29 = .ok (.iload 4, 2) := by decide +kernel
theorem d_X10_greatest_31 : decode m_X10_greatest.2.1 31 = .ok (.iconst 0, 1) := by decide +kernel
theorem d_X10_greatest_32 : decode m_X10_greatest.2.1 32 = .ok (.iconst 1, 1) := by decide +kernel
theorem d_X10_greatest_33 : decode m_X10_greatest.2.1 33 = .ok (.invokestatic 86, 3) := by decide +kernel
theorem d_X10_greatest_36 : decode m_X10_greatest.2.1 36 = .ok (.ifCond .ne 6, 3) := by decide +kernel
theorem d_X10_greatest_39 : decode m_X10_greatest.2.1 39 = .ok (.ldc 90, 2) := by decide +kernel
theorem d_X10_greatest_41 : decode m_X10_greatest.2.1 41 = .ok (.ireturn, 1) := by decide +kernel
theorem d_X10_greatest_42 : decode m_X10_greatest.2.1 42 = .ok (.iload_n 3, 1) := by decide +kernel
theorem d_X10_greatest_43 : decode m_X10_greatest.2.1 43 = .ok (.aload_n 0, 1) := by decide +kernel
theorem d_X10_greatest_44 : decode m_X10_greatest.2.1 44 = .ok (.getfield 91, 3) := by decide +kernel
theorem d_X10_greatest_47 : decode m_X10_greatest.2.1 47 = .ok (.if_icmp .le 6, 3) := by decide +kernel
theorem d_X10_greatest_50 : decode m_X10_greatest.2.1 50 = .ok (.ldc 125, 2) := by decide +kernel
theorem d_X10_greatest_52 : decode m_X10_greatest.2.1 52 = .ok (.ireturn, 1) := by decide +kernel
theorem d_X10_greatest_53 : decode m_X10_greatest.2.1 53 = .ok (.iload_n 2, 1) := by decide +kernel
theorem d_X10_greatest_54 : decode m_X10_greatest.2.1 54 = .ok (.istore 5, 2) := by decide +kernel
theorem d_X10_greatest_56 : decode m_X10_greatest.2.1 56 = .ok (.iload_n 2, 1) := by decide +kernel
theorem d_X10_greatest_57 : decode m_X10_greatest.2.1 57 = .ok (.iconst 1, 1) := by decide +kernel
theorem d_X10_greatest_58 : decode m_X10_greatest.2.1 58 = .ok (.iadd, 1) := by decide +kernel
theorem d_X10_greatest_59 : decode m_X10_greatest.2.1 59 = .ok (.istore 6, 2) := by decide +kernel
theorem d_X10_greatest_61 : decode m_X10_greatest.2.1 61 = .ok (.iload 6, 2) := by decide +kernel
theorem d_X10_greatest_63 : decode m_X10_greatest.2.1 63 = .ok (.iload_n 3, 1) := by decide +kernel
theorem d_X10_greatest_64 : decode m_X10_greatest.2.1 64 = .ok (.if_icmp .gt 36, 3) := by decide +kernel
theorem d_X10_greatest_67 : decode m_X10_greatest.2.1 67 = .ok (.aload_n 0, 1) := by decide +kernel
theorem d_X10_greatest_68 : decode m_X10_greatest.2.1 68 = .ok (.iload_n 1, 1) := by decide +kernel
theorem d_X10_greatest_69 : decode m_X10_greatest.2.1 69 = .ok (.iload 6, 2) := by decide +kernel
theorem d_X10_greatest_71 : decode m_X10_greatest.2.1 71 = .ok (.invokevirtual 210, 3) := by decide +kernel
theorem d_X10_greatest_74 : decode m_X10_greatest.2.1 74 = .ok (.aload_n 0, 1) := by decide +kernel
theorem d_X10_greatest_75 : decode m_X10_greatest.2.1 75 = .ok (.iload_n 1, 1) := by decide +kernel
theorem d_X10_greatest_76 : decode m_X10_greatest.2.1 76 = .ok (.iload 5, 2) := by decide +kernel
theorem d_X10_greatest_78 : decode m_X10_greatest.2.1 78 = .ok (.invokevirtual 210, 3) := by decide +kernel
theorem d_X10_greatest_81 : decode m_X10_greatest.2.1 81 = .ok (.lcmp, 1) := by decide +kernel
theorem d_X10_greatest_82 : decode m_X10_greatest.2.1 82 = .ok (.ifCond .le 8, 3) := by decide +kernel
theorem d_X10_greatest_85 : decode m_X10_greatest.2.1 85 = .ok (.iload 6, 2) := by decide +kernel
theorem d_X10_greatest_87 : decode m_X10_greatest.2.1 87 = .ok (.goto 5, 3) := by decide +kernel
theorem d_X10_greatest_90 : decode m_X10_greatest.2.1 90 = .ok (.iload 5, 2) := by decide +kernel
theorem d_X10_greatest_92 : decode m_X10_greatest.2.1 92 = .ok (.istore 5, 2) := by decide +kernel
theorem d_X10_greatest_94 : decode m_X10_greatest.2.1 94 = .ok (.iinc 6 1, 3) := by decide +kernel
theorem d_X10_greatest_97 : decode m_X10_greatest.2.1 97 = .ok (.goto (-36), 3) := by decide +kernel
theorem d_X10_greatest_100 : decode m_X10_greatest.2.1 100 = .ok (.iload 4, 2) := by decide +kernel
theorem d_X10_greatest_102 : decode m_X10_greatest.2.1 102 = .ok (.ifCond .ne 14, 3) := by decide +kernel
theorem d_X10_greatest_105 : decode m_X10_greatest.2.1 105 = .ok (.aload_n 0, 1) := by decide +kernel
theorem d_X10_greatest_106 : decode m_X10_greatest.2.1 106 = .ok (.iload_n 1, 1) := by decide +kernel
theorem d_X10_greatest_107 : decode m_X10_greatest.2.1 107 = .ok (.iload 5, 2) := by decide +kernel
theorem d_X10_greatest_109 : decode m_X10_greatest.2.1 109 = .ok (.invokevirtual 210, 3) := by decide +kernel
theorem d_X10_greatest_112 : decode m_X10_greatest.2.1 112 = .ok (.l2i, 1) := by decide +kernel
theorem d_X10_greatest_113 : decode m_X10_greatest.2.1 113 = .ok (.goto 5, 3) := by decide +kernel
theorem d_X10_greatest_116 : decode m_X10_greatest.2.1 116 = .ok (.iload 5, 2) := by decide +kernel
theorem d_X10_greatest_118 : decode m_X10_greatest.2.1 118 = .ok (.ireturn, 1) := by decide +kernel
theorem d_X10_differs_0 : decode m_X10_differs.2.1 0 = .ok (.iload_n 1, 1) := by decide +kernel
theorem d_X10_differs_1 : decode m_X10_differs.2.1 1 = .ok (.bipush 20, 2) := by decide +kernel
theorem d_X10_differs_3 : decode m_X10_differs.2.1 3 = .ok (.sipush 500, 3) := by decide +kernel
theorem d_X10_differs_6 : decode m_X10_differs.2.1 6 = .ok (.invokestatic 86, 3) := by decide +kernel
theorem d_X10_differs_9 : decode m_X10_differs.2.1 9 = .ok (.ifCond .ne 6, 3) := by decide +kernel
theorem d_X10_differs_12 : decode m_X10_differs.2.1 12 = .ok (.ldc 90, 2) := by decide +kernel
theorem d_X10_differs_14 : decode m_X10_differs.2.1 14 = .ok (.ireturn, 1) := by decide +kernel
theorem d_X10_differs_15 : decode m_X10_differs.2.1 15 = .ok (.aload_n 0, 1) := by decide +kernel
theorem d_X10_differs_16 : decode m_X10_differs.2.1 16 = .ok (.getfield 91, 3) := by decide +kernel
theorem d_X10_differs_19 : decode m_X10_differs.2.1 19 = .ok (.istore_n 2, 1) := by decide +kernel
theorem d_X10_differs_20 : decode m_X10_differs.2.1 20 = .ok (.aload_n 0, 1) := by decide +kernel
theorem d_X10_differs_21 : decode m_X10_differs.2.1 21 = .ok (.getfield 7, 3) := by decide +kernel
theorem d_X10_differs_24 : decode m_X10_differs.2.1 24 = .ok (.iconst 0, 1) := by decide +kernel
theorem d_X10_differs_25 : decode m_X10_differs.2.1 25 = .ok (.iaload, 1) := by decide +kernel
theorem d_X10_differs_26 : decode m_X10_differs.2.1 26 = .ok (.istore_n 3, 1) := by decide +kernel
theorem d_X10_differs_27 : decode m_X10_differs.2.1 27 = .ok (.iconst 0, 1) := by decide +kernel
theorem d_X10_differs_28 : decode m_X10_differs.2.1 28 = .ok (.istore 4, 2) := by decide +kernel
theorem d_X10_differs_30 : decode m_X10_differs.2.1 30 = .ok (.iload 4, 2) := by decide +kernel
theorem d_X10_differs_32 : decode m_X10_differs.2.1 32 = .ok (.iconst 3, 1) := by decide +kernel
theorem d_X10_differs_33 : decode m_X10_differs.2.1 33 = .ok (.if_icmp .ge 23, 3) := by decide +kernel
theorem d_X10_differs_36 : decode m_X10_differs.2.1 36 = .ok (.aload_n 0, 1) := by decide +kernel
theorem d_X10_differs_37 : decode m_X10_differs.2.1 37 = .ok (.getfield 65, 3) := by decide +kernel
theorem d_X10_differs_40 : decode m_X10_differs.2.1 40 = .ok (.iload 4, 2) := by decide +kernel
theorem d_X10_differs_42 : decode m_X10_differs.2.1 42 = .ok (.aload_n 0, 1) := by decide +kernel
theorem d_X10_differs_43 : decode m_X10_differs.2.1 43 = .ok (.iload 4, 2) := by decide +kernel
theorem d_X10_differs_45 : decode m_X10_differs.2.1 45 = .ok (.iload_n 2, 1) := by decide +kernel
theorem d_X10_differs_46 : decode m_X10_differs.2.1 46 = .ok (.invokevirtual 210, 3) := by decide +kernel
theorem d_X10_differs_49 : decode m_X10_differs.2.1 49 = .ok (.lastore, 1) := by decide +kernel
theorem d_X10_differs_50 : decode m_X10_differs.2.1 50 = .ok (.iinc 4 1, 3) := by decide +kernel
theorem d_X10_differs_53 : decode m_X10_differs.2.1 53 = .ok (.goto (-23), 3) := by decide +kernel
theorem d_X10_differs_56 : decode m_X10_differs.2.1 56 = .ok (.aload_n 0, 1) := by decide +kernel
theorem d_X10_differs_57 : decode m_X10_differs.2.1 57 = .ok (.getfield 7, 3) := by decide +kernel
theorem d_X10_differs_60 : decode m_X10_differs.2.1 60 = .ok (.iconst 0, 1) := by decide +kernel
theorem d_X10_differs_61 : decode m_X10_differs.2.1 61 = .ok (.iload_n 1, 1) := by decide +kernel
theorem d_X10_differs_62 : decode m_X10_differs.2.1 62 = .ok (.iastore, 1) := by decide +kernel
theorem d_X10_differs_63 : decode m_X10_differs.2.1 63 = .ok (.aload_n 0, 1) := by decide +kernel
theorem d_X10_differs_64 : decode m_X10_differs.2.1 64 = .ok (.iconst 0, 1) := by decide +kernel
theorem d_X10_differs_65 : decode m_X10_differs.2.1 65 = .ok (.putfield 178, 3) := by decide +kernel
theorem d_X10_differs_68 : decode m_X10_differs.2.1 68 = .ok (.aload_n 0, 1) := by decide +kernel
theorem d_X10_differs_69 : decode m_X10_differs.2.1 69 = .ok (.iconst 0, 1) := by decide +kernel
theorem d_X10_differs_70 : decode m_X10_differs.2.1 70 = .ok (.putfield 91, 3) := by decide +kernel
theorem d_X10_differs_73 : decode m_X10_differs.2.1 73 = .ok (.aload_n 0, 1) := by decide +kernel
theorem d_X10_differs_74 : decode m_X10_differs.2.1 74 = .ok (.iload_n 2, 1) := by decide +kernel
theorem d_X10_differs_75 : decode m_X10_differs.2.1 75 = .ok (.invokevirtual 268, 3) := by decide +kernel
theorem d_X10_differs_78 : decode m_X10_differs.2.1 78 = .ok (.lconst 0, 1) := by decide +kernel
theorem d_X10_differs_79 : decode m_X10_differs.2.1 79 = .ok (.lstore 4, 2) := by decide +kernel
theorem d_X10_differs_81 : decode m_X10_differs.2.1 81 = .ok (.iconst 0, 1) := by decide +kernel
theorem d_X10_differs_82 : decode m_X10_differs.2.1 82 = .ok (.istore 6, 2) := by decide +kernel
theorem d_X10_differs_84 : decode m_X10_differs.2.1 84 = .ok (.iload 6, 2) := by decide +kernel
theorem d_X10_differs_86 : decode m_X10_differs.2.1 86 = .ok (.iconst 3, 1) := by decide +kernel
theorem d_X10_differs_87 : decode m_X10_differs.2.1 87 = .ok (.if_icmp .ge 60, 3) := by decide +kernel
theorem d_X10_differs_90 : decode m_X10_differs.2.1 90 = .ok (.aload_n 0, 1) := by decide +kernel
theorem d_X10_differs_91 : decode m_X10_differs.2.1 91 = .ok (.iload 6, 2) := by decide +kernel
theorem d_X10_differs_93 : decode m_X10_differs.2.1 93 = .ok (.iload_n 2, 1) := by decide +kernel
theorem d_X10_differs_94 : decode m_X10_differs.2.1 94 = .ok (.invokevirtual 210, 3) := by decide +kernel
theorem d_X10_differs_97 : decode m_X10_differs.2.1 97 = .ok (.aload_n 0, 1) := by decide +kernel
theorem d_X10_differs_98 : decode m_X10_differs.2.1 98 = .ok (.getfield 65, 3) := by decide +kernel
theorem d_X10_differs_101 : decode m_X10_differs.2.1 101 = .ok (.iload 6, 2) := by decide +kernel
theorem d_X10_differs_103 : decode m_X10_differs.2.1 103 = .ok (.laload, 1) := by decide +kernel
theorem d_X10_differs_104 : decode m_X10_differs.2.1 104 = .ok (.lsub, 1) := by decide +kernel
theorem d_X10_differs_105 : decode m_X10_differs.2.1 105 = .ok (.lstore 7, 2) := by decide +kernel
theorem d_X10_differs_107 : decode m_X10_differs.2.1 107 = .ok (.lload 7, 2) := by decide +kernel
theorem d_X10_differs_109 : decode m_X10_differs.2.1 109 = .ok (.lconst 0, 1) := by decide +kernel
theorem d_X10_differs_110 : decode m_X10_differs.2.1 110 = .ok (.lcmp, 1) := by decide +kernel
theorem d_X10_differs_111 : decode m_X10_differs.2.1 111 = .ok (.ifCond .ge 9, 3) := by decide +kernel
theorem d_X10_differs_114 : decode m_X10_differs.2.1 114 = .ok (.lload 7, 2) := by decide +kernel
theorem d_X10_differs_116 : decode m_X10_differs.2.1 116 = .ok (.lneg, 1) := by decide +kernel
theorem d_X10_differs_117 : decode m_X10_differs.2.1 117 = .ok (.goto 5, 3) := by decide +kernel
theorem d_X10_differs_120 : decode m_X10_differs.2.1 120 = .ok (.lload 7, 2) := by decide +kernel
theorem d_X10_differs_122 : decode m_X10_differs.2.1 122 = .ok (.lstore 7, 2) := by decide +kernel
theorem d_X10_differs_124 : decode m_X10_differs.2.1 124 = .ok (.lload 7, 2) := by decide +kernel
theorem d_X10_differs_126 : decode m_X10_differs.2.1 126 = .ok (.lload 4, 2) := by decide +kernel
theorem d_X10_differs_128 : decode m_X10_differs.2.1 128 = .ok (.lcmp, 1) := by decide +kernel
theorem d_X10_differs_129 : decode m_X10_differs.2.1 129 = .ok (.ifCond .le 8, 3) := by decide +kernel
theorem d_X10_differs_132 : decode m_X10_differs.2.1 132 = .ok (.lload 7, 2) := by decide +kernel
theorem d_X10_differs_134 : decode m_X10_differs.2.1 134 = .ok (.goto 5, 3) := by decide +kernel
theorem d_X10_differs_137 : decode m_X10_differs.2.1 137 = .ok (.lload 4, 2) := by decide +kernel
theorem d_X10_differs_139 : decode m_X10_differs.2.1 139 = .ok (.lstore 4, 2) := by decide +kernel
theorem d_X10_differs_141 : decode m_X10_differs.2.1 141 = .ok (.iinc 6 1, 3) := by decide +kernel
theorem d_X10_differs_144 : decode m_X10_differs.2.1 144 = .ok (.goto (-60), 3) := by decide +kernel
theorem d_X10_differs_147 : decode m_X10_differs.2.1 147 = .ok (.aload_n 0, 1) := by decide +kernel
theorem d_X10_differs_148 : decode m_X10_differs.2.1 148 = .ok (.getfield 7, 3) := by decide +kernel
theorem d_X10_differs_151 : decode m_X10_differs.2.1 151 = .ok (.iconst 0, 1) := by decide +kernel
theorem d_X10_differs_152 : decode m_X10_differs.2.1 152 = .ok (.iload_n 3, 1) := by decide +kernel
theorem d_X10_differs_153 : decode m_X10_differs.2.1 153 = .ok (.iastore, 1) := by decide +kernel
theorem d_X10_differs_154 : decode m_X10_differs.2.1 154 = .ok (.aload_n 0, 1) := by decide +kernel
theorem d_X10_differs_155 : decode m_X10_differs.2.1 155 = .ok (.invokevirtual 74, 3) := by decide +kernel
theorem d_X10_differs_158 : decode m_X10_differs.2.1 158 = .ok (.lload 4, 2) := by decide +kernel
theorem d_X10_differs_160 : decode m_X10_differs.2.1 160 = .ok (.invokestatic 191, 3) := by decide +kernel
theorem d_X10_differs_163 : decode m_X10_differs.2.1 163 = .ok (.l2i, 1) := by decide +kernel
theorem d_X10_differs_164 : decode m_X10_differs.2.1 164 = .ok (.ireturn, 1) := by decide +kernel
theorem d_X10_count_0 : decode m_X10_count.2.1 0 = .ok (.iload_n 1, 1) := by decide +kernel
theorem d_X10_count_1 : decode m_X10_count.2.1 1 = .ok (.iconst 0, 1) := by decide +kernel
theorem d_X10_count_2 : decode m_X10_count.2.1 2 = .ok (.iconst 2, 1) := by decide +kernel
theorem d_X10_count_3 : decode m_X10_count.2.1 3 = .ok (.invokestatic 86, 3) := by decide +kernel
theorem d_X10_count_6 : decode m_X10_count.2.1 6 = .ok (.ifCond .eq 10, 3) := by decide +kernel
theorem d_X10_count_9 : decode m_X10_count.2.1 9 = .ok (.aload_n 0, 1) := by decide +kernel
theorem d_X10_count_10 : decode m_X10_count.2.1 10 = .ok (.getfield 7, 3) := by decide +kernel
theorem d_X10_count_13 : decode m_X10_count.2.1 13 = .ok (.iload_n 1, 1) := by decide +kernel
theorem d_X10_count_14 : decode m_X10_count.2.1 14 = .ok (.iaload, 1) := by decide +kernel
theorem d_X10_count_15 : decode m_X10_count.2.1 15 = .ok (.ireturn, 1) := by decide +kernel
theorem d_X10_count_16 : decode m_X10_count.2.1 16 = .ok (.iload_n 1, 1) := by decide +kernel
theorem d_X10_count_17 : decode m_X10_count.2.1 17 = .ok (.bipush 8, 2) := by decide +kernel
theorem d_X10_count_19 : decode m_X10_count.2.1 19 = .ok (.bipush 10, 2) := by decide +kernel
theorem d_X10_count_21 : decode m_X10_count.2.1 21 = .ok (.invokestatic 86, 3) := by decide +kernel
theorem d_X10_count_24 : decode m_X10_count.2.1 24 = .ok (.ifCond .eq 12, 3) := by decide +kernel
theorem d_X10_count_27 : decode m_X10_count.2.1 27 = .ok (.aload_n 0, 1) := by decide +kernel
theorem d_X10_count_28 : decode m_X10_count.2.1 28 = .ok (.iload_n 1, 1) := by decide +kernel
theorem d_X10_count_29 : decode m_X10_count.2.1 29 = .ok (.bipush 8, 2) := by decide +kernel
theorem d_X10_count_31 : decode m_X10_count.2.1 31 = .ok (.isub, 1) := by decide +kernel
theorem d_X10_count_32 : decode m_X10_count.2.1 32 = .ok (.invokevirtual 144, 3) := by decide +kernel
theorem d_X10_count_35 : decode m_X10_count.2.1 35 = .ok (.ireturn, 1) := by decide +kernel
theorem d_X10_count_36 : decode m_X10_count.2.1 36 = .ok (.iload_n 1, 1) := by decide +kernel
theorem d_X10_count_37 : decode m_X10_count.2.1 37 = .ok (.bipush 11, 2) := by decide +kernel
theorem d_X10_count_39 : decode m_X10_count.2.1 39 = .ok (.bipush 13, 2) := by decide +kernel
theorem d_X10_count_41 : decode m_X10_count.2.1 41 = .ok (.invokestatic 86, 3) := by decide +kernel
theorem d_X10_count_44 : decode m_X10_count.2.1 44 = .ok (.ifCond .eq 16, 3) := by decide +kernel
theorem d_X10_count_47 : decode m_X10_count.2.1 47 = .ok (.aload_n 0, 1) := by decide +kernel
theorem d_X10_count_48 : decode m_X10_count.2.1 48 = .ok (.getfield 7, 3) := by decide +kernel
theorem d_X10_count_51 : decode m_X10_count.2.1 51 = .ok (.bipush 6, 2) := by decide +kernel
theorem d_X10_count_53 : decode m_X10_count.2.1 53 = .ok (.iload_n 1, 1) := by decide +kernel
theorem d_X10_count_54 : decode m_X10_count.2.1 54 = .ok (.iadd, 1) := by decide +kernel
theorem d_X10_count_55 : decode m_X10_count.2.1 55 = .ok (.bipush 11, 2) := by decide +kernel
theorem d_X10_count_57 : decode m_X10_count.2.1 57 = .ok (.isub, 1) := by decide +kernel
theorem d_X10_count_58 : decode m_X10_count.2.1 58 = .ok (.iaload, 1) := by decide +kernel
theorem d_X10_count_59 : decode m_X10_count.2.1 59 = .ok (.ireturn, 1) := by decide +kernel
theorem d_X10_count_60 : decode m_X10_count.2.1 60 = .ok (.iload_n 1, 1) := by decide +kernel
theorem d_X10_count_61 : decode m_X10_count.2.1 61 = .ok (.tableswitch 93 3 14 #[63, 68, 73, 78, 83, 93, 93, 93, 93, 93, 93, 88], 63) := by decide +kernel
theorem d_X10_count_124 : decode m_X10_count.2.1 124 = .ok (.aload_n 0, 1) := by decide +kernel
theorem d_X10_count_125 : decode m_X10_count.2.1 125 = .ok (.getfield 91, 3) := by decide +kernel
theorem d_X10_count_128 : decode m_X10_count.2.1 128 = .ok (.ireturn, 1) := by decide +kernel
theorem d_X10_count_129 : decode m_X10_count.2.1 129 = .ok (.aload_n 0, 1) := by decide +kernel
theorem d_X10_count_130 : decode m_X10_count.2.1 130 = .ok (.getfield 178, 3) := by decide +kernel
theorem d_X10_count_133 : decode m_X10_count.2.1 133 = .ok (.ireturn, 1) := by decide +kernel
theorem d_X10_count_134 : decode m_X10_count.2.1 134 = .ok (.aload_n 0, 1) := by decide +kernel
theorem d_X10_count_135 : decode m_X10_count.2.1 135 = .ok (.getfield 156, 3) := by decide +kernel
theorem d_X10_count_138 : decode m_X10_count.2.1 138 = .ok (.ireturn, 1) := by decide +kernel
theorem d_X10_count_139 : decode m_X10_count.2.1 139 = .ok (.aload_n 0, 1) := by decide +kernel
theorem d_X10_count_140 : decode m_X10_count.2.1 140 = .ok (.getfield 97, 3) := by decide +kernel
theorem d_X10_count_143 : decode m_X10_count.2.1 143 = .ok (.ireturn, 1) := by decide +kernel
theorem d_X10_count_144 : decode m_X10_count.2.1 144 = .ok (.aload_n 0, 1) := by decide +kernel
theorem d_X10_count_145 : decode m_X10_count.2.1 145 = .ok (.getfield 81, 3) := by decide +kernel
theorem d_X10_count_148 : decode m_X10_count.2.1 148 = .ok (.ireturn, 1) := by decide +kernel
theorem d_X10_count_149 : decode m_X10_count.2.1 149 = .ok (.aload_n 0, 1) := by decide +kernel
theorem d_X10_count_150 : decode m_X10_count.2.1 150 = .ok (.invokevirtual 162, 3) := by decide +kernel
theorem d_X10_count_153 : decode m_X10_count.2.1 153 = .ok (.ireturn, 1) := by decide +kernel
theorem d_X10_count_154 : decode m_X10_count.2.1 154 = .ok (.ldc 90, 2) := by decide +kernel
theorem d_X10_count_156 : decode m_X10_count.2.1 156 = .ok (.ireturn, 1) := by decide +kernel
