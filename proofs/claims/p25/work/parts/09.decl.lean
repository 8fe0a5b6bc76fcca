set_option maxRecDepth 20000
def m_L_law : MD := (yL_law, code, 11, ret)
theorem d_L_cell_0 : decode m_L_cell.2.1 0 = .ok (.iload_n 1, 1) := by decide +kernel
theorem d_L_cell_1 : decode m_L_cell.2.1 1 = .ok (.aload_n 0, 1) := by decide +kernel
theorem d_L_cell_2 : decode m_L_cell.2.1 2 = .ok (.arraylength, 1) := by decide +kernel
theorem d_L_cell_3 : decode m_L_cell.2.1 3 = .ok (.if_icmp .ge 9, 3) := by decide +kernel
theorem d_L_cell_6 : decode m_L_cell.2.1 6 = .ok (.aload_n 0, 1) := by decide +kernel
theorem d_L_cell_7 : decode m_L_cell.2.1 7 = .ok (.iload_n 1, 1) := by decide +kernel
theorem d_L_cell_8 : decode m_L_cell.2.1 8 = .ok (.iaload, 1) := by decide +kernel
theorem d_L_cell_9 : decode m_L_cell.2.1 9 = .ok (.goto 9, 3) := by decide +kernel
theorem d_L_cell_12 : decode m_L_cell.2.1 12 = .ok (.ldc 7, 2) := by decide +kernel
theorem d_L_cell_14 : decode m_L_cell.2.1 14 = .ok (.iload_n 1, 1) := by decide +kernel
theorem d_L_cell_15 : decode m_L_cell.2.1 15 = .ok (.iconst 1, 1) := by decide +kernel
theorem d_L_cell_16 : decode m_L_cell.2.1 16 = .ok (.iadd, 1) := by decide +kernel
theorem d_L_cell_17 : decode m_L_cell.2.1 17 = .ok (.imul, 1) := by decide +kernel
theorem d_L_cell_18 : decode m_L_cell.2.1 18 = .ok (.ireturn, 1) := by decide +kernel
theorem d_L_low_0 : decode m_L_low.2.1 0 = .ok (.iload_n 0, 1) := by decide +kernel
theorem d_L_low_1 : decode m_L_low.2.1 1 = .ok (.ldc 8, 2) := by decide +kernel
theorem d_L_low_3 : decode m_L_low.2.1 3 = .ok (.iand, 1) := by decide +kernel
theorem d_L_low_4 : decode m_L_low.2.1 4 = .ok (.iload_n 1, 1) := by decide +kernel
theorem d_L_low_5 : decode m_L_low.2.1 5 = .ok (.irem, 1) := by decide +kernel
theorem d_L_low_6 : decode m_L_low.2.1 6 = .ok (.ireturn, 1) := by decide +kernel
theorem d_L_near_0 : decode m_L_near.2.1 0 = .ok (.iload_n 0, 1) := by decide +kernel
theorem d_L_near_1 : decode m_L_near.2.1 1 = .ok (.bipush 40, 2) := by decide +kernel
theorem d_L_near_3 : decode m_L_near.2.1 3 = .ok (.invokestatic 9, 3) := by decide +kernel
theorem d_L_near_6 : decode m_L_near.2.1 6 = .ok (.istore_n 2, 1) := by decide +kernel
theorem d_L_near_7 : decode m_L_near.2.1 7 = .ok (.iload_n 2, 1) := by decide +kernel
theorem d_L_near_8 : decode m_L_near.2.1 8 = .ok (.ifCond .ne 7, 3) := by decide +kernel
theorem d_L_near_11 : decode m_L_near.2.1 11 = .ok (.iconst (-1), 1) := by decide +kernel
theorem d_L_near_12 : decode m_L_near.2.1 12 = .ok (.goto 29, 3) := by decide +kernel
theorem d_L_near_15 : decode m_L_near.2.1 15 = .ok (.iload_n 2, 1) := by decide +kernel
theorem d_L_near_16 : decode m_L_near.2.1 16 = .ok (.iconst 1, 1) := by decide +kernel
theorem d_L_near_17 : decode m_L_near.2.1 17 = .ok (.if_icmp .ne 7, 3) := by decide +kernel
theorem d_L_near_20 : decode m_L_near.2.1 20 = .ok (.iload_n 1, 1) := by decide +kernel
theorem d_L_near_21 : decode m_L_near.2.1 21 = .ok (.goto 20, 3) := by decide +kernel
theorem d_L_near_24 : decode m_L_near.2.1 24 = .ok (.iload_n 2, 1) := by decide +kernel
theorem d_L_near_25 : decode m_L_near.2.1 25 = .ok (.iconst 2, 1) := by decide +kernel
theorem d_L_near_26 : decode m_L_near.2.1 26 = .ok (.if_icmp .ne 7, 3) := by decide +kernel
theorem d_L_near_29 : decode m_L_near.2.1 29 = .ok (.iload_n 0, 1) := by decide +kernel
theorem d_L_near_30 : decode m_L_near.2.1 30 = .ok (.goto 11, 3) := by decide +kernel
theorem d_L_near_33 : decode m_L_near.2.1 33 = .ok (.iload_n 0, 1) := by decide +kernel
theorem d_L_near_34 : decode m_L_near.2.1 34 = .ok (.bipush 6, 2) := by decide +kernel
theorem d_L_near_36 : decode m_L_near.2.1 36 = .ok (.ishr, 1) := by decide +kernel
theorem d_L_near_37 : decode m_L_near.2.1 37 = .ok (.iload_n 1, 1) := by decide +kernel
theorem d_L_near_38 : decode m_L_near.2.1 38 = .ok (.invokestatic 9, 3) := by decide +kernel
theorem d_L_near_41 : decode m_L_near.2.1 41 = .ok (.ireturn, 1) := by decide +kernel
theorem d_L_isError_0 : decode m_L_isError.2.1 0 = .ok (.iload_n 0, 1) := by decide +kernel
theorem d_L_isError_1 : decode m_L_isError.2.1 1 = .ok (.ldc 15, 2) := by decide +kernel
theorem d_L_isError_3 : decode m_L_isError.2.1 3 = .ok (.if_icmp .gt 13, 3) := by decide +kernel
theorem d_L_isError_6 : decode m_L_isError.2.1 6 = .ok (.iload_n 0, 1) := by decide +kernel
theorem d_L_isError_7 : decode m_L_isError.2.1 7 = .ok (.ldc 16, 2) := by decide +kernel
theorem d_L_isError_9 : decode m_L_isError.2.1 9 = .ok (.if_icmp .lt 7, 3) := by decide +kernel
theorem d_L_isError_12 : decode m_L_isError.2.1 12 = .ok (.iconst 1, 1) := by decide +kernel
theorem d_L_isError_13 : decode m_L_isError.2.1 13 = .ok (.goto 4, 3) := by decide +kernel
theorem d_L_isError_16 : decode m_L_isError.2.1 16 = .ok (.iconst 0, 1) := by decide +kernel
theorem d_L_isError_17 : decode m_L_isError.2.1 17 = .ok (.ireturn, 1) := by decide +kernel
theorem d_L_trace_0 : decode m_L_trace.2.1 0 = .ok (.ldc2_w 17, 3) := by decide +kernel
theorem d_L_trace_3 : decode m_L_trace.2.1 3 = .ok (.lstore_n 1, 1) := by decide +kernel
theorem d_L_trace_4 : decode m_L_trace.2.1 4 = .ok (.iconst 0, 1) := by decide +kernel
theorem d_L_trace_5 : decode m_L_trace.2.1 5 = .ok (.istore_n 3, 1) := by decide +kernel
theorem d_L_trace_6 : decode m_L_trace.2.1 6 = .ok (.iload_n 3, 1) := by decide +kernel
theorem d_L_trace_7 : decode m_L_trace.2.1 7 = .ok (.bipush 15, 2) := by decide +kernel
theorem d_L_trace_9 : decode m_L_trace.2.1 9 = .ok (.if_icmp .ge 32, 3) := by decide +kernel
theorem d_L_trace_12 : decode m_L_trace.2.1 12 = .ok (.ldc2_w 19, 3) := by decide +kernel
theorem d_L_trace_15 : decode m_L_trace.2.1 15 = .ok (.lload_n 1, 1) := by decide +kernel
theorem d_L_trace_16 : decode m_L_trace.2.1 16 = .ok (.lmul, 1) := by decide +kernel
theorem d_L_trace_17 : decode m_L_trace.2.1 17 = .ok (.iload_n 3, 1) := by decide +kernel
theorem d_L_trace_18 : decode m_L_trace.2.1 18 = .ok (.bipush 6, 2) := by decide +kernel
theorem d_L_trace_20 : decode m_L_trace.2.1 20 = .ok (.if_icmp .ne 7, 3) := by decide +kernel
theorem d_L_trace_23 : decode m_L_trace.2.1 23 = .ok (.iconst 0, 1) := by decide +kernel
theorem d_L_trace_24 : decode m_L_trace.2.1 24 = .ok (.goto 8, 3) := by decide +kernel
theorem d_L_trace_27 : decode m_L_trace.2.1 27 = .ok (.aload_n 0, 1) := by decide +kernel
theorem d_L_trace_28 : decode m_L_trace.2.1 28 = .ok (.iload_n 3, 1) := by decide +kernel
theorem d_L_trace_29 : decode m_L_trace.2.1 29 = .ok (.invokevirtual 21, 3) := by decide +kernel
theorem d_L_trace_32 : decode m_L_trace.2.1 32 = .ok (.i2l, 1) := by decide +kernel
theorem d_L_trace_33 : decode m_L_trace.2.1 33 = .ok (.ladd, 1) := by decide +kernel
theorem d_L_trace_34 : decode m_L_trace.2.1 34 = .ok (.lstore_n 1, 1) := by decide +kernel
theorem d_L_trace_35 : decode m_L_trace.2.1 35 = .ok (.iinc 3 1, 3) := by decide +kernel
theorem d_L_trace_38 : decode m_L_trace.2.1 38 = .ok (.goto (-32), 3) := by decide +kernel
theorem d_L_trace_41 : decode m_L_trace.2.1 41 = .ok (.iconst 0, 1) := by decide +kernel
theorem d_L_trace_42 : decode m_L_trace.2.1 42 = .ok (.istore_n 3, 1) := by decide +kernel
theorem d_L_trace_43 : decode m_L_trace.2.1 43 = .ok (.iload_n 3, 1) := by decide +kernel
theorem d_L_trace_44 : decode m_L_trace.2.1 44 = .ok (.aload_n 0, 1) := by decide +kernel
theorem d_L_trace_45 : decode m_L_trace.2.1 45 = .ok (.iconst 5, 1) := by decide +kernel
theorem d_L_trace_46 : decode m_L_trace.2.1 46 = .ok (.invokevirtual 21, 3) := by decide +kernel
theorem d_L_trace_49 : decode m_L_trace.2.1 49 = .ok (.if_icmp .ge 35, 3) := by decide +kernel
theorem d_L_trace_52 : decode m_L_trace.2.1 52 = .ok (.ldc2_w 19, 3) := by decide +kernel
theorem d_L_trace_55 : decode m_L_trace.2.1 55 = .ok (.ldc2_w 19, 3) := by decide +kernel
theorem d_L_trace_58 : decode m_L_trace.2.1 58 = .ok (.lload_n 1, 1) := by decide +kernel
theorem d_L_trace_59 : decode m_L_trace.2.1 59 = .ok (.lmul, 1) := by decide +kernel
theorem d_L_trace_60 : decode m_L_trace.2.1 60 = .ok (.aload_n 0, 1) := by decide +kernel
theorem d_L_trace_61 : decode m_L_trace.2.1 61 = .ok (.iload_n 3, 1) := by decide +kernel
theorem d_L_trace_62 : decode m_L_trace.2.1 62 = .ok (.iconst 0, 1) := by decide +kernel
theorem d_L_trace_63 : decode m_L_trace.2.1 63 = .ok (.invokevirtual 27, 3) := by decide +kernel
theorem d_L_trace_66 : decode m_L_trace.2.1 66 = .ok (.i2l, 1) := by decide +kernel
theorem d_L_trace_67 : decode m_L_trace.2.1 67 = .ok (.ladd, 1) := by decide +kernel
theorem d_L_trace_68 : decode m_L_trace.2.1 68 = .ok (.lmul, 1) := by decide +kernel
theorem d_L_trace_69 : decode m_L_trace.2.1 69 = .ok (.aload_n 0, 1) := by decide +kernel
theorem d_L_trace_70 : decode m_L_trace.2.1 70 = .ok (.iload_n 3, 1) := by decide +kernel
theorem d_L_trace_71 : decode m_L_trace.2.1 71 = .ok (.iconst 2, 1) := by decide +kernel
theorem d_L_trace_72 : decode m_L_trace.2.1 72 = .ok (.invokevirtual 27, 3) := by decide +kernel
theorem d_L_trace_75 : decode m_L_trace.2.1 75 = .ok (.i2l, 1) := by decide +kernel
theorem d_L_trace_76 : decode m_L_trace.2.1 76 = .ok (.ladd, 1) := by decide +kernel
theorem d_L_trace_77 : decode m_L_trace.2.1 77 = .ok (.lstore_n 1, 1) := by decide +kernel
theorem d_L_trace_78 : decode m_L_trace.2.1 78 = .ok (.iinc 3 1, 3) := by decide +kernel
theorem d_L_trace_81 : decode m_L_trace.2.1 81 = .ok (.goto (-38), 3) := by decide +kernel
theorem d_L_trace_84 : decode m_L_trace.2.1 84 = .ok (.iconst 0, 1) := by decide +kernel
theorem d_L_trace_85 : decode m_L_trace.2.1 85 = .ok (.istore_n 3, 1) := by decide +kernel
theorem d_L_trace_86 : decode m_L_trace.2.1 86 = .ok (.iload_n 3, 1) := by decide +kernel
theorem d_L_trace_87 : decode m_L_trace.2.1 87 = .ok (.aload_n 0, 1) := by decide +kernel
theorem d_L_trace_88 : decode m_L_trace.2.1 88 = .ok (.iconst 4, 1) := by decide +kernel
theorem d_L_trace_89 : decode m_L_trace.2.1 89 = .ok (.invokevirtual 21, 3) := by decide +kernel
theorem d_L_trace_92 : decode m_L_trace.2.1 92 = .ok (.if_icmp .ge 40, 3) := by decide +kernel
theorem d_L_trace_95 : decode m_L_trace.2.1 95 = .ok (.iconst 1, 1) := by decide +kernel
theorem d_L_trace_96 : decode m_L_trace.2.1 96 = .ok (.istore 4, 2) := by decide +kernel
theorem d_L_trace_98 : decode m_L_trace.2.1 98 = .ok (.iload 4, 2) := by decide +kernel
theorem d_L_trace_100 : decode m_L_trace.2.1 100 = .ok (.bipush 6, 2) := by decide +kernel
theorem d_L_trace_102 : decode m_L_trace.2.1 102 = .ok (.if_icmp .ge 24, 3) := by decide +kernel
theorem d_L_trace_105 : decode m_L_trace.2.1 105 = .ok (.ldc2_w 19, 3) := by decide +kernel
theorem d_L_trace_108 : decode m_L_trace.2.1 108 = .ok (.lload_n 1, 1) := by decide +kernel
theorem d_L_trace_109 : decode m_L_trace.2.1 109 = .ok (.lmul, 1) := by decide +kernel
theorem d_L_trace_110 : decode m_L_trace.2.1 110 = .ok (.aload_n 0, 1) := by decide +kernel
theorem d_L_trace_111 : decode m_L_trace.2.1 111 = .ok (.iload_n 3, 1) := by decide +kernel
theorem d_L_trace_112 : decode m_L_trace.2.1 112 = .ok (.iload 4, 2) := by decide +kernel
theorem d_L_trace_114 : decode m_L_trace.2.1 114 = .ok (.invokevirtual 30, 3) := by decide +kernel
theorem d_L_trace_117 : decode m_L_trace.2.1 117 = .ok (.i2l, 1) := by decide +kernel
theorem d_L_trace_118 : decode m_L_trace.2.1 118 = .ok (.ladd, 1) := by decide +kernel
theorem d_L_trace_119 : decode m_L_trace.2.1 119 = .ok (.lstore_n 1, 1) := by decide +kernel
theorem d_L_trace_120 : decode m_L_trace.2.1 120 = .ok (.iinc 4 1, 3) := by decide +kernel
theorem d_L_trace_123 : decode m_L_trace.2.1 123 = .ok (.goto (-25), 3) := by decide +kernel
theorem d_L_trace_126 : decode m_L_trace.2.1 126 = .ok (.iinc 3 1, 3) := by decide +kernel
theorem d_L_trace_129 : decode m_L_trace.2.1 129 = .ok (.goto (-43), 3) := by decide +kernel
theorem d_L_trace_132 : decode m_L_trace.2.1 132 = .ok (.iconst 0, 1) := by decide +kernel
theorem d_L_trace_133 : decode m_L_trace.2.1 133 = .ok (.istore_n 3, 1) := by decide +kernel
theorem d_L_trace_134 : decode m_L_trace.2.1 134 = .ok (.iload_n 3, 1) := by decide +kernel
theorem d_L_trace_135 : decode m_L_trace.2.1 135 = .ok (.iconst 3, 1) := by decide +kernel
theorem d_L_trace_136 : decode m_L_trace.2.1 136 = .ok (.if_icmp .ge 72, 3) := by decide +kernel
theorem d_L_trace_139 : decode m_L_trace.2.1 139 = .ok (.ldc2_w 19, 3) := by decide +kernel
theorem d_L_trace_142 : decode m_L_trace.2.1 142 = .ok (.ldc2_w 19, 3) := by decide +kernel
theorem d_L_trace_145 : decode m_L_trace.2.1 145 = .ok (.lload_n 1, 1) := by decide +kernel
theorem d_L_trace_146 : decode m_L_trace.2.1 146 = .ok (.lmul, 1) := by decide +kernel
theorem d_L_trace_147 : decode m_L_trace.2.1 147 = .ok (.aload_n 0, 1) := by decide +kernel
theorem d_L_trace_148 : decode m_L_trace.2.1 148 = .ok (.iload_n 3, 1) := by decide +kernel
theorem d_L_trace_149 : decode m_L_trace.2.1 149 = .ok (.sipush 1000, 3) := by decide +kernel
theorem d_L_trace_152 : decode m_L_trace.2.1 152 = .ok (.invokevirtual 33, 3) := by decide +kernel
theorem d_L_trace_155 : decode m_L_trace.2.1 155 = .ok (.i2l, 1) := by decide +kernel
theorem d_L_trace_156 : decode m_L_trace.2.1 156 = .ok (.ladd, 1) := by decide +kernel
theorem d_L_trace_157 : decode m_L_trace.2.1 157 = .ok (.lmul, 1) := by decide +kernel
theorem d_L_trace_158 : decode m_L_trace.2.1 158 = .ok (.aload_n 0, 1) := by decide +kernel
theorem d_L_trace_159 : decode m_L_trace.2.1 159 = .ok (.iload_n 3, 1) := by decide +kernel
theorem d_L_trace_160 : decode m_L_trace.2.1 160 = .ok (.aload_n 0, 1) := by decide +kernel
theorem d_L_trace_161 : decode m_L_trace.2.1 161 = .ok (.iconst 3, 1) := by decide +kernel
theorem d_L_trace_162 : decode m_L_trace.2.1 162 = .ok (.invokevirtual 21, 3) := by decide +kernel
theorem d_L_trace_165 : decode m_L_trace.2.1 165 = .ok (.invokevirtual 36, 3) := by decide +kernel
theorem d_L_trace_168 : decode m_L_trace.2.1 168 = .ok (.i2l, 1) := by decide +kernel
theorem d_L_trace_169 : decode m_L_trace.2.1 169 = .ok (.ladd, 1) := by decide +kernel
theorem d_L_trace_170 : decode m_L_trace.2.1 170 = .ok (.lstore_n 1, 1) := by decide +kernel
theorem d_L_trace_171 : decode m_L_trace.2.1 171 = .ok (.sipush (-600), 3) := by decide +kernel
theorem d_L_trace_174 : decode m_L_trace.2.1 174 = .ok (.istore 4, 2) := by decide +kernel
theorem d_L_trace_176 : decode m_L_trace.2.1 176 = .ok (.iload 4, 2) := by decide +kernel
theorem d_L_trace_178 : decode m_L_trace.2.1 178 = .ok (.ifCond .gt 24, 3) := by decide +kernel
theorem d_L_trace_181 : decode m_L_trace.2.1 181 = .ok (.ldc2_w 19, 3) := by decide +kernel
theorem d_L_trace_184 : decode m_L_trace.2.1 184 = .ok (.lload_n 1, 1) := by decide +kernel
theorem d_L_trace_185 : decode m_L_trace.2.1 185 = .ok (.lmul, 1) := by decide +kernel
theorem d_L_trace_186 : decode m_L_trace.2.1 186 = .ok (.aload_n 0, 1) := by decide +kernel
theorem d_L_trace_187 : decode m_L_trace.2.1 187 = .ok (.iload_n 3, 1) := by decide +kernel
theorem d_L_trace_188 : decode m_L_trace.2.1 188 = .ok (.iload 4, 2) := by decide +kernel
theorem d_L_trace_190 : decode m_L_trace.2.1 190 = .ok (.invokevirtual 36, 3) := by decide +kernel
theorem d_L_trace_193 : decode m_L_trace.2.1 193 = .ok (.i2l, 1) := by decide +kernel
theorem d_L_trace_194 : decode m_L_trace.2.1 194 = .ok (.ladd, 1) := by decide +kernel
theorem d_L_trace_195 : decode m_L_trace.2.1 195 = .ok (.lstore_n 1, 1) := by decide +kernel
theorem d_L_trace_196 : decode m_L_trace.2.1 196 = .ok (.iinc 4 100, 3) := by decide +kernel
theorem d_L_trace_199 : decode m_L_trace.2.1 199 = .ok (.goto (-23), 3) := by decide +kernel
theorem d_L_trace_202 : decode m_L_trace.2.1 202 = .ok (.iinc 3 1, 3) := by decide +kernel
theorem d_L_trace_205 : decode m_L_trace.2.1 205 = .ok (.goto (-71), 3) := by decide +kernel
theorem d_L_trace_208 : decode m_L_trace.2.1 208 = .ok (.lload_n 1, 1) := by decide +kernel
theorem d_L_trace_209 : decode m_L_trace.2.1 209 = .ok (.lreturn, 1) := by decide +kernel
theorem d_L_breaksFit_0 : decode m_L_breaksFit.2.1 0 = .ok (.aload_n 0, 1) := by decide +kernel
theorem d_L_breaksFit_1 : decode m_L_breaksFit.2.1 1 = .ok (.iconst 5, 1) := by decide +kernel
theorem d_L_breaksFit_2 : decode m_L_breaksFit.2.1 2 = .ok (.invokevirtual 21, 3) := by decide +kernel
theorem d_L_breaksFit_5 : decode m_L_breaksFit.2.1 5 = .ok (.istore_n 1, 1) := by decide +kernel
theorem d_L_breaksFit_6 : decode m_L_breaksFit.2.1 6 = .ok (.aload_n 0, 1) := by decide +kernel
theorem d_L_breaksFit_7 : decode m_L_breaksFit.2.1 7 = .ok (.bipush 14, 2) := by decide +kernel
theorem d_L_breaksFit_9 : decode m_L_breaksFit.2.1 9 = .ok (.invokevirtual 21, 3) := by decide +kernel
theorem d_L_breaksFit_12 : decode m_L_breaksFit.2.1 12 = .ok (.istore_n 2, 1) := by decide +kernel
theorem d_L_breaksFit_13 : decode m_L_breaksFit.2.1 13 = .ok (.iload_n 1, 1) := by decide +kernel
theorem d_L_breaksFit_14 : decode m_L_breaksFit.2.1 14 = .ok (.iconst 1, 1) := by decide +kernel
theorem d_L_breaksFit_15 : decode m_L_breaksFit.2.1 15 = .ok (.if_icmp .lt 64, 3) := by decide +kernel
theorem d_L_breaksFit_18 : decode m_L_breaksFit.2.1 18 = .ok (.aload_n 0, 1) := by decide +kernel
theorem d_L_breaksFit_19 : decode m_L_breaksFit.2.1 19 = .ok (.iconst 0, 1) := by decide +kernel
theorem d_L_breaksFit_20 : decode m_L_breaksFit.2.1 20 = .ok (.iconst 0, 1) := by decide +kernel
theorem d_L_breaksFit_21 : decode m_L_breaksFit.2.1 21 = .ok (.invokevirtual 27, 3) := by decide +kernel
theorem d_L_breaksFit_24 : decode m_L_breaksFit.2.1 24 = .ok (.ifCond .ne 55, 3) := by decide +kernel
theorem d_L_breaksFit_27 : decode m_L_breaksFit.2.1 27 = .ok (.aload_n 0, 1) := by decide +kernel
theorem d_L_breaksFit_28 : decode m_L_breaksFit.2.1 28 = .ok (.iconst 0, 1) := by decide +kernel
theorem d_L_breaksFit_29 : decode m_L_breaksFit.2.1 29 = .ok (.iconst 1, 1) := by decide +kernel
theorem d_L_breaksFit_30 : decode m_L_breaksFit.2.1 30 = .ok (.invokevirtual 27, 3) := by decide +kernel
theorem d_L_breaksFit_33 : decode m_L_breaksFit.2.1 33 = .ok (.ifCond .ne 46, 3) := by decide +kernel
theorem d_L_breaksFit_36 : decode m_L_breaksFit.2.1 36 = .ok (.aload_n 0, 1) := by decide +kernel
theorem d_L_breaksFit_37 : decode m_L_breaksFit.2.1 37 = .ok (.iconst 0, 1) := by decide +kernel
theorem d_L_breaksFit_38 : decode m_L_breaksFit.2.1 38 = .ok (.iconst 2, 1) := by decide +kernel
theorem d_L_breaksFit_39 : decode m_L_breaksFit.2.1 39 = .ok (.invokevirtual 27, 3) := by decide +kernel
theorem d_L_breaksFit_42 : decode m_L_breaksFit.2.1 42 = .ok (.ldc 16, 2) := by decide +kernel
theorem d_L_breaksFit_44 : decode m_L_breaksFit.2.1 44 = .ok (.if_icmp .ne 35, 3) := by decide +kernel
theorem d_L_breaksFit_47 : decode m_L_breaksFit.2.1 47 = .ok (.aload_n 0, 1) := by decide +kernel
theorem d_L_breaksFit_48 : decode m_L_breaksFit.2.1 48 = .ok (.iload_n 1, 1) := by decide +kernel
theorem d_L_breaksFit_49 : decode m_L_breaksFit.2.1 49 = .ok (.iconst 0, 1) := by decide +kernel
theorem d_L_breaksFit_50 : decode m_L_breaksFit.2.1 50 = .ok (.invokevirtual 27, 3) := by decide +kernel
theorem d_L_breaksFit_53 : decode m_L_breaksFit.2.1 53 = .ok (.ldc 16, 2) := by decide +kernel
theorem d_L_breaksFit_55 : decode m_L_breaksFit.2.1 55 = .ok (.if_icmp .ne 24, 3) := by decide +kernel
theorem d_L_breaksFit_58 : decode m_L_breaksFit.2.1 58 = .ok (.iload_n 2, 1) := by decide +kernel
theorem d_L_breaksFit_59 : decode m_L_breaksFit.2.1 59 = .ok (.ifCond .eq 11, 3) := by decide +kernel
theorem d_L_breaksFit_62 : decode m_L_breaksFit.2.1 62 = .ok (.aload_n 0, 1) := by decide +kernel
theorem d_L_breaksFit_63 : decode m_L_breaksFit.2.1 63 = .ok (.iconst 2, 1) := by decide +kernel
theorem d_L_breaksFit_64 : decode m_L_breaksFit.2.1 64 = .ok (.invokevirtual 21, 3) := by decide +kernel
theorem d_L_breaksFit_67 : decode m_L_breaksFit.2.1 67 = .ok (.ifCond .gt 8, 3) := by decide +kernel
theorem d_L_breaksFit_70 : decode m_L_breaksFit.2.1 70 = .ok (.iload_n 1, 1) := by decide +kernel
theorem d_L_breaksFit_71 : decode m_L_breaksFit.2.1 71 = .ok (.iconst 1, 1) := by decide +kernel
theorem d_L_breaksFit_72 : decode m_L_breaksFit.2.1 72 = .ok (.if_icmp .ne 7, 3) := by decide +kernel
theorem d_L_breaksFit_75 : decode m_L_breaksFit.2.1 75 = .ok (.iconst 1, 1) := by decide +kernel
theorem d_L_breaksFit_76 : decode m_L_breaksFit.2.1 76 = .ok (.goto 4, 3) := by decide +kernel
theorem d_L_breaksFit_79 : decode m_L_breaksFit.2.1 79 = .ok (.iconst 0, 1) := by decide +kernel
theorem d_L_breaksFit_80 : decode m_L_breaksFit.2.1 80 = .ok (.istore_n 3, 1) := by decide +kernel
theorem d_L_breaksFit_81 : decode m_L_breaksFit.2.1 81 = .ok (.iconst 1, 1) := by decide +kernel
theorem d_L_breaksFit_82 : decode m_L_breaksFit.2.1 82 = .ok (.istore 4, 2) := by decide +kernel
theorem d_L_breaksFit_84 : decode m_L_breaksFit.2.1 84 = .ok (.iload 4, 2) := by decide +kernel
theorem d_L_breaksFit_86 : decode m_L_breaksFit.2.1 86 = .ok (.iload_n 1, 1) := by decide +kernel
theorem d_L_breaksFit_87 : decode m_L_breaksFit.2.1 87 = .ok (.if_icmp .ge 234, 3) := by decide +kernel
theorem d_L_breaksFit_90 : decode m_L_breaksFit.2.1 90 = .ok (.iload_n 3, 1) := by decide +kernel
theorem d_L_breaksFit_91 : decode m_L_breaksFit.2.1 91 = .ok (.ifCond .eq 230, 3) := by decide +kernel
theorem d_L_breaksFit_94 : decode m_L_breaksFit.2.1 94 = .ok (.aload_n 0, 1) := by decide +kernel
theorem d_L_breaksFit_95 : decode m_L_breaksFit.2.1 95 = .ok (.iload 4, 2) := by decide +kernel
theorem d_L_breaksFit_97 : decode m_L_breaksFit.2.1 97 = .ok (.iconst 0, 1) := by decide +kernel
theorem d_L_breaksFit_98 : decode m_L_breaksFit.2.1 98 = .ok (.invokevirtual 27, 3) := by decide +kernel
theorem d_L_breaksFit_101 : decode m_L_breaksFit.2.1 101 = .ok (.istore 5, 2) := by decide +kernel
theorem d_L_breaksFit_103 : decode m_L_breaksFit.2.1 103 = .ok (.aload_n 0, 1) := by decide +kernel
theorem d_L_breaksFit_104 : decode m_L_breaksFit.2.1 104 = .ok (.iload 4, 2) := by decide +kernel
theorem d_L_breaksFit_106 : decode m_L_breaksFit.2.1 106 = .ok (.iconst 1, 1) := by decide +kernel
theorem d_L_breaksFit_107 : decode m_L_breaksFit.2.1 107 = .ok (.invokevirtual 27, 3) := by decide +kernel
theorem d_L_breaksFit_110 : decode m_L_breaksFit.2.1 110 = .ok (.istore 6, 2) := by decide +kernel
theorem d_L_breaksFit_112 : decode m_L_breaksFit.2.1 112 = .ok (.aload_n 0, 1) := by decide +kernel
theorem d_L_breaksFit_113 : decode m_L_breaksFit.2.1 113 = .ok (.iload 4, 2) := by decide +kernel
theorem d_L_breaksFit_115 : decode m_L_breaksFit.2.1 115 = .ok (.iconst 2, 1) := by decide +kernel
theorem d_L_breaksFit_116 : decode m_L_breaksFit.2.1 116 = .ok (.invokevirtual 27, 3) := by decide +kernel
theorem d_L_breaksFit_119 : decode m_L_breaksFit.2.1 119 = .ok (.istore 7, 2) := by decide +kernel
theorem d_L_breaksFit_121 : decode m_L_breaksFit.2.1 121 = .ok (.iconst 0, 1) := by decide +kernel
theorem d_L_breaksFit_122 : decode m_L_breaksFit.2.1 122 = .ok (.istore 8, 2) := by decide +kernel
theorem d_L_breaksFit_124 : decode m_L_breaksFit.2.1 124 = .ok (.iload 5, 2) := by decide +kernel
theorem d_L_breaksFit_126 : decode m_L_breaksFit.2.1 126 = .ok (.aload_n 0, 1) := by decide +kernel
theorem d_L_breaksFit_127 : decode m_L_breaksFit.2.1 127 = .ok (.iload 4, 2) := by decide +kernel
theorem d_L_breaksFit_129 : decode m_L_breaksFit.2.1 129 = .ok (.iconst 1, 1) := by decide +kernel
theorem d_L_breaksFit_130 : decode m_L_breaksFit.2.1 130 = .ok (.isub, 1) := by decide +kernel
theorem d_L_breaksFit_131 : decode m_L_breaksFit.2.1 131 = .ok (.iconst 0, 1) := by decide +kernel
theorem d_L_breaksFit_132 : decode m_L_breaksFit.2.1 132 = .ok (.invokevirtual 27, 3) := by decide +kernel
theorem d_L_breaksFit_135 : decode m_L_breaksFit.2.1 135 = .ok (.if_icmp .le 63, 3) := by decide +kernel
theorem d_L_breaksFit_138 : decode m_L_breaksFit.2.1 138 = .ok (.iload 5, 2) := by decide +kernel
theorem d_L_breaksFit_140 : decode m_L_breaksFit.2.1 140 = .ok (.sipush 8000, 3) := by decide +kernel
theorem d_L_breaksFit_143 : decode m_L_breaksFit.2.1 143 = .ok (.if_icmp .gt 55, 3) := by decide +kernel
theorem d_L_breaksFit_146 : decode m_L_breaksFit.2.1 146 = .ok (.iload 6, 2) := by decide +kernel
theorem d_L_breaksFit_148 : decode m_L_breaksFit.2.1 148 = .ok (.iconst 1, 1) := by decide +kernel
theorem d_L_breaksFit_149 : decode m_L_breaksFit.2.1 149 = .ok (.if_icmp .lt 49, 3) := by decide +kernel
theorem d_L_breaksFit_152 : decode m_L_breaksFit.2.1 152 = .ok (.iload 6, 2) := by decide +kernel
theorem d_L_breaksFit_154 : decode m_L_breaksFit.2.1 154 = .ok (.aload_n 0, 1) := by decide +kernel
theorem d_L_breaksFit_155 : decode m_L_breaksFit.2.1 155 = .ok (.iconst 2, 1) := by decide +kernel
theorem d_L_breaksFit_156 : decode m_L_breaksFit.2.1 156 = .ok (.invokevirtual 21, 3) := by decide +kernel
theorem d_L_breaksFit_159 : decode m_L_breaksFit.2.1 159 = .ok (.if_icmp .gt 39, 3) := by decide +kernel
theorem d_L_breaksFit_162 : decode m_L_breaksFit.2.1 162 = .ok (.iload 7, 2) := by decide +kernel
theorem d_L_breaksFit_164 : decode m_L_breaksFit.2.1 164 = .ok (.ifCond .lt 34, 3) := by decide +kernel
theorem d_L_breaksFit_167 : decode m_L_breaksFit.2.1 167 = .ok (.iload 7, 2) := by decide +kernel
theorem d_L_breaksFit_169 : decode m_L_breaksFit.2.1 169 = .ok (.iconst 3, 1) := by decide +kernel
theorem d_L_breaksFit_170 : decode m_L_breaksFit.2.1 170 = .ok (.if_icmp .ge 28, 3) := by decide +kernel
theorem d_L_breaksFit_173 : decode m_L_breaksFit.2.1 173 = .ok (.iload_n 2, 1) := by decide +kernel
theorem d_L_breaksFit_174 : decode m_L_breaksFit.2.1 174 = .ok (.iload 7, 2) := by decide +kernel
theorem d_L_breaksFit_176 : decode m_L_breaksFit.2.1 176 = .ok (.ishr, 1) := by decide +kernel
theorem d_L_breaksFit_177 : decode m_L_breaksFit.2.1 177 = .ok (.iconst 1, 1) := by decide +kernel
theorem d_L_breaksFit_178 : decode m_L_breaksFit.2.1 178 = .ok (.iand, 1) := by decide +kernel
theorem d_L_breaksFit_179 : decode m_L_breaksFit.2.1 179 = .ok (.iconst 1, 1) := by decide +kernel
theorem d_L_breaksFit_180 : decode m_L_breaksFit.2.1 180 = .ok (.if_icmp .ne 18, 3) := by decide +kernel
theorem d_L_breaksFit_183 : decode m_L_breaksFit.2.1 183 = .ok (.aload_n 0, 1) := by decide +kernel
theorem d_L_breaksFit_184 : decode m_L_breaksFit.2.1 184 = .ok (.iload 7, 2) := by decide +kernel
theorem d_L_breaksFit_186 : decode m_L_breaksFit.2.1 186 = .ok (.iload 5, 2) := by decide +kernel
theorem d_L_breaksFit_188 : decode m_L_breaksFit.2.1 188 = .ok (.invokevirtual 33, 3) := by decide +kernel
theorem d_L_breaksFit_191 : decode m_L_breaksFit.2.1 191 = .ok (.ifCond .le 7, 3) := by decide +kernel
theorem d_L_breaksFit_194 : decode m_L_breaksFit.2.1 194 = .ok (.iconst 1, 1) := by decide +kernel
theorem d_L_breaksFit_195 : decode m_L_breaksFit.2.1 195 = .ok (.goto 4, 3) := by decide +kernel
theorem d_L_breaksFit_198 : decode m_L_breaksFit.2.1 198 = .ok (.iconst 0, 1) := by decide +kernel
theorem d_L_breaksFit_199 : decode m_L_breaksFit.2.1 199 = .ok (.istore_n 3, 1) := by decide +kernel
theorem d_L_breaksFit_200 : decode m_L_breaksFit.2.1 200 = .ok (.iconst 0, 1) := by decide +kernel
theorem d_L_breaksFit_201 : decode m_L_breaksFit.2.1 201 = .ok (.istore 9, 2) := by decide +kernel
theorem d_L_breaksFit_203 : decode m_L_breaksFit.2.1 203 = .ok (.iload 9, 2) := by decide +kernel
theorem d_L_breaksFit_205 : decode m_L_breaksFit.2.1 205 = .ok (.iload 4, 2) := by decide +kernel
theorem d_L_breaksFit_207 : decode m_L_breaksFit.2.1 207 = .ok (.if_icmp .ge 93, 3) := by decide +kernel
theorem d_L_breaksFit_210 : decode m_L_breaksFit.2.1 210 = .ok (.iload_n 3, 1) := by decide +kernel
theorem d_L_breaksFit_211 : decode m_L_breaksFit.2.1 211 = .ok (.ifCond .eq 89, 3) := by decide +kernel
theorem d_L_breaksFit_214 : decode m_L_breaksFit.2.1 214 = .ok (.iload 8, 2) := by decide +kernel
theorem d_L_breaksFit_216 : decode m_L_breaksFit.2.1 216 = .ok (.ifCond .ne 84, 3) := by decide +kernel
theorem d_L_breaksFit_219 : decode m_L_breaksFit.2.1 219 = .ok (.aload_n 0, 1) := by decide +kernel
theorem d_L_breaksFit_220 : decode m_L_breaksFit.2.1 220 = .ok (.iload 9, 2) := by decide +kernel
theorem d_L_breaksFit_222 : decode m_L_breaksFit.2.1 222 = .ok (.iconst 0, 1) := by decide +kernel
theorem d_L_breaksFit_223 : decode m_L_breaksFit.2.1 223 = .ok (.invokevirtual 27, 3) := by decide +kernel
theorem d_L_breaksFit_226 : decode m_L_breaksFit.2.1 226 = .ok (.istore 10, 2) := by decide +kernel
theorem d_L_breaksFit_228 : decode m_L_breaksFit.2.1 228 = .ok (.aload_n 0, 1) := by decide +kernel
theorem d_L_breaksFit_229 : decode m_L_breaksFit.2.1 229 = .ok (.iload 9, 2) := by decide +kernel
theorem d_L_breaksFit_231 : decode m_L_breaksFit.2.1 231 = .ok (.iconst 1, 1) := by decide +kernel
theorem d_L_breaksFit_232 : decode m_L_breaksFit.2.1 232 = .ok (.invokevirtual 27, 3) := by decide +kernel
theorem d_L_breaksFit_235 : decode m_L_breaksFit.2.1 235 = .ok (.iload 6, 2) := by decide +kernel
theorem d_L_breaksFit_237 : decode m_L_breaksFit.2.1 237 = .ok (.iconst 1, 1) := by decide +kernel
theorem d_L_breaksFit_238 : decode m_L_breaksFit.2.1 238 = .ok (.isub, 1) := by decide +kernel
theorem d_L_breaksFit_239 : decode m_L_breaksFit.2.1 239 = .ok (.if_icmp .ne 52, 3) := by decide +kernel
theorem d_L_breaksFit_242 : decode m_L_breaksFit.2.1 242 = .ok (.iload 5, 2) := by decide +kernel
theorem d_L_breaksFit_244 : decode m_L_breaksFit.2.1 244 = .ok (.aload_n 0, 1) := by decide +kernel
theorem d_L_breaksFit_245 : decode m_L_breaksFit.2.1 245 = .ok (.iload 7, 2) := by decide +kernel
theorem d_L_breaksFit_247 : decode m_L_breaksFit.2.1 247 = .ok (.iload 5, 2) := by decide +kernel
theorem d_L_breaksFit_249 : decode m_L_breaksFit.2.1 249 = .ok (.invokevirtual 33, 3) := by decide +kernel
theorem d_L_breaksFit_252 : decode m_L_breaksFit.2.1 252 = .ok (.isub, 1) := by decide +kernel
theorem d_L_breaksFit_253 : decode m_L_breaksFit.2.1 253 = .ok (.iload 10, 2) := by decide +kernel
theorem d_L_breaksFit_255 : decode m_L_breaksFit.2.1 255 = .ok (.if_icmp .lt 36, 3) := by decide +kernel
theorem d_L_breaksFit_258 : decode m_L_breaksFit.2.1 258 = .ok (.iload 5, 2) := by decide +kernel
theorem d_L_breaksFit_260 : decode m_L_breaksFit.2.1 260 = .ok (.iload 10, 2) := by decide +kernel
theorem d_L_breaksFit_262 : decode m_L_breaksFit.2.1 262 = .ok (.iconst 1, 1) := by decide +kernel
theorem d_L_breaksFit_263 : decode m_L_breaksFit.2.1 263 = .ok (.iadd, 1) := by decide +kernel
theorem d_L_breaksFit_264 : decode m_L_breaksFit.2.1 264 = .ok (.if_icmp .eq 23, 3) := by decide +kernel
theorem d_L_breaksFit_267 : decode m_L_breaksFit.2.1 267 = .ok (.iload 5, 2) := by decide +kernel
theorem d_L_breaksFit_269 : decode m_L_breaksFit.2.1 269 = .ok (.iconst 1, 1) := by decide +kernel
theorem d_L_breaksFit_270 : decode m_L_breaksFit.2.1 270 = .ok (.isub, 1) := by decide +kernel
theorem d_L_breaksFit_271 : decode m_L_breaksFit.2.1 271 = .ok (.aload_n 0, 1) := by decide +kernel
theorem d_L_breaksFit_272 : decode m_L_breaksFit.2.1 272 = .ok (.iload 7, 2) := by decide +kernel
theorem d_L_breaksFit_274 : decode m_L_breaksFit.2.1 274 = .ok (.iload 5, 2) := by decide +kernel
theorem d_L_breaksFit_276 : decode m_L_breaksFit.2.1 276 = .ok (.iconst 1, 1) := by decide +kernel
theorem d_L_breaksFit_277 : decode m_L_breaksFit.2.1 277 = .ok (.isub, 1) := by decide +kernel
theorem d_L_breaksFit_278 : decode m_L_breaksFit.2.1 278 = .ok (.invokevirtual 33, 3) := by decide +kernel
theorem d_L_breaksFit_281 : decode m_L_breaksFit.2.1 281 = .ok (.isub, 1) := by decide +kernel
theorem d_L_breaksFit_282 : decode m_L_breaksFit.2.1 282 = .ok (.iload 10, 2) := by decide +kernel
theorem d_L_breaksFit_284 : decode m_L_breaksFit.2.1 284 = .ok (.if_icmp .ge 7, 3) := by decide +kernel
theorem d_L_breaksFit_287 : decode m_L_breaksFit.2.1 287 = .ok (.iconst 1, 1) := by decide +kernel
theorem d_L_breaksFit_288 : decode m_L_breaksFit.2.1 288 = .ok (.goto 4, 3) := by decide +kernel
theorem d_L_breaksFit_291 : decode m_L_breaksFit.2.1 291 = .ok (.iconst 0, 1) := by decide +kernel
theorem d_L_breaksFit_292 : decode m_L_breaksFit.2.1 292 = .ok (.istore 8, 2) := by decide +kernel
theorem d_L_breaksFit_294 : decode m_L_breaksFit.2.1 294 = .ok (.iinc 9 1, 3) := by decide +kernel
theorem d_L_breaksFit_297 : decode m_L_breaksFit.2.1 297 = .ok (.goto (-94), 3) := by decide +kernel
theorem d_L_breaksFit_300 : decode m_L_breaksFit.2.1 300 = .ok (.iload_n 3, 1) := by decide +kernel
theorem d_L_breaksFit_301 : decode m_L_breaksFit.2.1 301 = .ok (.ifCond .eq 12, 3) := by decide +kernel
theorem d_L_breaksFit_304 : decode m_L_breaksFit.2.1 304 = .ok (.iload 8, 2) := by decide +kernel
theorem d_L_breaksFit_306 : decode m_L_breaksFit.2.1 306 = .ok (.ifCond .eq 7, 3) := by decide +kernel
theorem d_L_breaksFit_309 : decode m_L_breaksFit.2.1 309 = .ok (.iconst 1, 1) := by decide +kernel
theorem d_L_breaksFit_310 : decode m_L_breaksFit.2.1 310 = .ok (.goto 4, 3) := by decide +kernel
theorem d_L_breaksFit_313 : decode m_L_breaksFit.2.1 313 = .ok (.iconst 0, 1) := by decide +kernel
theorem d_L_breaksFit_314 : decode m_L_breaksFit.2.1 314 = .ok (.istore_n 3, 1) := by decide +kernel
theorem d_L_breaksFit_315 : decode m_L_breaksFit.2.1 315 = .ok (.iinc 4 1, 3) := by decide +kernel
theorem d_L_breaksFit_318 : decode m_L_breaksFit.2.1 318 = .ok (.goto (-234), 3) := by decide +kernel
theorem d_L_breaksFit_321 : decode m_L_breaksFit.2.1 321 = .ok (.iload_n 3, 1) := by decide +kernel
theorem d_L_breaksFit_322 : decode m_L_breaksFit.2.1 322 = .ok (.ireturn, 1) := by decide +kernel
theorem d_L_isBreak_0 : decode m_L_isBreak.2.1 0 = .ok (.iconst 0, 1) := by decide +kernel
theorem d_L_isBreak_1 : decode m_L_isBreak.2.1 1 = .ok (.istore_n 2, 1) := by decide +kernel
theorem d_L_isBreak_2 : decode m_L_isBreak.2.1 2 = .ok (.iload_n 2, 1) := by decide +kernel
theorem d_L_isBreak_3 : decode m_L_isBreak.2.1 3 = .ok (.aload_n 0, 1) := by decide +kernel
theorem d_L_isBreak_4 : decode m_L_isBreak.2.1 4 = .ok (.iconst 5, 1) := by decide +kernel
theorem d_L_isBreak_5 : decode m_L_isBreak.2.1 5 = .ok (.invokevirtual 21, 3) := by decide +kernel
theorem d_L_isBreak_8 : decode m_L_isBreak.2.1 8 = .ok (.if_icmp .ge 21, 3) := by decide +kernel
theorem d_L_isBreak_11 : decode m_L_isBreak.2.1 11 = .ok (.aload_n 0, 1) := by decide +kernel
theorem d_L_isBreak_12 : decode m_L_isBreak.2.1 12 = .ok (.iload_n 2, 1) := by decide +kernel
theorem d_L_isBreak_13 : decode m_L_isBreak.2.1 13 = .ok (.iconst 0, 1) := by decide +kernel
theorem d_L_isBreak_14 : decode m_L_isBreak.2.1 14 = .ok (.invokevirtual 27, 3) := by decide +kernel
theorem d_L_isBreak_17 : decode m_L_isBreak.2.1 17 = .ok (.iload_n 1, 1) := by decide +kernel
theorem d_L_isBreak_18 : decode m_L_isBreak.2.1 18 = .ok (.if_icmp .ne 5, 3) := by decide +kernel
theorem d_L_isBreak_21 : decode m_L_isBreak.2.1 21 = .ok (.iconst 1, 1) := by decide +kernel
theorem d_L_isBreak_22 : decode m_L_isBreak.2.1 22 = .ok (.ireturn, 1) := by decide +kernel
theorem d_L_isBreak_23 : decode m_L_isBreak.2.1 23 = .ok (.iinc 2 1, 3) := by decide +kernel
theorem d_L_isBreak_26 : decode m_L_isBreak.2.1 26 = .ok (.goto (-24), 3) := by decide +kernel
theorem d_L_isBreak_29 : decode m_L_isBreak.2.1 29 = .ok (.iconst 0, 1) := by decide +kernel
theorem d_L_isBreak_30 : decode m_L_isBreak.2.1 30 = .ok (.ireturn, 1) := by decide +kernel
theorem d_L_stepsFit_0 : decode m_L_stepsFit.2.1 0 = .ok (.aload_n 0, 1) := by decide +kernel
theorem d_L_stepsFit_1 : decode m_L_stepsFit.2.1 1 = .ok (.iconst 4, 1) := by decide +kernel
theorem d_L_stepsFit_2 : decode m_L_stepsFit.2.1 2 = .ok (.invokevirtual 21, 3) := by decide +kernel
theorem d_L_stepsFit_5 : decode m_L_stepsFit.2.1 5 = .ok (.istore_n 1, 1) := by decide +kernel
theorem d_L_stepsFit_6 : decode m_L_stepsFit.2.1 6 = .ok (.iconst 0, 1) := by decide +kernel
theorem d_L_stepsFit_7 : decode m_L_stepsFit.2.1 7 = .ok (.istore_n 2, 1) := by decide +kernel
theorem d_L_stepsFit_8 : decode m_L_stepsFit.2.1 8 = .ok (.aload_n 0, 1) := by decide +kernel
theorem d_L_stepsFit_9 : decode m_L_stepsFit.2.1 9 = .ok (.iload_n 1, 1) := by decide +kernel
theorem d_L_stepsFit_10 : decode m_L_stepsFit.2.1 10 = .ok (.iconst 0, 1) := by decide +kernel
theorem d_L_stepsFit_11 : decode m_L_stepsFit.2.1 11 = .ok (.invokevirtual 30, 3) := by decide +kernel
theorem d_L_stepsFit_14 : decode m_L_stepsFit.2.1 14 = .ok (.ldc 16, 2) := by decide +kernel
theorem d_L_stepsFit_16 : decode m_L_stepsFit.2.1 16 = .ok (.if_icmp .ne 7, 3) := by decide +kernel
theorem d_L_stepsFit_19 : decode m_L_stepsFit.2.1 19 = .ok (.iconst 1, 1) := by decide +kernel
theorem d_L_stepsFit_20 : decode m_L_stepsFit.2.1 20 = .ok (.goto 4, 3) := by decide +kernel
theorem d_L_stepsFit_23 : decode m_L_stepsFit.2.1 23 = .ok (.iconst 0, 1) := by decide +kernel
theorem d_L_stepsFit_24 : decode m_L_stepsFit.2.1 24 = .ok (.istore_n 3, 1) := by decide +kernel
theorem d_L_stepsFit_25 : decode m_L_stepsFit.2.1 25 = .ok (.iconst 0, 1) := by decide +kernel
theorem d_L_stepsFit_26 : decode m_L_stepsFit.2.1 26 = .ok (.istore 4, 2) := by decide +kernel
theorem d_L_stepsFit_28 : decode m_L_stepsFit.2.1 28 = .ok (.iload 4, 2) := by decide +kernel
theorem d_L_stepsFit_30 : decode m_L_stepsFit.2.1 30 = .ok (.iload_n 1, 1) := by decide +kernel
theorem d_L_stepsFit_31 : decode m_L_stepsFit.2.1 31 = .ok (.if_icmp .ge 273, 3) := by decide +kernel
theorem d_L_stepsFit_34 : decode m_L_stepsFit.2.1 34 = .ok (.iload_n 3, 1) := by decide +kernel
theorem d_L_stepsFit_35 : decode m_L_stepsFit.2.1 35 = .ok (.ifCond .eq 269, 3) := by decide +kernel
theorem d_L_stepsFit_38 : decode m_L_stepsFit.2.1 38 = .ok (.aload_n 0, 1) := by decide +kernel
theorem d_L_stepsFit_39 : decode m_L_stepsFit.2.1 39 = .ok (.iload 4, 2) := by decide +kernel
theorem d_L_stepsFit_41 : decode m_L_stepsFit.2.1 41 = .ok (.iconst 1, 1) := by decide +kernel
theorem d_L_stepsFit_42 : decode m_L_stepsFit.2.1 42 = .ok (.invokevirtual 30, 3) := by decide +kernel
theorem d_L_stepsFit_45 : decode m_L_stepsFit.2.1 45 = .ok (.istore 5, 2) := by decide +kernel
theorem d_L_stepsFit_47 : decode m_L_stepsFit.2.1 47 = .ok (.aload_n 0, 1) := by decide +kernel
theorem d_L_stepsFit_48 : decode m_L_stepsFit.2.1 48 = .ok (.iload 4, 2) := by decide +kernel
theorem d_L_stepsFit_50 : decode m_L_stepsFit.2.1 50 = .ok (.iconst 5, 1) := by decide +kernel
theorem d_L_stepsFit_51 : decode m_L_stepsFit.2.1 51 = .ok (.invokevirtual 30, 3) := by decide +kernel
theorem d_L_stepsFit_54 : decode m_L_stepsFit.2.1 54 = .ok (.istore 6, 2) := by decide +kernel
theorem d_L_stepsFit_56 : decode m_L_stepsFit.2.1 56 = .ok (.aload_n 0, 1) := by decide +kernel
theorem d_L_stepsFit_57 : decode m_L_stepsFit.2.1 57 = .ok (.iload 4, 2) := by decide +kernel
theorem d_L_stepsFit_59 : decode m_L_stepsFit.2.1 59 = .ok (.iconst 0, 1) := by decide +kernel
theorem d_L_stepsFit_60 : decode m_L_stepsFit.2.1 60 = .ok (.invokevirtual 30, 3) := by decide +kernel
theorem d_L_stepsFit_63 : decode m_L_stepsFit.2.1 63 = .ok (.iload_n 2, 1) := by decide +kernel
theorem d_L_stepsFit_64 : decode m_L_stepsFit.2.1 64 = .ok (.if_icmp .ne 37, 3) := by decide +kernel
theorem d_L_stepsFit_67 : decode m_L_stepsFit.2.1 67 = .ok (.iload 5, 2) := by decide +kernel
theorem d_L_stepsFit_69 : decode m_L_stepsFit.2.1 69 = .ok (.ifCond .le 32, 3) := by decide +kernel
theorem d_L_stepsFit_72 : decode m_L_stepsFit.2.1 72 = .ok (.iload 5, 2) := by decide +kernel
theorem d_L_stepsFit_74 : decode m_L_stepsFit.2.1 74 = .ok (.aload_n 0, 1) := by decide +kernel
theorem d_L_stepsFit_75 : decode m_L_stepsFit.2.1 75 = .ok (.iconst 0, 1) := by decide +kernel
theorem d_L_stepsFit_76 : decode m_L_stepsFit.2.1 76 = .ok (.invokevirtual 21, 3) := by decide +kernel
theorem d_L_stepsFit_79 : decode m_L_stepsFit.2.1 79 = .ok (.if_icmp .gt 22, 3) := by decide +kernel
theorem d_L_stepsFit_82 : decode m_L_stepsFit.2.1 82 = .ok (.iload 6, 2) := by decide +kernel
theorem d_L_stepsFit_84 : decode m_L_stepsFit.2.1 84 = .ok (.ifCond .eq 13, 3) := by decide +kernel
theorem d_L_stepsFit_87 : decode m_L_stepsFit.2.1 87 = .ok (.iload 6, 2) := by decide +kernel
theorem d_L_stepsFit_89 : decode m_L_stepsFit.2.1 89 = .ok (.aload_n 0, 1) := by decide +kernel
theorem d_L_stepsFit_90 : decode m_L_stepsFit.2.1 90 = .ok (.iconst 1, 1) := by decide +kernel
theorem d_L_stepsFit_91 : decode m_L_stepsFit.2.1 91 = .ok (.invokevirtual 21, 3) := by decide +kernel
theorem d_L_stepsFit_94 : decode m_L_stepsFit.2.1 94 = .ok (.if_icmp .ne 7, 3) := by decide +kernel
theorem d_L_stepsFit_97 : decode m_L_stepsFit.2.1 97 = .ok (.iconst 1, 1) := by decide +kernel
theorem d_L_stepsFit_98 : decode m_L_stepsFit.2.1 98 = .ok (.goto 4, 3) := by decide +kernel
theorem d_L_stepsFit_101 : decode m_L_stepsFit.2.1 101 = .ok (.iconst 0, 1) := by decide +kernel
theorem d_L_stepsFit_102 : decode m_L_stepsFit.2.1 102 = .ok (.istore_n 3, 1) := by decide +kernel
theorem d_L_stepsFit_103 : decode m_L_stepsFit.2.1 103 = .ok (.iconst 0, 1) := by decide +kernel
theorem d_L_stepsFit_104 : decode m_L_stepsFit.2.1 104 = .ok (.istore 7, 2) := by decide +kernel
theorem d_L_stepsFit_106 : decode m_L_stepsFit.2.1 106 = .ok (.iconst 0, 1) := by decide +kernel
theorem d_L_stepsFit_107 : decode m_L_stepsFit.2.1 107 = .ok (.istore 8, 2) := by decide +kernel
theorem d_L_stepsFit_109 : decode m_L_stepsFit.2.1 109 = .ok (.iload 8, 2) := by decide +kernel
theorem d_L_stepsFit_111 : decode m_L_stepsFit.2.1 111 = .ok (.iconst 3, 1) := by decide +kernel
theorem d_L_stepsFit_112 : decode m_L_stepsFit.2.1 112 = .ok (.if_icmp .ge 60, 3) := by decide +kernel
theorem d_L_stepsFit_115 : decode m_L_stepsFit.2.1 115 = .ok (.aload_n 0, 1) := by decide +kernel
theorem d_L_stepsFit_116 : decode m_L_stepsFit.2.1 116 = .ok (.iload 8, 2) := by decide +kernel
theorem d_L_stepsFit_118 : decode m_L_stepsFit.2.1 118 = .ok (.iload_n 2, 1) := by decide +kernel
theorem d_L_stepsFit_119 : decode m_L_stepsFit.2.1 119 = .ok (.iload 5, 2) := by decide +kernel
theorem d_L_stepsFit_121 : decode m_L_stepsFit.2.1 121 = .ok (.iadd, 1) := by decide +kernel
theorem d_L_stepsFit_122 : decode m_L_stepsFit.2.1 122 = .ok (.invokevirtual 33, 3) := by decide +kernel
theorem d_L_stepsFit_125 : decode m_L_stepsFit.2.1 125 = .ok (.istore 9, 2) := by decide +kernel
theorem d_L_stepsFit_127 : decode m_L_stepsFit.2.1 127 = .ok (.iload 7, 2) := by decide +kernel
theorem d_L_stepsFit_129 : decode m_L_stepsFit.2.1 129 = .ok (.ifCond .ne 30, 3) := by decide +kernel
theorem d_L_stepsFit_132 : decode m_L_stepsFit.2.1 132 = .ok (.aload_n 0, 1) := by decide +kernel
theorem d_L_stepsFit_133 : decode m_L_stepsFit.2.1 133 = .ok (.bipush 14, 2) := by decide +kernel
theorem d_L_stepsFit_135 : decode m_L_stepsFit.2.1 135 = .ok (.invokevirtual 21, 3) := by decide +kernel
theorem d_L_stepsFit_138 : decode m_L_stepsFit.2.1 138 = .ok (.iload 8, 2) := by decide +kernel
theorem d_L_stepsFit_140 : decode m_L_stepsFit.2.1 140 = .ok (.ishr, 1) := by decide +kernel
theorem d_L_stepsFit_141 : decode m_L_stepsFit.2.1 141 = .ok (.iconst 1, 1) := by decide +kernel
theorem d_L_stepsFit_142 : decode m_L_stepsFit.2.1 142 = .ok (.iand, 1) := by decide +kernel
theorem d_L_stepsFit_143 : decode m_L_stepsFit.2.1 143 = .ok (.iconst 1, 1) := by decide +kernel
theorem d_L_stepsFit_144 : decode m_L_stepsFit.2.1 144 = .ok (.if_icmp .ne 19, 3) := by decide +kernel
theorem d_L_stepsFit_147 : decode m_L_stepsFit.2.1 147 = .ok (.iload 9, 2) := by decide +kernel
theorem d_L_stepsFit_149 : decode m_L_stepsFit.2.1 149 = .ok (.ifCond .le 14, 3) := by decide +kernel
theorem d_L_stepsFit_152 : decode m_L_stepsFit.2.1 152 = .ok (.iload 9, 2) := by decide +kernel
theorem d_L_stepsFit_154 : decode m_L_stepsFit.2.1 154 = .ok (.iload 5, 2) := by decide +kernel
theorem d_L_stepsFit_156 : decode m_L_stepsFit.2.1 156 = .ok (.if_icmp .ge 7, 3) := by decide +kernel
theorem d_L_stepsFit_159 : decode m_L_stepsFit.2.1 159 = .ok (.iconst 1, 1) := by decide +kernel
theorem d_L_stepsFit_160 : decode m_L_stepsFit.2.1 160 = .ok (.goto 4, 3) := by decide +kernel
theorem d_L_stepsFit_163 : decode m_L_stepsFit.2.1 163 = .ok (.iconst 0, 1) := by decide +kernel
theorem d_L_stepsFit_164 : decode m_L_stepsFit.2.1 164 = .ok (.istore 7, 2) := by decide +kernel
theorem d_L_stepsFit_166 : decode m_L_stepsFit.2.1 166 = .ok (.iinc 8 1, 3) := by decide +kernel
theorem d_L_stepsFit_169 : decode m_L_stepsFit.2.1 169 = .ok (.goto (-60), 3) := by decide +kernel
theorem d_L_stepsFit_172 : decode m_L_stepsFit.2.1 172 = .ok (.iload_n 3, 1) := by decide +kernel
theorem d_L_stepsFit_173 : decode m_L_stepsFit.2.1 173 = .ok (.ifCond .eq 26, 3) := by decide +kernel
theorem d_L_stepsFit_176 : decode m_L_stepsFit.2.1 176 = .ok (.iload 6, 2) := by decide +kernel
theorem d_L_stepsFit_178 : decode m_L_stepsFit.2.1 178 = .ok (.iload 7, 2) := by decide +kernel
theorem d_L_stepsFit_180 : decode m_L_stepsFit.2.1 180 = .ok (.ifCond .eq 11, 3) := by decide +kernel
theorem d_L_stepsFit_183 : decode m_L_stepsFit.2.1 183 = .ok (.aload_n 0, 1) := by decide +kernel
theorem d_L_stepsFit_184 : decode m_L_stepsFit.2.1 184 = .ok (.iconst 1, 1) := by decide +kernel
theorem d_L_stepsFit_185 : decode m_L_stepsFit.2.1 185 = .ok (.invokevirtual 21, 3) := by decide +kernel
theorem d_L_stepsFit_188 : decode m_L_stepsFit.2.1 188 = .ok (.goto 4, 3) := by decide +kernel
theorem d_L_stepsFit_191 : decode m_L_stepsFit.2.1 191 = .ok (.iconst 0, 1) := by decide +kernel
theorem d_L_stepsFit_192 : decode m_L_stepsFit.2.1 192 = .ok (.if_icmp .ne 7, 3) := by decide +kernel
theorem d_L_stepsFit_195 : decode m_L_stepsFit.2.1 195 = .ok (.iconst 1, 1) := by decide +kernel
theorem d_L_stepsFit_196 : decode m_L_stepsFit.2.1 196 = .ok (.goto 4, 3) := by decide +kernel
theorem d_L_stepsFit_199 : decode m_L_stepsFit.2.1 199 = .ok (.iconst 0, 1) := by decide +kernel
theorem d_L_stepsFit_200 : decode m_L_stepsFit.2.1 200 = .ok (.istore_n 3, 1) := by decide +kernel
theorem d_L_stepsFit_201 : decode m_L_stepsFit.2.1 201 = .ok (.iconst 0, 1) := by decide +kernel
theorem d_L_stepsFit_202 : decode m_L_stepsFit.2.1 202 = .ok (.istore 8, 2) := by decide +kernel
theorem d_L_stepsFit_204 : decode m_L_stepsFit.2.1 204 = .ok (.iload 8, 2) := by decide +kernel
theorem d_L_stepsFit_206 : decode m_L_stepsFit.2.1 206 = .ok (.iconst 3, 1) := by decide +kernel
theorem d_L_stepsFit_207 : decode m_L_stepsFit.2.1 207 = .ok (.if_icmp .ge 39, 3) := by decide +kernel
theorem d_L_stepsFit_210 : decode m_L_stepsFit.2.1 210 = .ok (.iload_n 3, 1) := by decide +kernel
theorem d_L_stepsFit_211 : decode m_L_stepsFit.2.1 211 = .ok (.ifCond .eq 35, 3) := by decide +kernel
theorem d_L_stepsFit_214 : decode m_L_stepsFit.2.1 214 = .ok (.aload_n 0, 1) := by decide +kernel
theorem d_L_stepsFit_215 : decode m_L_stepsFit.2.1 215 = .ok (.iload 8, 2) := by decide +kernel
theorem d_L_stepsFit_217 : decode m_L_stepsFit.2.1 217 = .ok (.iload_n 2, 1) := by decide +kernel
theorem d_L_stepsFit_218 : decode m_L_stepsFit.2.1 218 = .ok (.invokevirtual 39, 3) := by decide +kernel
theorem d_L_stepsFit_221 : decode m_L_stepsFit.2.1 221 = .ok (.aload_n 0, 1) := by decide +kernel
theorem d_L_stepsFit_222 : decode m_L_stepsFit.2.1 222 = .ok (.iload 4, 2) := by decide +kernel
theorem d_L_stepsFit_224 : decode m_L_stepsFit.2.1 224 = .ok (.iconst 2, 1) := by decide +kernel
theorem d_L_stepsFit_225 : decode m_L_stepsFit.2.1 225 = .ok (.iload 8, 2) := by decide +kernel
theorem d_L_stepsFit_227 : decode m_L_stepsFit.2.1 227 = .ok (.iadd, 1) := by decide +kernel
theorem d_L_stepsFit_228 : decode m_L_stepsFit.2.1 228 = .ok (.invokevirtual 30, 3) := by decide +kernel
theorem d_L_stepsFit_231 : decode m_L_stepsFit.2.1 231 = .ok (.if_icmp .ne 7, 3) := by decide +kernel
theorem d_L_stepsFit_234 : decode m_L_stepsFit.2.1 234 = .ok (.iconst 1, 1) := by decide +kernel
theorem d_L_stepsFit_235 : decode m_L_stepsFit.2.1 235 = .ok (.goto 4, 3) := by decide +kernel
theorem d_L_stepsFit_238 : decode m_L_stepsFit.2.1 238 = .ok (.iconst 0, 1) := by decide +kernel
theorem d_L_stepsFit_239 : decode m_L_stepsFit.2.1 239 = .ok (.istore_n 3, 1) := by decide +kernel
theorem d_L_stepsFit_240 : decode m_L_stepsFit.2.1 240 = .ok (.iinc 8 1, 3) := by decide +kernel
theorem d_L_stepsFit_243 : decode m_L_stepsFit.2.1 243 = .ok (.goto (-39), 3) := by decide +kernel
theorem d_L_stepsFit_246 : decode m_L_stepsFit.2.1 246 = .ok (.iload_n 2, 1) := by decide +kernel
theorem d_L_stepsFit_247 : decode m_L_stepsFit.2.1 247 = .ok (.iconst 1, 1) := by decide +kernel
theorem d_L_stepsFit_248 : decode m_L_stepsFit.2.1 248 = .ok (.iadd, 1) := by decide +kernel
theorem d_L_stepsFit_249 : decode m_L_stepsFit.2.1 249 = .ok (.istore 8, 2) := by decide +kernel
theorem d_L_stepsFit_251 : decode m_L_stepsFit.2.1 251 = .ok (.iload 8, 2) := by decide +kernel
theorem d_L_stepsFit_253 : decode m_L_stepsFit.2.1 253 = .ok (.iload_n 2, 1) := by decide +kernel
theorem d_L_stepsFit_254 : decode m_L_stepsFit.2.1 254 = .ok (.iload 5, 2) := by decide +kernel
theorem d_L_stepsFit_256 : decode m_L_stepsFit.2.1 256 = .ok (.iadd, 1) := by decide +kernel
theorem d_L_stepsFit_257 : decode m_L_stepsFit.2.1 257 = .ok (.if_icmp .ge 36, 3) := by decide +kernel
theorem d_L_stepsFit_260 : decode m_L_stepsFit.2.1 260 = .ok (.iload_n 3, 1) := by decide +kernel
theorem d_L_stepsFit_261 : decode m_L_stepsFit.2.1 261 = .ok (.ifCond .eq 32, 3) := by decide +kernel
theorem d_L_stepsFit_264 : decode m_L_stepsFit.2.1 264 = .ok (.aload_n 0, 1) := by decide +kernel
theorem d_L_stepsFit_265 : decode m_L_stepsFit.2.1 265 = .ok (.iload 8, 2) := by decide +kernel
theorem d_L_stepsFit_267 : decode m_L_stepsFit.2.1 267 = .ok (.invokestatic 42, 3) := by decide +kernel
theorem d_L_stepsFit_270 : decode m_L_stepsFit.2.1 270 = .ok (.ifCond .ne 7, 3) := by decide +kernel
theorem d_L_stepsFit_273 : decode m_L_stepsFit.2.1 273 = .ok (.iconst 1, 1) := by decide +kernel
theorem d_L_stepsFit_274 : decode m_L_stepsFit.2.1 274 = .ok (.goto 4, 3) := by decide +kernel
theorem d_L_stepsFit_277 : decode m_L_stepsFit.2.1 277 = .ok (.iconst 0, 1) := by decide +kernel
theorem d_L_stepsFit_278 : decode m_L_stepsFit.2.1 278 = .ok (.istore_n 3, 1) := by decide +kernel
theorem d_L_stepsFit_279 : decode m_L_stepsFit.2.1 279 = .ok (.iload 8, 2) := by decide +kernel
theorem d_L_stepsFit_281 : decode m_L_stepsFit.2.1 281 = .ok (.iconst 1, 1) := by decide +kernel
theorem d_L_stepsFit_282 : decode m_L_stepsFit.2.1 282 = .ok (.iload 5, 2) := by decide +kernel
theorem d_L_stepsFit_284 : decode m_L_stepsFit.2.1 284 = .ok (.iconst 5, 1) := by decide +kernel
theorem d_L_stepsFit_285 : decode m_L_stepsFit.2.1 285 = .ok (.idiv, 1) := by decide +kernel
theorem d_L_stepsFit_286 : decode m_L_stepsFit.2.1 286 = .ok (.iadd, 1) := by decide +kernel
theorem d_L_stepsFit_287 : decode m_L_stepsFit.2.1 287 = .ok (.iadd, 1) := by decide +kernel
theorem d_L_stepsFit_288 : decode m_L_stepsFit.2.1 288 = .ok (.istore 8, 2) := by decide +kernel
theorem d_L_stepsFit_290 : decode m_L_stepsFit.2.1 290 = .ok (.goto (-39), 3) := by decide +kernel
theorem d_L_stepsFit_293 : decode m_L_stepsFit.2.1 293 = .ok (.iload_n 2, 1) := by decide +kernel
theorem d_L_stepsFit_294 : decode m_L_stepsFit.2.1 294 = .ok (.iload 5, 2) := by decide +kernel
theorem d_L_stepsFit_296 : decode m_L_stepsFit.2.1 296 = .ok (.iadd, 1) := by decide +kernel
theorem d_L_stepsFit_297 : decode m_L_stepsFit.2.1 297 = .ok (.istore_n 2, 1) := by decide +kernel
theorem d_L_stepsFit_298 : decode m_L_stepsFit.2.1 298 = .ok (.iinc 4 1, 3) := by decide +kernel
theorem d_L_stepsFit_301 : decode m_L_stepsFit.2.1 301 = .ok (.goto (-273), 3) := by decide +kernel
theorem d_L_stepsFit_304 : decode m_L_stepsFit.2.1 304 = .ok (.iload_n 3, 1) := by decide +kernel
theorem d_L_stepsFit_305 : decode m_L_stepsFit.2.1 305 = .ok (.ifCond .eq 16, 3) := by decide +kernel
theorem d_L_stepsFit_308 : decode m_L_stepsFit.2.1 308 = .ok (.iload_n 2, 1) := by decide +kernel
theorem d_L_stepsFit_309 : decode m_L_stepsFit.2.1 309 = .ok (.aload_n 0, 1) := by decide +kernel
theorem d_L_stepsFit_310 : decode m_L_stepsFit.2.1 310 = .ok (.iconst 3, 1) := by decide +kernel
theorem d_L_stepsFit_311 : decode m_L_stepsFit.2.1 311 = .ok (.invokevirtual 21, 3) := by decide +kernel
theorem d_L_stepsFit_314 : decode m_L_stepsFit.2.1 314 = .ok (.if_icmp .ne 7, 3) := by decide +kernel
theorem d_L_stepsFit_317 : decode m_L_stepsFit.2.1 317 = .ok (.iconst 1, 1) := by decide +kernel
theorem d_L_stepsFit_318 : decode m_L_stepsFit.2.1 318 = .ok (.goto 4, 3) := by decide +kernel
theorem d_L_stepsFit_321 : decode m_L_stepsFit.2.1 321 = .ok (.iconst 0, 1) := by decide +kernel
theorem d_L_stepsFit_322 : decode m_L_stepsFit.2.1 322 = .ok (.ireturn, 1) := by decide +kernel
theorem d_L_valuesFit_0 : decode m_L_valuesFit.2.1 0 = .ok (.aload_n 0, 1) := by decide +kernel
theorem d_L_valuesFit_1 : decode m_L_valuesFit.2.1 1 = .ok (.iconst 3, 1) := by decide +kernel
theorem d_L_valuesFit_2 : decode m_L_valuesFit.2.1 2 = .ok (.invokevirtual 21, 3) := by decide +kernel
theorem d_L_valuesFit_5 : decode m_L_valuesFit.2.1 5 = .ok (.istore_n 3, 1) := by decide +kernel
theorem d_L_valuesFit_6 : decode m_L_valuesFit.2.1 6 = .ok (.iload_n 2, 1) := by decide +kernel
theorem d_L_valuesFit_7 : decode m_L_valuesFit.2.1 7 = .ok (.iload_n 3, 1) := by decide +kernel
theorem d_L_valuesFit_8 : decode m_L_valuesFit.2.1 8 = .ok (.iconst 1, 1) := by decide +kernel
theorem d_L_valuesFit_9 : decode m_L_valuesFit.2.1 9 = .ok (.iadd, 1) := by decide +kernel
theorem d_L_valuesFit_10 : decode m_L_valuesFit.2.1 10 = .ok (.invokestatic 9, 3) := by decide +kernel
theorem d_L_valuesFit_13 : decode m_L_valuesFit.2.1 13 = .ok (.istore 4, 2) := by decide +kernel
theorem d_L_valuesFit_15 : decode m_L_valuesFit.2.1 15 = .ok (.iload 4, 2) := by decide +kernel
theorem d_L_valuesFit_17 : decode m_L_valuesFit.2.1 17 = .ok (.iload_n 2, 1) := by decide +kernel
theorem d_L_valuesFit_18 : decode m_L_valuesFit.2.1 18 = .ok (.bipush 9, 2) := by decide +kernel
theorem d_L_valuesFit_20 : decode m_L_valuesFit.2.1 20 = .ok (.ishr, 1) := by decide +kernel
theorem d_L_valuesFit_21 : decode m_L_valuesFit.2.1 21 = .ok (.iload_n 3, 1) := by decide +kernel
theorem d_L_valuesFit_22 : decode m_L_valuesFit.2.1 22 = .ok (.iload 4, 2) := by decide +kernel
theorem d_L_valuesFit_24 : decode m_L_valuesFit.2.1 24 = .ok (.isub, 1) := by decide +kernel
theorem d_L_valuesFit_25 : decode m_L_valuesFit.2.1 25 = .ok (.iconst 4, 1) := by decide +kernel
theorem d_L_valuesFit_26 : decode m_L_valuesFit.2.1 26 = .ok (.idiv, 1) := by decide +kernel
theorem d_L_valuesFit_27 : decode m_L_valuesFit.2.1 27 = .ok (.iconst 1, 1) := by decide +kernel
theorem d_L_valuesFit_28 : decode m_L_valuesFit.2.1 28 = .ok (.iadd, 1) := by decide +kernel
theorem d_L_valuesFit_29 : decode m_L_valuesFit.2.1 29 = .ok (.invokestatic 9, 3) := by decide +kernel
theorem d_L_valuesFit_32 : decode m_L_valuesFit.2.1 32 = .ok (.iadd, 1) := by decide +kernel
theorem d_L_valuesFit_33 : decode m_L_valuesFit.2.1 33 = .ok (.istore 5, 2) := by decide +kernel
theorem d_L_valuesFit_35 : decode m_L_valuesFit.2.1 35 = .ok (.aload_n 0, 1) := by decide +kernel
theorem d_L_valuesFit_36 : decode m_L_valuesFit.2.1 36 = .ok (.iload_n 1, 1) := by decide +kernel
theorem d_L_valuesFit_37 : decode m_L_valuesFit.2.1 37 = .ok (.iload 4, 2) := by decide +kernel
theorem d_L_valuesFit_39 : decode m_L_valuesFit.2.1 39 = .ok (.iload 5, 2) := by decide +kernel
theorem d_L_valuesFit_41 : decode m_L_valuesFit.2.1 41 = .ok (.iconst 0, 1) := by decide +kernel
theorem d_L_valuesFit_42 : decode m_L_valuesFit.2.1 42 = .ok (.invokevirtual 46, 3) := by decide +kernel
theorem d_L_valuesFit_45 : decode m_L_valuesFit.2.1 45 = .ok (.istore 6, 2) := by decide +kernel
theorem d_L_valuesFit_47 : decode m_L_valuesFit.2.1 47 = .ok (.aload_n 0, 1) := by decide +kernel
theorem d_L_valuesFit_48 : decode m_L_valuesFit.2.1 48 = .ok (.iload_n 1, 1) := by decide +kernel
theorem d_L_valuesFit_49 : decode m_L_valuesFit.2.1 49 = .ok (.iload 4, 2) := by decide +kernel
theorem d_L_valuesFit_51 : decode m_L_valuesFit.2.1 51 = .ok (.iload 5, 2) := by decide +kernel
theorem d_L_valuesFit_53 : decode m_L_valuesFit.2.1 53 = .ok (.iconst 1, 1) := by decide +kernel
theorem d_L_valuesFit_54 : decode m_L_valuesFit.2.1 54 = .ok (.invokevirtual 46, 3) := by decide +kernel
theorem d_L_valuesFit_57 : decode m_L_valuesFit.2.1 57 = .ok (.istore 7, 2) := by decide +kernel
theorem d_L_valuesFit_59 : decode m_L_valuesFit.2.1 59 = .ok (.iload 7, 2) := by decide +kernel
theorem d_L_valuesFit_61 : decode m_L_valuesFit.2.1 61 = .ok (.iload 4, 2) := by decide +kernel
theorem d_L_valuesFit_63 : decode m_L_valuesFit.2.1 63 = .ok (.if_icmp .lt 72, 3) := by decide +kernel
theorem d_L_valuesFit_66 : decode m_L_valuesFit.2.1 66 = .ok (.iload 7, 2) := by decide +kernel
theorem d_L_valuesFit_68 : decode m_L_valuesFit.2.1 68 = .ok (.iload 5, 2) := by decide +kernel
theorem d_L_valuesFit_70 : decode m_L_valuesFit.2.1 70 = .ok (.if_icmp .gt 65, 3) := by decide +kernel
theorem d_L_valuesFit_73 : decode m_L_valuesFit.2.1 73 = .ok (.aload_n 0, 1) := by decide +kernel
theorem d_L_valuesFit_74 : decode m_L_valuesFit.2.1 74 = .ok (.iload_n 1, 1) := by decide +kernel
theorem d_L_valuesFit_75 : decode m_L_valuesFit.2.1 75 = .ok (.iload 7, 2) := by decide +kernel
theorem d_L_valuesFit_77 : decode m_L_valuesFit.2.1 77 = .ok (.invokevirtual 36, 3) := by decide +kernel
theorem d_L_valuesFit_80 : decode m_L_valuesFit.2.1 80 = .ok (.iload 6, 2) := by decide +kernel
theorem d_L_valuesFit_82 : decode m_L_valuesFit.2.1 82 = .ok (.if_icmp .ne 53, 3) := by decide +kernel
theorem d_L_valuesFit_85 : decode m_L_valuesFit.2.1 85 = .ok (.aload_n 0, 1) := by decide +kernel
theorem d_L_valuesFit_86 : decode m_L_valuesFit.2.1 86 = .ok (.iload_n 1, 1) := by decide +kernel
theorem d_L_valuesFit_87 : decode m_L_valuesFit.2.1 87 = .ok (.iload_n 3, 1) := by decide +kernel
theorem d_L_valuesFit_88 : decode m_L_valuesFit.2.1 88 = .ok (.iconst 1, 1) := by decide +kernel
theorem d_L_valuesFit_89 : decode m_L_valuesFit.2.1 89 = .ok (.iadd, 1) := by decide +kernel
theorem d_L_valuesFit_90 : decode m_L_valuesFit.2.1 90 = .ok (.invokevirtual 36, 3) := by decide +kernel
theorem d_L_valuesFit_93 : decode m_L_valuesFit.2.1 93 = .ok (.iload_n 3, 1) := by decide +kernel
theorem d_L_valuesFit_94 : decode m_L_valuesFit.2.1 94 = .ok (.sipush 8000, 3) := by decide +kernel
theorem d_L_valuesFit_97 : decode m_L_valuesFit.2.1 97 = .ok (.if_icmp .ne 8, 3) := by decide +kernel
theorem d_L_valuesFit_100 : decode m_L_valuesFit.2.1 100 = .ok (.ldc 15, 2) := by decide +kernel
theorem d_L_valuesFit_102 : decode m_L_valuesFit.2.1 102 = .ok (.goto 5, 3) := by decide +kernel
theorem d_L_valuesFit_105 : decode m_L_valuesFit.2.1 105 = .ok (.ldc 16, 2) := by decide +kernel
theorem d_L_valuesFit_107 : decode m_L_valuesFit.2.1 107 = .ok (.if_icmp .ne 28, 3) := by decide +kernel
theorem d_L_valuesFit_110 : decode m_L_valuesFit.2.1 110 = .ok (.iload 7, 2) := by decide +kernel
theorem d_L_valuesFit_112 : decode m_L_valuesFit.2.1 112 = .ok (.iload 4, 2) := by decide +kernel
theorem d_L_valuesFit_114 : decode m_L_valuesFit.2.1 114 = .ok (.if_icmp .eq 17, 3) := by decide +kernel
theorem d_L_valuesFit_117 : decode m_L_valuesFit.2.1 117 = .ok (.aload_n 0, 1) := by decide +kernel
theorem d_L_valuesFit_118 : decode m_L_valuesFit.2.1 118 = .ok (.iload_n 1, 1) := by decide +kernel
theorem d_L_valuesFit_119 : decode m_L_valuesFit.2.1 119 = .ok (.iload 7, 2) := by decide +kernel
theorem d_L_valuesFit_121 : decode m_L_valuesFit.2.1 121 = .ok (.iconst 1, 1) := by decide +kernel
theorem d_L_valuesFit_122 : decode m_L_valuesFit.2.1 122 = .ok (.isub, 1) := by decide +kernel
theorem d_L_valuesFit_123 : decode m_L_valuesFit.2.1 123 = .ok (.invokevirtual 36, 3) := by decide +kernel
theorem d_L_valuesFit_126 : decode m_L_valuesFit.2.1 126 = .ok (.iload 6, 2) := by decide +kernel
theorem d_L_valuesFit_128 : decode m_L_valuesFit.2.1 128 = .ok (.if_icmp .ge 7, 3) := by decide +kernel
theorem d_L_valuesFit_131 : decode m_L_valuesFit.2.1 131 = .ok (.iconst 1, 1) := by decide +kernel
theorem d_L_valuesFit_132 : decode m_L_valuesFit.2.1 132 = .ok (.goto 4, 3) := by decide +kernel
theorem d_L_valuesFit_135 : decode m_L_valuesFit.2.1 135 = .ok (.iconst 0, 1) := by decide +kernel
theorem d_L_valuesFit_136 : decode m_L_valuesFit.2.1 136 = .ok (.istore 8, 2) := by decide +kernel
theorem d_L_valuesFit_138 : decode m_L_valuesFit.2.1 138 = .ok (.iload 4, 2) := by decide +kernel
theorem d_L_valuesFit_140 : decode m_L_valuesFit.2.1 140 = .ok (.istore 9, 2) := by decide +kernel
theorem d_L_valuesFit_142 : decode m_L_valuesFit.2.1 142 = .ok (.iload 9, 2) := by decide +kernel
theorem d_L_valuesFit_144 : decode m_L_valuesFit.2.1 144 = .ok (.iload 5, 2) := by decide +kernel
theorem d_L_valuesFit_146 : decode m_L_valuesFit.2.1 146 = .ok (.if_icmp .gt 45, 3) := by decide +kernel
theorem d_L_valuesFit_149 : decode m_L_valuesFit.2.1 149 = .ok (.iload 8, 2) := by decide +kernel
theorem d_L_valuesFit_151 : decode m_L_valuesFit.2.1 151 = .ok (.ifCond .eq 40, 3) := by decide +kernel
theorem d_L_valuesFit_154 : decode m_L_valuesFit.2.1 154 = .ok (.aload_n 0, 1) := by decide +kernel
theorem d_L_valuesFit_155 : decode m_L_valuesFit.2.1 155 = .ok (.iload_n 1, 1) := by decide +kernel
theorem d_L_valuesFit_156 : decode m_L_valuesFit.2.1 156 = .ok (.iload 9, 2) := by decide +kernel
theorem d_L_valuesFit_158 : decode m_L_valuesFit.2.1 158 = .ok (.invokevirtual 36, 3) := by decide +kernel
theorem d_L_valuesFit_161 : decode m_L_valuesFit.2.1 161 = .ok (.iload 6, 2) := by decide +kernel
theorem d_L_valuesFit_163 : decode m_L_valuesFit.2.1 163 = .ok (.if_icmp .gt 7, 3) := by decide +kernel
theorem d_L_valuesFit_166 : decode m_L_valuesFit.2.1 166 = .ok (.iconst 1, 1) := by decide +kernel
theorem d_L_valuesFit_167 : decode m_L_valuesFit.2.1 167 = .ok (.goto 4, 3) := by decide +kernel
theorem d_L_valuesFit_170 : decode m_L_valuesFit.2.1 170 = .ok (.iconst 0, 1) := by decide +kernel
theorem d_L_valuesFit_171 : decode m_L_valuesFit.2.1 171 = .ok (.istore 8, 2) := by decide +kernel
theorem d_L_valuesFit_173 : decode m_L_valuesFit.2.1 173 = .ok (.iload 9, 2) := by decide +kernel
theorem d_L_valuesFit_175 : decode m_L_valuesFit.2.1 175 = .ok (.iconst 1, 1) := by decide +kernel
theorem d_L_valuesFit_176 : decode m_L_valuesFit.2.1 176 = .ok (.iload 5, 2) := by decide +kernel
theorem d_L_valuesFit_178 : decode m_L_valuesFit.2.1 178 = .ok (.iload 4, 2) := by decide +kernel
theorem d_L_valuesFit_180 : decode m_L_valuesFit.2.1 180 = .ok (.isub, 1) := by decide +kernel
theorem d_L_valuesFit_181 : decode m_L_valuesFit.2.1 181 = .ok (.bipush 9, 2) := by decide +kernel
theorem d_L_valuesFit_183 : decode m_L_valuesFit.2.1 183 = .ok (.idiv, 1) := by decide +kernel
theorem d_L_valuesFit_184 : decode m_L_valuesFit.2.1 184 = .ok (.iadd, 1) := by decide +kernel
theorem d_L_valuesFit_185 : decode m_L_valuesFit.2.1 185 = .ok (.iadd, 1) := by decide +kernel
theorem d_L_valuesFit_186 : decode m_L_valuesFit.2.1 186 = .ok (.istore 9, 2) := by decide +kernel
theorem d_L_valuesFit_188 : decode m_L_valuesFit.2.1 188 = .ok (.goto (-46), 3) := by decide +kernel
theorem d_L_valuesFit_191 : decode m_L_valuesFit.2.1 191 = .ok (.aload_n 0, 1) := by decide +kernel
theorem d_L_valuesFit_192 : decode m_L_valuesFit.2.1 192 = .ok (.iload_n 1, 1) := by decide +kernel
theorem d_L_valuesFit_193 : decode m_L_valuesFit.2.1 193 = .ok (.iload_n 2, 1) := by decide +kernel
theorem d_L_valuesFit_194 : decode m_L_valuesFit.2.1 194 = .ok (.iconst 3, 1) := by decide +kernel
theorem d_L_valuesFit_195 : decode m_L_valuesFit.2.1 195 = .ok (.ishr, 1) := by decide +kernel
theorem d_L_valuesFit_196 : decode m_L_valuesFit.2.1 196 = .ok (.iload_n 3, 1) := by decide +kernel
theorem d_L_valuesFit_197 : decode m_L_valuesFit.2.1 197 = .ok (.iconst 1, 1) := by decide +kernel
theorem d_L_valuesFit_198 : decode m_L_valuesFit.2.1 198 = .ok (.iadd, 1) := by decide +kernel
theorem d_L_valuesFit_199 : decode m_L_valuesFit.2.1 199 = .ok (.invokestatic 9, 3) := by decide +kernel
theorem d_L_valuesFit_202 : decode m_L_valuesFit.2.1 202 = .ok (.invokevirtual 36, 3) := by decide +kernel
theorem d_L_valuesFit_205 : decode m_L_valuesFit.2.1 205 = .ok (.istore 9, 2) := by decide +kernel
theorem d_L_valuesFit_207 : decode m_L_valuesFit.2.1 207 = .ok (.aload_n 0, 1) := by decide +kernel
theorem d_L_valuesFit_208 : decode m_L_valuesFit.2.1 208 = .ok (.iload_n 1, 1) := by decide +kernel
theorem d_L_valuesFit_209 : decode m_L_valuesFit.2.1 209 = .ok (.iload 9, 2) := by decide +kernel
theorem d_L_valuesFit_211 : decode m_L_valuesFit.2.1 211 = .ok (.iconst 1, 1) := by decide +kernel
theorem d_L_valuesFit_212 : decode m_L_valuesFit.2.1 212 = .ok (.invokevirtual 50, 3) := by decide +kernel
theorem d_L_valuesFit_215 : decode m_L_valuesFit.2.1 215 = .ok (.istore 10, 2) := by decide +kernel
theorem d_L_valuesFit_217 : decode m_L_valuesFit.2.1 217 = .ok (.iload 8, 2) := by decide +kernel
theorem d_L_valuesFit_219 : decode m_L_valuesFit.2.1 219 = .ok (.ifCond .eq 58, 3) := by decide +kernel
theorem d_L_valuesFit_222 : decode m_L_valuesFit.2.1 222 = .ok (.iload 10, 2) := by decide +kernel
theorem d_L_valuesFit_224 : decode m_L_valuesFit.2.1 224 = .ok (.ldc 16, 2) := by decide +kernel
theorem d_L_valuesFit_226 : decode m_L_valuesFit.2.1 226 = .ok (.if_icmp .ne 21, 3) := by decide +kernel
theorem d_L_valuesFit_229 : decode m_L_valuesFit.2.1 229 = .ok (.aload_n 0, 1) := by decide +kernel
theorem d_L_valuesFit_230 : decode m_L_valuesFit.2.1 230 = .ok (.iload_n 1, 1) := by decide +kernel
theorem d_L_valuesFit_231 : decode m_L_valuesFit.2.1 231 = .ok (.iconst 0, 1) := by decide +kernel
theorem d_L_valuesFit_232 : decode m_L_valuesFit.2.1 232 = .ok (.invokevirtual 36, 3) := by decide +kernel
theorem d_L_valuesFit_235 : decode m_L_valuesFit.2.1 235 = .ok (.iload 9, 2) := by decide +kernel
theorem d_L_valuesFit_237 : decode m_L_valuesFit.2.1 237 = .ok (.if_icmp .ge 36, 3) := by decide +kernel
theorem d_L_valuesFit_240 : decode m_L_valuesFit.2.1 240 = .ok (.iload_n 3, 1) := by decide +kernel
theorem d_L_valuesFit_241 : decode m_L_valuesFit.2.1 241 = .ok (.ifCond .ne 36, 3) := by decide +kernel
theorem d_L_valuesFit_244 : decode m_L_valuesFit.2.1 244 = .ok (.goto 29, 3) := by decide +kernel
theorem d_L_valuesFit_247 : decode m_L_valuesFit.2.1 247 = .ok (.aload_n 0, 1) := by decide +kernel
theorem d_L_valuesFit_248 : decode m_L_valuesFit.2.1 248 = .ok (.iload_n 1, 1) := by decide +kernel
theorem d_L_valuesFit_249 : decode m_L_valuesFit.2.1 249 = .ok (.iload 10, 2) := by decide +kernel
theorem d_L_valuesFit_251 : decode m_L_valuesFit.2.1 251 = .ok (.invokevirtual 36, 3) := by decide +kernel
theorem d_L_valuesFit_254 : decode m_L_valuesFit.2.1 254 = .ok (.iload 9, 2) := by decide +kernel
theorem d_L_valuesFit_256 : decode m_L_valuesFit.2.1 256 = .ok (.if_icmp .lt 21, 3) := by decide +kernel
theorem d_L_valuesFit_259 : decode m_L_valuesFit.2.1 259 = .ok (.aload_n 0, 1) := by decide +kernel
theorem d_L_valuesFit_260 : decode m_L_valuesFit.2.1 260 = .ok (.iload_n 1, 1) := by decide +kernel
theorem d_L_valuesFit_261 : decode m_L_valuesFit.2.1 261 = .ok (.iload 10, 2) := by decide +kernel
theorem d_L_valuesFit_263 : decode m_L_valuesFit.2.1 263 = .ok (.iconst 1, 1) := by decide +kernel
theorem d_L_valuesFit_264 : decode m_L_valuesFit.2.1 264 = .ok (.isub, 1) := by decide +kernel
theorem d_L_valuesFit_265 : decode m_L_valuesFit.2.1 265 = .ok (.invokevirtual 36, 3) := by decide +kernel
theorem d_L_valuesFit_268 : decode m_L_valuesFit.2.1 268 = .ok (.iload 9, 2) := by decide +kernel
theorem d_L_valuesFit_270 : decode m_L_valuesFit.2.1 270 = .ok (.if_icmp .ge 7, 3) := by decide +kernel
theorem d_L_valuesFit_273 : decode m_L_valuesFit.2.1 273 = .ok (.iconst 1, 1) := by decide +kernel
theorem d_L_valuesFit_274 : decode m_L_valuesFit.2.1 274 = .ok (.goto 4, 3) := by decide +kernel
theorem d_L_valuesFit_277 : decode m_L_valuesFit.2.1 277 = .ok (.iconst 0, 1) := by decide +kernel
theorem d_L_valuesFit_278 : decode m_L_valuesFit.2.1 278 = .ok (.istore 8, 2) := by decide +kernel
theorem d_L_valuesFit_280 : decode m_L_valuesFit.2.1 280 = .ok (.iload 8, 2) := by decide +kernel
theorem d_L_valuesFit_282 : decode m_L_valuesFit.2.1 282 = .ok (.ifCond .eq 32, 3) := by decide +kernel
theorem d_L_valuesFit_285 : decode m_L_valuesFit.2.1 285 = .ok (.aload_n 0, 1) := by decide +kernel
theorem d_L_valuesFit_286 : decode m_L_valuesFit.2.1 286 = .ok (.iload_n 1, 1) := by decide +kernel
theorem d_L_valuesFit_287 : decode m_L_valuesFit.2.1 287 = .ok (.iconst 0, 1) := by decide +kernel
theorem d_L_valuesFit_288 : decode m_L_valuesFit.2.1 288 = .ok (.invokevirtual 54, 3) := by decide +kernel
theorem d_L_valuesFit_291 : decode m_L_valuesFit.2.1 291 = .ok (.ifCond .ne 23, 3) := by decide +kernel
theorem d_L_valuesFit_294 : decode m_L_valuesFit.2.1 294 = .ok (.iload_n 3, 1) := by decide +kernel
theorem d_L_valuesFit_295 : decode m_L_valuesFit.2.1 295 = .ok (.ifCond .eq 15, 3) := by decide +kernel
theorem d_L_valuesFit_298 : decode m_L_valuesFit.2.1 298 = .ok (.aload_n 0, 1) := by decide +kernel
theorem d_L_valuesFit_299 : decode m_L_valuesFit.2.1 299 = .ok (.aload_n 0, 1) := by decide +kernel
theorem d_L_valuesFit_300 : decode m_L_valuesFit.2.1 300 = .ok (.iconst 0, 1) := by decide +kernel
theorem d_L_valuesFit_301 : decode m_L_valuesFit.2.1 301 = .ok (.invokevirtual 21, 3) := by decide +kernel
theorem d_L_valuesFit_304 : decode m_L_valuesFit.2.1 304 = .ok (.invokevirtual 57, 3) := by decide +kernel
theorem d_L_valuesFit_307 : decode m_L_valuesFit.2.1 307 = .ok (.ifCond .lt 7, 3) := by decide +kernel
theorem d_L_valuesFit_310 : decode m_L_valuesFit.2.1 310 = .ok (.iconst 1, 1) := by decide +kernel
theorem d_L_valuesFit_311 : decode m_L_valuesFit.2.1 311 = .ok (.goto 4, 3) := by decide +kernel
theorem d_L_valuesFit_314 : decode m_L_valuesFit.2.1 314 = .ok (.iconst 0, 1) := by decide +kernel
theorem d_L_valuesFit_315 : decode m_L_valuesFit.2.1 315 = .ok (.ireturn, 1) := by decide +kernel
theorem d_L_fits_0 : decode m_L_fits.2.1 0 = .ok (.aload_n 0, 1) := by decide +kernel
theorem d_L_fits_1 : decode m_L_fits.2.1 1 = .ok (.invokestatic 60, 3) := by decide +kernel
theorem d_L_fits_4 : decode m_L_fits.2.1 4 = .ok (.lstore_n 2, 1) := by decide +kernel
theorem d_L_fits_5 : decode m_L_fits.2.1 5 = .ok (.aload_n 0, 1) := by decide +kernel
theorem d_L_fits_6 : decode m_L_fits.2.1 6 = .ok (.invokestatic 64, 3) := by decide +kernel
theorem d_L_fits_9 : decode m_L_fits.2.1 9 = .ok (.ifCond .eq 45, 3) := by decide +kernel
theorem d_L_fits_12 : decode m_L_fits.2.1 12 = .ok (.aload_n 0, 1) := by decide +kernel
theorem d_L_fits_13 : decode m_L_fits.2.1 13 = .ok (.invokestatic 68, 3) := by decide +kernel
theorem d_L_fits_16 : decode m_L_fits.2.1 16 = .ok (.ifCond .eq 38, 3) := by decide +kernel
theorem d_L_fits_19 : decode m_L_fits.2.1 19 = .ok (.aload_n 0, 1) := by decide +kernel
theorem d_L_fits_20 : decode m_L_fits.2.1 20 = .ok (.iconst 0, 1) := by decide +kernel
theorem d_L_fits_21 : decode m_L_fits.2.1 21 = .ok (.iload_n 1, 1) := by decide +kernel
theorem d_L_fits_22 : decode m_L_fits.2.1 22 = .ok (.invokestatic 71, 3) := by decide +kernel
theorem d_L_fits_25 : decode m_L_fits.2.1 25 = .ok (.ifCond .eq 29, 3) := by decide +kernel
theorem d_L_fits_28 : decode m_L_fits.2.1 28 = .ok (.aload_n 0, 1) := by decide +kernel
theorem d_L_fits_29 : decode m_L_fits.2.1 29 = .ok (.iconst 1, 1) := by decide +kernel
theorem d_L_fits_30 : decode m_L_fits.2.1 30 = .ok (.iload_n 1, 1) := by decide +kernel
theorem d_L_fits_31 : decode m_L_fits.2.1 31 = .ok (.iconst 2, 1) := by decide +kernel
theorem d_L_fits_32 : decode m_L_fits.2.1 32 = .ok (.ishr, 1) := by decide +kernel
theorem d_L_fits_33 : decode m_L_fits.2.1 33 = .ok (.invokestatic 71, 3) := by decide +kernel
theorem d_L_fits_36 : decode m_L_fits.2.1 36 = .ok (.ifCond .eq 18, 3) := by decide +kernel
theorem d_L_fits_39 : decode m_L_fits.2.1 39 = .ok (.aload_n 0, 1) := by decide +kernel
theorem d_L_fits_40 : decode m_L_fits.2.1 40 = .ok (.iconst 2, 1) := by decide +kernel
theorem d_L_fits_41 : decode m_L_fits.2.1 41 = .ok (.iload_n 1, 1) := by decide +kernel
theorem d_L_fits_42 : decode m_L_fits.2.1 42 = .ok (.iconst 4, 1) := by decide +kernel
theorem d_L_fits_43 : decode m_L_fits.2.1 43 = .ok (.ishr, 1) := by decide +kernel
theorem d_L_fits_44 : decode m_L_fits.2.1 44 = .ok (.invokestatic 71, 3) := by decide +kernel
theorem d_L_fits_47 : decode m_L_fits.2.1 47 = .ok (.ifCond .eq 7, 3) := by decide +kernel
theorem d_L_fits_50 : decode m_L_fits.2.1 50 = .ok (.iconst 1, 1) := by decide +kernel
theorem d_L_fits_51 : decode m_L_fits.2.1 51 = .ok (.goto 4, 3) := by decide +kernel
theorem d_L_fits_54 : decode m_L_fits.2.1 54 = .ok (.iconst 0, 1) := by decide +kernel
theorem d_L_fits_55 : decode m_L_fits.2.1 55 = .ok (.istore 4, 2) := by decide +kernel
theorem d_L_fits_57 : decode m_L_fits.2.1 57 = .ok (.iload 4, 2) := by decide +kernel
theorem d_L_fits_59 : decode m_L_fits.2.1 59 = .ok (.ifCond .eq 16, 3) := by decide +kernel
theorem d_L_fits_62 : decode m_L_fits.2.1 62 = .ok (.aload_n 0, 1) := by decide +kernel
theorem d_L_fits_63 : decode m_L_fits.2.1 63 = .ok (.invokestatic 60, 3) := by decide +kernel
theorem d_L_fits_66 : decode m_L_fits.2.1 66 = .ok (.lload_n 2, 1) := by decide +kernel
theorem d_L_fits_67 : decode m_L_fits.2.1 67 = .ok (.lcmp, 1) := by decide +kernel
theorem d_L_fits_68 : decode m_L_fits.2.1 68 = .ok (.ifCond .ne 7, 3) := by decide +kernel
theorem d_L_fits_71 : decode m_L_fits.2.1 71 = .ok (.iconst 1, 1) := by decide +kernel
theorem d_L_fits_72 : decode m_L_fits.2.1 72 = .ok (.goto 4, 3) := by decide +kernel
theorem d_L_fits_75 : decode m_L_fits.2.1 75 = .ok (.iconst 0, 1) := by decide +kernel
theorem d_L_fits_76 : decode m_L_fits.2.1 76 = .ok (.ireturn, 1) := by decide +kernel
theorem d_L_types_0 : decode m_L_types.2.1 0 = .ok (.aload_n 0, 1) := by decide +kernel
theorem d_L_types_1 : decode m_L_types.2.1 1 = .ok (.iload_n 1, 1) := by decide +kernel
theorem d_L_types_2 : decode m_L_types.2.1 2 = .ok (.invokevirtual 75, 3) := by decide +kernel
theorem d_L_types_5 : decode m_L_types.2.1 5 = .ok (.pop, 1) := by decide +kernel
theorem d_L_types_6 : decode m_L_types.2.1 6 = .ok (.iload_n 2, 1) := by decide +kernel
theorem d_L_types_7 : decode m_L_types.2.1 7 = .ok (.ifCond .le 9, 3) := by decide +kernel
theorem d_L_types_10 : decode m_L_types.2.1 10 = .ok (.aload_n 0, 1) := by decide +kernel
theorem d_L_types_11 : decode m_L_types.2.1 11 = .ok (.iload_n 2, 1) := by decide +kernel
theorem d_L_types_12 : decode m_L_types.2.1 12 = .ok (.invokevirtual 75, 3) := by decide +kernel
theorem d_L_types_15 : decode m_L_types.2.1 15 = .ok (.pop, 1) := by decide +kernel
theorem d_L_types_16 : decode m_L_types.2.1 16 = .ok (.iload_n 3, 1) := by decide +kernel
theorem d_L_types_17 : decode m_L_types.2.1 17 = .ok (.ifCond .le 9, 3) := by decide +kernel
theorem d_L_types_20 : decode m_L_types.2.1 20 = .ok (.aload_n 0, 1) := by decide +kernel
theorem d_L_types_21 : decode m_L_types.2.1 21 = .ok (.iload_n 3, 1) := by decide +kernel
theorem d_L_types_22 : decode m_L_types.2.1 22 = .ok (.invokevirtual 75, 3) := by decide +kernel
theorem d_L_types_25 : decode m_L_types.2.1 25 = .ok (.pop, 1) := by decide +kernel
theorem d_L_types_26 : decode m_L_types.2.1 26 = .ok (.iload 4, 2) := by decide +kernel
theorem d_L_types_28 : decode m_L_types.2.1 28 = .ok (.ifCond .le 10, 3) := by decide +kernel
theorem d_L_types_31 : decode m_L_types.2.1 31 = .ok (.aload_n 0, 1) := by decide +kernel
theorem d_L_types_32 : decode m_L_types.2.1 32 = .ok (.iload 4, 2) := by decide +kernel
theorem d_L_types_34 : decode m_L_types.2.1 34 = .ok (.invokevirtual 75, 3) := by decide +kernel
theorem d_L_types_37 : decode m_L_types.2.1 37 = .ok (.pop, 1) := by decide +kernel
theorem d_L_types_38 : decode m_L_types.2.1 38 = .ok (.return_, 1) := by decide +kernel
theorem d_L_rights_0 : decode m_L_rights.2.1 0 = .ok (.aload_n 0, 1) := by decide +kernel
theorem d_L_rights_1 : decode m_L_rights.2.1 1 = .ok (.invokevirtual 78, 3) := by decide +kernel
theorem d_L_rights_4 : decode m_L_rights.2.1 4 = .ok (.pop, 1) := by decide +kernel
theorem d_L_rights_5 : decode m_L_rights.2.1 5 = .ok (.iconst 1, 1) := by decide +kernel
theorem d_L_rights_6 : decode m_L_rights.2.1 6 = .ok (.iload_n 2, 1) := by decide +kernel
theorem d_L_rights_7 : decode m_L_rights.2.1 7 = .ok (.iconst 4, 1) := by decide +kernel
theorem d_L_rights_8 : decode m_L_rights.2.1 8 = .ok (.invokestatic 9, 3) := by decide +kernel
theorem d_L_rights_11 : decode m_L_rights.2.1 11 = .ok (.iadd, 1) := by decide +kernel
theorem d_L_rights_12 : decode m_L_rights.2.1 12 = .ok (.istore_n 3, 1) := by decide +kernel
theorem d_L_rights_13 : decode m_L_rights.2.1 13 = .ok (.iconst 0, 1) := by decide +kernel
theorem d_L_rights_14 : decode m_L_rights.2.1 14 = .ok (.istore 4, 2) := by decide +kernel
theorem d_L_rights_16 : decode m_L_rights.2.1 16 = .ok (.iload 4, 2) := by decide +kernel
theorem d_L_rights_18 : decode m_L_rights.2.1 18 = .ok (.iload_n 3, 1) := by decide +kernel
theorem d_L_rights_19 : decode m_L_rights.2.1 19 = .ok (.if_icmp .ge 250, 3) := by decide +kernel
theorem d_L_rights_22 : decode m_L_rights.2.1 22 = .ok (.iload_n 1, 1) := by decide +kernel
theorem d_L_rights_23 : decode m_L_rights.2.1 23 = .ok (.iconst 5, 1) := by decide +kernel
theorem d_L_rights_24 : decode m_L_rights.2.1 24 = .ok (.iload 4, 2) := by decide +kernel
theorem d_L_rights_26 : decode m_L_rights.2.1 26 = .ok (.imul, 1) := by decide +kernel
theorem d_L_rights_27 : decode m_L_rights.2.1 27 = .ok (.ishr, 1) := by decide +kernel
theorem d_L_rights_28 : decode m_L_rights.2.1 28 = .ok (.istore 5, 2) := by decide +kernel
theorem d_L_rights_30 : decode m_L_rights.2.1 30 = .ok (.iload 4, 2) := by decide +kernel
theorem d_L_rights_32 : decode m_L_rights.2.1 32 = .ok (.ifCond .le 56, 3) := by decide +kernel
theorem d_L_rights_35 : decode m_L_rights.2.1 35 = .ok (.aload_n 0, 1) := by decide +kernel
theorem d_L_rights_36 : decode m_L_rights.2.1 36 = .ok (.iload 5, 2) := by decide +kernel
theorem d_L_rights_38 : decode m_L_rights.2.1 38 = .ok (.iconst 4, 1) := by decide +kernel
theorem d_L_rights_39 : decode m_L_rights.2.1 39 = .ok (.invokestatic 9, 3) := by decide +kernel
theorem d_L_rights_42 : decode m_L_rights.2.1 42 = .ok (.ifCond .ne 8, 3) := by decide +kernel
theorem d_L_rights_45 : decode m_L_rights.2.1 45 = .ok (.bipush 45, 2) := by decide +kernel
theorem d_L_rights_47 : decode m_L_rights.2.1 47 = .ok (.goto 35, 3) := by decide +kernel
theorem d_L_rights_50 : decode m_L_rights.2.1 50 = .ok (.iload 5, 2) := by decide +kernel
theorem d_L_rights_52 : decode m_L_rights.2.1 52 = .ok (.iconst 4, 1) := by decide +kernel
theorem d_L_rights_53 : decode m_L_rights.2.1 53 = .ok (.invokestatic 9, 3) := by decide +kernel
theorem d_L_rights_56 : decode m_L_rights.2.1 56 = .ok (.iconst 1, 1) := by decide +kernel
theorem d_L_rights_57 : decode m_L_rights.2.1 57 = .ok (.if_icmp .ne 8, 3) := by decide +kernel
theorem d_L_rights_60 : decode m_L_rights.2.1 60 = .ok (.bipush 42, 2) := by decide +kernel
theorem d_L_rights_62 : decode m_L_rights.2.1 62 = .ok (.goto 20, 3) := by decide +kernel
theorem d_L_rights_65 : decode m_L_rights.2.1 65 = .ok (.iload 5, 2) := by decide +kernel
theorem d_L_rights_67 : decode m_L_rights.2.1 67 = .ok (.iconst 4, 1) := by decide +kernel
theorem d_L_rights_68 : decode m_L_rights.2.1 68 = .ok (.invokestatic 9, 3) := by decide +kernel
theorem d_L_rights_71 : decode m_L_rights.2.1 71 = .ok (.iconst 2, 1) := by decide +kernel
theorem d_L_rights_72 : decode m_L_rights.2.1 72 = .ok (.if_icmp .ne 8, 3) := by decide +kernel
theorem d_L_rights_75 : decode m_L_rights.2.1 75 = .ok (.bipush 47, 2) := by decide +kernel
theorem d_L_rights_77 : decode m_L_rights.2.1 77 = .ok (.goto 5, 3) := by decide +kernel
theorem d_L_rights_80 : decode m_L_rights.2.1 80 = .ok (.bipush 43, 2) := by decide +kernel
theorem d_L_rights_82 : decode m_L_rights.2.1 82 = .ok (.iconst 0, 1) := by decide +kernel
theorem d_L_rights_83 : decode m_L_rights.2.1 83 = .ok (.iconst 0, 1) := by decide +kernel
theorem d_L_rights_84 : decode m_L_rights.2.1 84 = .ok (.iconst 0, 1) := by decide +kernel
theorem d_L_rights_85 : decode m_L_rights.2.1 85 = .ok (.invokestatic 82, 3) := by decide +kernel
theorem d_L_rights_88 : decode m_L_rights.2.1 88 = .ok (.iload 5, 2) := by decide +kernel
theorem d_L_rights_90 : decode m_L_rights.2.1 90 = .ok (.bipush 7, 2) := by decide +kernel
theorem d_L_rights_92 : decode m_L_rights.2.1 92 = .ok (.invokestatic 9, 3) := by decide +kernel
theorem d_L_rights_95 : decode m_L_rights.2.1 95 = .ok (.bipush 6, 2) := by decide +kernel
theorem d_L_rights_97 : decode m_L_rights.2.1 97 = .ok (.if_icmp .ne 12, 3) := by decide +kernel
theorem d_L_rights_100 : decode m_L_rights.2.1 100 = .ok (.aload_n 0, 1) := by decide +kernel
theorem d_L_rights_101 : decode m_L_rights.2.1 101 = .ok (.bipush 45, 2) := by decide +kernel
theorem d_L_rights_103 : decode m_L_rights.2.1 103 = .ok (.iconst 0, 1) := by decide +kernel
theorem d_L_rights_104 : decode m_L_rights.2.1 104 = .ok (.iconst 0, 1) := by decide +kernel
theorem d_L_rights_105 : decode m_L_rights.2.1 105 = .ok (.iconst 0, 1) := by decide +kernel
theorem d_L_rights_106 : decode m_L_rights.2.1 106 = .ok (.invokestatic 82, 3) := by decide +kernel
theorem d_L_rights_109 : decode m_L_rights.2.1 109 = .ok (.iload 5, 2) := by decide +kernel
theorem d_L_rights_111 : decode m_L_rights.2.1 111 = .ok (.iconst 2, 1) := by decide +kernel
theorem d_L_rights_112 : decode m_L_rights.2.1 112 = .ok (.ishr, 1) := by decide +kernel
theorem d_L_rights_113 : decode m_L_rights.2.1 113 = .ok (.bipush 6, 2) := by decide +kernel
theorem d_L_rights_115 : decode m_L_rights.2.1 115 = .ok (.invokestatic 9, 3) := by decide +kernel
theorem d_L_rights_118 : decode m_L_rights.2.1 118 = .ok (.tableswitch 136 0 4 #[34, 56, 75, 75, 105], 34) := by decide +kernel
theorem d_L_rights_152 : decode m_L_rights.2.1 152 = .ok (.aload_n 0, 1) := by decide +kernel
theorem d_L_rights_153 : decode m_L_rights.2.1 153 = .ok (.bipush 48, 2) := by decide +kernel
theorem d_L_rights_155 : decode m_L_rights.2.1 155 = .ok (.bipush 46, 2) := by decide +kernel
theorem d_L_rights_157 : decode m_L_rights.2.1 157 = .ok (.bipush 48, 2) := by decide +kernel
theorem d_L_rights_159 : decode m_L_rights.2.1 159 = .ok (.iload 5, 2) := by decide +kernel
theorem d_L_rights_161 : decode m_L_rights.2.1 161 = .ok (.bipush 10, 2) := by decide +kernel
theorem d_L_rights_163 : decode m_L_rights.2.1 163 = .ok (.invokestatic 9, 3) := by decide +kernel
theorem d_L_rights_166 : decode m_L_rights.2.1 166 = .ok (.iadd, 1) := by decide +kernel
theorem d_L_rights_167 : decode m_L_rights.2.1 167 = .ok (.iconst 0, 1) := by decide +kernel
theorem d_L_rights_168 : decode m_L_rights.2.1 168 = .ok (.invokestatic 82, 3) := by decide +kernel
theorem d_L_rights_171 : decode m_L_rights.2.1 171 = .ok (.goto 92, 3) := by decide +kernel
theorem d_L_rights_174 : decode m_L_rights.2.1 174 = .ok (.aload_n 0, 1) := by decide +kernel
theorem d_L_rights_175 : decode m_L_rights.2.1 175 = .ok (.bipush 120, 2) := by decide +kernel
theorem d_L_rights_177 : decode m_L_rights.2.1 177 = .ok (.iload 5, 2) := by decide +kernel
theorem d_L_rights_179 : decode m_L_rights.2.1 179 = .ok (.iconst 3, 1) := by decide +kernel
theorem d_L_rights_180 : decode m_L_rights.2.1 180 = .ok (.invokestatic 9, 3) := by decide +kernel
theorem d_L_rights_183 : decode m_L_rights.2.1 183 = .ok (.iadd, 1) := by decide +kernel
theorem d_L_rights_184 : decode m_L_rights.2.1 184 = .ok (.iconst 0, 1) := by decide +kernel
theorem d_L_rights_185 : decode m_L_rights.2.1 185 = .ok (.iconst 0, 1) := by decide +kernel
theorem d_L_rights_186 : decode m_L_rights.2.1 186 = .ok (.iconst 0, 1) := by decide +kernel
theorem d_L_rights_187 : decode m_L_rights.2.1 187 = .ok (.invokestatic 82, 3) := by decide +kernel
theorem d_L_rights_190 : decode m_L_rights.2.1 190 = .ok (.goto 73, 3) := by decide +kernel
theorem d_L_rights_193 : decode m_L_rights.2.1 193 = .ok (.aload_n 0, 1) := by decide +kernel
theorem d_L_rights_194 : decode m_L_rights.2.1 194 = .ok (.bipush 120, 2) := by decide +kernel
theorem d_L_rights_196 : decode m_L_rights.2.1 196 = .ok (.iload 5, 2) := by decide +kernel
theorem d_L_rights_198 : decode m_L_rights.2.1 198 = .ok (.iconst 3, 1) := by decide +kernel
theorem d_L_rights_199 : decode m_L_rights.2.1 199 = .ok (.invokestatic 9, 3) := by decide +kernel
theorem d_L_rights_202 : decode m_L_rights.2.1 202 = .ok (.iadd, 1) := by decide +kernel
theorem d_L_rights_203 : decode m_L_rights.2.1 203 = .ok (.bipush 64, 2) := by decide +kernel
theorem d_L_rights_205 : decode m_L_rights.2.1 205 = .ok (.bipush 48, 2) := by decide +kernel
theorem d_L_rights_207 : decode m_L_rights.2.1 207 = .ok (.iload 5, 2) := by decide +kernel
theorem d_L_rights_209 : decode m_L_rights.2.1 209 = .ok (.iconst 1, 1) := by decide +kernel
theorem d_L_rights_210 : decode m_L_rights.2.1 210 = .ok (.ishr, 1) := by decide +kernel
theorem d_L_rights_211 : decode m_L_rights.2.1 211 = .ok (.iconst 3, 1) := by decide +kernel
theorem d_L_rights_212 : decode m_L_rights.2.1 212 = .ok (.invokestatic 9, 3) := by decide +kernel
theorem d_L_rights_215 : decode m_L_rights.2.1 215 = .ok (.iadd, 1) := by decide +kernel
theorem d_L_rights_216 : decode m_L_rights.2.1 216 = .ok (.iconst 0, 1) := by decide +kernel
theorem d_L_rights_217 : decode m_L_rights.2.1 217 = .ok (.invokestatic 82, 3) := by decide +kernel
theorem d_L_rights_220 : decode m_L_rights.2.1 220 = .ok (.goto 43, 3) := by decide +kernel
theorem d_L_rights_223 : decode m_L_rights.2.1 223 = .ok (.aload_n 0, 1) := by decide +kernel
theorem d_L_rights_224 : decode m_L_rights.2.1 224 = .ok (.bipush 120, 2) := by decide +kernel
theorem d_L_rights_226 : decode m_L_rights.2.1 226 = .ok (.iload 5, 2) := by decide +kernel
theorem d_L_rights_228 : decode m_L_rights.2.1 228 = .ok (.iconst 3, 1) := by decide +kernel
theorem d_L_rights_229 : decode m_L_rights.2.1 229 = .ok (.invokestatic 9, 3) := by decide +kernel
theorem d_L_rights_232 : decode m_L_rights.2.1 232 = .ok (.iadd, 1) := by decide +kernel
theorem d_L_rights_233 : decode m_L_rights.2.1 233 = .ok (.bipush 39, 2) := by decide +kernel
theorem d_L_rights_235 : decode m_L_rights.2.1 235 = .ok (.bipush 64, 2) := by decide +kernel
theorem d_L_rights_237 : decode m_L_rights.2.1 237 = .ok (.bipush 48, 2) := by decide +kernel
theorem d_L_rights_239 : decode m_L_rights.2.1 239 = .ok (.iload 5, 2) := by decide +kernel
theorem d_L_rights_241 : decode m_L_rights.2.1 241 = .ok (.iconst 1, 1) := by decide +kernel
theorem d_L_rights_242 : decode m_L_rights.2.1 242 = .ok (.ishr, 1) := by decide +kernel
theorem d_L_rights_243 : decode m_L_rights.2.1 243 = .ok (.iconst 3, 1) := by decide +kernel
theorem d_L_rights_244 : decode m_L_rights.2.1 244 = .ok (.invokestatic 9, 3) := by decide +kernel
theorem d_L_rights_247 : decode m_L_rights.2.1 247 = .ok (.iadd, 1) := by decide +kernel
theorem d_L_rights_248 : decode m_L_rights.2.1 248 = .ok (.invokestatic 82, 3) := by decide +kernel
theorem d_L_rights_251 : decode m_L_rights.2.1 251 = .ok (.goto 12, 3) := by decide +kernel
theorem d_L_rights_254 : decode m_L_rights.2.1 254 = .ok (.aload_n 0, 1) := by decide +kernel
theorem d_L_rights_255 : decode m_L_rights.2.1 255 = .ok (.bipush 116, 2) := by decide +kernel
theorem d_L_rights_257 : decode m_L_rights.2.1 257 = .ok (.iconst 0, 1) := by decide +kernel
theorem d_L_rights_258 : decode m_L_rights.2.1 258 = .ok (.iconst 0, 1) := by decide +kernel
theorem d_L_rights_259 : decode m_L_rights.2.1 259 = .ok (.iconst 0, 1) := by decide +kernel
theorem d_L_rights_260 : decode m_L_rights.2.1 260 = .ok (.invokestatic 82, 3) := by decide +kernel
theorem d_L_rights_263 : decode m_L_rights.2.1 263 = .ok (.iinc 4 1, 3) := by decide +kernel
theorem d_L_rights_266 : decode m_L_rights.2.1 266 = .ok (.goto (-250), 3) := by decide +kernel
theorem d_L_rights_269 : decode m_L_rights.2.1 269 = .ok (.iload_n 2, 1) := by decide +kernel
theorem d_L_rights_270 : decode m_L_rights.2.1 270 = .ok (.bipush 7, 2) := by decide +kernel
theorem d_L_rights_272 : decode m_L_rights.2.1 272 = .ok (.ishr, 1) := by decide +kernel
theorem d_L_rights_273 : decode m_L_rights.2.1 273 = .ok (.bipush 9, 2) := by decide +kernel
theorem d_L_rights_275 : decode m_L_rights.2.1 275 = .ok (.invokestatic 9, 3) := by decide +kernel
theorem d_L_rights_278 : decode m_L_rights.2.1 278 = .ok (.ifCond .ne 12, 3) := by decide +kernel
theorem d_L_rights_281 : decode m_L_rights.2.1 281 = .ok (.aload_n 0, 1) := by decide +kernel
theorem d_L_rights_282 : decode m_L_rights.2.1 282 = .ok (.bipush 42, 2) := by decide +kernel
theorem d_L_rights_284 : decode m_L_rights.2.1 284 = .ok (.iconst 0, 1) := by decide +kernel
theorem d_L_rights_285 : decode m_L_rights.2.1 285 = .ok (.iconst 0, 1) := by decide +kernel
theorem d_L_rights_286 : decode m_L_rights.2.1 286 = .ok (.iconst 0, 1) := by decide +kernel
theorem d_L_rights_287 : decode m_L_rights.2.1 287 = .ok (.invokestatic 82, 3) := by decide +kernel
theorem d_L_rights_290 : decode m_L_rights.2.1 290 = .ok (.aload_n 0, 1) := by decide +kernel
theorem d_L_rights_291 : decode m_L_rights.2.1 291 = .ok (.invokevirtual 86, 3) := by decide +kernel
theorem d_L_rights_294 : decode m_L_rights.2.1 294 = .ok (.istore 4, 2) := by decide +kernel
theorem d_L_rights_296 : decode m_L_rights.2.1 296 = .ok (.aload_n 0, 1) := by decide +kernel
theorem d_L_rights_297 : decode m_L_rights.2.1 297 = .ok (.iload_n 2, 1) := by decide +kernel
theorem d_L_rights_298 : decode m_L_rights.2.1 298 = .ok (.iconst 2, 1) := by decide +kernel
theorem d_L_rights_299 : decode m_L_rights.2.1 299 = .ok (.ishr, 1) := by decide +kernel
theorem d_L_rights_300 : decode m_L_rights.2.1 300 = .ok (.iconst 3, 1) := by decide +kernel
theorem d_L_rights_301 : decode m_L_rights.2.1 301 = .ok (.invokestatic 89, 3) := by decide +kernel
theorem d_L_rights_304 : decode m_L_rights.2.1 304 = .ok (.invokevirtual 92, 3) := by decide +kernel
theorem d_L_rights_307 : decode m_L_rights.2.1 307 = .ok (.istore 5, 2) := by decide +kernel
theorem d_L_rights_309 : decode m_L_rights.2.1 309 = .ok (.iload 4, 2) := by decide +kernel
theorem d_L_rights_311 : decode m_L_rights.2.1 311 = .ok (.ldc 16, 2) := by decide +kernel
theorem d_L_rights_313 : decode m_L_rights.2.1 313 = .ok (.if_icmp .ne 8, 3) := by decide +kernel
theorem d_L_rights_316 : decode m_L_rights.2.1 316 = .ok (.iload 5, 2) := by decide +kernel
theorem d_L_rights_318 : decode m_L_rights.2.1 318 = .ok (.goto 23, 3) := by decide +kernel
theorem d_L_rights_321 : decode m_L_rights.2.1 321 = .ok (.iload 5, 2) := by decide +kernel
theorem d_L_rights_323 : decode m_L_rights.2.1 323 = .ok (.ldc 95, 2) := by decide +kernel
theorem d_L_rights_325 : decode m_L_rights.2.1 325 = .ok (.if_icmp .eq 10, 3) := by decide +kernel
theorem d_L_rights_328 : decode m_L_rights.2.1 328 = .ok (.iload 5, 2) := by decide +kernel
theorem d_L_rights_330 : decode m_L_rights.2.1 330 = .ok (.ldc 15, 2) := by decide +kernel
theorem d_L_rights_332 : decode m_L_rights.2.1 332 = .ok (.if_icmp .ne 8, 3) := by decide +kernel
theorem d_L_rights_335 : decode m_L_rights.2.1 335 = .ok (.ldc 95, 2) := by decide +kernel
theorem d_L_rights_337 : decode m_L_rights.2.1 337 = .ok (.goto 4, 3) := by decide +kernel
theorem d_L_rights_340 : decode m_L_rights.2.1 340 = .ok (.iconst 0, 1) := by decide +kernel
theorem d_L_rights_341 : decode m_L_rights.2.1 341 = .ok (.ireturn, 1) := by decide +kernel
theorem d_L_goes_0 : decode m_L_goes.2.1 0 = .ok (.iload_n 1, 1) := by decide +kernel
theorem d_L_goes_1 : decode m_L_goes.2.1 1 = .ok (.bipush 12, 2) := by decide +kernel
theorem d_L_goes_3 : decode m_L_goes.2.1 3 = .ok (.invokestatic 9, 3) := by decide +kernel
theorem d_L_goes_6 : decode m_L_goes.2.1 6 = .ok (.tableswitch 307 0 10 #[58, 58, 58, 67, 134, 134, 196, 223, 270, 270, 270], 58) := by decide +kernel
theorem d_L_goes_64 : decode m_L_goes.2.1 64 = .ok (.aload_n 0, 1) := by decide +kernel
theorem d_L_goes_65 : decode m_L_goes.2.1 65 = .ok (.iload_n 1, 1) := by decide +kernel
theorem d_L_goes_66 : decode m_L_goes.2.1 66 = .ok (.iconst 3, 1) := by decide +kernel
theorem d_L_goes_67 : decode m_L_goes.2.1 67 = .ok (.ishr, 1) := by decide +kernel
theorem d_L_goes_68 : decode m_L_goes.2.1 68 = .ok (.iload_n 2, 1) := by decide +kernel
theorem d_L_goes_69 : decode m_L_goes.2.1 69 = .ok (.invokestatic 96, 3) := by decide +kernel
theorem d_L_goes_72 : decode m_L_goes.2.1 72 = .ok (.ireturn, 1) := by decide +kernel
theorem d_L_goes_73 : decode m_L_goes.2.1 73 = .ok (.aload_n 0, 1) := by decide +kernel
theorem d_L_goes_74 : decode m_L_goes.2.1 74 = .ok (.iload_n 2, 1) := by decide +kernel
theorem d_L_goes_75 : decode m_L_goes.2.1 75 = .ok (.iconst 3, 1) := by decide +kernel
theorem d_L_goes_76 : decode m_L_goes.2.1 76 = .ok (.invokestatic 89, 3) := by decide +kernel
theorem d_L_goes_79 : decode m_L_goes.2.1 79 = .ok (.iload_n 1, 1) := by decide +kernel
theorem d_L_goes_80 : decode m_L_goes.2.1 80 = .ok (.iconst 4, 1) := by decide +kernel
theorem d_L_goes_81 : decode m_L_goes.2.1 81 = .ok (.ishr, 1) := by decide +kernel
theorem d_L_goes_82 : decode m_L_goes.2.1 82 = .ok (.iconst 4, 1) := by decide +kernel
theorem d_L_goes_83 : decode m_L_goes.2.1 83 = .ok (.invokestatic 9, 3) := by decide +kernel
theorem d_L_goes_86 : decode m_L_goes.2.1 86 = .ok (.ifCond .ne 15, 3) := by decide +kernel
theorem d_L_goes_89 : decode m_L_goes.2.1 89 = .ok (.iload_n 2, 1) := by decide +kernel
theorem d_L_goes_90 : decode m_L_goes.2.1 90 = .ok (.iconst 3, 1) := by decide +kernel
theorem d_L_goes_91 : decode m_L_goes.2.1 91 = .ok (.ishr, 1) := by decide +kernel
theorem d_L_goes_92 : decode m_L_goes.2.1 92 = .ok (.sipush 5001, 3) := by decide +kernel
theorem d_L_goes_95 : decode m_L_goes.2.1 95 = .ok (.invokestatic 89, 3) := by decide +kernel
theorem d_L_goes_98 : decode m_L_goes.2.1 98 = .ok (.goto 13, 3) := by decide +kernel
theorem d_L_goes_101 : decode m_L_goes.2.1 101 = .ok (.iload_n 1, 1) := by decide +kernel
theorem d_L_goes_102 : decode m_L_goes.2.1 102 = .ok (.bipush 6, 2) := by decide +kernel
theorem d_L_goes_104 : decode m_L_goes.2.1 104 = .ok (.ishr, 1) := by decide +kernel
theorem d_L_goes_105 : decode m_L_goes.2.1 105 = .ok (.sipush 260, 3) := by decide +kernel
theorem d_L_goes_108 : decode m_L_goes.2.1 108 = .ok (.invokestatic 9, 3) := by decide +kernel
theorem d_L_goes_111 : decode m_L_goes.2.1 111 = .ok (.iload_n 1, 1) := by decide +kernel
theorem d_L_goes_112 : decode m_L_goes.2.1 112 = .ok (.iconst 5, 1) := by decide +kernel
theorem d_L_goes_113 : decode m_L_goes.2.1 113 = .ok (.ishr, 1) := by decide +kernel
theorem d_L_goes_114 : decode m_L_goes.2.1 114 = .ok (.iconst 3, 1) := by decide +kernel
theorem d_L_goes_115 : decode m_L_goes.2.1 115 = .ok (.invokestatic 89, 3) := by decide +kernel
theorem d_L_goes_118 : decode m_L_goes.2.1 118 = .ok (.ifCond .ne 17, 3) := by decide +kernel
theorem d_L_goes_121 : decode m_L_goes.2.1 121 = .ok (.iload_n 2, 1) := by decide +kernel
theorem d_L_goes_122 : decode m_L_goes.2.1 122 = .ok (.sipush 1801, 3) := by decide +kernel
theorem d_L_goes_125 : decode m_L_goes.2.1 125 = .ok (.invokestatic 9, 3) := by decide +kernel
theorem d_L_goes_128 : decode m_L_goes.2.1 128 = .ok (.sipush 900, 3) := by decide +kernel
theorem d_L_goes_131 : decode m_L_goes.2.1 131 = .ok (.isub, 1) := by decide +kernel
theorem d_L_goes_132 : decode m_L_goes.2.1 132 = .ok (.goto 4, 3) := by decide +kernel
theorem d_L_goes_135 : decode m_L_goes.2.1 135 = .ok (.iconst 0, 1) := by decide +kernel
theorem d_L_goes_136 : decode m_L_goes.2.1 136 = .ok (.invokevirtual 100, 3) := by decide +kernel
theorem d_L_goes_139 : decode m_L_goes.2.1 139 = .ok (.ireturn, 1) := by decide +kernel
theorem d_L_goes_140 : decode m_L_goes.2.1 140 = .ok (.aload_n 0, 1) := by decide +kernel
theorem d_L_goes_141 : decode m_L_goes.2.1 141 = .ok (.iload_n 2, 1) := by decide +kernel
theorem d_L_goes_142 : decode m_L_goes.2.1 142 = .ok (.iconst 3, 1) := by decide +kernel
theorem d_L_goes_143 : decode m_L_goes.2.1 143 = .ok (.invokestatic 89, 3) := by decide +kernel
theorem d_L_goes_146 : decode m_L_goes.2.1 146 = .ok (.iload_n 1, 1) := by decide +kernel
theorem d_L_goes_147 : decode m_L_goes.2.1 147 = .ok (.iconst 5, 1) := by decide +kernel
theorem d_L_goes_148 : decode m_L_goes.2.1 148 = .ok (.ishr, 1) := by decide +kernel
theorem d_L_goes_149 : decode m_L_goes.2.1 149 = .ok (.iload_n 2, 1) := by decide +kernel
theorem d_L_goes_150 : decode m_L_goes.2.1 150 = .ok (.iconst 3, 1) := by decide +kernel
theorem d_L_goes_151 : decode m_L_goes.2.1 151 = .ok (.invokestatic 9, 3) := by decide +kernel
theorem d_L_goes_154 : decode m_L_goes.2.1 154 = .ok (.ifCond .ne 9, 3) := by decide +kernel
theorem d_L_goes_157 : decode m_L_goes.2.1 157 = .ok (.sipush 10001, 3) := by decide +kernel
theorem d_L_goes_160 : decode m_L_goes.2.1 160 = .ok (.goto 6, 3) := by decide +kernel
theorem d_L_goes_163 : decode m_L_goes.2.1 163 = .ok (.sipush 400, 3) := by decide +kernel
theorem d_L_goes_166 : decode m_L_goes.2.1 166 = .ok (.invokestatic 9, 3) := by decide +kernel
theorem d_L_goes_169 : decode m_L_goes.2.1 169 = .ok (.ineg, 1) := by decide +kernel
theorem d_L_goes_170 : decode m_L_goes.2.1 170 = .ok (.iload_n 2, 1) := by decide +kernel
theorem d_L_goes_171 : decode m_L_goes.2.1 171 = .ok (.iconst 3, 1) := by decide +kernel
theorem d_L_goes_172 : decode m_L_goes.2.1 172 = .ok (.ishr, 1) := by decide +kernel
theorem d_L_goes_173 : decode m_L_goes.2.1 173 = .ok (.bipush 9, 2) := by decide +kernel
theorem d_L_goes_175 : decode m_L_goes.2.1 175 = .ok (.invokestatic 9, 3) := by decide +kernel
theorem d_L_goes_178 : decode m_L_goes.2.1 178 = .ok (.ifCond .ne 7, 3) := by decide +kernel
theorem d_L_goes_181 : decode m_L_goes.2.1 181 = .ok (.iload_n 2, 1) := by decide +kernel
theorem d_L_goes_182 : decode m_L_goes.2.1 182 = .ok (.goto 16, 3) := by decide +kernel
theorem d_L_goes_185 : decode m_L_goes.2.1 185 = .ok (.iload_n 2, 1) := by decide +kernel
theorem d_L_goes_186 : decode m_L_goes.2.1 186 = .ok (.iconst 5, 1) := by decide +kernel
theorem d_L_goes_187 : decode m_L_goes.2.1 187 = .ok (.ishr, 1) := by decide +kernel
theorem d_L_goes_188 : decode m_L_goes.2.1 188 = .ok (.sipush 4001, 3) := by decide +kernel
theorem d_L_goes_191 : decode m_L_goes.2.1 191 = .ok (.invokestatic 9, 3) := by decide +kernel
theorem d_L_goes_194 : decode m_L_goes.2.1 194 = .ok (.sipush 2000, 3) := by decide +kernel
theorem d_L_goes_197 : decode m_L_goes.2.1 197 = .ok (.isub, 1) := by decide +kernel
theorem d_L_goes_198 : decode m_L_goes.2.1 198 = .ok (.invokevirtual 103, 3) := by decide +kernel
theorem d_L_goes_201 : decode m_L_goes.2.1 201 = .ok (.ireturn, 1) := by decide +kernel
theorem d_L_goes_202 : decode m_L_goes.2.1 202 = .ok (.iload_n 2, 1) := by decide +kernel
theorem d_L_goes_203 : decode m_L_goes.2.1 203 = .ok (.iconst 4, 1) := by decide +kernel
theorem d_L_goes_204 : decode m_L_goes.2.1 204 = .ok (.invokestatic 9, 3) := by decide +kernel
theorem d_L_goes_207 : decode m_L_goes.2.1 207 = .ok (.ifCond .ne 17, 3) := by decide +kernel
theorem d_L_goes_210 : decode m_L_goes.2.1 210 = .ok (.aload_n 0, 1) := by decide +kernel
theorem d_L_goes_211 : decode m_L_goes.2.1 211 = .ok (.iload_n 2, 1) := by decide +kernel
theorem d_L_goes_212 : decode m_L_goes.2.1 212 = .ok (.iconst 2, 1) := by decide +kernel
theorem d_L_goes_213 : decode m_L_goes.2.1 213 = .ok (.ishr, 1) := by decide +kernel
theorem d_L_goes_214 : decode m_L_goes.2.1 214 = .ok (.iconst 3, 1) := by decide +kernel
theorem d_L_goes_215 : decode m_L_goes.2.1 215 = .ok (.invokestatic 89, 3) := by decide +kernel
theorem d_L_goes_218 : decode m_L_goes.2.1 218 = .ok (.invokevirtual 106, 3) := by decide +kernel
theorem d_L_goes_221 : decode m_L_goes.2.1 221 = .ok (.goto 7, 3) := by decide +kernel
theorem d_L_goes_224 : decode m_L_goes.2.1 224 = .ok (.aload_n 0, 1) := by decide +kernel
theorem d_L_goes_225 : decode m_L_goes.2.1 225 = .ok (.invokevirtual 109, 3) := by decide +kernel
theorem d_L_goes_228 : decode m_L_goes.2.1 228 = .ok (.ireturn, 1) := by decide +kernel
theorem d_L_goes_229 : decode m_L_goes.2.1 229 = .ok (.iload_n 2, 1) := by decide +kernel
theorem d_L_goes_230 : decode m_L_goes.2.1 230 = .ok (.iconst 3, 1) := by decide +kernel
theorem d_L_goes_231 : decode m_L_goes.2.1 231 = .ok (.invokestatic 89, 3) := by decide +kernel
theorem d_L_goes_234 : decode m_L_goes.2.1 234 = .ok (.istore_n 3, 1) := by decide +kernel
theorem d_L_goes_235 : decode m_L_goes.2.1 235 = .ok (.aload_n 0, 1) := by decide +kernel
theorem d_L_goes_236 : decode m_L_goes.2.1 236 = .ok (.iload_n 3, 1) := by decide +kernel
theorem d_L_goes_237 : decode m_L_goes.2.1 237 = .ok (.iload_n 3, 1) := by decide +kernel
theorem d_L_goes_238 : decode m_L_goes.2.1 238 = .ok (.ifCond .ne 18, 3) := by decide +kernel
theorem d_L_goes_241 : decode m_L_goes.2.1 241 = .ok (.bipush 20, 2) := by decide +kernel
theorem d_L_goes_243 : decode m_L_goes.2.1 243 = .ok (.iload_n 1, 1) := by decide +kernel
theorem d_L_goes_244 : decode m_L_goes.2.1 244 = .ok (.iconst 5, 1) := by decide +kernel
theorem d_L_goes_245 : decode m_L_goes.2.1 245 = .ok (.ishr, 1) := by decide +kernel
theorem d_L_goes_246 : decode m_L_goes.2.1 246 = .ok (.sipush 200, 3) := by decide +kernel
theorem d_L_goes_249 : decode m_L_goes.2.1 249 = .ok (.invokestatic 89, 3) := by decide +kernel
theorem d_L_goes_252 : decode m_L_goes.2.1 252 = .ok (.iadd, 1) := by decide +kernel
theorem d_L_goes_253 : decode m_L_goes.2.1 253 = .ok (.goto 19, 3) := by decide +kernel
theorem d_L_goes_256 : decode m_L_goes.2.1 256 = .ok (.iload_n 1, 1) := by decide +kernel
theorem d_L_goes_257 : decode m_L_goes.2.1 257 = .ok (.iconst 5, 1) := by decide +kernel
theorem d_L_goes_258 : decode m_L_goes.2.1 258 = .ok (.ishr, 1) := by decide +kernel
theorem d_L_goes_259 : decode m_L_goes.2.1 259 = .ok (.iload_n 3, 1) := by decide +kernel
theorem d_L_goes_260 : decode m_L_goes.2.1 260 = .ok (.iconst 1, 1) := by decide +kernel
theorem d_L_goes_261 : decode m_L_goes.2.1 261 = .ok (.if_icmp .ne 7, 3) := by decide +kernel
theorem d_L_goes_264 : decode m_L_goes.2.1 264 = .ok (.iconst 5, 1) := by decide +kernel
theorem d_L_goes_265 : decode m_L_goes.2.1 265 = .ok (.goto 4, 3) := by decide +kernel
theorem d_L_goes_268 : decode m_L_goes.2.1 268 = .ok (.iconst 4, 1) := by decide +kernel
theorem d_L_goes_269 : decode m_L_goes.2.1 269 = .ok (.invokestatic 89, 3) := by decide +kernel
theorem d_L_goes_272 : decode m_L_goes.2.1 272 = .ok (.invokevirtual 112, 3) := by decide +kernel
theorem d_L_goes_275 : decode m_L_goes.2.1 275 = .ok (.ireturn, 1) := by decide +kernel
theorem d_L_goes_276 : decode m_L_goes.2.1 276 = .ok (.aload_n 0, 1) := by decide +kernel
theorem d_L_goes_277 : decode m_L_goes.2.1 277 = .ok (.iload_n 2, 1) := by decide +kernel
theorem d_L_goes_278 : decode m_L_goes.2.1 278 = .ok (.bipush 9, 2) := by decide +kernel
theorem d_L_goes_280 : decode m_L_goes.2.1 280 = .ok (.invokestatic 89, 3) := by decide +kernel
theorem d_L_goes_283 : decode m_L_goes.2.1 283 = .ok (.ifCond .ne 15, 3) := by decide +kernel
theorem d_L_goes_286 : decode m_L_goes.2.1 286 = .ok (.iload_n 1, 1) := by decide +kernel
theorem d_L_goes_287 : decode m_L_goes.2.1 287 = .ok (.iconst 4, 1) := by decide +kernel
theorem d_L_goes_288 : decode m_L_goes.2.1 288 = .ok (.ishr, 1) := by decide +kernel
theorem d_L_goes_289 : decode m_L_goes.2.1 289 = .ok (.sipush 2001, 3) := by decide +kernel
theorem d_L_goes_292 : decode m_L_goes.2.1 292 = .ok (.invokestatic 89, 3) := by decide +kernel
theorem d_L_goes_295 : decode m_L_goes.2.1 295 = .ok (.goto 14, 3) := by decide +kernel
theorem d_L_goes_298 : decode m_L_goes.2.1 298 = .ok (.iconst 1, 1) := by decide +kernel
theorem d_L_goes_299 : decode m_L_goes.2.1 299 = .ok (.iload_n 1, 1) := by decide +kernel
theorem d_L_goes_300 : decode m_L_goes.2.1 300 = .ok (.iconst 4, 1) := by decide +kernel
theorem d_L_goes_301 : decode m_L_goes.2.1 301 = .ok (.ishr, 1) := by decide +kernel
theorem d_L_goes_302 : decode m_L_goes.2.1 302 = .ok (.sipush 300, 3) := by decide +kernel
theorem d_L_goes_305 : decode m_L_goes.2.1 305 = .ok (.invokestatic 9, 3) := by decide +kernel
theorem d_L_goes_308 : decode m_L_goes.2.1 308 = .ok (.iadd, 1) := by decide +kernel
theorem d_L_goes_309 : decode m_L_goes.2.1 309 = .ok (.invokevirtual 115, 3) := by decide +kernel
theorem d_L_goes_312 : decode m_L_goes.2.1 312 = .ok (.ireturn, 1) := by decide +kernel
theorem d_L_goes_313 : decode m_L_goes.2.1 313 = .ok (.iload_n 2, 1) := by decide +kernel
theorem d_L_goes_314 : decode m_L_goes.2.1 314 = .ok (.iconst 2, 1) := by decide +kernel
theorem d_L_goes_315 : decode m_L_goes.2.1 315 = .ok (.invokestatic 9, 3) := by decide +kernel
theorem d_L_goes_318 : decode m_L_goes.2.1 318 = .ok (.ifCond .ne 17, 3) := by decide +kernel
theorem d_L_goes_321 : decode m_L_goes.2.1 321 = .ok (.aload_n 0, 1) := by decide +kernel
theorem d_L_goes_322 : decode m_L_goes.2.1 322 = .ok (.iload_n 1, 1) := by decide +kernel
theorem d_L_goes_323 : decode m_L_goes.2.1 323 = .ok (.iconst 5, 1) := by decide +kernel
theorem d_L_goes_324 : decode m_L_goes.2.1 324 = .ok (.ishr, 1) := by decide +kernel
theorem d_L_goes_325 : decode m_L_goes.2.1 325 = .ok (.iconst 2, 1) := by decide +kernel
theorem d_L_goes_326 : decode m_L_goes.2.1 326 = .ok (.invokestatic 89, 3) := by decide +kernel
theorem d_L_goes_329 : decode m_L_goes.2.1 329 = .ok (.invokevirtual 118, 3) := by decide +kernel
theorem d_L_goes_332 : decode m_L_goes.2.1 332 = .ok (.goto 14, 3) := by decide +kernel
theorem d_L_goes_335 : decode m_L_goes.2.1 335 = .ok (.aload_n 0, 1) := by decide +kernel
theorem d_L_goes_336 : decode m_L_goes.2.1 336 = .ok (.iload_n 1, 1) := by decide +kernel
theorem d_L_goes_337 : decode m_L_goes.2.1 337 = .ok (.iconst 5, 1) := by decide +kernel
theorem d_L_goes_338 : decode m_L_goes.2.1 338 = .ok (.ishr, 1) := by decide +kernel
theorem d_L_goes_339 : decode m_L_goes.2.1 339 = .ok (.iconst 2, 1) := by decide +kernel
theorem d_L_goes_340 : decode m_L_goes.2.1 340 = .ok (.invokestatic 89, 3) := by decide +kernel
theorem d_L_goes_343 : decode m_L_goes.2.1 343 = .ok (.invokevirtual 121, 3) := by decide +kernel
theorem d_L_goes_346 : decode m_L_goes.2.1 346 = .ok (.ireturn, 1) := by decide +kernel
theorem d_L_law_0 : decode m_L_law.2.1 0 = .ok (.new 22, 3) := by decide +kernel
theorem d_L_law_3 : decode m_L_law.2.1 3 = .ok (.dup, 1) := by decide +kernel
theorem d_L_law_4 : decode m_L_law.2.1 4 = .ok (.invokespecial 124, 3) := by decide +kernel
theorem d_L_law_7 : decode m_L_law.2.1 7 = .ok (.astore_n 1, 1) := by decide +kernel
theorem d_L_law_8 : decode m_L_law.2.1 8 = .ok (.aload_n 1, 1) := by decide +kernel
theorem d_L_law_9 : decode m_L_law.2.1 9 = .ok (.iconst 0, 1) := by decide +kernel
theorem d_L_law_10 : decode m_L_law.2.1 10 = .ok (.invokestatic 125, 3) := by decide +kernel
theorem d_L_law_13 : decode m_L_law.2.1 13 = .ok (.istore_n 2, 1) := by decide +kernel
theorem d_L_law_14 : decode m_L_law.2.1 14 = .ok (.iconst 0, 1) := by decide +kernel
theorem d_L_law_15 : decode m_L_law.2.1 15 = .ok (.istore_n 3, 1) := by decide +kernel
theorem d_L_law_16 : decode m_L_law.2.1 16 = .ok (.iload_n 3, 1) := by decide +kernel
theorem d_L_law_17 : decode m_L_law.2.1 17 = .ok (.bipush 16, 2) := by decide +kernel
theorem d_L_law_19 : decode m_L_law.2.1 19 = .ok (.if_icmp .ge 191, 3) := by decide +kernel
theorem d_L_law_22 : decode m_L_law.2.1 22 = .ok (.iload_n 2, 1) := by decide +kernel
theorem d_L_law_23 : decode m_L_law.2.1 23 = .ok (.ifCond .eq 187, 3) := by decide +kernel
theorem d_L_law_26 : decode m_L_law.2.1 26 = .ok (.aload_n 0, 1) := by decide +kernel
theorem d_L_law_27 : decode m_L_law.2.1 27 = .ok (.iconst 2, 1) := by decide +kernel
theorem d_L_law_28 : decode m_L_law.2.1 28 = .ok (.iload_n 3, 1) := by decide +kernel
theorem d_L_law_29 : decode m_L_law.2.1 29 = .ok (.imul, 1) := by decide +kernel
theorem d_L_law_30 : decode m_L_law.2.1 30 = .ok (.invokestatic 128, 3) := by decide +kernel
theorem d_L_law_33 : decode m_L_law.2.1 33 = .ok (.istore 4, 2) := by decide +kernel
theorem d_L_law_35 : decode m_L_law.2.1 35 = .ok (.aload_n 0, 1) := by decide +kernel
theorem d_L_law_36 : decode m_L_law.2.1 36 = .ok (.iconst 2, 1) := by decide +kernel
theorem d_L_law_37 : decode m_L_law.2.1 37 = .ok (.iload_n 3, 1) := by decide +kernel
theorem d_L_law_38 : decode m_L_law.2.1 38 = .ok (.imul, 1) := by decide +kernel
theorem d_L_law_39 : decode m_L_law.2.1 39 = .ok (.iconst 1, 1) := by decide +kernel
theorem d_L_law_40 : decode m_L_law.2.1 40 = .ok (.iadd, 1) := by decide +kernel
theorem d_L_law_41 : decode m_L_law.2.1 41 = .ok (.invokestatic 128, 3) := by decide +kernel
theorem d_L_law_44 : decode m_L_law.2.1 44 = .ok (.istore 5, 2) := by decide +kernel
theorem d_L_law_46 : decode m_L_law.2.1 46 = .ok (.aload_n 1, 1) := by decide +kernel
theorem d_L_law_47 : decode m_L_law.2.1 47 = .ok (.invokestatic 60, 3) := by decide +kernel
theorem d_L_law_50 : decode m_L_law.2.1 50 = .ok (.lstore 6, 2) := by decide +kernel
theorem d_L_law_52 : decode m_L_law.2.1 52 = .ok (.aload_n 1, 1) := by decide +kernel
theorem d_L_law_53 : decode m_L_law.2.1 53 = .ok (.bipush 7, 2) := by decide +kernel
theorem d_L_law_55 : decode m_L_law.2.1 55 = .ok (.invokevirtual 21, 3) := by decide +kernel
theorem d_L_law_58 : decode m_L_law.2.1 58 = .ok (.istore 8, 2) := by decide +kernel
theorem d_L_law_60 : decode m_L_law.2.1 60 = .ok (.iload 4, 2) := by decide +kernel
theorem d_L_law_62 : decode m_L_law.2.1 62 = .ok (.bipush 12, 2) := by decide +kernel
theorem d_L_law_64 : decode m_L_law.2.1 64 = .ok (.invokestatic 9, 3) := by decide +kernel
theorem d_L_law_67 : decode m_L_law.2.1 67 = .ok (.istore 9, 2) := by decide +kernel
theorem d_L_law_69 : decode m_L_law.2.1 69 = .ok (.aload_n 1, 1) := by decide +kernel
theorem d_L_law_70 : decode m_L_law.2.1 70 = .ok (.iload 4, 2) := by decide +kernel
theorem d_L_law_72 : decode m_L_law.2.1 72 = .ok (.iload 5, 2) := by decide +kernel
theorem d_L_law_74 : decode m_L_law.2.1 74 = .ok (.invokestatic 132, 3) := by decide +kernel
theorem d_L_law_77 : decode m_L_law.2.1 77 = .ok (.istore 10, 2) := by decide +kernel
theorem d_L_law_79 : decode m_L_law.2.1 79 = .ok (.iload 10, 2) := by decide +kernel
theorem d_L_law_81 : decode m_L_law.2.1 81 = .ok (.invokestatic 135, 3) := by decide +kernel
theorem d_L_law_84 : decode m_L_law.2.1 84 = .ok (.ifCond .eq 13, 3) := by decide +kernel
theorem d_L_law_87 : decode m_L_law.2.1 87 = .ok (.aload_n 1, 1) := by decide +kernel
theorem d_L_law_88 : decode m_L_law.2.1 88 = .ok (.invokestatic 60, 3) := by decide +kernel
theorem d_L_law_91 : decode m_L_law.2.1 91 = .ok (.lload 6, 2) := by decide +kernel
theorem d_L_law_93 : decode m_L_law.2.1 93 = .ok (.lcmp, 1) := by decide +kernel
theorem d_L_law_94 : decode m_L_law.2.1 94 = .ok (.ifCond .ne 7, 3) := by decide +kernel
theorem d_L_law_97 : decode m_L_law.2.1 97 = .ok (.iconst 1, 1) := by decide +kernel
theorem d_L_law_98 : decode m_L_law.2.1 98 = .ok (.goto 4, 3) := by decide +kernel
theorem d_L_law_101 : decode m_L_law.2.1 101 = .ok (.iconst 0, 1) := by decide +kernel
theorem d_L_law_102 : decode m_L_law.2.1 102 = .ok (.istore_n 2, 1) := by decide +kernel
theorem d_L_law_103 : decode m_L_law.2.1 103 = .ok (.iload_n 2, 1) := by decide +kernel
theorem d_L_law_104 : decode m_L_law.2.1 104 = .ok (.ifCond .eq 78, 3) := by decide +kernel
theorem d_L_law_107 : decode m_L_law.2.1 107 = .ok (.iload 10, 2) := by decide +kernel
theorem d_L_law_109 : decode m_L_law.2.1 109 = .ok (.invokestatic 135, 3) := by decide +kernel
theorem d_L_law_112 : decode m_L_law.2.1 112 = .ok (.ifCond .ne 70, 3) := by decide +kernel
theorem d_L_law_115 : decode m_L_law.2.1 115 = .ok (.iload 9, 2) := by decide +kernel
theorem d_L_law_117 : decode m_L_law.2.1 117 = .ok (.bipush 6, 2) := by decide +kernel
theorem d_L_law_119 : decode m_L_law.2.1 119 = .ok (.if_icmp .eq 63, 3) := by decide +kernel
theorem d_L_law_122 : decode m_L_law.2.1 122 = .ok (.iload 9, 2) := by decide +kernel
theorem d_L_law_124 : decode m_L_law.2.1 124 = .ok (.bipush 11, 2) := by decide +kernel
theorem d_L_law_126 : decode m_L_law.2.1 126 = .ok (.if_icmp .eq 56, 3) := by decide +kernel
theorem d_L_law_129 : decode m_L_law.2.1 129 = .ok (.iload 8, 2) := by decide +kernel
theorem d_L_law_131 : decode m_L_law.2.1 131 = .ok (.iconst 4, 1) := by decide +kernel
theorem d_L_law_132 : decode m_L_law.2.1 132 = .ok (.if_icmp .ge 50, 3) := by decide +kernel
theorem d_L_law_135 : decode m_L_law.2.1 135 = .ok (.aload_n 1, 1) := by decide +kernel
theorem d_L_law_136 : decode m_L_law.2.1 136 = .ok (.bipush 7, 2) := by decide +kernel
theorem d_L_law_138 : decode m_L_law.2.1 138 = .ok (.invokevirtual 21, 3) := by decide +kernel
theorem d_L_law_141 : decode m_L_law.2.1 141 = .ok (.iload 8, 2) := by decide +kernel
theorem d_L_law_143 : decode m_L_law.2.1 143 = .ok (.iconst 1, 1) := by decide +kernel
theorem d_L_law_144 : decode m_L_law.2.1 144 = .ok (.iadd, 1) := by decide +kernel
theorem d_L_law_145 : decode m_L_law.2.1 145 = .ok (.if_icmp .ne 26, 3) := by decide +kernel
theorem d_L_law_148 : decode m_L_law.2.1 148 = .ok (.aload_n 1, 1) := by decide +kernel
theorem d_L_law_149 : decode m_L_law.2.1 149 = .ok (.invokevirtual 109, 3) := by decide +kernel
theorem d_L_law_152 : decode m_L_law.2.1 152 = .ok (.iload 8, 2) := by decide +kernel
theorem d_L_law_154 : decode m_L_law.2.1 154 = .ok (.if_icmp .ne 17, 3) := by decide +kernel
theorem d_L_law_157 : decode m_L_law.2.1 157 = .ok (.aload_n 1, 1) := by decide +kernel
theorem d_L_law_158 : decode m_L_law.2.1 158 = .ok (.invokestatic 60, 3) := by decide +kernel
theorem d_L_law_161 : decode m_L_law.2.1 161 = .ok (.lload 6, 2) := by decide +kernel
theorem d_L_law_163 : decode m_L_law.2.1 163 = .ok (.lcmp, 1) := by decide +kernel
theorem d_L_law_164 : decode m_L_law.2.1 164 = .ok (.ifCond .ne 7, 3) := by decide +kernel
theorem d_L_law_167 : decode m_L_law.2.1 167 = .ok (.iconst 1, 1) := by decide +kernel
theorem d_L_law_168 : decode m_L_law.2.1 168 = .ok (.goto 4, 3) := by decide +kernel
theorem d_L_law_171 : decode m_L_law.2.1 171 = .ok (.iconst 0, 1) := by decide +kernel
theorem d_L_law_172 : decode m_L_law.2.1 172 = .ok (.istore_n 2, 1) := by decide +kernel
theorem d_L_law_173 : decode m_L_law.2.1 173 = .ok (.aload_n 1, 1) := by decide +kernel
theorem d_L_law_174 : decode m_L_law.2.1 174 = .ok (.iload 4, 2) := by decide +kernel
theorem d_L_law_176 : decode m_L_law.2.1 176 = .ok (.iload 5, 2) := by decide +kernel
theorem d_L_law_178 : decode m_L_law.2.1 178 = .ok (.invokestatic 132, 3) := by decide +kernel
theorem d_L_law_181 : decode m_L_law.2.1 181 = .ok (.pop, 1) := by decide +kernel
theorem d_L_law_182 : decode m_L_law.2.1 182 = .ok (.iload_n 2, 1) := by decide +kernel
theorem d_L_law_183 : decode m_L_law.2.1 183 = .ok (.ifCond .eq 19, 3) := by decide +kernel
theorem d_L_law_186 : decode m_L_law.2.1 186 = .ok (.aload_n 1, 1) := by decide +kernel
theorem d_L_law_187 : decode m_L_law.2.1 187 = .ok (.iload 4, 2) := by decide +kernel
theorem d_L_law_189 : decode m_L_law.2.1 189 = .ok (.iload 5, 2) := by decide +kernel
theorem d_L_law_191 : decode m_L_law.2.1 191 = .ok (.ixor, 1) := by decide +kernel
theorem d_L_law_192 : decode m_L_law.2.1 192 = .ok (.invokestatic 125, 3) := by decide +kernel
theorem d_L_law_195 : decode m_L_law.2.1 195 = .ok (.ifCond .eq 7, 3) := by decide +kernel
theorem d_L_law_198 : decode m_L_law.2.1 198 = .ok (.iconst 1, 1) := by decide +kernel
theorem d_L_law_199 : decode m_L_law.2.1 199 = .ok (.goto 4, 3) := by decide +kernel
theorem d_L_law_202 : decode m_L_law.2.1 202 = .ok (.iconst 0, 1) := by decide +kernel
theorem d_L_law_203 : decode m_L_law.2.1 203 = .ok (.istore_n 2, 1) := by decide +kernel
theorem d_L_law_204 : decode m_L_law.2.1 204 = .ok (.iinc 3 1, 3) := by decide +kernel
theorem d_L_law_207 : decode m_L_law.2.1 207 = .ok (.goto (-191), 3) := by decide +kernel
theorem d_L_law_210 : decode m_L_law.2.1 210 = .ok (.iload_n 2, 1) := by decide +kernel
theorem d_L_law_211 : decode m_L_law.2.1 211 = .ok (.ireturn, 1) := by decide +kernel
