set_option maxRecDepth 20000
theorem d_X0_init_0 : decode m_X0_init.2.1 0 = .ok (.aload_n 0, 1) := by decide +kernel
theorem d_X0_init_1 : decode m_X0_init.2.1 1 = .ok (.invokespecial 3, 3) := by decide +kernel
theorem d_X0_init_4 : decode m_X0_init.2.1 4 = .ok (.aload_n 0, 1) := by decide +kernel
theorem d_X0_init_5 : decode m_X0_init.2.1 5 = .ok (.bipush 40, 2) := by decide +kernel
theorem d_X0_init_7 : decode m_X0_init.2.1 7 = .ok (.newarray .int, 2) := by decide +kernel
theorem d_X0_init_9 : decode m_X0_init.2.1 9 = .ok (.putfield 9, 3) := by decide +kernel
theorem d_X0_init_12 : decode m_X0_init.2.1 12 = .ok (.aload_n 0, 1) := by decide +kernel
theorem d_X0_init_13 : decode m_X0_init.2.1 13 = .ok (.bipush 40, 2) := by decide +kernel
theorem d_X0_init_15 : decode m_X0_init.2.1 15 = .ok (.newarray .int, 2) := by decide +kernel
theorem d_X0_init_17 : decode m_X0_init.2.1 17 = .ok (.putfield 15, 3) := by decide +kernel
theorem d_X0_init_20 : decode m_X0_init.2.1 20 = .ok (.aload_n 0, 1) := by decide +kernel
theorem d_X0_init_21 : decode m_X0_init.2.1 21 = .ok (.bipush 40, 2) := by decide +kernel
theorem d_X0_init_23 : decode m_X0_init.2.1 23 = .ok (.newarray .int, 2) := by decide +kernel
theorem d_X0_init_25 : decode m_X0_init.2.1 25 = .ok (.putfield 18, 3) := by decide +kernel
theorem d_X0_init_28 : decode m_X0_init.2.1 28 = .ok (.aload_n 0, 1) := by decide +kernel
theorem d_X0_init_29 : decode m_X0_init.2.1 29 = .ok (.iconst 1, 1) := by decide +kernel
theorem d_X0_init_30 : decode m_X0_init.2.1 30 = .ok (.putfield 21, 3) := by decide +kernel
theorem d_X0_init_33 : decode m_X0_init.2.1 33 = .ok (.return_, 1) := by decide +kernel
theorem d_X0_find_0 : decode m_X0_find.2.1 0 = .ok (.aload_n 0, 1) := by decide +kernel
theorem d_X0_find_1 : decode m_X0_find.2.1 1 = .ok (.iconst 1, 1) := by decide +kernel
theorem d_X0_find_2 : decode m_X0_find.2.1 2 = .ok (.putfield 21, 3) := by decide +kernel
theorem d_X0_find_5 : decode m_X0_find.2.1 5 = .ok (.iconst 0, 1) := by decide +kernel
theorem d_X0_find_6 : decode m_X0_find.2.1 6 = .ok (.istore 4, 2) := by decide +kernel
theorem d_X0_find_8 : decode m_X0_find.2.1 8 = .ok (.iload 4, 2) := by decide +kernel
theorem d_X0_find_10 : decode m_X0_find.2.1 10 = .ok (.iload_n 3, 1) := by decide +kernel
theorem d_X0_find_11 : decode m_X0_find.2.1 11 = .ok (.if_icmp .ge 17, 3) := by decide +kernel
theorem d_X0_find_14 : decode m_X0_find.2.1 14 = .ok (.aload_n 0, 1) := by decide +kernel
theorem d_X0_find_15 : decode m_X0_find.2.1 15 = .ok (.aload_n 1, 1) := by decide +kernel
theorem d_X0_find_16 : decode m_X0_find.2.1 16 = .ok (.iload_n 2, 1) := by decide +kernel
theorem d_X0_find_17 : decode m_X0_find.2.1 17 = .ok (.iload 4, 2) := by decide +kernel
theorem d_X0_find_19 : decode m_X0_find.2.1 19 = .ok (.invokevirtual 25, 3) := by decide +kernel
theorem d_X0_find_22 : decode m_X0_find.2.1 22 = .ok (.iinc 4 1, 3) := by decide +kernel
theorem d_X0_find_25 : decode m_X0_find.2.1 25 = .ok (.goto (-17), 3) := by decide +kernel
theorem d_X0_find_28 : decode m_X0_find.2.1 28 = .ok (.return_, 1) := by decide +kernel
theorem d_X0_addNext_0 : decode m_X0_addNext.2.1 0 = .ok (.aload_n 1, 1) := by decide +kernel
theorem d_X0_addNext_1 : decode m_X0_addNext.2.1 1 = .ok (.ifnonnull 4, 3) := by decide +kernel
theorem d_X0_addNext_4 : decode m_X0_addNext.2.1 4 = .ok (.return_, 1) := by decide +kernel
theorem d_X0_addNext_5 : decode m_X0_addNext.2.1 5 = .ok (.iconst 0, 1) := by decide +kernel
theorem d_X0_addNext_6 : decode m_X0_addNext.2.1 6 = .ok (.istore 4, 2) := by decide +kernel
theorem d_X0_addNext_8 : decode m_X0_addNext.2.1 8 = .ok (.iload 4, 2) := by decide +kernel
theorem d_X0_addNext_10 : decode m_X0_addNext.2.1 10 = .ok (.bipush 40, 2) := by decide +kernel
theorem d_X0_addNext_12 : decode m_X0_addNext.2.1 12 = .ok (.if_icmp .ge 79, 3) := by decide +kernel
theorem d_X0_addNext_15 : decode m_X0_addNext.2.1 15 = .ok (.iload 4, 2) := by decide +kernel
theorem d_X0_addNext_17 : decode m_X0_addNext.2.1 17 = .ok (.aload_n 0, 1) := by decide +kernel
theorem d_X0_addNext_18 : decode m_X0_addNext.2.1 18 = .ok (.getfield 21, 3) := by decide +kernel
theorem d_X0_addNext_21 : decode m_X0_addNext.2.1 21 = .ok (.if_icmp .ge 70, 3) := by decide +kernel
theorem d_X0_addNext_24 : decode m_X0_addNext.2.1 24 = .ok (.iconst 0, 1) := by decide +kernel
theorem d_X0_addNext_25 : decode m_X0_addNext.2.1 25 = .ok (.istore 5, 2) := by decide +kernel
theorem d_X0_addNext_27 : decode m_X0_addNext.2.1 27 = .ok (.iload 5, 2) := by decide +kernel
theorem d_X0_addNext_29 : decode m_X0_addNext.2.1 29 = .ok (.iconst 3, 1) := by decide +kernel
theorem d_X0_addNext_30 : decode m_X0_addNext.2.1 30 = .ok (.if_icmp .ge 55, 3) := by decide +kernel
theorem d_X0_addNext_33 : decode m_X0_addNext.2.1 33 = .ok (.aload_n 0, 1) := by decide +kernel
theorem d_X0_addNext_34 : decode m_X0_addNext.2.1 34 = .ok (.getfield 15, 3) := by decide +kernel
theorem d_X0_addNext_37 : decode m_X0_addNext.2.1 37 = .ok (.iload 4, 2) := by decide +kernel
theorem d_X0_addNext_39 : decode m_X0_addNext.2.1 39 = .ok (.invokestatic 29, 3) := by decide +kernel
theorem d_X0_addNext_42 : decode m_X0_addNext.2.1 42 = .ok (.iload_n 3, 1) := by decide +kernel
theorem d_X0_addNext_43 : decode m_X0_addNext.2.1 43 = .ok (.if_icmp .ne 36, 3) := by decide +kernel
theorem d_X0_addNext_46 : decode m_X0_addNext.2.1 46 = .ok (.iload_n 2, 1) := by decide +kernel
theorem d_X0_addNext_47 : decode m_X0_addNext.2.1 47 = .ok (.iload 5, 2) := by decide +kernel
theorem d_X0_addNext_49 : decode m_X0_addNext.2.1 49 = .ok (.invokestatic 33, 3) := by decide +kernel
theorem d_X0_addNext_52 : decode m_X0_addNext.2.1 52 = .ok (.ifCond .eq 27, 3) := by decide +kernel
theorem d_X0_addNext_55 : decode m_X0_addNext.2.1 55 = .ok (.aload_n 0, 1) := by decide +kernel
theorem d_X0_addNext_56 : decode m_X0_addNext.2.1 56 = .ok (.aload_n 1, 1) := by decide +kernel
theorem d_X0_addNext_57 : decode m_X0_addNext.2.1 57 = .ok (.iload 5, 2) := by decide +kernel
theorem d_X0_addNext_59 : decode m_X0_addNext.2.1 59 = .ok (.aload_n 0, 1) := by decide +kernel
theorem d_X0_addNext_60 : decode m_X0_addNext.2.1 60 = .ok (.getfield 9, 3) := by decide +kernel
theorem d_X0_addNext_63 : decode m_X0_addNext.2.1 63 = .ok (.iload 4, 2) := by decide +kernel
theorem d_X0_addNext_65 : decode m_X0_addNext.2.1 65 = .ok (.invokestatic 29, 3) := by decide +kernel
theorem d_X0_addNext_68 : decode m_X0_addNext.2.1 68 = .ok (.invokevirtual 37, 3) := by decide +kernel
theorem d_X0_addNext_71 : decode m_X0_addNext.2.1 71 = .ok (.iload_n 3, 1) := by decide +kernel
theorem d_X0_addNext_72 : decode m_X0_addNext.2.1 72 = .ok (.iconst 1, 1) := by decide +kernel
theorem d_X0_addNext_73 : decode m_X0_addNext.2.1 73 = .ok (.iadd, 1) := by decide +kernel
theorem d_X0_addNext_74 : decode m_X0_addNext.2.1 74 = .ok (.iload 5, 2) := by decide +kernel
theorem d_X0_addNext_76 : decode m_X0_addNext.2.1 76 = .ok (.invokevirtual 43, 3) := by decide +kernel
theorem d_X0_addNext_79 : decode m_X0_addNext.2.1 79 = .ok (.iinc 5 1, 3) := by decide +kernel
theorem d_X0_addNext_82 : decode m_X0_addNext.2.1 82 = .ok (.goto (-55), 3) := by decide +kernel
theorem d_X0_addNext_85 : decode m_X0_addNext.2.1 85 = .ok (.iinc 4 1, 3) := by decide +kernel
theorem d_X0_addNext_88 : decode m_X0_addNext.2.1 88 = .ok (.goto (-80), 3) := by decide +kernel
theorem d_X0_addNext_91 : decode m_X0_addNext.2.1 91 = .ok (.return_, 1) := by decide +kernel
theorem d_X0_add_0 : decode m_X0_add.2.1 0 = .ok (.iload_n 1, 1) := by decide +kernel
theorem d_X0_add_1 : decode m_X0_add.2.1 1 = .ok (.ifCond .gt 4, 3) := by decide +kernel
theorem d_X0_add_4 : decode m_X0_add.2.1 4 = .ok (.return_, 1) := by decide +kernel
theorem d_X0_add_5 : decode m_X0_add.2.1 5 = .ok (.aload_n 0, 1) := by decide +kernel
theorem d_X0_add_6 : decode m_X0_add.2.1 6 = .ok (.iload_n 1, 1) := by decide +kernel
theorem d_X0_add_7 : decode m_X0_add.2.1 7 = .ok (.invokevirtual 47, 3) := by decide +kernel
theorem d_X0_add_10 : decode m_X0_add.2.1 10 = .ok (.istore 4, 2) := by decide +kernel
theorem d_X0_add_12 : decode m_X0_add.2.1 12 = .ok (.iload 4, 2) := by decide +kernel
theorem d_X0_add_14 : decode m_X0_add.2.1 14 = .ok (.aload_n 0, 1) := by decide +kernel
theorem d_X0_add_15 : decode m_X0_add.2.1 15 = .ok (.getfield 21, 3) := by decide +kernel
theorem d_X0_add_18 : decode m_X0_add.2.1 18 = .ok (.if_icmp .ge 52, 3) := by decide +kernel
theorem d_X0_add_21 : decode m_X0_add.2.1 21 = .ok (.aload_n 0, 1) := by decide +kernel
theorem d_X0_add_22 : decode m_X0_add.2.1 22 = .ok (.getfield 9, 3) := by decide +kernel
theorem d_X0_add_25 : decode m_X0_add.2.1 25 = .ok (.iload 4, 2) := by decide +kernel
theorem d_X0_add_27 : decode m_X0_add.2.1 27 = .ok (.invokestatic 29, 3) := by decide +kernel
theorem d_X0_add_30 : decode m_X0_add.2.1 30 = .ok (.iload_n 1, 1) := by decide +kernel
theorem d_X0_add_31 : decode m_X0_add.2.1 31 = .ok (.if_icmp .ne 39, 3) := by decide +kernel
theorem d_X0_add_34 : decode m_X0_add.2.1 34 = .ok (.aload_n 0, 1) := by decide +kernel
theorem d_X0_add_35 : decode m_X0_add.2.1 35 = .ok (.getfield 15, 3) := by decide +kernel
theorem d_X0_add_38 : decode m_X0_add.2.1 38 = .ok (.iload 4, 2) := by decide +kernel
theorem d_X0_add_40 : decode m_X0_add.2.1 40 = .ok (.invokestatic 29, 3) := by decide +kernel
theorem d_X0_add_43 : decode m_X0_add.2.1 43 = .ok (.iload_n 2, 1) := by decide +kernel
theorem d_X0_add_44 : decode m_X0_add.2.1 44 = .ok (.if_icmp .ne 25, 3) := by decide +kernel
theorem d_X0_add_47 : decode m_X0_add.2.1 47 = .ok (.aload_n 0, 1) := by decide +kernel
theorem d_X0_add_48 : decode m_X0_add.2.1 48 = .ok (.getfield 18, 3) := by decide +kernel
theorem d_X0_add_51 : decode m_X0_add.2.1 51 = .ok (.iload 4, 2) := by decide +kernel
theorem d_X0_add_53 : decode m_X0_add.2.1 53 = .ok (.iload_n 3, 1) := by decide +kernel
theorem d_X0_add_54 : decode m_X0_add.2.1 54 = .ok (.aload_n 0, 1) := by decide +kernel
theorem d_X0_add_55 : decode m_X0_add.2.1 55 = .ok (.getfield 18, 3) := by decide +kernel
theorem d_X0_add_58 : decode m_X0_add.2.1 58 = .ok (.iload 4, 2) := by decide +kernel
theorem d_X0_add_60 : decode m_X0_add.2.1 60 = .ok (.invokestatic 29, 3) := by decide +kernel
theorem d_X0_add_63 : decode m_X0_add.2.1 63 = .ok (.invokestatic 51, 3) := by decide +kernel
theorem d_X0_add_66 : decode m_X0_add.2.1 66 = .ok (.invokestatic 56, 3) := by decide +kernel
theorem d_X0_add_69 : decode m_X0_add.2.1 69 = .ok (.return_, 1) := by decide +kernel
theorem d_X0_add_70 : decode m_X0_add.2.1 70 = .ok (.aload_n 0, 1) := by decide +kernel
theorem d_X0_add_71 : decode m_X0_add.2.1 71 = .ok (.getfield 21, 3) := by decide +kernel
theorem d_X0_add_74 : decode m_X0_add.2.1 74 = .ok (.bipush 40, 2) := by decide +kernel
theorem d_X0_add_76 : decode m_X0_add.2.1 76 = .ok (.if_icmp .lt 4, 3) := by decide +kernel
theorem d_X0_add_79 : decode m_X0_add.2.1 79 = .ok (.return_, 1) := by decide +kernel
theorem d_X0_add_80 : decode m_X0_add.2.1 80 = .ok (.aload_n 0, 1) := by decide +kernel
theorem d_X0_add_81 : decode m_X0_add.2.1 81 = .ok (.getfield 9, 3) := by decide +kernel
theorem d_X0_add_84 : decode m_X0_add.2.1 84 = .ok (.iload 4, 2) := by decide +kernel
theorem d_X0_add_86 : decode m_X0_add.2.1 86 = .ok (.aload_n 0, 1) := by decide +kernel
theorem d_X0_add_87 : decode m_X0_add.2.1 87 = .ok (.getfield 21, 3) := by decide +kernel
theorem d_X0_add_90 : decode m_X0_add.2.1 90 = .ok (.invokestatic 60, 3) := by decide +kernel
theorem d_X0_add_93 : decode m_X0_add.2.1 93 = .ok (.aload_n 0, 1) := by decide +kernel
theorem d_X0_add_94 : decode m_X0_add.2.1 94 = .ok (.getfield 15, 3) := by decide +kernel
theorem d_X0_add_97 : decode m_X0_add.2.1 97 = .ok (.iload 4, 2) := by decide +kernel
theorem d_X0_add_99 : decode m_X0_add.2.1 99 = .ok (.aload_n 0, 1) := by decide +kernel
theorem d_X0_add_100 : decode m_X0_add.2.1 100 = .ok (.getfield 21, 3) := by decide +kernel
theorem d_X0_add_103 : decode m_X0_add.2.1 103 = .ok (.invokestatic 60, 3) := by decide +kernel
theorem d_X0_add_106 : decode m_X0_add.2.1 106 = .ok (.aload_n 0, 1) := by decide +kernel
theorem d_X0_add_107 : decode m_X0_add.2.1 107 = .ok (.getfield 18, 3) := by decide +kernel
theorem d_X0_add_110 : decode m_X0_add.2.1 110 = .ok (.iload 4, 2) := by decide +kernel
theorem d_X0_add_112 : decode m_X0_add.2.1 112 = .ok (.aload_n 0, 1) := by decide +kernel
theorem d_X0_add_113 : decode m_X0_add.2.1 113 = .ok (.getfield 21, 3) := by decide +kernel
theorem d_X0_add_116 : decode m_X0_add.2.1 116 = .ok (.invokestatic 60, 3) := by decide +kernel
theorem d_X0_add_119 : decode m_X0_add.2.1 119 = .ok (.aload_n 0, 1) := by decide +kernel
theorem d_X0_add_120 : decode m_X0_add.2.1 120 = .ok (.getfield 9, 3) := by decide +kernel
theorem d_X0_add_123 : decode m_X0_add.2.1 123 = .ok (.iload 4, 2) := by decide +kernel
theorem d_X0_add_125 : decode m_X0_add.2.1 125 = .ok (.iload_n 1, 1) := by decide +kernel
theorem d_X0_add_126 : decode m_X0_add.2.1 126 = .ok (.invokestatic 56, 3) := by decide +kernel
theorem d_X0_add_129 : decode m_X0_add.2.1 129 = .ok (.aload_n 0, 1) := by decide +kernel
theorem d_X0_add_130 : decode m_X0_add.2.1 130 = .ok (.getfield 15, 3) := by decide +kernel
theorem d_X0_add_133 : decode m_X0_add.2.1 133 = .ok (.iload 4, 2) := by decide +kernel
theorem d_X0_add_135 : decode m_X0_add.2.1 135 = .ok (.iload_n 2, 1) := by decide +kernel
theorem d_X0_add_136 : decode m_X0_add.2.1 136 = .ok (.invokestatic 56, 3) := by decide +kernel
theorem d_X0_add_139 : decode m_X0_add.2.1 139 = .ok (.aload_n 0, 1) := by decide +kernel
theorem d_X0_add_140 : decode m_X0_add.2.1 140 = .ok (.getfield 18, 3) := by decide +kernel
theorem d_X0_add_143 : decode m_X0_add.2.1 143 = .ok (.iload 4, 2) := by decide +kernel
theorem d_X0_add_145 : decode m_X0_add.2.1 145 = .ok (.iload_n 3, 1) := by decide +kernel
theorem d_X0_add_146 : decode m_X0_add.2.1 146 = .ok (.invokestatic 56, 3) := by decide +kernel
theorem d_X0_add_149 : decode m_X0_add.2.1 149 = .ok (.aload_n 0, 1) := by decide +kernel
theorem d_X0_add_150 : decode m_X0_add.2.1 150 = .ok (.dup, 1) := by decide +kernel
theorem d_X0_add_151 : decode m_X0_add.2.1 151 = .ok (.getfield 21, 3) := by decide +kernel
theorem d_X0_add_154 : decode m_X0_add.2.1 154 = .ok (.iconst 1, 1) := by decide +kernel
theorem d_X0_add_155 : decode m_X0_add.2.1 155 = .ok (.iadd, 1) := by decide +kernel
theorem d_X0_add_156 : decode m_X0_add.2.1 156 = .ok (.putfield 21, 3) := by decide +kernel
theorem d_X0_add_159 : decode m_X0_add.2.1 159 = .ok (.return_, 1) := by decide +kernel
theorem d_X0_next_0 : decode m_X0_next.2.1 0 = .ok (.aload_n 0, 1) := by decide +kernel
theorem d_X0_next_1 : decode m_X0_next.2.1 1 = .ok (.iload_n 1, 1) := by decide +kernel
theorem d_X0_next_2 : decode m_X0_next.2.1 2 = .ok (.iconst 1, 1) := by decide +kernel
theorem d_X0_next_3 : decode m_X0_next.2.1 3 = .ok (.iadd, 1) := by decide +kernel
theorem d_X0_next_4 : decode m_X0_next.2.1 4 = .ok (.invokevirtual 47, 3) := by decide +kernel
theorem d_X0_next_7 : decode m_X0_next.2.1 7 = .ok (.istore_n 2, 1) := by decide +kernel
theorem d_X0_next_8 : decode m_X0_next.2.1 8 = .ok (.iload_n 2, 1) := by decide +kernel
theorem d_X0_next_9 : decode m_X0_next.2.1 9 = .ok (.aload_n 0, 1) := by decide +kernel
theorem d_X0_next_10 : decode m_X0_next.2.1 10 = .ok (.getfield 21, 3) := by decide +kernel
theorem d_X0_next_13 : decode m_X0_next.2.1 13 = .ok (.if_icmp .ge 14, 3) := by decide +kernel
theorem d_X0_next_16 : decode m_X0_next.2.1 16 = .ok (.aload_n 0, 1) := by decide +kernel
theorem d_X0_next_17 : decode m_X0_next.2.1 17 = .ok (.getfield 9, 3) := by decide +kernel
theorem d_X0_next_20 : decode m_X0_next.2.1 20 = .ok (.iload_n 2, 1) := by decide +kernel
theorem d_X0_next_21 : decode m_X0_next.2.1 21 = .ok (.invokestatic 29, 3) := by decide +kernel
theorem d_X0_next_24 : decode m_X0_next.2.1 24 = .ok (.goto 6, 3) := by decide +kernel
theorem d_X0_next_27 : decode m_X0_next.2.1 27 = .ok (.sipush 8000, 3) := by decide +kernel
theorem d_X0_next_30 : decode m_X0_next.2.1 30 = .ok (.ireturn, 1) := by decide +kernel
theorem d_X0_pointsBefore_0 : decode m_X0_pointsBefore.2.1 0 = .ok (.iconst 0, 1) := by decide +kernel
theorem d_X0_pointsBefore_1 : decode m_X0_pointsBefore.2.1 1 = .ok (.istore_n 2, 1) := by decide +kernel
theorem d_X0_pointsBefore_2 : decode m_X0_pointsBefore.2.1 2 = .ok (.iload_n 2, 1) := by decide +kernel
theorem d_X0_pointsBefore_3 : decode m_X0_pointsBefore.2.1 3 = .ok (.bipush 40, 2) := by decide +kernel
theorem d_X0_pointsBefore_5 : decode m_X0_pointsBefore.2.1 5 = .ok (.if_icmp .ge 29, 3) := by decide +kernel
theorem d_X0_pointsBefore_8 : decode m_X0_pointsBefore.2.1 8 = .ok (.iload_n 2, 1) := by decide +kernel
theorem d_X0_pointsBefore_9 : decode m_X0_pointsBefore.2.1 9 = .ok (.aload_n 0, 1) := by decide +kernel
theorem d_X0_pointsBefore_10 : decode m_X0_pointsBefore.2.1 10 = .ok (.getfield 21, 3) := by decide +kernel
theorem d_X0_pointsBefore_13 : decode m_X0_pointsBefore.2.1 13 = .ok (.if_icmp .ge 21, 3) := by decide +kernel
theorem d_X0_pointsBefore_16 : decode m_X0_pointsBefore.2.1 16 = .ok (.aload_n 0, 1) := by decide +kernel
theorem d_X0_pointsBefore_17 : decode m_X0_pointsBefore.2.1 17 = .ok (.getfield 9, 3) := by decide +kernel
theorem d_X0_pointsBefore_20 : decode m_X0_pointsBefore.2.1 20 = .ok (.iload_n 2, 1) := by decide +kernel
theorem d_X0_pointsBefore_21 : decode m_X0_pointsBefore.2.1 21 = .ok (.invokestatic 29, 3) := by decide +kernel
theorem d_X0_pointsBefore_24 : decode m_X0_pointsBefore.2.1 24 = .ok (.iload_n 1, 1) := by decide +kernel
theorem d_X0_pointsBefore_25 : decode m_X0_pointsBefore.2.1 25 = .ok (.if_icmp .ge 9, 3) := by decide +kernel
theorem d_X0_pointsBefore_28 : decode m_X0_pointsBefore.2.1 28 = .ok (.iinc 2 1, 3) := by decide +kernel
theorem d_X0_pointsBefore_31 : decode m_X0_pointsBefore.2.1 31 = .ok (.goto (-29), 3) := by decide +kernel
theorem d_X0_pointsBefore_34 : decode m_X0_pointsBefore.2.1 34 = .ok (.iload_n 2, 1) := by decide +kernel
theorem d_X0_pointsBefore_35 : decode m_X0_pointsBefore.2.1 35 = .ok (.ireturn, 1) := by decide +kernel
theorem d_X0_copyFrom_0 : decode m_X0_copyFrom.2.1 0 = .ok (.aload_n 1, 1) := by decide +kernel
theorem d_X0_copyFrom_1 : decode m_X0_copyFrom.2.1 1 = .ok (.ifnonnull 4, 3) := by decide +kernel
theorem d_X0_copyFrom_4 : decode m_X0_copyFrom.2.1 4 = .ok (.return_, 1) := by decide +kernel
theorem d_X0_copyFrom_5 : decode m_X0_copyFrom.2.1 5 = .ok (.aload_n 0, 1) := by decide +kernel
theorem d_X0_copyFrom_6 : decode m_X0_copyFrom.2.1 6 = .ok (.aload_n 1, 1) := by decide +kernel
theorem d_X0_copyFrom_7 : decode m_X0_copyFrom.2.1 7 = .ok (.getfield 21, 3) := by decide +kernel
theorem d_X0_copyFrom_10 : decode m_X0_copyFrom.2.1 10 = .ok (.putfield 21, 3) := by decide +kernel
theorem d_X0_copyFrom_13 : decode m_X0_copyFrom.2.1 13 = .ok (.aload_n 1, 1) := by decide +kernel
theorem d_X0_copyFrom_14 : decode m_X0_copyFrom.2.1 14 = .ok (.getfield 9, 3) := by decide +kernel
theorem d_X0_copyFrom_17 : decode m_X0_copyFrom.2.1 17 = .ok (.aload_n 0, 1) := by decide +kernel
theorem d_X0_copyFrom_18 : decode m_X0_copyFrom.2.1 18 = .ok (.getfield 9, 3) := by decide +kernel
theorem d_X0_copyFrom_21 : decode m_X0_copyFrom.2.1 21 = .ok (.bipush 40, 2) := by decide +kernel
theorem d_X0_copyFrom_23 : decode m_X0_copyFrom.2.1 23 = .ok (.invokestatic 63, 3) := by decide +kernel
theorem d_X0_copyFrom_26 : decode m_X0_copyFrom.2.1 26 = .ok (.aload_n 1, 1) := by decide +kernel
theorem d_X0_copyFrom_27 : decode m_X0_copyFrom.2.1 27 = .ok (.getfield 15, 3) := by decide +kernel
theorem d_X0_copyFrom_30 : decode m_X0_copyFrom.2.1 30 = .ok (.aload_n 0, 1) := by decide +kernel
theorem d_X0_copyFrom_31 : decode m_X0_copyFrom.2.1 31 = .ok (.getfield 15, 3) := by decide +kernel
theorem d_X0_copyFrom_34 : decode m_X0_copyFrom.2.1 34 = .ok (.bipush 40, 2) := by decide +kernel
theorem d_X0_copyFrom_36 : decode m_X0_copyFrom.2.1 36 = .ok (.invokestatic 63, 3) := by decide +kernel
theorem d_X0_copyFrom_39 : decode m_X0_copyFrom.2.1 39 = .ok (.aload_n 1, 1) := by decide +kernel
theorem d_X0_copyFrom_40 : decode m_X0_copyFrom.2.1 40 = .ok (.getfield 18, 3) := by decide +kernel
theorem d_X0_copyFrom_43 : decode m_X0_copyFrom.2.1 43 = .ok (.aload_n 0, 1) := by decide +kernel
theorem d_X0_copyFrom_44 : decode m_X0_copyFrom.2.1 44 = .ok (.getfield 18, 3) := by decide +kernel
theorem d_X0_copyFrom_47 : decode m_X0_copyFrom.2.1 47 = .ok (.bipush 40, 2) := by decide +kernel
theorem d_X0_copyFrom_49 : decode m_X0_copyFrom.2.1 49 = .ok (.invokestatic 63, 3) := by decide +kernel
theorem d_X0_copyFrom_52 : decode m_X0_copyFrom.2.1 52 = .ok (.return_, 1) := by decide +kernel
theorem d_X1_init_0 : decode m_X1_init.2.1 0 = .ok (.aload_n 0, 1) := by decide +kernel
theorem d_X1_init_1 : decode m_X1_init.2.1 1 = .ok (.invokespecial 3, 3) := by decide +kernel
theorem d_X1_init_4 : decode m_X1_init.2.1 4 = .ok (.aload_n 0, 1) := by decide +kernel
theorem d_X1_init_5 : decode m_X1_init.2.1 5 = .ok (.iconst 3, 1) := by decide +kernel
theorem d_X1_init_6 : decode m_X1_init.2.1 6 = .ok (.newarray .int, 2) := by decide +kernel
theorem d_X1_init_8 : decode m_X1_init.2.1 8 = .ok (.putfield 9, 3) := by decide +kernel
theorem d_X1_init_11 : decode m_X1_init.2.1 11 = .ok (.aload_n 0, 1) := by decide +kernel
theorem d_X1_init_12 : decode m_X1_init.2.1 12 = .ok (.bipush 18, 2) := by decide +kernel
theorem d_X1_init_14 : decode m_X1_init.2.1 14 = .ok (.newarray .int, 2) := by decide +kernel
theorem d_X1_init_16 : decode m_X1_init.2.1 16 = .ok (.putfield 15, 3) := by decide +kernel
theorem d_X1_init_19 : decode m_X1_init.2.1 19 = .ok (.aload_n 0, 1) := by decide +kernel
theorem d_X1_init_20 : decode m_X1_init.2.1 20 = .ok (.bipush 18, 2) := by decide +kernel
theorem d_X1_init_22 : decode m_X1_init.2.1 22 = .ok (.newarray .int, 2) := by decide +kernel
theorem d_X1_init_24 : decode m_X1_init.2.1 24 = .ok (.putfield 18, 3) := by decide +kernel
theorem d_X1_init_27 : decode m_X1_init.2.1 27 = .ok (.return_, 1) := by decide +kernel
theorem d_X1_hasPointAt_0 : decode m_X1_hasPointAt.2.1 0 = .ok (.aload_n 0, 1) := by decide +kernel
theorem d_X1_hasPointAt_1 : decode m_X1_hasPointAt.2.1 1 = .ok (.iload_n 1, 1) := by decide +kernel
theorem d_X1_hasPointAt_2 : decode m_X1_hasPointAt.2.1 2 = .ok (.iload_n 2, 1) := by decide +kernel
theorem d_X1_hasPointAt_3 : decode m_X1_hasPointAt.2.1 3 = .ok (.invokevirtual 21, 3) := by decide +kernel
theorem d_X1_hasPointAt_6 : decode m_X1_hasPointAt.2.1 6 = .ok (.istore_n 3, 1) := by decide +kernel
theorem d_X1_hasPointAt_7 : decode m_X1_hasPointAt.2.1 7 = .ok (.iload_n 3, 1) := by decide +kernel
theorem d_X1_hasPointAt_8 : decode m_X1_hasPointAt.2.1 8 = .ok (.ifCond .le 26, 3) := by decide +kernel
theorem d_X1_hasPointAt_11 : decode m_X1_hasPointAt.2.1 11 = .ok (.aload_n 0, 1) := by decide +kernel
theorem d_X1_hasPointAt_12 : decode m_X1_hasPointAt.2.1 12 = .ok (.getfield 15, 3) := by decide +kernel
theorem d_X1_hasPointAt_15 : decode m_X1_hasPointAt.2.1 15 = .ok (.iload_n 1, 1) := by decide +kernel
theorem d_X1_hasPointAt_16 : decode m_X1_hasPointAt.2.1 16 = .ok (.bipush 6, 2) := by decide +kernel
theorem d_X1_hasPointAt_18 : decode m_X1_hasPointAt.2.1 18 = .ok (.imul, 1) := by decide +kernel
theorem d_X1_hasPointAt_19 : decode m_X1_hasPointAt.2.1 19 = .ok (.iload_n 3, 1) := by decide +kernel
theorem d_X1_hasPointAt_20 : decode m_X1_hasPointAt.2.1 20 = .ok (.iadd, 1) := by decide +kernel
theorem d_X1_hasPointAt_21 : decode m_X1_hasPointAt.2.1 21 = .ok (.iconst 1, 1) := by decide +kernel
theorem d_X1_hasPointAt_22 : decode m_X1_hasPointAt.2.1 22 = .ok (.isub, 1) := by decide +kernel
theorem d_X1_hasPointAt_23 : decode m_X1_hasPointAt.2.1 23 = .ok (.invokestatic 25, 3) := by decide +kernel
theorem d_X1_hasPointAt_26 : decode m_X1_hasPointAt.2.1 26 = .ok (.iload_n 2, 1) := by decide +kernel
theorem d_X1_hasPointAt_27 : decode m_X1_hasPointAt.2.1 27 = .ok (.if_icmp .ne 7, 3) := by decide +kernel
theorem d_X1_hasPointAt_30 : decode m_X1_hasPointAt.2.1 30 = .ok (.iconst 1, 1) := by decide +kernel
theorem d_X1_hasPointAt_31 : decode m_X1_hasPointAt.2.1 31 = .ok (.goto 4, 3) := by decide +kernel
theorem d_X1_hasPointAt_34 : decode m_X1_hasPointAt.2.1 34 = .ok (.iconst 0, 1) := by decide +kernel
theorem d_X1_hasPointAt_35 : decode m_X1_hasPointAt.2.1 35 = .ok (.ireturn, 1) := by decide +kernel
theorem d_X1_add_0 : decode m_X1_add.2.1 0 = .ok (.aload_n 0, 1) := by decide +kernel
theorem d_X1_add_1 : decode m_X1_add.2.1 1 = .ok (.getfield 9, 3) := by decide +kernel
theorem d_X1_add_4 : decode m_X1_add.2.1 4 = .ok (.iload_n 1, 1) := by decide +kernel
theorem d_X1_add_5 : decode m_X1_add.2.1 5 = .ok (.invokestatic 25, 3) := by decide +kernel
theorem d_X1_add_8 : decode m_X1_add.2.1 8 = .ok (.istore 4, 2) := by decide +kernel
theorem d_X1_add_10 : decode m_X1_add.2.1 10 = .ok (.iload 4, 2) := by decide +kernel
theorem d_X1_add_12 : decode m_X1_add.2.1 12 = .ok (.bipush 6, 2) := by decide +kernel
theorem d_X1_add_14 : decode m_X1_add.2.1 14 = .ok (.if_icmp .lt 4, 3) := by decide +kernel
theorem d_X1_add_17 : decode m_X1_add.2.1 17 = .ok (.return_, 1) := by decide +kernel
theorem d_X1_add_18 : decode m_X1_add.2.1 18 = .ok (.iload_n 1, 1) := by decide +kernel
theorem d_X1_add_19 : decode m_X1_add.2.1 19 = .ok (.bipush 6, 2) := by decide +kernel
theorem d_X1_add_21 : decode m_X1_add.2.1 21 = .ok (.imul, 1) := by decide +kernel
theorem d_X1_add_22 : decode m_X1_add.2.1 22 = .ok (.istore 5, 2) := by decide +kernel
theorem d_X1_add_24 : decode m_X1_add.2.1 24 = .ok (.iload 5, 2) := by decide +kernel
theorem d_X1_add_26 : decode m_X1_add.2.1 26 = .ok (.aload_n 0, 1) := by decide +kernel
theorem d_X1_add_27 : decode m_X1_add.2.1 27 = .ok (.iload_n 1, 1) := by decide +kernel
theorem d_X1_add_28 : decode m_X1_add.2.1 28 = .ok (.iload_n 2, 1) := by decide +kernel
theorem d_X1_add_29 : decode m_X1_add.2.1 29 = .ok (.invokevirtual 21, 3) := by decide +kernel
theorem d_X1_add_32 : decode m_X1_add.2.1 32 = .ok (.iadd, 1) := by decide +kernel
theorem d_X1_add_33 : decode m_X1_add.2.1 33 = .ok (.istore 6, 2) := by decide +kernel
theorem d_X1_add_35 : decode m_X1_add.2.1 35 = .ok (.aload_n 0, 1) := by decide +kernel
theorem d_X1_add_36 : decode m_X1_add.2.1 36 = .ok (.getfield 15, 3) := by decide +kernel
theorem d_X1_add_39 : decode m_X1_add.2.1 39 = .ok (.iload 6, 2) := by decide +kernel
theorem d_X1_add_41 : decode m_X1_add.2.1 41 = .ok (.iload 5, 2) := by decide +kernel
theorem d_X1_add_43 : decode m_X1_add.2.1 43 = .ok (.iload 4, 2) := by decide +kernel
theorem d_X1_add_45 : decode m_X1_add.2.1 45 = .ok (.iadd, 1) := by decide +kernel
theorem d_X1_add_46 : decode m_X1_add.2.1 46 = .ok (.invokestatic 29, 3) := by decide +kernel
theorem d_X1_add_49 : decode m_X1_add.2.1 49 = .ok (.aload_n 0, 1) := by decide +kernel
theorem d_X1_add_50 : decode m_X1_add.2.1 50 = .ok (.getfield 18, 3) := by decide +kernel
theorem d_X1_add_53 : decode m_X1_add.2.1 53 = .ok (.iload 6, 2) := by decide +kernel
theorem d_X1_add_55 : decode m_X1_add.2.1 55 = .ok (.iload 5, 2) := by decide +kernel
theorem d_X1_add_57 : decode m_X1_add.2.1 57 = .ok (.iload 4, 2) := by decide +kernel
theorem d_X1_add_59 : decode m_X1_add.2.1 59 = .ok (.iadd, 1) := by decide +kernel
theorem d_X1_add_60 : decode m_X1_add.2.1 60 = .ok (.invokestatic 29, 3) := by decide +kernel
theorem d_X1_add_63 : decode m_X1_add.2.1 63 = .ok (.aload_n 0, 1) := by decide +kernel
theorem d_X1_add_64 : decode m_X1_add.2.1 64 = .ok (.getfield 15, 3) := by decide +kernel
theorem d_X1_add_67 : decode m_X1_add.2.1 67 = .ok (.iload 6, 2) := by decide +kernel
theorem d_X1_add_69 : decode m_X1_add.2.1 69 = .ok (.iload_n 2, 1) := by decide +kernel
theorem d_X1_add_70 : decode m_X1_add.2.1 70 = .ok (.invokestatic 33, 3) := by decide +kernel
theorem d_X1_add_73 : decode m_X1_add.2.1 73 = .ok (.aload_n 0, 1) := by decide +kernel
theorem d_X1_add_74 : decode m_X1_add.2.1 74 = .ok (.getfield 18, 3) := by decide +kernel
theorem d_X1_add_77 : decode m_X1_add.2.1 77 = .ok (.iload 6, 2) := by decide +kernel
theorem d_X1_add_79 : decode m_X1_add.2.1 79 = .ok (.iload_n 3, 1) := by decide +kernel
theorem d_X1_add_80 : decode m_X1_add.2.1 80 = .ok (.invokestatic 33, 3) := by decide +kernel
theorem d_X1_add_83 : decode m_X1_add.2.1 83 = .ok (.aload_n 0, 1) := by decide +kernel
theorem d_X1_add_84 : decode m_X1_add.2.1 84 = .ok (.getfield 9, 3) := by decide +kernel
theorem d_X1_add_87 : decode m_X1_add.2.1 87 = .ok (.iload_n 1, 1) := by decide +kernel
theorem d_X1_add_88 : decode m_X1_add.2.1 88 = .ok (.iload 4, 2) := by decide +kernel
theorem d_X1_add_90 : decode m_X1_add.2.1 90 = .ok (.iconst 1, 1) := by decide +kernel
theorem d_X1_add_91 : decode m_X1_add.2.1 91 = .ok (.iadd, 1) := by decide +kernel
theorem d_X1_add_92 : decode m_X1_add.2.1 92 = .ok (.invokestatic 33, 3) := by decide +kernel
theorem d_X1_add_95 : decode m_X1_add.2.1 95 = .ok (.return_, 1) := by decide +kernel
theorem d_X1_valueAt_0 : decode m_X1_valueAt.2.1 0 = .ok (.aload_n 0, 1) := by decide +kernel
theorem d_X1_valueAt_1 : decode m_X1_valueAt.2.1 1 = .ok (.getfield 9, 3) := by decide +kernel
theorem d_X1_valueAt_4 : decode m_X1_valueAt.2.1 4 = .ok (.iload_n 1, 1) := by decide +kernel
theorem d_X1_valueAt_5 : decode m_X1_valueAt.2.1 5 = .ok (.invokestatic 25, 3) := by decide +kernel
theorem d_X1_valueAt_8 : decode m_X1_valueAt.2.1 8 = .ok (.istore_n 3, 1) := by decide +kernel
theorem d_X1_valueAt_9 : decode m_X1_valueAt.2.1 9 = .ok (.iload_n 3, 1) := by decide +kernel
theorem d_X1_valueAt_10 : decode m_X1_valueAt.2.1 10 = .ok (.ifCond .ne 5, 3) := by decide +kernel
theorem d_X1_valueAt_13 : decode m_X1_valueAt.2.1 13 = .ok (.iconst 0, 1) := by decide +kernel
theorem d_X1_valueAt_14 : decode m_X1_valueAt.2.1 14 = .ok (.ireturn, 1) := by decide +kernel
theorem d_X1_valueAt_15 : decode m_X1_valueAt.2.1 15 = .ok (.aload_n 0, 1) := by decide +kernel
theorem d_X1_valueAt_16 : decode m_X1_valueAt.2.1 16 = .ok (.iload_n 1, 1) := by decide +kernel
theorem d_X1_valueAt_17 : decode m_X1_valueAt.2.1 17 = .ok (.iload_n 2, 1) := by decide +kernel
theorem d_X1_valueAt_18 : decode m_X1_valueAt.2.1 18 = .ok (.invokevirtual 21, 3) := by decide +kernel
theorem d_X1_valueAt_21 : decode m_X1_valueAt.2.1 21 = .ok (.istore 4, 2) := by decide +kernel
theorem d_X1_valueAt_23 : decode m_X1_valueAt.2.1 23 = .ok (.iload_n 1, 1) := by decide +kernel
theorem d_X1_valueAt_24 : decode m_X1_valueAt.2.1 24 = .ok (.bipush 6, 2) := by decide +kernel
theorem d_X1_valueAt_26 : decode m_X1_valueAt.2.1 26 = .ok (.imul, 1) := by decide +kernel
theorem d_X1_valueAt_27 : decode m_X1_valueAt.2.1 27 = .ok (.iload 4, 2) := by decide +kernel
theorem d_X1_valueAt_29 : decode m_X1_valueAt.2.1 29 = .ok (.iadd, 1) := by decide +kernel
theorem d_X1_valueAt_30 : decode m_X1_valueAt.2.1 30 = .ok (.istore 5, 2) := by decide +kernel
theorem d_X1_valueAt_32 : decode m_X1_valueAt.2.1 32 = .ok (.iload 4, 2) := by decide +kernel
theorem d_X1_valueAt_34 : decode m_X1_valueAt.2.1 34 = .ok (.ifCond .ne 13, 3) := by decide +kernel
theorem d_X1_valueAt_37 : decode m_X1_valueAt.2.1 37 = .ok (.aload_n 0, 1) := by decide +kernel
theorem d_X1_valueAt_38 : decode m_X1_valueAt.2.1 38 = .ok (.getfield 18, 3) := by decide +kernel
theorem d_X1_valueAt_41 : decode m_X1_valueAt.2.1 41 = .ok (.iload 5, 2) := by decide +kernel
theorem d_X1_valueAt_43 : decode m_X1_valueAt.2.1 43 = .ok (.invokestatic 25, 3) := by decide +kernel
theorem d_X1_valueAt_46 : decode m_X1_valueAt.2.1 46 = .ok (.ireturn, 1) := by decide +kernel
theorem d_X1_valueAt_47 : decode m_X1_valueAt.2.1 47 = .ok (.aload_n 0, 1) := by decide +kernel
theorem d_X1_valueAt_48 : decode m_X1_valueAt.2.1 48 = .ok (.getfield 18, 3) := by decide +kernel
theorem d_X1_valueAt_51 : decode m_X1_valueAt.2.1 51 = .ok (.iload 5, 2) := by decide +kernel
theorem d_X1_valueAt_53 : decode m_X1_valueAt.2.1 53 = .ok (.iconst 1, 1) := by decide +kernel
theorem d_X1_valueAt_54 : decode m_X1_valueAt.2.1 54 = .ok (.isub, 1) := by decide +kernel
theorem d_X1_valueAt_55 : decode m_X1_valueAt.2.1 55 = .ok (.invokestatic 25, 3) := by decide +kernel
theorem d_X1_valueAt_58 : decode m_X1_valueAt.2.1 58 = .ok (.i2l, 1) := by decide +kernel
theorem d_X1_valueAt_59 : decode m_X1_valueAt.2.1 59 = .ok (.lstore 6, 2) := by decide +kernel
theorem d_X1_valueAt_61 : decode m_X1_valueAt.2.1 61 = .ok (.iload 4, 2) := by decide +kernel
theorem d_X1_valueAt_63 : decode m_X1_valueAt.2.1 63 = .ok (.iload_n 3, 1) := by decide +kernel
theorem d_X1_valueAt_64 : decode m_X1_valueAt.2.1 64 = .ok (.if_icmp .ne 7, 3) := by decide +kernel
theorem d_X1_valueAt_67 : decode m_X1_valueAt.2.1 67 = .ok (.lload 6, 2) := by decide +kernel
theorem d_X1_valueAt_69 : decode m_X1_valueAt.2.1 69 = .ok (.l2i, 1) := by decide +kernel
theorem d_X1_valueAt_70 : decode m_X1_valueAt.2.1 70 = .ok (.ireturn, 1) := by decide +kernel
theorem d_X1_valueAt_71 : decode m_X1_valueAt.2.1 71 = .ok (.aload_n 0, 1) := by decide +kernel
theorem d_X1_valueAt_72 : decode m_X1_valueAt.2.1 72 = .ok (.getfield 15, 3) := by decide +kernel
theorem d_X1_valueAt_75 : decode m_X1_valueAt.2.1 75 = .ok (.iload 5, 2) := by decide +kernel
theorem d_X1_valueAt_77 : decode m_X1_valueAt.2.1 77 = .ok (.iconst 1, 1) := by decide +kernel
theorem d_X1_valueAt_78 : decode m_X1_valueAt.2.1 78 = .ok (.isub, 1) := by decide +kernel
theorem d_X1_valueAt_79 : decode m_X1_valueAt.2.1 79 = .ok (.invokestatic 25, 3) := by decide +kernel
theorem d_X1_valueAt_82 : decode m_X1_valueAt.2.1 82 = .ok (.i2l, 1) := by decide +kernel
theorem d_X1_valueAt_83 : decode m_X1_valueAt.2.1 83 = .ok (.lstore 8, 2) := by decide +kernel
theorem d_X1_valueAt_85 : decode m_X1_valueAt.2.1 85 = .ok (.aload_n 0, 1) := by decide +kernel
theorem d_X1_valueAt_86 : decode m_X1_valueAt.2.1 86 = .ok (.getfield 18, 3) := by decide +kernel
theorem d_X1_valueAt_89 : decode m_X1_valueAt.2.1 89 = .ok (.iload 5, 2) := by decide +kernel
theorem d_X1_valueAt_91 : decode m_X1_valueAt.2.1 91 = .ok (.invokestatic 25, 3) := by decide +kernel
theorem d_X1_valueAt_94 : decode m_X1_valueAt.2.1 94 = .ok (.i2l, 1) := by decide +kernel
theorem d_X1_valueAt_95 : decode m_X1_valueAt.2.1 95 = .ok (.lload 6, 2) := by decide +kernel
theorem d_X1_valueAt_97 : decode m_X1_valueAt.2.1 97 = .ok (.lsub, 1) := by decide +kernel
theorem d_X1_valueAt_98 : decode m_X1_valueAt.2.1 98 = .ok (.lstore 10, 2) := by decide +kernel
theorem d_X1_valueAt_100 : decode m_X1_valueAt.2.1 100 = .ok (.lload 6, 2) := by decide +kernel
theorem d_X1_valueAt_102 : decode m_X1_valueAt.2.1 102 = .ok (.lload 10, 2) := by decide +kernel
theorem d_X1_valueAt_104 : decode m_X1_valueAt.2.1 104 = .ok (.iload_n 2, 1) := by decide +kernel
theorem d_X1_valueAt_105 : decode m_X1_valueAt.2.1 105 = .ok (.i2l, 1) := by decide +kernel
theorem d_X1_valueAt_106 : decode m_X1_valueAt.2.1 106 = .ok (.lload 8, 2) := by decide +kernel
theorem d_X1_valueAt_108 : decode m_X1_valueAt.2.1 108 = .ok (.lsub, 1) := by decide +kernel
theorem d_X1_valueAt_109 : decode m_X1_valueAt.2.1 109 = .ok (.lmul, 1) := by decide +kernel
theorem d_X1_valueAt_110 : decode m_X1_valueAt.2.1 110 = .ok (.aload_n 0, 1) := by decide +kernel
theorem d_X1_valueAt_111 : decode m_X1_valueAt.2.1 111 = .ok (.getfield 15, 3) := by decide +kernel
theorem d_X1_valueAt_114 : decode m_X1_valueAt.2.1 114 = .ok (.iload 5, 2) := by decide +kernel
theorem d_X1_valueAt_116 : decode m_X1_valueAt.2.1 116 = .ok (.invokestatic 25, 3) := by decide +kernel
theorem d_X1_valueAt_119 : decode m_X1_valueAt.2.1 119 = .ok (.i2l, 1) := by decide +kernel
theorem d_X1_valueAt_120 : decode m_X1_valueAt.2.1 120 = .ok (.lload 8, 2) := by decide +kernel
theorem d_X1_valueAt_122 : decode m_X1_valueAt.2.1 122 = .ok (.lsub, 1) := by decide +kernel
theorem d_X1_valueAt_123 : decode m_X1_valueAt.2.1 123 = .ok (.invokestatic 36, 3) := by decide +kernel
theorem d_X1_valueAt_126 : decode m_X1_valueAt.2.1 126 = .ok (.ladd, 1) := by decide +kernel
theorem d_X1_valueAt_127 : decode m_X1_valueAt.2.1 127 = .ok (.l2i, 1) := by decide +kernel
theorem d_X1_valueAt_128 : decode m_X1_valueAt.2.1 128 = .ok (.ireturn, 1) := by decide +kernel
theorem d_X1_slopeAt_0 : decode m_X1_slopeAt.2.1 0 = .ok (.aload_n 0, 1) := by decide +kernel
theorem d_X1_slopeAt_1 : decode m_X1_slopeAt.2.1 1 = .ok (.iload_n 1, 1) := by decide +kernel
theorem d_X1_slopeAt_2 : decode m_X1_slopeAt.2.1 2 = .ok (.iload_n 2, 1) := by decide +kernel
theorem d_X1_slopeAt_3 : decode m_X1_slopeAt.2.1 3 = .ok (.invokevirtual 21, 3) := by decide +kernel
theorem d_X1_slopeAt_6 : decode m_X1_slopeAt.2.1 6 = .ok (.istore_n 3, 1) := by decide +kernel
theorem d_X1_slopeAt_7 : decode m_X1_slopeAt.2.1 7 = .ok (.iload_n 3, 1) := by decide +kernel
theorem d_X1_slopeAt_8 : decode m_X1_slopeAt.2.1 8 = .ok (.ifCond .eq 15, 3) := by decide +kernel
theorem d_X1_slopeAt_11 : decode m_X1_slopeAt.2.1 11 = .ok (.iload_n 3, 1) := by decide +kernel
theorem d_X1_slopeAt_12 : decode m_X1_slopeAt.2.1 12 = .ok (.aload_n 0, 1) := by decide +kernel
theorem d_X1_slopeAt_13 : decode m_X1_slopeAt.2.1 13 = .ok (.getfield 9, 3) := by decide +kernel
theorem d_X1_slopeAt_16 : decode m_X1_slopeAt.2.1 16 = .ok (.iload_n 1, 1) := by decide +kernel
theorem d_X1_slopeAt_17 : decode m_X1_slopeAt.2.1 17 = .ok (.invokestatic 25, 3) := by decide +kernel
theorem d_X1_slopeAt_20 : decode m_X1_slopeAt.2.1 20 = .ok (.if_icmp .ne 5, 3) := by decide +kernel
theorem d_X1_slopeAt_23 : decode m_X1_slopeAt.2.1 23 = .ok (.iconst 0, 1) := by decide +kernel
theorem d_X1_slopeAt_24 : decode m_X1_slopeAt.2.1 24 = .ok (.ireturn, 1) := by decide +kernel
theorem d_X1_slopeAt_25 : decode m_X1_slopeAt.2.1 25 = .ok (.iload_n 1, 1) := by decide +kernel
theorem d_X1_slopeAt_26 : decode m_X1_slopeAt.2.1 26 = .ok (.bipush 6, 2) := by decide +kernel
theorem d_X1_slopeAt_28 : decode m_X1_slopeAt.2.1 28 = .ok (.imul, 1) := by decide +kernel
theorem d_X1_slopeAt_29 : decode m_X1_slopeAt.2.1 29 = .ok (.iload_n 3, 1) := by decide +kernel
theorem d_X1_slopeAt_30 : decode m_X1_slopeAt.2.1 30 = .ok (.iadd, 1) := by decide +kernel
theorem d_X1_slopeAt_31 : decode m_X1_slopeAt.2.1 31 = .ok (.istore 4, 2) := by decide +kernel
theorem d_X1_slopeAt_33 : decode m_X1_slopeAt.2.1 33 = .ok (.aload_n 0, 1) := by decide +kernel
theorem d_X1_slopeAt_34 : decode m_X1_slopeAt.2.1 34 = .ok (.getfield 18, 3) := by decide +kernel
theorem d_X1_slopeAt_37 : decode m_X1_slopeAt.2.1 37 = .ok (.iload 4, 2) := by decide +kernel
theorem d_X1_slopeAt_39 : decode m_X1_slopeAt.2.1 39 = .ok (.invokestatic 25, 3) := by decide +kernel
theorem d_X1_slopeAt_42 : decode m_X1_slopeAt.2.1 42 = .ok (.i2l, 1) := by decide +kernel
theorem d_X1_slopeAt_43 : decode m_X1_slopeAt.2.1 43 = .ok (.aload_n 0, 1) := by decide +kernel
theorem d_X1_slopeAt_44 : decode m_X1_slopeAt.2.1 44 = .ok (.getfield 18, 3) := by decide +kernel
theorem d_X1_slopeAt_47 : decode m_X1_slopeAt.2.1 47 = .ok (.iload 4, 2) := by decide +kernel
theorem d_X1_slopeAt_49 : decode m_X1_slopeAt.2.1 49 = .ok (.iconst 1, 1) := by decide +kernel
theorem d_X1_slopeAt_50 : decode m_X1_slopeAt.2.1 50 = .ok (.isub, 1) := by decide +kernel
theorem d_X1_slopeAt_51 : decode m_X1_slopeAt.2.1 51 = .ok (.invokestatic 25, 3) := by decide +kernel
theorem d_X1_slopeAt_54 : decode m_X1_slopeAt.2.1 54 = .ok (.i2l, 1) := by decide +kernel
theorem d_X1_slopeAt_55 : decode m_X1_slopeAt.2.1 55 = .ok (.lsub, 1) := by decide +kernel
theorem d_X1_slopeAt_56 : decode m_X1_slopeAt.2.1 56 = .ok (.lstore 5, 2) := by decide +kernel
theorem d_X1_slopeAt_58 : decode m_X1_slopeAt.2.1 58 = .ok (.lload 5, 2) := by decide +kernel
theorem d_X1_slopeAt_60 : decode m_X1_slopeAt.2.1 60 = .ok (.ldc2_w 40, 3) := by decide +kernel
theorem d_X1_slopeAt_63 : decode m_X1_slopeAt.2.1 63 = .ok (.lmul, 1) := by decide +kernel
theorem d_X1_slopeAt_64 : decode m_X1_slopeAt.2.1 64 = .ok (.aload_n 0, 1) := by decide +kernel
theorem d_X1_slopeAt_65 : decode m_X1_slopeAt.2.1 65 = .ok (.getfield 15, 3) := by decide +kernel
theorem d_X1_slopeAt_68 : decode m_X1_slopeAt.2.1 68 = .ok (.iload 4, 2) := by decide +kernel
theorem d_X1_slopeAt_70 : decode m_X1_slopeAt.2.1 70 = .ok (.invokestatic 25, 3) := by decide +kernel
theorem d_X1_slopeAt_73 : decode m_X1_slopeAt.2.1 73 = .ok (.aload_n 0, 1) := by decide +kernel
theorem d_X1_slopeAt_74 : decode m_X1_slopeAt.2.1 74 = .ok (.getfield 15, 3) := by decide +kernel
theorem d_X1_slopeAt_77 : decode m_X1_slopeAt.2.1 77 = .ok (.iload 4, 2) := by decide +kernel
theorem d_X1_slopeAt_79 : decode m_X1_slopeAt.2.1 79 = .ok (.iconst 1, 1) := by decide +kernel
theorem d_X1_slopeAt_80 : decode m_X1_slopeAt.2.1 80 = .ok (.isub, 1) := by decide +kernel
theorem d_X1_slopeAt_81 : decode m_X1_slopeAt.2.1 81 = .ok (.invokestatic 25, 3) := by decide +kernel
theorem d_X1_slopeAt_84 : decode m_X1_slopeAt.2.1 84 = .ok (.isub, 1) := by decide +kernel
theorem d_X1_slopeAt_85 : decode m_X1_slopeAt.2.1 85 = .ok (.i2l, 1) := by decide +kernel
theorem d_X1_slopeAt_86 : decode m_X1_slopeAt.2.1 86 = .ok (.invokestatic 36, 3) := by decide +kernel
theorem d_X1_slopeAt_89 : decode m_X1_slopeAt.2.1 89 = .ok (.l2i, 1) := by decide +kernel
theorem d_X1_slopeAt_90 : decode m_X1_slopeAt.2.1 90 = .ok (.ireturn, 1) := by decide +kernel
theorem d_X1_pointsUpTo_0 : decode m_X1_pointsUpTo.2.1 0 = .ok (.bipush 6, 2) := by decide +kernel
theorem d_X1_pointsUpTo_2 : decode m_X1_pointsUpTo.2.1 2 = .ok (.aload_n 0, 1) := by decide +kernel
theorem d_X1_pointsUpTo_3 : decode m_X1_pointsUpTo.2.1 3 = .ok (.getfield 9, 3) := by decide +kernel
theorem d_X1_pointsUpTo_6 : decode m_X1_pointsUpTo.2.1 6 = .ok (.iload_n 1, 1) := by decide +kernel
theorem d_X1_pointsUpTo_7 : decode m_X1_pointsUpTo.2.1 7 = .ok (.invokestatic 25, 3) := by decide +kernel
theorem d_X1_pointsUpTo_10 : decode m_X1_pointsUpTo.2.1 10 = .ok (.invokestatic 42, 3) := by decide +kernel
theorem d_X1_pointsUpTo_13 : decode m_X1_pointsUpTo.2.1 13 = .ok (.istore_n 3, 1) := by decide +kernel
theorem d_X1_pointsUpTo_14 : decode m_X1_pointsUpTo.2.1 14 = .ok (.iconst 0, 1) := by decide +kernel
theorem d_X1_pointsUpTo_15 : decode m_X1_pointsUpTo.2.1 15 = .ok (.istore 4, 2) := by decide +kernel
theorem d_X1_pointsUpTo_17 : decode m_X1_pointsUpTo.2.1 17 = .ok (.iload 4, 2) := by decide +kernel
theorem d_X1_pointsUpTo_19 : decode m_X1_pointsUpTo.2.1 19 = .ok (.iload_n 3, 1) := by decide +kernel
theorem d_X1_pointsUpTo_20 : decode m_X1_pointsUpTo.2.1 20 = .ok (.if_icmp .ge 27, 3) := by decide +kernel
theorem d_X1_pointsUpTo_23 : decode m_X1_pointsUpTo.2.1 23 = .ok (.aload_n 0, 1) := by decide +kernel
theorem d_X1_pointsUpTo_24 : decode m_X1_pointsUpTo.2.1 24 = .ok (.getfield 15, 3) := by decide +kernel
theorem d_X1_pointsUpTo_27 : decode m_X1_pointsUpTo.2.1 27 = .ok (.iload_n 1, 1) := by decide +kernel
theorem d_X1_pointsUpTo_28 : decode m_X1_pointsUpTo.2.1 28 = .ok (.bipush 6, 2) := by decide +kernel
theorem d_X1_pointsUpTo_30 : decode m_X1_pointsUpTo.2.1 30 = .ok (.imul, 1) := by decide +kernel
theorem d_X1_pointsUpTo_31 : decode m_X1_pointsUpTo.2.1 31 = .ok (.iload 4, 2) := by decide +kernel
theorem d_X1_pointsUpTo_33 : decode m_X1_pointsUpTo.2.1 33 = .ok (.iadd, 1) := by decide +kernel
theorem d_X1_pointsUpTo_34 : decode m_X1_pointsUpTo.2.1 34 = .ok (.invokestatic 25, 3) := by decide +kernel
theorem d_X1_pointsUpTo_37 : decode m_X1_pointsUpTo.2.1 37 = .ok (.iload_n 2, 1) := by decide +kernel
theorem d_X1_pointsUpTo_38 : decode m_X1_pointsUpTo.2.1 38 = .ok (.if_icmp .gt 9, 3) := by decide +kernel
theorem d_X1_pointsUpTo_41 : decode m_X1_pointsUpTo.2.1 41 = .ok (.iinc 4 1, 3) := by decide +kernel
theorem d_X1_pointsUpTo_44 : decode m_X1_pointsUpTo.2.1 44 = .ok (.goto (-27), 3) := by decide +kernel
theorem d_X1_pointsUpTo_47 : decode m_X1_pointsUpTo.2.1 47 = .ok (.iload 4, 2) := by decide +kernel
theorem d_X1_pointsUpTo_49 : decode m_X1_pointsUpTo.2.1 49 = .ok (.ireturn, 1) := by decide +kernel
theorem d_X1_copyFrom_0 : decode m_X1_copyFrom.2.1 0 = .ok (.aload_n 1, 1) := by decide +kernel
theorem d_X1_copyFrom_1 : decode m_X1_copyFrom.2.1 1 = .ok (.ifnonnull 4, 3) := by decide +kernel
theorem d_X1_copyFrom_4 : decode m_X1_copyFrom.2.1 4 = .ok (.return_, 1) := by decide +kernel
theorem d_X1_copyFrom_5 : decode m_X1_copyFrom.2.1 5 = .ok (.aload_n 1, 1) := by decide +kernel
theorem d_X1_copyFrom_6 : decode m_X1_copyFrom.2.1 6 = .ok (.getfield 9, 3) := by decide +kernel
theorem d_X1_copyFrom_9 : decode m_X1_copyFrom.2.1 9 = .ok (.aload_n 0, 1) := by decide +kernel
theorem d_X1_copyFrom_10 : decode m_X1_copyFrom.2.1 10 = .ok (.getfield 9, 3) := by decide +kernel
theorem d_X1_copyFrom_13 : decode m_X1_copyFrom.2.1 13 = .ok (.iconst 3, 1) := by decide +kernel
theorem d_X1_copyFrom_14 : decode m_X1_copyFrom.2.1 14 = .ok (.invokestatic 47, 3) := by decide +kernel
theorem d_X1_copyFrom_17 : decode m_X1_copyFrom.2.1 17 = .ok (.aload_n 1, 1) := by decide +kernel
theorem d_X1_copyFrom_18 : decode m_X1_copyFrom.2.1 18 = .ok (.getfield 15, 3) := by decide +kernel
theorem d_X1_copyFrom_21 : decode m_X1_copyFrom.2.1 21 = .ok (.aload_n 0, 1) := by decide +kernel
theorem d_X1_copyFrom_22 : decode m_X1_copyFrom.2.1 22 = .ok (.getfield 15, 3) := by decide +kernel
theorem d_X1_copyFrom_25 : decode m_X1_copyFrom.2.1 25 = .ok (.bipush 18, 2) := by decide +kernel
theorem d_X1_copyFrom_27 : decode m_X1_copyFrom.2.1 27 = .ok (.invokestatic 47, 3) := by decide +kernel
theorem d_X1_copyFrom_30 : decode m_X1_copyFrom.2.1 30 = .ok (.aload_n 1, 1) := by decide +kernel
theorem d_X1_copyFrom_31 : decode m_X1_copyFrom.2.1 31 = .ok (.getfield 18, 3) := by decide +kernel
theorem d_X1_copyFrom_34 : decode m_X1_copyFrom.2.1 34 = .ok (.aload_n 0, 1) := by decide +kernel
theorem d_X1_copyFrom_35 : decode m_X1_copyFrom.2.1 35 = .ok (.getfield 18, 3) := by decide +kernel
theorem d_X1_copyFrom_38 : decode m_X1_copyFrom.2.1 38 = .ok (.bipush 18, 2) := by decide +kernel
theorem d_X1_copyFrom_40 : decode m_X1_copyFrom.2.1 40 = .ok (.invokestatic 47, 3) := by decide +kernel
theorem d_X1_copyFrom_43 : decode m_X1_copyFrom.2.1 43 = .ok (.return_, 1) := by decide +kernel
theorem d_X2_init_0 : decode m_X2_init.2.1 0 = .ok (.aload_n 0, 1) := by decide +kernel
theorem d_X2_init_1 : decode m_X2_init.2.1 1 = .ok (.invokespecial 3, 3) := by decide +kernel
theorem d_X2_init_4 : decode m_X2_init.2.1 4 = .ok (.aload_n 0, 1) := by decide +kernel
theorem d_X2_init_5 : decode m_X2_init.2.1 5 = .ok (.iconst 4, 1) := by decide +kernel
theorem d_X2_init_6 : decode m_X2_init.2.1 6 = .ok (.anewarray 9, 3) := by decide +kernel
theorem d_X2_init_9 : decode m_X2_init.2.1 9 = .ok (.putfield 11, 3) := by decide +kernel
theorem d_X2_init_12 : decode m_X2_init.2.1 12 = .ok (.return_, 1) := by decide +kernel
theorem d_X2_record_0 : decode m_X2_record.2.1 0 = .ok (.aload_n 0, 1) := by decide +kernel
theorem d_X2_record_1 : decode m_X2_record.2.1 1 = .ok (.getfield 17, 3) := by decide +kernel
theorem d_X2_record_4 : decode m_X2_record.2.1 4 = .ok (.aload_n 0, 1) := by decide +kernel
theorem d_X2_record_5 : decode m_X2_record.2.1 5 = .ok (.getfield 11, 3) := by decide +kernel
theorem d_X2_record_8 : decode m_X2_record.2.1 8 = .ok (.arraylength, 1) := by decide +kernel
theorem d_X2_record_9 : decode m_X2_record.2.1 9 = .ok (.if_icmp .lt 7, 3) := by decide +kernel
theorem d_X2_record_12 : decode m_X2_record.2.1 12 = .ok (.aload_n 0, 1) := by decide +kernel
theorem d_X2_record_13 : decode m_X2_record.2.1 13 = .ok (.invokevirtual 21, 3) := by decide +kernel
theorem d_X2_record_16 : decode m_X2_record.2.1 16 = .ok (.aload_n 0, 1) := by decide +kernel
theorem d_X2_record_17 : decode m_X2_record.2.1 17 = .ok (.getfield 17, 3) := by decide +kernel
theorem d_X2_record_20 : decode m_X2_record.2.1 20 = .ok (.ifCond .lt 15, 3) := by decide +kernel
theorem d_X2_record_23 : decode m_X2_record.2.1 23 = .ok (.aload_n 0, 1) := by decide +kernel
theorem d_X2_record_24 : decode m_X2_record.2.1 24 = .ok (.getfield 17, 3) := by decide +kernel
theorem d_X2_record_27 : decode m_X2_record.2.1 27 = .ok (.aload_n 0, 1) := by decide +kernel
theorem d_X2_record_28 : decode m_X2_record.2.1 28 = .ok (.getfield 11, 3) := by decide +kernel
theorem d_X2_record_31 : decode m_X2_record.2.1 31 = .ok (.arraylength, 1) := by decide +kernel
theorem d_X2_record_32 : decode m_X2_record.2.1 32 = .ok (.if_icmp .lt 4, 3) := by decide +kernel
theorem d_X2_record_35 : decode m_X2_record.2.1 35 = .ok (.return_, 1) := by decide +kernel
theorem d_X2_record_36 : decode m_X2_record.2.1 36 = .ok (.aload_n 0, 1) := by decide +kernel
theorem d_X2_record_37 : decode m_X2_record.2.1 37 = .ok (.getfield 11, 3) := by decide +kernel
theorem d_X2_record_40 : decode m_X2_record.2.1 40 = .ok (.aload_n 0, 1) := by decide +kernel
theorem d_X2_record_41 : decode m_X2_record.2.1 41 = .ok (.getfield 17, 3) := by decide +kernel
theorem d_X2_record_44 : decode m_X2_record.2.1 44 = .ok (.aaload, 1) := by decide +kernel
theorem d_X2_record_45 : decode m_X2_record.2.1 45 = .ok (.astore_n 2, 1) := by decide +kernel
theorem d_X2_record_46 : decode m_X2_record.2.1 46 = .ok (.aload_n 2, 1) := by decide +kernel
theorem d_X2_record_47 : decode m_X2_record.2.1 47 = .ok (.ifnonnull 21, 3) := by decide +kernel
theorem d_X2_record_50 : decode m_X2_record.2.1 50 = .ok (.new 9, 3) := by decide +kernel
theorem d_X2_record_53 : decode m_X2_record.2.1 53 = .ok (.dup, 1) := by decide +kernel
theorem d_X2_record_54 : decode m_X2_record.2.1 54 = .ok (.invokespecial 24, 3) := by decide +kernel
theorem d_X2_record_57 : decode m_X2_record.2.1 57 = .ok (.astore_n 2, 1) := by decide +kernel
theorem d_X2_record_58 : decode m_X2_record.2.1 58 = .ok (.aload_n 0, 1) := by decide +kernel
theorem d_X2_record_59 : decode m_X2_record.2.1 59 = .ok (.getfield 11, 3) := by decide +kernel
theorem d_X2_record_62 : decode m_X2_record.2.1 62 = .ok (.aload_n 0, 1) := by decide +kernel
theorem d_X2_record_63 : decode m_X2_record.2.1 63 = .ok (.getfield 17, 3) := by decide +kernel
theorem d_X2_record_66 : decode m_X2_record.2.1 66 = .ok (.aload_n 2, 1) := by decide +kernel
theorem d_X2_record_67 : decode m_X2_record.2.1 67 = .ok (.aastore, 1) := by decide +kernel
theorem d_X2_record_68 : decode m_X2_record.2.1 68 = .ok (.aload_n 2, 1) := by decide +kernel
theorem d_X2_record_69 : decode m_X2_record.2.1 69 = .ok (.aload_n 1, 1) := by decide +kernel
theorem d_X2_record_70 : decode m_X2_record.2.1 70 = .ok (.invokevirtual 25, 3) := by decide +kernel
theorem d_X2_record_73 : decode m_X2_record.2.1 73 = .ok (.aload_n 0, 1) := by decide +kernel
theorem d_X2_record_74 : decode m_X2_record.2.1 74 = .ok (.dup, 1) := by decide +kernel
theorem d_X2_record_75 : decode m_X2_record.2.1 75 = .ok (.getfield 17, 3) := by decide +kernel
theorem d_X2_record_78 : decode m_X2_record.2.1 78 = .ok (.iconst 1, 1) := by decide +kernel
theorem d_X2_record_79 : decode m_X2_record.2.1 79 = .ok (.iadd, 1) := by decide +kernel
theorem d_X2_record_80 : decode m_X2_record.2.1 80 = .ok (.putfield 17, 3) := by decide +kernel
theorem d_X2_record_83 : decode m_X2_record.2.1 83 = .ok (.return_, 1) := by decide +kernel
theorem d_X2_dropOldest_0 : decode m_X2_dropOldest.2.1 0 = .ok (.aload_n 0, 1) := by decide +kernel
theorem d_X2_dropOldest_1 : decode m_X2_dropOldest.2.1 1 = .ok (.getfield 11, 3) := by decide +kernel
theorem d_X2_dropOldest_4 : decode m_X2_dropOldest.2.1 4 = .ok (.arraylength, 1) := by decide +kernel
theorem d_X2_dropOldest_5 : decode m_X2_dropOldest.2.1 5 = .ok (.ifCond .ne 4, 3) := by decide +kernel
theorem d_X2_dropOldest_8 : decode m_X2_dropOldest.2.1 8 = .ok (.return_, 1) := by decide +kernel
theorem d_X2_dropOldest_9 : decode m_X2_dropOldest.2.1 9 = .ok (.aload_n 0, 1) := by decide +kernel
theorem d_X2_dropOldest_10 : decode m_X2_dropOldest.2.1 10 = .ok (.getfield 11, 3) := by decide +kernel
theorem d_X2_dropOldest_13 : decode m_X2_dropOldest.2.1 13 = .ok (.iconst 0, 1) := by decide +kernel
theorem d_X2_dropOldest_14 : decode m_X2_dropOldest.2.1 14 = .ok (.aaload, 1) := by decide +kernel
theorem d_X2_dropOldest_15 : decode m_X2_dropOldest.2.1 15 = .ok (.astore_n 1, 1) := by decide +kernel
theorem d_X2_dropOldest_16 : decode m_X2_dropOldest.2.1 16 = .ok (.iconst 1, 1) := by decide +kernel
theorem d_X2_dropOldest_17 : decode m_X2_dropOldest.2.1 17 = .ok (.istore_n 2, 1) := by decide +kernel
theorem d_X2_dropOldest_18 : decode m_X2_dropOldest.2.1 18 = .ok (.iload_n 2, 1) := by decide +kernel
theorem d_X2_dropOldest_19 : decode m_X2_dropOldest.2.1 19 = .ok (.aload_n 0, 1) := by decide +kernel
theorem d_X2_dropOldest_20 : decode m_X2_dropOldest.2.1 20 = .ok (.getfield 11, 3) := by decide +kernel
theorem d_X2_dropOldest_23 : decode m_X2_dropOldest.2.1 23 = .ok (.arraylength, 1) := by decide +kernel
theorem d_X2_dropOldest_24 : decode m_X2_dropOldest.2.1 24 = .ok (.if_icmp .ge 23, 3) := by decide +kernel
theorem d_X2_dropOldest_27 : decode m_X2_dropOldest.2.1 27 = .ok (.aload_n 0, 1) := by decide +kernel
theorem d_X2_dropOldest_28 : decode m_X2_dropOldest.2.1 28 = .ok (.getfield 11, 3) := by decide +kernel
theorem d_X2_dropOldest_31 : decode m_X2_dropOldest.2.1 31 = .ok (.iload_n 2, 1) := by decide +kernel
theorem d_X2_dropOldest_32 : decode m_X2_dropOldest.2.1 32 = .ok (.iconst 1, 1) := by decide +kernel
theorem d_X2_dropOldest_33 : decode m_X2_dropOldest.2.1 33 = .ok (.isub, 1) := by decide +kernel
theorem d_X2_dropOldest_34 : decode m_X2_dropOldest.2.1 34 = .ok (.aload_n 0, 1) := by decide +kernel
theorem d_X2_dropOldest_35 : decode m_X2_dropOldest.2.1 35 = .ok (.getfield 11, 3) := by decide +kernel
theorem d_X2_dropOldest_38 : decode m_X2_dropOldest.2.1 38 = .ok (.iload_n 2, 1) := by decide +kernel
theorem d_X2_dropOldest_39 : decode m_X2_dropOldest.2.1 39 = .ok (.aaload, 1) := by decide +kernel
theorem d_X2_dropOldest_40 : decode m_X2_dropOldest.2.1 40 = .ok (.aastore, 1) := by decide +kernel
theorem d_X2_dropOldest_41 : decode m_X2_dropOldest.2.1 41 = .ok (.iinc 2 1, 3) := by decide +kernel
theorem d_X2_dropOldest_44 : decode m_X2_dropOldest.2.1 44 = .ok (.goto (-26), 3) := by decide +kernel
theorem d_X2_dropOldest_47 : decode m_X2_dropOldest.2.1 47 = .ok (.aload_n 0, 1) := by decide +kernel
theorem d_X2_dropOldest_48 : decode m_X2_dropOldest.2.1 48 = .ok (.getfield 11, 3) := by decide +kernel
theorem d_X2_dropOldest_51 : decode m_X2_dropOldest.2.1 51 = .ok (.aload_n 0, 1) := by decide +kernel
theorem d_X2_dropOldest_52 : decode m_X2_dropOldest.2.1 52 = .ok (.getfield 11, 3) := by decide +kernel
theorem d_X2_dropOldest_55 : decode m_X2_dropOldest.2.1 55 = .ok (.arraylength, 1) := by decide +kernel
theorem d_X2_dropOldest_56 : decode m_X2_dropOldest.2.1 56 = .ok (.iconst 1, 1) := by decide +kernel
theorem d_X2_dropOldest_57 : decode m_X2_dropOldest.2.1 57 = .ok (.isub, 1) := by decide +kernel
theorem d_X2_dropOldest_58 : decode m_X2_dropOldest.2.1 58 = .ok (.aload_n 1, 1) := by decide +kernel
theorem d_X2_dropOldest_59 : decode m_X2_dropOldest.2.1 59 = .ok (.aastore, 1) := by decide +kernel
theorem d_X2_dropOldest_60 : decode m_X2_dropOldest.2.1 60 = .ok (.aload_n 0, 1) := by decide +kernel
theorem d_X2_dropOldest_61 : decode m_X2_dropOldest.2.1 61 = .ok (.aload_n 0, 1) := by decide +kernel
theorem d_X2_dropOldest_62 : decode m_X2_dropOldest.2.1 62 = .ok (.getfield 11, 3) := by decide +kernel
theorem d_X2_dropOldest_65 : decode m_X2_dropOldest.2.1 65 = .ok (.arraylength, 1) := by decide +kernel
theorem d_X2_dropOldest_66 : decode m_X2_dropOldest.2.1 66 = .ok (.iconst 1, 1) := by decide +kernel
theorem d_X2_dropOldest_67 : decode m_X2_dropOldest.2.1 67 = .ok (.isub, 1) := by decide +kernel
theorem d_X2_dropOldest_68 : decode m_X2_dropOldest.2.1 68 = .ok (.putfield 17, 3) := by decide +kernel
theorem d_X2_dropOldest_71 : decode m_X2_dropOldest.2.1 71 = .ok (.return_, 1) := by decide +kernel
theorem d_X2_giveBack_0 : decode m_X2_giveBack.2.1 0 = .ok (.aload_n 1, 1) := by decide +kernel
theorem d_X2_giveBack_1 : decode m_X2_giveBack.2.1 1 = .ok (.ifnull 22, 3) := by decide +kernel
theorem d_X2_giveBack_4 : decode m_X2_giveBack.2.1 4 = .ok (.aload_n 0, 1) := by decide +kernel
theorem d_X2_giveBack_5 : decode m_X2_giveBack.2.1 5 = .ok (.getfield 17, 3) := by decide +kernel
theorem d_X2_giveBack_8 : decode m_X2_giveBack.2.1 8 = .ok (.ifCond .le 15, 3) := by decide +kernel
theorem d_X2_giveBack_11 : decode m_X2_giveBack.2.1 11 = .ok (.aload_n 0, 1) := by decide +kernel
theorem d_X2_giveBack_12 : decode m_X2_giveBack.2.1 12 = .ok (.getfield 17, 3) := by decide +kernel
theorem d_X2_giveBack_15 : decode m_X2_giveBack.2.1 15 = .ok (.aload_n 0, 1) := by decide +kernel
theorem d_X2_giveBack_16 : decode m_X2_giveBack.2.1 16 = .ok (.getfield 11, 3) := by decide +kernel
theorem d_X2_giveBack_19 : decode m_X2_giveBack.2.1 19 = .ok (.arraylength, 1) := by decide +kernel
theorem d_X2_giveBack_20 : decode m_X2_giveBack.2.1 20 = .ok (.if_icmp .le 5, 3) := by decide +kernel
theorem d_X2_giveBack_23 : decode m_X2_giveBack.2.1 23 = .ok (.iconst 0, 1) := by decide +kernel
theorem d_X2_giveBack_24 : decode m_X2_giveBack.2.1 24 = .ok (.ireturn, 1) := by decide +kernel
theorem d_X2_giveBack_25 : decode m_X2_giveBack.2.1 25 = .ok (.aload_n 0, 1) := by decide +kernel
theorem d_X2_giveBack_26 : decode m_X2_giveBack.2.1 26 = .ok (.dup, 1) := by decide +kernel
theorem d_X2_giveBack_27 : decode m_X2_giveBack.2.1 27 = .ok (.getfield 17, 3) := by decide +kernel
theorem d_X2_giveBack_30 : decode m_X2_giveBack.2.1 30 = .ok (.iconst 1, 1) := by decide +kernel
theorem d_X2_giveBack_31 : decode m_X2_giveBack.2.1 31 = .ok (.isub, 1) := by decide +kernel
theorem d_X2_giveBack_32 : decode m_X2_giveBack.2.1 32 = .ok (.putfield 17, 3) := by decide +kernel
theorem d_X2_giveBack_35 : decode m_X2_giveBack.2.1 35 = .ok (.aload_n 1, 1) := by decide +kernel
theorem d_X2_giveBack_36 : decode m_X2_giveBack.2.1 36 = .ok (.aload_n 0, 1) := by decide +kernel
theorem d_X2_giveBack_37 : decode m_X2_giveBack.2.1 37 = .ok (.getfield 11, 3) := by decide +kernel
theorem d_X2_giveBack_40 : decode m_X2_giveBack.2.1 40 = .ok (.aload_n 0, 1) := by decide +kernel
theorem d_X2_giveBack_41 : decode m_X2_giveBack.2.1 41 = .ok (.getfield 17, 3) := by decide +kernel
theorem d_X2_giveBack_44 : decode m_X2_giveBack.2.1 44 = .ok (.aaload, 1) := by decide +kernel
theorem d_X2_giveBack_45 : decode m_X2_giveBack.2.1 45 = .ok (.invokevirtual 25, 3) := by decide +kernel
theorem d_X2_giveBack_48 : decode m_X2_giveBack.2.1 48 = .ok (.iconst 1, 1) := by decide +kernel
theorem d_X2_giveBack_49 : decode m_X2_giveBack.2.1 49 = .ok (.ireturn, 1) := by decide +kernel
theorem d_X3_init_0 : decode m_X3_init.2.1 0 = .ok (.aload_n 0, 1) := by decide +kernel
theorem d_X3_init_1 : decode m_X3_init.2.1 1 = .ok (.invokespecial 3, 3) := by decide +kernel
theorem d_X3_init_4 : decode m_X3_init.2.1 4 = .ok (.aload_n 0, 1) := by decide +kernel
theorem d_X3_init_5 : decode m_X3_init.2.1 5 = .ok (.iconst 3, 1) := by decide +kernel
theorem d_X3_init_6 : decode m_X3_init.2.1 6 = .ok (.newarray .int, 2) := by decide +kernel
theorem d_X3_init_8 : decode m_X3_init.2.1 8 = .ok (.putfield 9, 3) := by decide +kernel
theorem d_X3_init_11 : decode m_X3_init.2.1 11 = .ok (.aload_n 0, 1) := by decide +kernel
theorem d_X3_init_12 : decode m_X3_init.2.1 12 = .ok (.iconst 3, 1) := by decide +kernel
theorem d_X3_init_13 : decode m_X3_init.2.1 13 = .ok (.newarray .int, 2) := by decide +kernel
theorem d_X3_init_15 : decode m_X3_init.2.1 15 = .ok (.putfield 15, 3) := by decide +kernel
theorem d_X3_init_18 : decode m_X3_init.2.1 18 = .ok (.return_, 1) := by decide +kernel
theorem d_X3_lagAt_0 : decode m_X3_lagAt.2.1 0 = .ok (.iconst 0, 1) := by decide +kernel
theorem d_X3_lagAt_1 : decode m_X3_lagAt.2.1 1 = .ok (.aload_n 0, 1) := by decide +kernel
theorem d_X3_lagAt_2 : decode m_X3_lagAt.2.1 2 = .ok (.getfield 9, 3) := by decide +kernel
theorem d_X3_lagAt_5 : decode m_X3_lagAt.2.1 5 = .ok (.iload_n 1, 1) := by decide +kernel
theorem d_X3_lagAt_6 : decode m_X3_lagAt.2.1 6 = .ok (.invokestatic 18, 3) := by decide +kernel
theorem d_X3_lagAt_9 : decode m_X3_lagAt.2.1 9 = .ok (.aload_n 0, 1) := by decide +kernel
theorem d_X3_lagAt_10 : decode m_X3_lagAt.2.1 10 = .ok (.getfield 15, 3) := by decide +kernel
theorem d_X3_lagAt_13 : decode m_X3_lagAt.2.1 13 = .ok (.iload_n 1, 1) := by decide +kernel
theorem d_X3_lagAt_14 : decode m_X3_lagAt.2.1 14 = .ok (.invokestatic 18, 3) := by decide +kernel
theorem d_X3_lagAt_17 : decode m_X3_lagAt.2.1 17 = .ok (.iload_n 2, 1) := by decide +kernel
theorem d_X3_lagAt_18 : decode m_X3_lagAt.2.1 18 = .ok (.imul, 1) := by decide +kernel
theorem d_X3_lagAt_19 : decode m_X3_lagAt.2.1 19 = .ok (.sipush 1000, 3) := by decide +kernel
theorem d_X3_lagAt_22 : decode m_X3_lagAt.2.1 22 = .ok (.idiv, 1) := by decide +kernel
theorem d_X3_lagAt_23 : decode m_X3_lagAt.2.1 23 = .ok (.iadd, 1) := by decide +kernel
theorem d_X3_lagAt_24 : decode m_X3_lagAt.2.1 24 = .ok (.invokestatic 22, 3) := by decide +kernel
theorem d_X3_lagAt_27 : decode m_X3_lagAt.2.1 27 = .ok (.ireturn, 1) := by decide +kernel
theorem d_X3_reach_0 : decode m_X3_reach.2.1 0 = .ok (.iload_n 2, 1) := by decide +kernel
theorem d_X3_reach_1 : decode m_X3_reach.2.1 1 = .ok (.iconst 1, 1) := by decide +kernel
theorem d_X3_reach_2 : decode m_X3_reach.2.1 2 = .ok (.iadd, 1) := by decide +kernel
theorem d_X3_reach_3 : decode m_X3_reach.2.1 3 = .ok (.istore_n 3, 1) := by decide +kernel
theorem d_X3_reach_4 : decode m_X3_reach.2.1 4 = .ok (.sipush 8001, 3) := by decide +kernel
theorem d_X3_reach_7 : decode m_X3_reach.2.1 7 = .ok (.istore 4, 2) := by decide +kernel
theorem d_X3_reach_9 : decode m_X3_reach.2.1 9 = .ok (.iconst 0, 1) := by decide +kernel
theorem d_X3_reach_10 : decode m_X3_reach.2.1 10 = .ok (.istore 5, 2) := by decide +kernel
theorem d_X3_reach_12 : decode m_X3_reach.2.1 12 = .ok (.iload 5, 2) := by decide +kernel
theorem d_X3_reach_14 : decode m_X3_reach.2.1 14 = .ok (.sipush 8000, 3) := by decide +kernel
theorem d_X3_reach_17 : decode m_X3_reach.2.1 17 = .ok (.if_icmp .ge 51, 3) := by decide +kernel
theorem d_X3_reach_20 : decode m_X3_reach.2.1 20 = .ok (.iload_n 3, 1) := by decide +kernel
theorem d_X3_reach_21 : decode m_X3_reach.2.1 21 = .ok (.iload 4, 2) := by decide +kernel
theorem d_X3_reach_23 : decode m_X3_reach.2.1 23 = .ok (.if_icmp .ge 45, 3) := by decide +kernel
theorem d_X3_reach_26 : decode m_X3_reach.2.1 26 = .ok (.iload_n 3, 1) := by decide +kernel
theorem d_X3_reach_27 : decode m_X3_reach.2.1 27 = .ok (.iload 4, 2) := by decide +kernel
theorem d_X3_reach_29 : decode m_X3_reach.2.1 29 = .ok (.iload_n 3, 1) := by decide +kernel
theorem d_X3_reach_30 : decode m_X3_reach.2.1 30 = .ok (.isub, 1) := by decide +kernel
theorem d_X3_reach_31 : decode m_X3_reach.2.1 31 = .ok (.iconst 2, 1) := by decide +kernel
theorem d_X3_reach_32 : decode m_X3_reach.2.1 32 = .ok (.idiv, 1) := by decide +kernel
theorem d_X3_reach_33 : decode m_X3_reach.2.1 33 = .ok (.iadd, 1) := by decide +kernel
theorem d_X3_reach_34 : decode m_X3_reach.2.1 34 = .ok (.istore 6, 2) := by decide +kernel
theorem d_X3_reach_36 : decode m_X3_reach.2.1 36 = .ok (.iload 6, 2) := by decide +kernel
theorem d_X3_reach_38 : decode m_X3_reach.2.1 38 = .ok (.aload_n 0, 1) := by decide +kernel
theorem d_X3_reach_39 : decode m_X3_reach.2.1 39 = .ok (.iload_n 1, 1) := by decide +kernel
theorem d_X3_reach_40 : decode m_X3_reach.2.1 40 = .ok (.iload 6, 2) := by decide +kernel
theorem d_X3_reach_42 : decode m_X3_reach.2.1 42 = .ok (.invokevirtual 28, 3) := by decide +kernel
theorem d_X3_reach_45 : decode m_X3_reach.2.1 45 = .ok (.isub, 1) := by decide +kernel
theorem d_X3_reach_46 : decode m_X3_reach.2.1 46 = .ok (.iload_n 2, 1) := by decide +kernel
theorem d_X3_reach_47 : decode m_X3_reach.2.1 47 = .ok (.if_icmp .lt 10, 3) := by decide +kernel
theorem d_X3_reach_50 : decode m_X3_reach.2.1 50 = .ok (.iload 6, 2) := by decide +kernel
theorem d_X3_reach_52 : decode m_X3_reach.2.1 52 = .ok (.istore 4, 2) := by decide +kernel
theorem d_X3_reach_54 : decode m_X3_reach.2.1 54 = .ok (.goto 8, 3) := by decide +kernel
theorem d_X3_reach_57 : decode m_X3_reach.2.1 57 = .ok (.iload 6, 2) := by decide +kernel
theorem d_X3_reach_59 : decode m_X3_reach.2.1 59 = .ok (.iconst 1, 1) := by decide +kernel
theorem d_X3_reach_60 : decode m_X3_reach.2.1 60 = .ok (.iadd, 1) := by decide +kernel
theorem d_X3_reach_61 : decode m_X3_reach.2.1 61 = .ok (.istore_n 3, 1) := by decide +kernel
theorem d_X3_reach_62 : decode m_X3_reach.2.1 62 = .ok (.iinc 5 1, 3) := by decide +kernel
theorem d_X3_reach_65 : decode m_X3_reach.2.1 65 = .ok (.goto (-53), 3) := by decide +kernel
theorem d_X3_reach_68 : decode m_X3_reach.2.1 68 = .ok (.iload_n 3, 1) := by decide +kernel
theorem d_X3_reach_69 : decode m_X3_reach.2.1 69 = .ok (.sipush 8000, 3) := by decide +kernel
theorem d_X3_reach_72 : decode m_X3_reach.2.1 72 = .ok (.if_icmp .gt 12, 3) := by decide +kernel
theorem d_X3_reach_75 : decode m_X3_reach.2.1 75 = .ok (.aload_n 0, 1) := by decide +kernel
theorem d_X3_reach_76 : decode m_X3_reach.2.1 76 = .ok (.iload_n 1, 1) := by decide +kernel
theorem d_X3_reach_77 : decode m_X3_reach.2.1 77 = .ok (.iload_n 3, 1) := by decide +kernel
theorem d_X3_reach_78 : decode m_X3_reach.2.1 78 = .ok (.invokevirtual 28, 3) := by decide +kernel
theorem d_X3_reach_81 : decode m_X3_reach.2.1 81 = .ok (.ifCond .ne 7, 3) := by decide +kernel
theorem d_X3_reach_84 : decode m_X3_reach.2.1 84 = .ok (.iconst 0, 1) := by decide +kernel
theorem d_X3_reach_85 : decode m_X3_reach.2.1 85 = .ok (.goto 4, 3) := by decide +kernel
theorem d_X3_reach_88 : decode m_X3_reach.2.1 88 = .ok (.iload_n 3, 1) := by decide +kernel
theorem d_X3_reach_89 : decode m_X3_reach.2.1 89 = .ok (.ireturn, 1) := by decide +kernel
theorem d_X3_copyFrom_0 : decode m_X3_copyFrom.2.1 0 = .ok (.aload_n 1, 1) := by decide +kernel
theorem d_X3_copyFrom_1 : decode m_X3_copyFrom.2.1 1 = .ok (.ifnonnull 4, 3) := by decide +kernel
theorem d_X3_copyFrom_4 : decode m_X3_copyFrom.2.1 4 = .ok (.return_, 1) := by decide +kernel
theorem d_X3_copyFrom_5 : decode m_X3_copyFrom.2.1 5 = .ok (.aload_n 1, 1) := by decide +kernel
theorem d_X3_copyFrom_6 : decode m_X3_copyFrom.2.1 6 = .ok (.getfield 9, 3) := by decide +kernel
theorem d_X3_copyFrom_9 : decode m_X3_copyFrom.2.1 9 = .ok (.aload_n 0, 1) := by decide +kernel
theorem d_X3_copyFrom_10 : decode m_X3_copyFrom.2.1 10 = .ok (.getfield 9, 3) := by decide +kernel
theorem d_X3_copyFrom_13 : decode m_X3_copyFrom.2.1 13 = .ok (.iconst 3, 1) := by decide +kernel
theorem d_X3_copyFrom_14 : decode m_X3_copyFrom.2.1 14 = .ok (.invokestatic 31, 3) := by decide +kernel
theorem d_X3_copyFrom_17 : decode m_X3_copyFrom.2.1 17 = .ok (.aload_n 1, 1) := by decide +kernel
theorem d_X3_copyFrom_18 : decode m_X3_copyFrom.2.1 18 = .ok (.getfield 15, 3) := by decide +kernel
theorem d_X3_copyFrom_21 : decode m_X3_copyFrom.2.1 21 = .ok (.aload_n 0, 1) := by decide +kernel
theorem d_X3_copyFrom_22 : decode m_X3_copyFrom.2.1 22 = .ok (.getfield 15, 3) := by decide +kernel
theorem d_X3_copyFrom_25 : decode m_X3_copyFrom.2.1 25 = .ok (.iconst 3, 1) := by decide +kernel
theorem d_X3_copyFrom_26 : decode m_X3_copyFrom.2.1 26 = .ok (.invokestatic 31, 3) := by decide +kernel
theorem d_X3_copyFrom_29 : decode m_X3_copyFrom.2.1 29 = .ok (.return_, 1) := by decide +kernel
theorem d_X4_init_0 : decode m_X4_init.2.1 0 = .ok (.aload_n 0, 1) := by decide +kernel
theorem d_X4_init_1 : decode m_X4_init.2.1 1 = .ok (.invokespecial 5, 3) := by decide +kernel
theorem d_X4_init_4 : decode m_X4_init.2.1 4 = .ok (.aload_n 0, 1) := by decide +kernel
theorem d_X4_init_5 : decode m_X4_init.2.1 5 = .ok (.sipush 7688, 3) := by decide +kernel
theorem d_X4_init_8 : decode m_X4_init.2.1 8 = .ok (.newarray .int, 2) := by decide +kernel
theorem d_X4_init_10 : decode m_X4_init.2.1 10 = .ok (.putfield 11, 3) := by decide +kernel
theorem d_X4_init_13 : decode m_X4_init.2.1 13 = .ok (.return_, 1) := by decide +kernel
theorem d_X4_restart_0 : decode m_X4_restart.2.1 0 = .ok (.aload_n 0, 1) := by decide +kernel
theorem d_X4_restart_1 : decode m_X4_restart.2.1 1 = .ok (.iconst 0, 1) := by decide +kernel
theorem d_X4_restart_2 : decode m_X4_restart.2.1 2 = .ok (.putfield 15, 3) := by decide +kernel
theorem d_X4_restart_5 : decode m_X4_restart.2.1 5 = .ok (.aload_n 1, 1) := by decide +kernel
theorem d_X4_restart_6 : decode m_X4_restart.2.1 6 = .ok (.ifnonnull 4, 3) := by decide +kernel
theorem d_X4_restart_9 : decode m_X4_restart.2.1 9 = .ok (.return_, 1) := by decide +kernel
theorem d_X4_restart_10 : decode m_X4_restart.2.1 10 = .ok (.iconst 0, 1) := by decide +kernel
theorem d_X4_restart_11 : decode m_X4_restart.2.1 11 = .ok (.istore_n 2, 1) := by decide +kernel
theorem d_X4_restart_12 : decode m_X4_restart.2.1 12 = .ok (.iload_n 2, 1) := by decide +kernel
theorem d_X4_restart_13 : decode m_X4_restart.2.1 13 = .ok (.iconst 3, 1) := by decide +kernel
theorem d_X4_restart_14 : decode m_X4_restart.2.1 14 = .ok (.if_icmp .ge 25, 3) := by decide +kernel
theorem d_X4_restart_17 : decode m_X4_restart.2.1 17 = .ok (.aload_n 0, 1) := by decide +kernel
theorem d_X4_restart_18 : decode m_X4_restart.2.1 18 = .ok (.getfield 11, 3) := by decide +kernel
theorem d_X4_restart_21 : decode m_X4_restart.2.1 21 = .ok (.iconst 1, 1) := by decide +kernel
theorem d_X4_restart_22 : decode m_X4_restart.2.1 22 = .ok (.iload_n 2, 1) := by decide +kernel
theorem d_X4_restart_23 : decode m_X4_restart.2.1 23 = .ok (.iadd, 1) := by decide +kernel
theorem d_X4_restart_24 : decode m_X4_restart.2.1 24 = .ok (.aload_n 1, 1) := by decide +kernel
theorem d_X4_restart_25 : decode m_X4_restart.2.1 25 = .ok (.iload_n 2, 1) := by decide +kernel
theorem d_X4_restart_26 : decode m_X4_restart.2.1 26 = .ok (.iconst 0, 1) := by decide +kernel
theorem d_X4_restart_27 : decode m_X4_restart.2.1 27 = .ok (.invokevirtual 19, 3) := by decide +kernel
theorem d_X4_restart_30 : decode m_X4_restart.2.1 30 = .ok (.invokestatic 25, 3) := by decide +kernel
theorem d_X4_restart_33 : decode m_X4_restart.2.1 33 = .ok (.iinc 2 1, 3) := by decide +kernel
theorem d_X4_restart_36 : decode m_X4_restart.2.1 36 = .ok (.goto (-24), 3) := by decide +kernel
theorem d_X4_restart_39 : decode m_X4_restart.2.1 39 = .ok (.return_, 1) := by decide +kernel
theorem d_X4_append_0 : decode m_X4_append.2.1 0 = .ok (.aload_n 0, 1) := by decide +kernel
theorem d_X4_append_1 : decode m_X4_append.2.1 1 = .ok (.getfield 15, 3) := by decide +kernel
theorem d_X4_append_4 : decode m_X4_append.2.1 4 = .ok (.sipush 960, 3) := by decide +kernel
theorem d_X4_append_7 : decode m_X4_append.2.1 7 = .ok (.if_icmp .lt 4, 3) := by decide +kernel
theorem d_X4_append_10 : decode m_X4_append.2.1 10 = .ok (.return_, 1) := by decide +kernel
theorem d_X4_append_11 : decode m_X4_append.2.1 11 = .ok (.aload_n 0, 1) := by decide +kernel
theorem d_X4_append_12 : decode m_X4_append.2.1 12 = .ok (.getfield 15, 3) := by decide +kernel
theorem d_X4_append_15 : decode m_X4_append.2.1 15 = .ok (.bipush 8, 2) := by decide +kernel
theorem d_X4_append_17 : decode m_X4_append.2.1 17 = .ok (.imul, 1) := by decide +kernel
theorem d_X4_append_18 : decode m_X4_append.2.1 18 = .ok (.istore 5, 2) := by decide +kernel
theorem d_X4_append_20 : decode m_X4_append.2.1 20 = .ok (.iload 5, 2) := by decide +kernel
theorem d_X4_append_22 : decode m_X4_append.2.1 22 = .ok (.bipush 8, 2) := by decide +kernel
theorem d_X4_append_24 : decode m_X4_append.2.1 24 = .ok (.iadd, 1) := by decide +kernel
theorem d_X4_append_25 : decode m_X4_append.2.1 25 = .ok (.istore 6, 2) := by decide +kernel
theorem d_X4_append_27 : decode m_X4_append.2.1 27 = .ok (.aload_n 0, 1) := by decide +kernel
theorem d_X4_append_28 : decode m_X4_append.2.1 28 = .ok (.getfield 11, 3) := by decide +kernel
theorem d_X4_append_31 : decode m_X4_append.2.1 31 = .ok (.iload 5, 2) := by decide +kernel
theorem d_X4_append_33 : decode m_X4_append.2.1 33 = .ok (.bipush 7, 2) := by decide +kernel
theorem d_X4_append_35 : decode m_X4_append.2.1 35 = .ok (.iadd, 1) := by decide +kernel
theorem d_X4_append_36 : decode m_X4_append.2.1 36 = .ok (.iload_n 3, 1) := by decide +kernel
theorem d_X4_append_37 : decode m_X4_append.2.1 37 = .ok (.invokestatic 25, 3) := by decide +kernel
theorem d_X4_append_40 : decode m_X4_append.2.1 40 = .ok (.aload_n 0, 1) := by decide +kernel
theorem d_X4_append_41 : decode m_X4_append.2.1 41 = .ok (.getfield 11, 3) := by decide +kernel
theorem d_X4_append_44 : decode m_X4_append.2.1 44 = .ok (.iload 6, 2) := by decide +kernel
theorem d_X4_append_46 : decode m_X4_append.2.1 46 = .ok (.aload_n 0, 1) := by decide +kernel
theorem d_X4_append_47 : decode m_X4_append.2.1 47 = .ok (.getfield 11, 3) := by decide +kernel
theorem d_X4_append_50 : decode m_X4_append.2.1 50 = .ok (.iload 5, 2) := by decide +kernel
theorem d_X4_append_52 : decode m_X4_append.2.1 52 = .ok (.invokestatic 29, 3) := by decide +kernel
theorem d_X4_append_55 : decode m_X4_append.2.1 55 = .ok (.iload_n 1, 1) := by decide +kernel
theorem d_X4_append_56 : decode m_X4_append.2.1 56 = .ok (.iadd, 1) := by decide +kernel
theorem d_X4_append_57 : decode m_X4_append.2.1 57 = .ok (.invokestatic 25, 3) := by decide +kernel
theorem d_X4_append_60 : decode m_X4_append.2.1 60 = .ok (.iconst 0, 1) := by decide +kernel
theorem d_X4_append_61 : decode m_X4_append.2.1 61 = .ok (.istore 7, 2) := by decide +kernel
theorem d_X4_append_63 : decode m_X4_append.2.1 63 = .ok (.iload 7, 2) := by decide +kernel
theorem d_X4_append_65 : decode m_X4_append.2.1 65 = .ok (.iconst 3, 1) := by decide +kernel
theorem d_X4_append_66 : decode m_X4_append.2.1 66 = .ok (.if_icmp .ge 50, 3) := by decide +kernel
theorem d_X4_append_69 : decode m_X4_append.2.1 69 = .ok (.aload_n 0, 1) := by decide +kernel
theorem d_X4_append_70 : decode m_X4_append.2.1 70 = .ok (.getfield 11, 3) := by decide +kernel
theorem d_X4_append_73 : decode m_X4_append.2.1 73 = .ok (.iload 5, 2) := by decide +kernel
theorem d_X4_append_75 : decode m_X4_append.2.1 75 = .ok (.iconst 4, 1) := by decide +kernel
theorem d_X4_append_76 : decode m_X4_append.2.1 76 = .ok (.iadd, 1) := by decide +kernel
theorem d_X4_append_77 : decode m_X4_append.2.1 77 = .ok (.iload 7, 2) := by decide +kernel
theorem d_X4_append_79 : decode m_X4_append.2.1 79 = .ok (.iadd, 1) := by decide +kernel
theorem d_X4_append_80 : decode m_X4_append.2.1 80 = .ok (.aload_n 2, 1) := by decide +kernel
theorem d_X4_append_81 : decode m_X4_append.2.1 81 = .ok (.iload 7, 2) := by decide +kernel
theorem d_X4_append_83 : decode m_X4_append.2.1 83 = .ok (.invokestatic 29, 3) := by decide +kernel
theorem d_X4_append_86 : decode m_X4_append.2.1 86 = .ok (.invokestatic 25, 3) := by decide +kernel
theorem d_X4_append_89 : decode m_X4_append.2.1 89 = .ok (.aload_n 0, 1) := by decide +kernel
theorem d_X4_append_90 : decode m_X4_append.2.1 90 = .ok (.getfield 11, 3) := by decide +kernel
theorem d_X4_append_93 : decode m_X4_append.2.1 93 = .ok (.iload 6, 2) := by decide +kernel
theorem d_X4_append_95 : decode m_X4_append.2.1 95 = .ok (.iconst 1, 1) := by decide +kernel
theorem d_X4_append_96 : decode m_X4_append.2.1 96 = .ok (.iadd, 1) := by decide +kernel
theorem d_X4_append_97 : decode m_X4_append.2.1 97 = .ok (.iload 7, 2) := by decide +kernel
theorem d_X4_append_99 : decode m_X4_append.2.1 99 = .ok (.iadd, 1) := by decide +kernel
theorem d_X4_append_100 : decode m_X4_append.2.1 100 = .ok (.aload 4, 2) := by decide +kernel
theorem d_X4_append_102 : decode m_X4_append.2.1 102 = .ok (.iload 7, 2) := by decide +kernel
theorem d_X4_append_104 : decode m_X4_append.2.1 104 = .ok (.invokestatic 29, 3) := by decide +kernel
theorem d_X4_append_107 : decode m_X4_append.2.1 107 = .ok (.invokestatic 25, 3) := by decide +kernel
theorem d_X4_append_110 : decode m_X4_append.2.1 110 = .ok (.iinc 7 1, 3) := by decide +kernel
theorem d_X4_append_113 : decode m_X4_append.2.1 113 = .ok (.goto (-50), 3) := by decide +kernel
theorem d_X4_append_116 : decode m_X4_append.2.1 116 = .ok (.aload_n 0, 1) := by decide +kernel
theorem d_X4_append_117 : decode m_X4_append.2.1 117 = .ok (.dup, 1) := by decide +kernel
theorem d_X4_append_118 : decode m_X4_append.2.1 118 = .ok (.getfield 15, 3) := by decide +kernel
theorem d_X4_append_121 : decode m_X4_append.2.1 121 = .ok (.iconst 1, 1) := by decide +kernel
theorem d_X4_append_122 : decode m_X4_append.2.1 122 = .ok (.iadd, 1) := by decide +kernel
theorem d_X4_append_123 : decode m_X4_append.2.1 123 = .ok (.putfield 15, 3) := by decide +kernel
theorem d_X4_append_126 : decode m_X4_append.2.1 126 = .ok (.return_, 1) := by decide +kernel
theorem d_X4_endTime_0 : decode m_X4_endTime.2.1 0 = .ok (.aload_n 0, 1) := by decide +kernel
theorem d_X4_endTime_1 : decode m_X4_endTime.2.1 1 = .ok (.aload_n 0, 1) := by decide +kernel
theorem d_X4_endTime_2 : decode m_X4_endTime.2.1 2 = .ok (.getfield 15, 3) := by decide +kernel
theorem d_X4_endTime_5 : decode m_X4_endTime.2.1 5 = .ok (.invokevirtual 33, 3) := by decide +kernel
theorem d_X4_endTime_8 : decode m_X4_endTime.2.1 8 = .ok (.ireturn, 1) := by decide +kernel
theorem d_X4_endValue_0 : decode m_X4_endValue.2.1 0 = .ok (.aload_n 0, 1) := by decide +kernel
theorem d_X4_endValue_1 : decode m_X4_endValue.2.1 1 = .ok (.getfield 11, 3) := by decide +kernel
theorem d_X4_endValue_4 : decode m_X4_endValue.2.1 4 = .ok (.aload_n 0, 1) := by decide +kernel
theorem d_X4_endValue_5 : decode m_X4_endValue.2.1 5 = .ok (.getfield 15, 3) := by decide +kernel
theorem d_X4_endValue_8 : decode m_X4_endValue.2.1 8 = .ok (.bipush 8, 2) := by decide +kernel
theorem d_X4_endValue_10 : decode m_X4_endValue.2.1 10 = .ok (.imul, 1) := by decide +kernel
theorem d_X4_endValue_11 : decode m_X4_endValue.2.1 11 = .ok (.iconst 1, 1) := by decide +kernel
theorem d_X4_endValue_12 : decode m_X4_endValue.2.1 12 = .ok (.iadd, 1) := by decide +kernel
theorem d_X4_endValue_13 : decode m_X4_endValue.2.1 13 = .ok (.iload_n 1, 1) := by decide +kernel
theorem d_X4_endValue_14 : decode m_X4_endValue.2.1 14 = .ok (.iadd, 1) := by decide +kernel
theorem d_X4_endValue_15 : decode m_X4_endValue.2.1 15 = .ok (.invokestatic 29, 3) := by decide +kernel
theorem d_X4_endValue_18 : decode m_X4_endValue.2.1 18 = .ok (.ireturn, 1) := by decide +kernel
theorem d_X4_beginOf_0 : decode m_X4_beginOf.2.1 0 = .ok (.aload_n 0, 1) := by decide +kernel
theorem d_X4_beginOf_1 : decode m_X4_beginOf.2.1 1 = .ok (.getfield 11, 3) := by decide +kernel
theorem d_X4_beginOf_4 : decode m_X4_beginOf.2.1 4 = .ok (.iload_n 1, 1) := by decide +kernel
theorem d_X4_beginOf_5 : decode m_X4_beginOf.2.1 5 = .ok (.bipush 8, 2) := by decide +kernel
theorem d_X4_beginOf_7 : decode m_X4_beginOf.2.1 7 = .ok (.imul, 1) := by decide +kernel
theorem d_X4_beginOf_8 : decode m_X4_beginOf.2.1 8 = .ok (.invokestatic 29, 3) := by decide +kernel
theorem d_X4_beginOf_11 : decode m_X4_beginOf.2.1 11 = .ok (.ireturn, 1) := by decide +kernel
theorem d_X4_endOf_0 : decode m_X4_endOf.2.1 0 = .ok (.aload_n 0, 1) := by decide +kernel
theorem d_X4_endOf_1 : decode m_X4_endOf.2.1 1 = .ok (.getfield 11, 3) := by decide +kernel
theorem d_X4_endOf_4 : decode m_X4_endOf.2.1 4 = .ok (.iload_n 1, 1) := by decide +kernel
theorem d_X4_endOf_5 : decode m_X4_endOf.2.1 5 = .ok (.iconst 1, 1) := by decide +kernel
theorem d_X4_endOf_6 : decode m_X4_endOf.2.1 6 = .ok (.iadd, 1) := by decide +kernel
theorem d_X4_endOf_7 : decode m_X4_endOf.2.1 7 = .ok (.bipush 8, 2) := by decide +kernel
theorem d_X4_endOf_9 : decode m_X4_endOf.2.1 9 = .ok (.imul, 1) := by decide +kernel
theorem d_X4_endOf_10 : decode m_X4_endOf.2.1 10 = .ok (.invokestatic 29, 3) := by decide +kernel
theorem d_X4_endOf_13 : decode m_X4_endOf.2.1 13 = .ok (.ireturn, 1) := by decide +kernel
theorem d_X4_firstSlope_0 : decode m_X4_firstSlope.2.1 0 = .ok (.aload_n 0, 1) := by decide +kernel
theorem d_X4_firstSlope_1 : decode m_X4_firstSlope.2.1 1 = .ok (.getfield 11, 3) := by decide +kernel
theorem d_X4_firstSlope_4 : decode m_X4_firstSlope.2.1 4 = .ok (.iload_n 1, 1) := by decide +kernel
theorem d_X4_firstSlope_5 : decode m_X4_firstSlope.2.1 5 = .ok (.bipush 8, 2) := by decide +kernel
theorem d_X4_firstSlope_7 : decode m_X4_firstSlope.2.1 7 = .ok (.imul, 1) := by decide +kernel
theorem d_X4_firstSlope_8 : decode m_X4_firstSlope.2.1 8 = .ok (.iconst 4, 1) := by decide +kernel
theorem d_X4_firstSlope_9 : decode m_X4_firstSlope.2.1 9 = .ok (.iadd, 1) := by decide +kernel
theorem d_X4_firstSlope_10 : decode m_X4_firstSlope.2.1 10 = .ok (.iload_n 2, 1) := by decide +kernel
theorem d_X4_firstSlope_11 : decode m_X4_firstSlope.2.1 11 = .ok (.iadd, 1) := by decide +kernel
theorem d_X4_firstSlope_12 : decode m_X4_firstSlope.2.1 12 = .ok (.invokestatic 29, 3) := by decide +kernel
theorem d_X4_firstSlope_15 : decode m_X4_firstSlope.2.1 15 = .ok (.ireturn, 1) := by decide +kernel
theorem d_X4_roundsOf_0 : decode m_X4_roundsOf.2.1 0 = .ok (.aload_n 0, 1) := by decide +kernel
theorem d_X4_roundsOf_1 : decode m_X4_roundsOf.2.1 1 = .ok (.getfield 11, 3) := by decide +kernel
theorem d_X4_roundsOf_4 : decode m_X4_roundsOf.2.1 4 = .ok (.iload_n 1, 1) := by decide +kernel
theorem d_X4_roundsOf_5 : decode m_X4_roundsOf.2.1 5 = .ok (.bipush 8, 2) := by decide +kernel
theorem d_X4_roundsOf_7 : decode m_X4_roundsOf.2.1 7 = .ok (.imul, 1) := by decide +kernel
theorem d_X4_roundsOf_8 : decode m_X4_roundsOf.2.1 8 = .ok (.bipush 7, 2) := by decide +kernel
theorem d_X4_roundsOf_10 : decode m_X4_roundsOf.2.1 10 = .ok (.iadd, 1) := by decide +kernel
theorem d_X4_roundsOf_11 : decode m_X4_roundsOf.2.1 11 = .ok (.invokestatic 29, 3) := by decide +kernel
theorem d_X4_roundsOf_14 : decode m_X4_roundsOf.2.1 14 = .ok (.ireturn, 1) := by decide +kernel
theorem d_X4_stepTo_0 : decode m_X4_stepTo.2.1 0 = .ok (.iconst 0, 1) := by decide +kernel
theorem d_X4_stepTo_1 : decode m_X4_stepTo.2.1 1 = .ok (.istore_n 2, 1) := by decide +kernel
theorem d_X4_stepTo_2 : decode m_X4_stepTo.2.1 2 = .ok (.aload_n 0, 1) := by decide +kernel
theorem d_X4_stepTo_3 : decode m_X4_stepTo.2.1 3 = .ok (.getfield 15, 3) := by decide +kernel
theorem d_X4_stepTo_6 : decode m_X4_stepTo.2.1 6 = .ok (.iconst 1, 1) := by decide +kernel
theorem d_X4_stepTo_7 : decode m_X4_stepTo.2.1 7 = .ok (.isub, 1) := by decide +kernel
theorem d_X4_stepTo_8 : decode m_X4_stepTo.2.1 8 = .ok (.istore_n 3, 1) := by decide +kernel
theorem d_X4_stepTo_9 : decode m_X4_stepTo.2.1 9 = .ok (.iconst 0, 1) := by decide +kernel
theorem d_X4_stepTo_10 : decode m_X4_stepTo.2.1 10 = .ok (.istore 4, 2) := by decide +kernel
theorem d_X4_stepTo_12 : decode m_X4_stepTo.2.1 12 = .ok (.iload 4, 2) := by decide +kernel
theorem d_X4_stepTo_14 : decode m_X4_stepTo.2.1 14 = .ok (.sipush 960, 3) := by decide +kernel
theorem d_X4_stepTo_17 : decode m_X4_stepTo.2.1 17 = .ok (.if_icmp .ge 50, 3) := by decide +kernel
theorem d_X4_stepTo_20 : decode m_X4_stepTo.2.1 20 = .ok (.iload_n 2, 1) := by decide +kernel
theorem d_X4_stepTo_21 : decode m_X4_stepTo.2.1 21 = .ok (.iload_n 3, 1) := by decide +kernel
theorem d_X4_stepTo_22 : decode m_X4_stepTo.2.1 22 = .ok (.if_icmp .ge 45, 3) := by decide +kernel
theorem d_X4_stepTo_25 : decode m_X4_stepTo.2.1 25 = .ok (.iload_n 2, 1) := by decide +kernel
theorem d_X4_stepTo_26 : decode m_X4_stepTo.2.1 26 = .ok (.iload_n 3, 1) := by decide +kernel
theorem d_X4_stepTo_27 : decode m_X4_stepTo.2.1 27 = .ok (.iadd, 1) := by decide +kernel
theorem d_X4_stepTo_28 : decode m_X4_stepTo.2.1 28 = .ok (.iconst 2, 1) := by decide +kernel
theorem d_X4_stepTo_29 : decode m_X4_stepTo.2.1 29 = .ok (.idiv, 1) := by decide +kernel
theorem d_X4_stepTo_30 : decode m_X4_stepTo.2.1 30 = .ok (.istore 5, 2) := by decide +kernel
theorem d_X4_stepTo_32 : decode m_X4_stepTo.2.1 32 = .ok (.aload_n 0, 1) := by decide +kernel
theorem d_X4_stepTo_33 : decode m_X4_stepTo.2.1 33 = .ok (.getfield 11, 3) := by decide +kernel
theorem d_X4_stepTo_36 : decode m_X4_stepTo.2.1 36 = .ok (.iload 5, 2) := by decide +kernel
theorem d_X4_stepTo_38 : decode m_X4_stepTo.2.1 38 = .ok (.iconst 1, 1) := by decide +kernel
theorem d_X4_stepTo_39 : decode m_X4_stepTo.2.1 39 = .ok (.iadd, 1) := by decide +kernel
theorem d_X4_stepTo_40 : decode m_X4_stepTo.2.1 40 = .ok (.bipush 8, 2) := by decide +kernel
theorem d_X4_stepTo_42 : decode m_X4_stepTo.2.1 42 = .ok (.imul, 1) := by decide +kernel
theorem d_X4_stepTo_43 : decode m_X4_stepTo.2.1 43 = .ok (.invokestatic 29, 3) := by decide +kernel
theorem d_X4_stepTo_46 : decode m_X4_stepTo.2.1 46 = .ok (.iload_n 1, 1) := by decide +kernel
theorem d_X4_stepTo_47 : decode m_X4_stepTo.2.1 47 = .ok (.if_icmp .lt 9, 3) := by decide +kernel
theorem d_X4_stepTo_50 : decode m_X4_stepTo.2.1 50 = .ok (.iload 5, 2) := by decide +kernel
theorem d_X4_stepTo_52 : decode m_X4_stepTo.2.1 52 = .ok (.istore_n 3, 1) := by decide +kernel
theorem d_X4_stepTo_53 : decode m_X4_stepTo.2.1 53 = .ok (.goto 8, 3) := by decide +kernel
theorem d_X4_stepTo_56 : decode m_X4_stepTo.2.1 56 = .ok (.iload 5, 2) := by decide +kernel
theorem d_X4_stepTo_58 : decode m_X4_stepTo.2.1 58 = .ok (.iconst 1, 1) := by decide +kernel
theorem d_X4_stepTo_59 : decode m_X4_stepTo.2.1 59 = .ok (.iadd, 1) := by decide +kernel
theorem d_X4_stepTo_60 : decode m_X4_stepTo.2.1 60 = .ok (.istore_n 2, 1) := by decide +kernel
theorem d_X4_stepTo_61 : decode m_X4_stepTo.2.1 61 = .ok (.iinc 4 1, 3) := by decide +kernel
theorem d_X4_stepTo_64 : decode m_X4_stepTo.2.1 64 = .ok (.goto (-52), 3) := by decide +kernel
theorem d_X4_stepTo_67 : decode m_X4_stepTo.2.1 67 = .ok (.iload_n 2, 1) := by decide +kernel
theorem d_X4_stepTo_68 : decode m_X4_stepTo.2.1 68 = .ok (.ireturn, 1) := by decide +kernel
theorem d_X4_valueIn_0 : decode m_X4_valueIn.2.1 0 = .ok (.iload_n 1, 1) := by decide +kernel
theorem d_X4_valueIn_1 : decode m_X4_valueIn.2.1 1 = .ok (.bipush 8, 2) := by decide +kernel
theorem d_X4_valueIn_3 : decode m_X4_valueIn.2.1 3 = .ok (.imul, 1) := by decide +kernel
theorem d_X4_valueIn_4 : decode m_X4_valueIn.2.1 4 = .ok (.istore 4, 2) := by decide +kernel
theorem d_X4_valueIn_6 : decode m_X4_valueIn.2.1 6 = .ok (.aload_n 0, 1) := by decide +kernel
theorem d_X4_valueIn_7 : decode m_X4_valueIn.2.1 7 = .ok (.getfield 11, 3) := by decide +kernel
theorem d_X4_valueIn_10 : decode m_X4_valueIn.2.1 10 = .ok (.iload 4, 2) := by decide +kernel
theorem d_X4_valueIn_12 : decode m_X4_valueIn.2.1 12 = .ok (.iconst 1, 1) := by decide +kernel
theorem d_X4_valueIn_13 : decode m_X4_valueIn.2.1 13 = .ok (.iadd, 1) := by decide +kernel
theorem d_X4_valueIn_14 : decode m_X4_valueIn.2.1 14 = .ok (.iload_n 2, 1) := by decide +kernel
theorem d_X4_valueIn_15 : decode m_X4_valueIn.2.1 15 = .ok (.iadd, 1) := by decide +kernel
theorem d_X4_valueIn_16 : decode m_X4_valueIn.2.1 16 = .ok (.invokestatic 29, 3) := by decide +kernel
theorem d_X4_valueIn_19 : decode m_X4_valueIn.2.1 19 = .ok (.i2l, 1) := by decide +kernel
theorem d_X4_valueIn_20 : decode m_X4_valueIn.2.1 20 = .ok (.lstore 5, 2) := by decide +kernel
theorem d_X4_valueIn_22 : decode m_X4_valueIn.2.1 22 = .ok (.iload_n 1, 1) := by decide +kernel
theorem d_X4_valueIn_23 : decode m_X4_valueIn.2.1 23 = .ok (.aload_n 0, 1) := by decide +kernel
theorem d_X4_valueIn_24 : decode m_X4_valueIn.2.1 24 = .ok (.getfield 15, 3) := by decide +kernel
theorem d_X4_valueIn_27 : decode m_X4_valueIn.2.1 27 = .ok (.if_icmp .lt 7, 3) := by decide +kernel
theorem d_X4_valueIn_30 : decode m_X4_valueIn.2.1 30 = .ok (.lload 5, 2) := by decide +kernel
theorem d_X4_valueIn_32 : decode m_X4_valueIn.2.1 32 = .ok (.l2i, 1) := by decide +kernel
theorem d_X4_valueIn_33 : decode m_X4_valueIn.2.1 33 = .ok (.ireturn, 1) := by decide +kernel
theorem d_X4_valueIn_34 : decode m_X4_valueIn.2.1 34 = .ok (.iload_n 3, 1) := by decide +kernel
theorem d_X4_valueIn_35 : decode m_X4_valueIn.2.1 35 = .ok (.aload_n 0, 1) := by decide +kernel
theorem d_X4_valueIn_36 : decode m_X4_valueIn.2.1 36 = .ok (.getfield 11, 3) := by decide +kernel
theorem d_X4_valueIn_39 : decode m_X4_valueIn.2.1 39 = .ok (.iload 4, 2) := by decide +kernel
theorem d_X4_valueIn_41 : decode m_X4_valueIn.2.1 41 = .ok (.invokestatic 29, 3) := by decide +kernel
theorem d_X4_valueIn_44 : decode m_X4_valueIn.2.1 44 = .ok (.isub, 1) := by decide +kernel
theorem d_X4_valueIn_45 : decode m_X4_valueIn.2.1 45 = .ok (.i2l, 1) := by decide +kernel
theorem d_X4_valueIn_46 : decode m_X4_valueIn.2.1 46 = .ok (.lstore 7, 2) := by decide +kernel
theorem d_X4_valueIn_48 : decode m_X4_valueIn.2.1 48 = .ok (.aload_n 0, 1) := by decide +kernel
theorem d_X4_valueIn_49 : decode m_X4_valueIn.2.1 49 = .ok (.getfield 11, 3) := by decide +kernel
theorem d_X4_valueIn_52 : decode m_X4_valueIn.2.1 52 = .ok (.iload 4, 2) := by decide +kernel
theorem d_X4_valueIn_54 : decode m_X4_valueIn.2.1 54 = .ok (.bipush 8, 2) := by decide +kernel
theorem d_X4_valueIn_56 : decode m_X4_valueIn.2.1 56 = .ok (.iadd, 1) := by decide +kernel
theorem d_X4_valueIn_57 : decode m_X4_valueIn.2.1 57 = .ok (.invokestatic 29, 3) := by decide +kernel
theorem d_X4_valueIn_60 : decode m_X4_valueIn.2.1 60 = .ok (.aload_n 0, 1) := by decide +kernel
theorem d_X4_valueIn_61 : decode m_X4_valueIn.2.1 61 = .ok (.getfield 11, 3) := by decide +kernel
theorem d_X4_valueIn_64 : decode m_X4_valueIn.2.1 64 = .ok (.iload 4, 2) := by decide +kernel
theorem d_X4_valueIn_66 : decode m_X4_valueIn.2.1 66 = .ok (.invokestatic 29, 3) := by decide +kernel
theorem d_X4_valueIn_69 : decode m_X4_valueIn.2.1 69 = .ok (.isub, 1) := by decide +kernel
theorem d_X4_valueIn_70 : decode m_X4_valueIn.2.1 70 = .ok (.i2l, 1) := by decide +kernel
theorem d_X4_valueIn_71 : decode m_X4_valueIn.2.1 71 = .ok (.lstore 9, 2) := by decide +kernel
theorem d_X4_valueIn_73 : decode m_X4_valueIn.2.1 73 = .ok (.aload_n 0, 1) := by decide +kernel
theorem d_X4_valueIn_74 : decode m_X4_valueIn.2.1 74 = .ok (.getfield 11, 3) := by decide +kernel
theorem d_X4_valueIn_77 : decode m_X4_valueIn.2.1 77 = .ok (.iload 4, 2) := by decide +kernel
theorem d_X4_valueIn_79 : decode m_X4_valueIn.2.1 79 = .ok (.iconst 4, 1) := by decide +kernel
theorem d_X4_valueIn_80 : decode m_X4_valueIn.2.1 80 = .ok (.iadd, 1) := by decide +kernel
theorem d_X4_valueIn_81 : decode m_X4_valueIn.2.1 81 = .ok (.iload_n 2, 1) := by decide +kernel
theorem d_X4_valueIn_82 : decode m_X4_valueIn.2.1 82 = .ok (.iadd, 1) := by decide +kernel
theorem d_X4_valueIn_83 : decode m_X4_valueIn.2.1 83 = .ok (.invokestatic 29, 3) := by decide +kernel
theorem d_X4_valueIn_86 : decode m_X4_valueIn.2.1 86 = .ok (.i2l, 1) := by decide +kernel
theorem d_X4_valueIn_87 : decode m_X4_valueIn.2.1 87 = .ok (.lload 7, 2) := by decide +kernel
theorem d_X4_valueIn_89 : decode m_X4_valueIn.2.1 89 = .ok (.lmul, 1) := by decide +kernel
theorem d_X4_valueIn_90 : decode m_X4_valueIn.2.1 90 = .ok (.ldc2_w 37, 3) := by decide +kernel
theorem d_X4_valueIn_93 : decode m_X4_valueIn.2.1 93 = .ok (.ldiv, 1) := by decide +kernel
theorem d_X4_valueIn_94 : decode m_X4_valueIn.2.1 94 = .ok (.lstore 11, 2) := by decide +kernel
theorem d_X4_valueIn_96 : decode m_X4_valueIn.2.1 96 = .ok (.aload_n 0, 1) := by decide +kernel
theorem d_X4_valueIn_97 : decode m_X4_valueIn.2.1 97 = .ok (.iload 4, 2) := by decide +kernel
theorem d_X4_valueIn_99 : decode m_X4_valueIn.2.1 99 = .ok (.iload_n 2, 1) := by decide +kernel
theorem d_X4_valueIn_100 : decode m_X4_valueIn.2.1 100 = .ok (.lload 9, 2) := by decide +kernel
theorem d_X4_valueIn_102 : decode m_X4_valueIn.2.1 102 = .ok (.invokevirtual 39, 3) := by decide +kernel
theorem d_X4_valueIn_105 : decode m_X4_valueIn.2.1 105 = .ok (.lload 7, 2) := by decide +kernel
theorem d_X4_valueIn_107 : decode m_X4_valueIn.2.1 107 = .ok (.lmul, 1) := by decide +kernel
theorem d_X4_valueIn_108 : decode m_X4_valueIn.2.1 108 = .ok (.lload 7, 2) := by decide +kernel
theorem d_X4_valueIn_110 : decode m_X4_valueIn.2.1 110 = .ok (.lmul, 1) := by decide +kernel
theorem d_X4_valueIn_111 : decode m_X4_valueIn.2.1 111 = .ok (.lload 9, 2) := by decide +kernel
theorem d_X4_valueIn_113 : decode m_X4_valueIn.2.1 113 = .ok (.lload 9, 2) := by decide +kernel
theorem d_X4_valueIn_115 : decode m_X4_valueIn.2.1 115 = .ok (.lmul, 1) := by decide +kernel
theorem d_X4_valueIn_116 : decode m_X4_valueIn.2.1 116 = .ok (.invokestatic 43, 3) := by decide +kernel
theorem d_X4_valueIn_119 : decode m_X4_valueIn.2.1 119 = .ok (.lstore 13, 2) := by decide +kernel
theorem d_X4_valueIn_121 : decode m_X4_valueIn.2.1 121 = .ok (.lload 5, 2) := by decide +kernel
theorem d_X4_valueIn_123 : decode m_X4_valueIn.2.1 123 = .ok (.lload 11, 2) := by decide +kernel
theorem d_X4_valueIn_125 : decode m_X4_valueIn.2.1 125 = .ok (.ladd, 1) := by decide +kernel
theorem d_X4_valueIn_126 : decode m_X4_valueIn.2.1 126 = .ok (.lload 13, 2) := by decide +kernel
theorem d_X4_valueIn_128 : decode m_X4_valueIn.2.1 128 = .ok (.ladd, 1) := by decide +kernel
theorem d_X4_valueIn_129 : decode m_X4_valueIn.2.1 129 = .ok (.invokestatic 47, 3) := by decide +kernel
theorem d_X4_valueIn_132 : decode m_X4_valueIn.2.1 132 = .ok (.ireturn, 1) := by decide +kernel
theorem d_X4_slopeIn_0 : decode m_X4_slopeIn.2.1 0 = .ok (.iload_n 1, 1) := by decide +kernel
theorem d_X4_slopeIn_1 : decode m_X4_slopeIn.2.1 1 = .ok (.aload_n 0, 1) := by decide +kernel
theorem d_X4_slopeIn_2 : decode m_X4_slopeIn.2.1 2 = .ok (.getfield 15, 3) := by decide +kernel
theorem d_X4_slopeIn_5 : decode m_X4_slopeIn.2.1 5 = .ok (.if_icmp .lt 5, 3) := by decide +kernel
theorem d_X4_slopeIn_8 : decode m_X4_slopeIn.2.1 8 = .ok (.iconst 0, 1) := by decide +kernel
theorem d_X4_slopeIn_9 : decode m_X4_slopeIn.2.1 9 = .ok (.ireturn, 1) := by decide +kernel
theorem d_X4_slopeIn_10 : decode m_X4_slopeIn.2.1 10 = .ok (.iload_n 1, 1) := by decide +kernel
theorem d_X4_slopeIn_11 : decode m_X4_slopeIn.2.1 11 = .ok (.bipush 8, 2) := by decide +kernel
theorem d_X4_slopeIn_13 : decode m_X4_slopeIn.2.1 13 = .ok (.imul, 1) := by decide +kernel
theorem d_X4_slopeIn_14 : decode m_X4_slopeIn.2.1 14 = .ok (.istore 4, 2) := by decide +kernel
theorem d_X4_slopeIn_16 : decode m_X4_slopeIn.2.1 16 = .ok (.iload_n 3, 1) := by decide +kernel
theorem d_X4_slopeIn_17 : decode m_X4_slopeIn.2.1 17 = .ok (.aload_n 0, 1) := by decide +kernel
theorem d_X4_slopeIn_18 : decode m_X4_slopeIn.2.1 18 = .ok (.getfield 11, 3) := by decide +kernel
theorem d_X4_slopeIn_21 : decode m_X4_slopeIn.2.1 21 = .ok (.iload 4, 2) := by decide +kernel
theorem d_X4_slopeIn_23 : decode m_X4_slopeIn.2.1 23 = .ok (.invokestatic 29, 3) := by decide +kernel
theorem d_X4_slopeIn_26 : decode m_X4_slopeIn.2.1 26 = .ok (.isub, 1) := by decide +kernel
theorem d_X4_slopeIn_27 : decode m_X4_slopeIn.2.1 27 = .ok (.i2l, 1) := by decide +kernel
theorem d_X4_slopeIn_28 : decode m_X4_slopeIn.2.1 28 = .ok (.lstore 5, 2) := by decide +kernel
theorem d_X4_slopeIn_30 : decode m_X4_slopeIn.2.1 30 = .ok (.aload_n 0, 1) := by decide +kernel
theorem d_X4_slopeIn_31 : decode m_X4_slopeIn.2.1 31 = .ok (.getfield 11, 3) := by decide +kernel
theorem d_X4_slopeIn_34 : decode m_X4_slopeIn.2.1 34 = .ok (.iload 4, 2) := by decide +kernel
theorem d_X4_slopeIn_36 : decode m_X4_slopeIn.2.1 36 = .ok (.bipush 8, 2) := by decide +kernel
theorem d_X4_slopeIn_38 : decode m_X4_slopeIn.2.1 38 = .ok (.iadd, 1) := by decide +kernel
theorem d_X4_slopeIn_39 : decode m_X4_slopeIn.2.1 39 = .ok (.invokestatic 29, 3) := by decide +kernel
theorem d_X4_slopeIn_42 : decode m_X4_slopeIn.2.1 42 = .ok (.aload_n 0, 1) := by decide +kernel
theorem d_X4_slopeIn_43 : decode m_X4_slopeIn.2.1 43 = .ok (.getfield 11, 3) := by decide +kernel
theorem d_X4_slopeIn_46 : decode m_X4_slopeIn.2.1 46 = .ok (.iload 4, 2) := by decide +kernel
theorem d_X4_slopeIn_48 : decode m_X4_slopeIn.2.1 48 = .ok (.invokestatic 29, 3) := by decide +kernel
theorem d_X4_slopeIn_51 : decode m_X4_slopeIn.2.1 51 = .ok (.isub, 1) := by decide +kernel
theorem d_X4_slopeIn_52 : decode m_X4_slopeIn.2.1 52 = .ok (.i2l, 1) := by decide +kernel
theorem d_X4_slopeIn_53 : decode m_X4_slopeIn.2.1 53 = .ok (.lstore 7, 2) := by decide +kernel
theorem d_X4_slopeIn_55 : decode m_X4_slopeIn.2.1 55 = .ok (.ldc2_w 51, 3) := by decide +kernel
theorem d_X4_slopeIn_58 : decode m_X4_slopeIn.2.1 58 = .ok (.aload_n 0, 1) := by decide +kernel
theorem d_X4_slopeIn_59 : decode m_X4_slopeIn.2.1 59 = .ok (.iload 4, 2) := by decide +kernel
theorem d_X4_slopeIn_61 : decode m_X4_slopeIn.2.1 61 = .ok (.iload_n 2, 1) := by decide +kernel
theorem d_X4_slopeIn_62 : decode m_X4_slopeIn.2.1 62 = .ok (.lload 7, 2) := by decide +kernel
theorem d_X4_slopeIn_64 : decode m_X4_slopeIn.2.1 64 = .ok (.invokevirtual 39, 3) := by decide +kernel
theorem d_X4_slopeIn_67 : decode m_X4_slopeIn.2.1 67 = .ok (.lmul, 1) := by decide +kernel
theorem d_X4_slopeIn_68 : decode m_X4_slopeIn.2.1 68 = .ok (.lload 5, 2) := by decide +kernel
theorem d_X4_slopeIn_70 : decode m_X4_slopeIn.2.1 70 = .ok (.lmul, 1) := by decide +kernel
theorem d_X4_slopeIn_71 : decode m_X4_slopeIn.2.1 71 = .ok (.lstore 9, 2) := by decide +kernel
theorem d_X4_slopeIn_73 : decode m_X4_slopeIn.2.1 73 = .ok (.aload_n 0, 1) := by decide +kernel
theorem d_X4_slopeIn_74 : decode m_X4_slopeIn.2.1 74 = .ok (.getfield 11, 3) := by decide +kernel
theorem d_X4_slopeIn_77 : decode m_X4_slopeIn.2.1 77 = .ok (.iload 4, 2) := by decide +kernel
theorem d_X4_slopeIn_79 : decode m_X4_slopeIn.2.1 79 = .ok (.iconst 4, 1) := by decide +kernel
theorem d_X4_slopeIn_80 : decode m_X4_slopeIn.2.1 80 = .ok (.iadd, 1) := by decide +kernel
theorem d_X4_slopeIn_81 : decode m_X4_slopeIn.2.1 81 = .ok (.iload_n 2, 1) := by decide +kernel
theorem d_X4_slopeIn_82 : decode m_X4_slopeIn.2.1 82 = .ok (.iadd, 1) := by decide +kernel
theorem d_X4_slopeIn_83 : decode m_X4_slopeIn.2.1 83 = .ok (.invokestatic 29, 3) := by decide +kernel
theorem d_X4_slopeIn_86 : decode m_X4_slopeIn.2.1 86 = .ok (.i2l, 1) := by decide +kernel
theorem d_X4_slopeIn_87 : decode m_X4_slopeIn.2.1 87 = .ok (.lload 9, 2) := by decide +kernel
theorem d_X4_slopeIn_89 : decode m_X4_slopeIn.2.1 89 = .ok (.lload 7, 2) := by decide +kernel
theorem d_X4_slopeIn_91 : decode m_X4_slopeIn.2.1 91 = .ok (.lload 7, 2) := by decide +kernel
theorem d_X4_slopeIn_93 : decode m_X4_slopeIn.2.1 93 = .ok (.lmul, 1) := by decide +kernel
theorem d_X4_slopeIn_94 : decode m_X4_slopeIn.2.1 94 = .ok (.invokestatic 43, 3) := by decide +kernel
theorem d_X4_slopeIn_97 : decode m_X4_slopeIn.2.1 97 = .ok (.ladd, 1) := by decide +kernel
theorem d_X4_slopeIn_98 : decode m_X4_slopeIn.2.1 98 = .ok (.invokestatic 47, 3) := by decide +kernel
theorem d_X4_slopeIn_101 : decode m_X4_slopeIn.2.1 101 = .ok (.ireturn, 1) := by decide +kernel
theorem d_X4_bendOf_0 : decode m_X4_bendOf.2.1 0 = .ok (.aload_n 0, 1) := by decide +kernel
theorem d_X4_bendOf_1 : decode m_X4_bendOf.2.1 1 = .ok (.getfield 11, 3) := by decide +kernel
theorem d_X4_bendOf_4 : decode m_X4_bendOf.2.1 4 = .ok (.iload_n 1, 1) := by decide +kernel
theorem d_X4_bendOf_5 : decode m_X4_bendOf.2.1 5 = .ok (.bipush 8, 2) := by decide +kernel
theorem d_X4_bendOf_7 : decode m_X4_bendOf.2.1 7 = .ok (.iadd, 1) := by decide +kernel
theorem d_X4_bendOf_8 : decode m_X4_bendOf.2.1 8 = .ok (.iconst 1, 1) := by decide +kernel
theorem d_X4_bendOf_9 : decode m_X4_bendOf.2.1 9 = .ok (.iadd, 1) := by decide +kernel
theorem d_X4_bendOf_10 : decode m_X4_bendOf.2.1 10 = .ok (.iload_n 2, 1) := by decide +kernel
theorem d_X4_bendOf_11 : decode m_X4_bendOf.2.1 11 = .ok (.iadd, 1) := by decide +kernel
theorem d_X4_bendOf_12 : decode m_X4_bendOf.2.1 12 = .ok (.invokestatic 29, 3) := by decide +kernel
theorem d_X4_bendOf_15 : decode m_X4_bendOf.2.1 15 = .ok (.i2l, 1) := by decide +kernel
theorem d_X4_bendOf_16 : decode m_X4_bendOf.2.1 16 = .ok (.aload_n 0, 1) := by decide +kernel
theorem d_X4_bendOf_17 : decode m_X4_bendOf.2.1 17 = .ok (.getfield 11, 3) := by decide +kernel
theorem d_X4_bendOf_20 : decode m_X4_bendOf.2.1 20 = .ok (.iload_n 1, 1) := by decide +kernel
theorem d_X4_bendOf_21 : decode m_X4_bendOf.2.1 21 = .ok (.iconst 1, 1) := by decide +kernel
theorem d_X4_bendOf_22 : decode m_X4_bendOf.2.1 22 = .ok (.iadd, 1) := by decide +kernel
theorem d_X4_bendOf_23 : decode m_X4_bendOf.2.1 23 = .ok (.iload_n 2, 1) := by decide +kernel
theorem d_X4_bendOf_24 : decode m_X4_bendOf.2.1 24 = .ok (.iadd, 1) := by decide +kernel
theorem d_X4_bendOf_25 : decode m_X4_bendOf.2.1 25 = .ok (.invokestatic 29, 3) := by decide +kernel
theorem d_X4_bendOf_28 : decode m_X4_bendOf.2.1 28 = .ok (.i2l, 1) := by decide +kernel
theorem d_X4_bendOf_29 : decode m_X4_bendOf.2.1 29 = .ok (.lsub, 1) := by decide +kernel
theorem d_X4_bendOf_30 : decode m_X4_bendOf.2.1 30 = .ok (.lstore 5, 2) := by decide +kernel
theorem d_X4_bendOf_32 : decode m_X4_bendOf.2.1 32 = .ok (.lload 5, 2) := by decide +kernel
theorem d_X4_bendOf_34 : decode m_X4_bendOf.2.1 34 = .ok (.aload_n 0, 1) := by decide +kernel
theorem d_X4_bendOf_35 : decode m_X4_bendOf.2.1 35 = .ok (.getfield 11, 3) := by decide +kernel
theorem d_X4_bendOf_38 : decode m_X4_bendOf.2.1 38 = .ok (.iload_n 1, 1) := by decide +kernel
theorem d_X4_bendOf_39 : decode m_X4_bendOf.2.1 39 = .ok (.iconst 4, 1) := by decide +kernel
theorem d_X4_bendOf_40 : decode m_X4_bendOf.2.1 40 = .ok (.iadd, 1) := by decide +kernel
theorem d_X4_bendOf_41 : decode m_X4_bendOf.2.1 41 = .ok (.iload_n 2, 1) := by decide +kernel
theorem d_X4_bendOf_42 : decode m_X4_bendOf.2.1 42 = .ok (.iadd, 1) := by decide +kernel
theorem d_X4_bendOf_43 : decode m_X4_bendOf.2.1 43 = .ok (.invokestatic 29, 3) := by decide +kernel
theorem d_X4_bendOf_46 : decode m_X4_bendOf.2.1 46 = .ok (.i2l, 1) := by decide +kernel
theorem d_X4_bendOf_47 : decode m_X4_bendOf.2.1 47 = .ok (.lload_n 3, 1) := by decide +kernel
theorem d_X4_bendOf_48 : decode m_X4_bendOf.2.1 48 = .ok (.lmul, 1) := by decide +kernel
theorem d_X4_bendOf_49 : decode m_X4_bendOf.2.1 49 = .ok (.ldc2_w 37, 3) := by decide +kernel
theorem d_X4_bendOf_52 : decode m_X4_bendOf.2.1 52 = .ok (.ldiv, 1) := by decide +kernel
theorem d_X4_bendOf_53 : decode m_X4_bendOf.2.1 53 = .ok (.lsub, 1) := by decide +kernel
theorem d_X4_bendOf_54 : decode m_X4_bendOf.2.1 54 = .ok (.lreturn, 1) := by decide +kernel
theorem d_X4_copyFrom_0 : decode m_X4_copyFrom.2.1 0 = .ok (.aload_n 1, 1) := by decide +kernel
theorem d_X4_copyFrom_1 : decode m_X4_copyFrom.2.1 1 = .ok (.ifnonnull 4, 3) := by decide +kernel
theorem d_X4_copyFrom_4 : decode m_X4_copyFrom.2.1 4 = .ok (.return_, 1) := by decide +kernel
theorem d_X4_copyFrom_5 : decode m_X4_copyFrom.2.1 5 = .ok (.aload_n 0, 1) := by decide +kernel
theorem d_X4_copyFrom_6 : decode m_X4_copyFrom.2.1 6 = .ok (.aload_n 1, 1) := by decide +kernel
theorem d_X4_copyFrom_7 : decode m_X4_copyFrom.2.1 7 = .ok (.getfield 15, 3) := by decide +kernel
theorem d_X4_copyFrom_10 : decode m_X4_copyFrom.2.1 10 = .ok (.putfield 15, 3) := by decide +kernel
theorem d_X4_copyFrom_13 : decode m_X4_copyFrom.2.1 13 = .ok (.aload_n 1, 1) := by decide +kernel
theorem d_X4_copyFrom_14 : decode m_X4_copyFrom.2.1 14 = .ok (.getfield 11, 3) := by decide +kernel
theorem d_X4_copyFrom_17 : decode m_X4_copyFrom.2.1 17 = .ok (.aload_n 0, 1) := by decide +kernel
theorem d_X4_copyFrom_18 : decode m_X4_copyFrom.2.1 18 = .ok (.getfield 11, 3) := by decide +kernel
theorem d_X4_copyFrom_21 : decode m_X4_copyFrom.2.1 21 = .ok (.aload_n 0, 1) := by decide +kernel
theorem d_X4_copyFrom_22 : decode m_X4_copyFrom.2.1 22 = .ok (.getfield 15, 3) := by decide +kernel
theorem d_X4_copyFrom_25 : decode m_X4_copyFrom.2.1 25 = .ok (.iconst 1, 1) := by decide +kernel
theorem d_X4_copyFrom_26 : decode m_X4_copyFrom.2.1 26 = .ok (.iadd, 1) := by decide +kernel
theorem d_X4_copyFrom_27 : decode m_X4_copyFrom.2.1 27 = .ok (.bipush 8, 2) := by decide +kernel
theorem d_X4_copyFrom_29 : decode m_X4_copyFrom.2.1 29 = .ok (.imul, 1) := by decide +kernel
theorem d_X4_copyFrom_30 : decode m_X4_copyFrom.2.1 30 = .ok (.invokestatic 53, 3) := by decide +kernel
theorem d_X4_copyFrom_33 : decode m_X4_copyFrom.2.1 33 = .ok (.return_, 1) := by decide +kernel
theorem d_X5_init_0 : decode m_X5_init.2.1 0 = .ok (.aload_n 0, 1) := by decide +kernel
theorem d_X5_init_1 : decode m_X5_init.2.1 1 = .ok (.invokespecial 3, 3) := by decide +kernel
theorem d_X5_init_4 : decode m_X5_init.2.1 4 = .ok (.aload_n 0, 1) := by decide +kernel
theorem d_X5_init_5 : decode m_X5_init.2.1 5 = .ok (.sipush 240, 3) := by decide +kernel
theorem d_X5_init_8 : decode m_X5_init.2.1 8 = .ok (.newarray .int, 2) := by decide +kernel
theorem d_X5_init_10 : decode m_X5_init.2.1 10 = .ok (.putfield 9, 3) := by decide +kernel
theorem d_X5_init_13 : decode m_X5_init.2.1 13 = .ok (.aload_n 0, 1) := by decide +kernel
theorem d_X5_init_14 : decode m_X5_init.2.1 14 = .ok (.iconst 3, 1) := by decide +kernel
theorem d_X5_init_15 : decode m_X5_init.2.1 15 = .ok (.newarray .int, 2) := by decide +kernel
theorem d_X5_init_17 : decode m_X5_init.2.1 17 = .ok (.putfield 15, 3) := by decide +kernel
theorem d_X5_init_20 : decode m_X5_init.2.1 20 = .ok (.aload_n 0, 1) := by decide +kernel
theorem d_X5_init_21 : decode m_X5_init.2.1 21 = .ok (.iconst 3, 1) := by decide +kernel
theorem d_X5_init_22 : decode m_X5_init.2.1 22 = .ok (.newarray .int, 2) := by decide +kernel
theorem d_X5_init_24 : decode m_X5_init.2.1 24 = .ok (.putfield 18, 3) := by decide +kernel
theorem d_X5_init_27 : decode m_X5_init.2.1 27 = .ok (.return_, 1) := by decide +kernel
theorem d_X5_take_0 : decode m_X5_take.2.1 0 = .ok (.aload_n 2, 1) := by decide +kernel
theorem d_X5_take_1 : decode m_X5_take.2.1 1 = .ok (.ifnonnull 4, 3) := by decide +kernel
theorem d_X5_take_4 : decode m_X5_take.2.1 4 = .ok (.return_, 1) := by decide +kernel
theorem d_X5_take_5 : decode m_X5_take.2.1 5 = .ok (.aload_n 0, 1) := by decide +kernel
theorem d_X5_take_6 : decode m_X5_take.2.1 6 = .ok (.getfield 15, 3) := by decide +kernel
theorem d_X5_take_9 : decode m_X5_take.2.1 9 = .ok (.iload_n 1, 1) := by decide +kernel
theorem d_X5_take_10 : decode m_X5_take.2.1 10 = .ok (.aload_n 2, 1) := by decide +kernel
theorem d_X5_take_11 : decode m_X5_take.2.1 11 = .ok (.getfield 21, 3) := by decide +kernel
theorem d_X5_take_14 : decode m_X5_take.2.1 14 = .ok (.invokestatic 27, 3) := by decide +kernel
theorem d_X5_take_17 : decode m_X5_take.2.1 17 = .ok (.aload_n 0, 1) := by decide +kernel
theorem d_X5_take_18 : decode m_X5_take.2.1 18 = .ok (.getfield 18, 3) := by decide +kernel
theorem d_X5_take_21 : decode m_X5_take.2.1 21 = .ok (.iload_n 1, 1) := by decide +kernel
theorem d_X5_take_22 : decode m_X5_take.2.1 22 = .ok (.aload_n 2, 1) := by decide +kernel
theorem d_X5_take_23 : decode m_X5_take.2.1 23 = .ok (.getfield 31, 3) := by decide +kernel
theorem d_X5_take_26 : decode m_X5_take.2.1 26 = .ok (.invokestatic 27, 3) := by decide +kernel
theorem d_X5_take_29 : decode m_X5_take.2.1 29 = .ok (.iconst 0, 1) := by decide +kernel
theorem d_X5_take_30 : decode m_X5_take.2.1 30 = .ok (.istore_n 3, 1) := by decide +kernel
theorem d_X5_take_31 : decode m_X5_take.2.1 31 = .ok (.iload_n 3, 1) := by decide +kernel
theorem d_X5_take_32 : decode m_X5_take.2.1 32 = .ok (.bipush 80, 2) := by decide +kernel
theorem d_X5_take_34 : decode m_X5_take.2.1 34 = .ok (.if_icmp .ge 30, 3) := by decide +kernel
theorem d_X5_take_37 : decode m_X5_take.2.1 37 = .ok (.aload_n 0, 1) := by decide +kernel
theorem d_X5_take_38 : decode m_X5_take.2.1 38 = .ok (.getfield 9, 3) := by decide +kernel
theorem d_X5_take_41 : decode m_X5_take.2.1 41 = .ok (.iload_n 1, 1) := by decide +kernel
theorem d_X5_take_42 : decode m_X5_take.2.1 42 = .ok (.bipush 80, 2) := by decide +kernel
theorem d_X5_take_44 : decode m_X5_take.2.1 44 = .ok (.imul, 1) := by decide +kernel
theorem d_X5_take_45 : decode m_X5_take.2.1 45 = .ok (.iload_n 3, 1) := by decide +kernel
theorem d_X5_take_46 : decode m_X5_take.2.1 46 = .ok (.iadd, 1) := by decide +kernel
theorem d_X5_take_47 : decode m_X5_take.2.1 47 = .ok (.aload_n 2, 1) := by decide +kernel
theorem d_X5_take_48 : decode m_X5_take.2.1 48 = .ok (.getfield 34, 3) := by decide +kernel
theorem d_X5_take_51 : decode m_X5_take.2.1 51 = .ok (.iload_n 3, 1) := by decide +kernel
theorem d_X5_take_52 : decode m_X5_take.2.1 52 = .ok (.invokestatic 37, 3) := by decide +kernel
theorem d_X5_take_55 : decode m_X5_take.2.1 55 = .ok (.invokestatic 27, 3) := by decide +kernel
theorem d_X5_take_58 : decode m_X5_take.2.1 58 = .ok (.iinc 3 1, 3) := by decide +kernel
theorem d_X5_take_61 : decode m_X5_take.2.1 61 = .ok (.goto (-30), 3) := by decide +kernel
theorem d_X5_take_64 : decode m_X5_take.2.1 64 = .ok (.return_, 1) := by decide +kernel
theorem d_X5_allOperands_0 : decode m_X5_allOperands.2.1 0 = .ok (.iconst 0, 1) := by decide +kernel
theorem d_X5_allOperands_1 : decode m_X5_allOperands.2.1 1 = .ok (.istore_n 1, 1) := by decide +kernel
theorem d_X5_allOperands_2 : decode m_X5_allOperands.2.1 2 = .ok (.iconst 0, 1) := by decide +kernel
theorem d_X5_allOperands_3 : decode m_X5_allOperands.2.1 3 = .ok (.istore_n 2, 1) := by decide +kernel
theorem d_X5_allOperands_4 : decode m_X5_allOperands.2.1 4 = .ok (.iload_n 2, 1) := by decide +kernel
theorem d_X5_allOperands_5 : decode m_X5_allOperands.2.1 5 = .ok (.iconst 3, 1) := by decide +kernel
theorem d_X5_allOperands_6 : decode m_X5_allOperands.2.1 6 = .ok (.if_icmp .ge 20, 3) := by decide +kernel
theorem d_X5_allOperands_9 : decode m_X5_allOperands.2.1 9 = .ok (.iload_n 1, 1) := by decide +kernel
theorem d_X5_allOperands_10 : decode m_X5_allOperands.2.1 10 = .ok (.aload_n 0, 1) := by decide +kernel
theorem d_X5_allOperands_11 : decode m_X5_allOperands.2.1 11 = .ok (.getfield 18, 3) := by decide +kernel
theorem d_X5_allOperands_14 : decode m_X5_allOperands.2.1 14 = .ok (.iload_n 2, 1) := by decide +kernel
theorem d_X5_allOperands_15 : decode m_X5_allOperands.2.1 15 = .ok (.invokestatic 37, 3) := by decide +kernel
theorem d_X5_allOperands_18 : decode m_X5_allOperands.2.1 18 = .ok (.ior, 1) := by decide +kernel
theorem d_X5_allOperands_19 : decode m_X5_allOperands.2.1 19 = .ok (.istore_n 1, 1) := by decide +kernel
theorem d_X5_allOperands_20 : decode m_X5_allOperands.2.1 20 = .ok (.iinc 2 1, 3) := by decide +kernel
theorem d_X5_allOperands_23 : decode m_X5_allOperands.2.1 23 = .ok (.goto (-19), 3) := by decide +kernel
theorem d_X5_allOperands_26 : decode m_X5_allOperands.2.1 26 = .ok (.iload_n 1, 1) := by decide +kernel
theorem d_X5_allOperands_27 : decode m_X5_allOperands.2.1 27 = .ok (.ireturn, 1) := by decide +kernel
theorem d_X5_workOut_0 : decode m_X5_workOut.2.1 0 = .ok (.bipush 80, 2) := by decide +kernel
theorem d_X5_workOut_2 : decode m_X5_workOut.2.1 2 = .ok (.aload_n 0, 1) := by decide +kernel
theorem d_X5_workOut_3 : decode m_X5_workOut.2.1 3 = .ok (.getfield 15, 3) := by decide +kernel
theorem d_X5_workOut_6 : decode m_X5_workOut.2.1 6 = .ok (.iload_n 1, 1) := by decide +kernel
theorem d_X5_workOut_7 : decode m_X5_workOut.2.1 7 = .ok (.invokestatic 37, 3) := by decide +kernel
theorem d_X5_workOut_10 : decode m_X5_workOut.2.1 10 = .ok (.invokestatic 41, 3) := by decide +kernel
theorem d_X5_workOut_13 : decode m_X5_workOut.2.1 13 = .ok (.istore 4, 2) := by decide +kernel
theorem d_X5_workOut_15 : decode m_X5_workOut.2.1 15 = .ok (.iconst 0, 1) := by decide +kernel
theorem d_X5_workOut_16 : decode m_X5_workOut.2.1 16 = .ok (.istore 5, 2) := by decide +kernel
theorem d_X5_workOut_18 : decode m_X5_workOut.2.1 18 = .ok (.iconst 0, 1) := by decide +kernel
theorem d_X5_workOut_19 : decode m_X5_workOut.2.1 19 = .ok (.istore 6, 2) := by decide +kernel
theorem d_X5_workOut_21 : decode m_X5_workOut.2.1 21 = .ok (.iload 6, 2) := by decide +kernel
theorem d_X5_workOut_23 : decode m_X5_workOut.2.1 23 = .ok (.iload 4, 2) := by decide +kernel
theorem d_X5_workOut_25 : decode m_X5_workOut.2.1 25 = .ok (.if_icmp .ge 144, 3) := by decide +kernel
theorem d_X5_workOut_28 : decode m_X5_workOut.2.1 28 = .ok (.aload_n 0, 1) := by decide +kernel
theorem d_X5_workOut_29 : decode m_X5_workOut.2.1 29 = .ok (.getfield 9, 3) := by decide +kernel
theorem d_X5_workOut_32 : decode m_X5_workOut.2.1 32 = .ok (.iload_n 1, 1) := by decide +kernel
theorem d_X5_workOut_33 : decode m_X5_workOut.2.1 33 = .ok (.bipush 80, 2) := by decide +kernel
theorem d_X5_workOut_35 : decode m_X5_workOut.2.1 35 = .ok (.imul, 1) := by decide +kernel
theorem d_X5_workOut_36 : decode m_X5_workOut.2.1 36 = .ok (.iload 6, 2) := by decide +kernel
theorem d_X5_workOut_38 : decode m_X5_workOut.2.1 38 = .ok (.iadd, 1) := by decide +kernel
theorem d_X5_workOut_39 : decode m_X5_workOut.2.1 39 = .ok (.invokestatic 37, 3) := by decide +kernel
theorem d_X5_workOut_42 : decode m_X5_workOut.2.1 42 = .ok (.istore 7, 2) := by decide +kernel
theorem d_X5_workOut_44 : decode m_X5_workOut.2.1 44 = .ok (.iload 7, 2) := by decide +kernel
theorem d_X5_workOut_46 : decode m_X5_workOut.2.1 46 = .ok (.bipush 15, 2) := by decide +kernel
theorem d_X5_workOut_48 : decode m_X5_workOut.2.1 48 = .ok (.iand, 1) := by decide +kernel
theorem d_X5_workOut_49 : decode m_X5_workOut.2.1 49 = .ok (.istore 8, 2) := by decide +kernel
theorem d_X5_workOut_51 : decode m_X5_workOut.2.1 51 = .ok (.iload 7, 2) := by decide +kernel
theorem d_X5_workOut_53 : decode m_X5_workOut.2.1 53 = .ok (.iconst 4, 1) := by decide +kernel
theorem d_X5_workOut_54 : decode m_X5_workOut.2.1 54 = .ok (.ishr, 1) := by decide +kernel
theorem d_X5_workOut_55 : decode m_X5_workOut.2.1 55 = .ok (.istore 9, 2) := by decide +kernel
theorem d_X5_workOut_57 : decode m_X5_workOut.2.1 57 = .ok (.iload 8, 2) := by decide +kernel
theorem d_X5_workOut_59 : decode m_X5_workOut.2.1 59 = .ok (.ifCond .eq 9, 3) := by decide +kernel
theorem d_X5_workOut_62 : decode m_X5_workOut.2.1 62 = .ok (.iload 8, 2) := by decide +kernel
theorem d_X5_workOut_64 : decode m_X5_workOut.2.1 64 = .ok (.iconst 1, 1) := by decide +kernel
theorem d_X5_workOut_65 : decode m_X5_workOut.2.1 65 = .ok (.if_icmp .ne 31, 3) := by decide +kernel
theorem d_X5_workOut_68 : decode m_X5_workOut.2.1 68 = .ok (.aload_n 3, 1) := by decide +kernel
theorem d_X5_workOut_69 : decode m_X5_workOut.2.1 69 = .ok (.iload 5, 2) := by decide +kernel
theorem d_X5_workOut_71 : decode m_X5_workOut.2.1 71 = .ok (.iload 8, 2) := by decide +kernel
theorem d_X5_workOut_73 : decode m_X5_workOut.2.1 73 = .ok (.ifCond .ne 8, 3) := by decide +kernel
theorem d_X5_workOut_76 : decode m_X5_workOut.2.1 76 = .ok (.iload 9, 2) := by decide +kernel
theorem d_X5_workOut_78 : decode m_X5_workOut.2.1 78 = .ok (.goto 9, 3) := by decide +kernel
theorem d_X5_workOut_81 : decode m_X5_workOut.2.1 81 = .ok (.aload_n 2, 1) := by decide +kernel
theorem d_X5_workOut_82 : decode m_X5_workOut.2.1 82 = .ok (.iload 9, 2) := by decide +kernel
theorem d_X5_workOut_84 : decode m_X5_workOut.2.1 84 = .ok (.invokestatic 37, 3) := by decide +kernel
theorem d_X5_workOut_87 : decode m_X5_workOut.2.1 87 = .ok (.invokestatic 27, 3) := by decide +kernel
theorem d_X5_workOut_90 : decode m_X5_workOut.2.1 90 = .ok (.iinc 5 1, 3) := by decide +kernel
theorem d_X5_workOut_93 : decode m_X5_workOut.2.1 93 = .ok (.goto 70, 3) := by decide +kernel
theorem d_X5_workOut_96 : decode m_X5_workOut.2.1 96 = .ok (.iload 8, 2) := by decide +kernel
theorem d_X5_workOut_98 : decode m_X5_workOut.2.1 98 = .ok (.bipush 6, 2) := by decide +kernel
theorem d_X5_workOut_100 : decode m_X5_workOut.2.1 100 = .ok (.if_icmp .ne 27, 3) := by decide +kernel
theorem d_X5_workOut_103 : decode m_X5_workOut.2.1 103 = .ok (.aload_n 3, 1) := by decide +kernel
theorem d_X5_workOut_104 : decode m_X5_workOut.2.1 104 = .ok (.iload 5, 2) := by decide +kernel
theorem d_X5_workOut_106 : decode m_X5_workOut.2.1 106 = .ok (.iconst 1, 1) := by decide +kernel
theorem d_X5_workOut_107 : decode m_X5_workOut.2.1 107 = .ok (.isub, 1) := by decide +kernel
theorem d_X5_workOut_108 : decode m_X5_workOut.2.1 108 = .ok (.aload_n 3, 1) := by decide +kernel
theorem d_X5_workOut_109 : decode m_X5_workOut.2.1 109 = .ok (.iload 5, 2) := by decide +kernel
theorem d_X5_workOut_111 : decode m_X5_workOut.2.1 111 = .ok (.iconst 1, 1) := by decide +kernel
theorem d_X5_workOut_112 : decode m_X5_workOut.2.1 112 = .ok (.isub, 1) := by decide +kernel
theorem d_X5_workOut_113 : decode m_X5_workOut.2.1 113 = .ok (.invokestatic 37, 3) := by decide +kernel
theorem d_X5_workOut_116 : decode m_X5_workOut.2.1 116 = .ok (.i2l, 1) := by decide +kernel
theorem d_X5_workOut_117 : decode m_X5_workOut.2.1 117 = .ok (.lneg, 1) := by decide +kernel
theorem d_X5_workOut_118 : decode m_X5_workOut.2.1 118 = .ok (.invokestatic 47, 3) := by decide +kernel
theorem d_X5_workOut_121 : decode m_X5_workOut.2.1 121 = .ok (.invokestatic 27, 3) := by decide +kernel
theorem d_X5_workOut_124 : decode m_X5_workOut.2.1 124 = .ok (.goto 39, 3) := by decide +kernel
theorem d_X5_workOut_127 : decode m_X5_workOut.2.1 127 = .ok (.iinc 5 (-1), 3) := by decide +kernel
theorem d_X5_workOut_130 : decode m_X5_workOut.2.1 130 = .ok (.iload 8, 2) := by decide +kernel
theorem d_X5_workOut_132 : decode m_X5_workOut.2.1 132 = .ok (.aload_n 3, 1) := by decide +kernel
theorem d_X5_workOut_133 : decode m_X5_workOut.2.1 133 = .ok (.iload 5, 2) := by decide +kernel
theorem d_X5_workOut_135 : decode m_X5_workOut.2.1 135 = .ok (.iconst 1, 1) := by decide +kernel
theorem d_X5_workOut_136 : decode m_X5_workOut.2.1 136 = .ok (.isub, 1) := by decide +kernel
theorem d_X5_workOut_137 : decode m_X5_workOut.2.1 137 = .ok (.invokestatic 37, 3) := by decide +kernel
theorem d_X5_workOut_140 : decode m_X5_workOut.2.1 140 = .ok (.i2l, 1) := by decide +kernel
theorem d_X5_workOut_141 : decode m_X5_workOut.2.1 141 = .ok (.aload_n 3, 1) := by decide +kernel
theorem d_X5_workOut_142 : decode m_X5_workOut.2.1 142 = .ok (.iload 5, 2) := by decide +kernel
theorem d_X5_workOut_144 : decode m_X5_workOut.2.1 144 = .ok (.invokestatic 37, 3) := by decide +kernel
theorem d_X5_workOut_147 : decode m_X5_workOut.2.1 147 = .ok (.i2l, 1) := by decide +kernel
theorem d_X5_workOut_148 : decode m_X5_workOut.2.1 148 = .ok (.invokestatic 51, 3) := by decide +kernel
theorem d_X5_workOut_151 : decode m_X5_workOut.2.1 151 = .ok (.istore 10, 2) := by decide +kernel
theorem d_X5_workOut_153 : decode m_X5_workOut.2.1 153 = .ok (.aload_n 3, 1) := by decide +kernel
theorem d_X5_workOut_154 : decode m_X5_workOut.2.1 154 = .ok (.iload 5, 2) := by decide +kernel
theorem d_X5_workOut_156 : decode m_X5_workOut.2.1 156 = .ok (.iconst 1, 1) := by decide +kernel
theorem d_X5_workOut_157 : decode m_X5_workOut.2.1 157 = .ok (.isub, 1) := by decide +kernel
theorem d_X5_workOut_158 : decode m_X5_workOut.2.1 158 = .ok (.iload 10, 2) := by decide +kernel
theorem d_X5_workOut_160 : decode m_X5_workOut.2.1 160 = .ok (.invokestatic 27, 3) := by decide +kernel
theorem d_X5_workOut_163 : decode m_X5_workOut.2.1 163 = .ok (.iinc 6 1, 3) := by decide +kernel
theorem d_X5_workOut_166 : decode m_X5_workOut.2.1 166 = .ok (.goto (-145), 3) := by decide +kernel
theorem d_X5_workOut_169 : decode m_X5_workOut.2.1 169 = .ok (.iload 5, 2) := by decide +kernel
theorem d_X5_workOut_171 : decode m_X5_workOut.2.1 171 = .ok (.iconst 1, 1) := by decide +kernel
theorem d_X5_workOut_172 : decode m_X5_workOut.2.1 172 = .ok (.if_icmp .ne 11, 3) := by decide +kernel
theorem d_X5_workOut_175 : decode m_X5_workOut.2.1 175 = .ok (.aload_n 3, 1) := by decide +kernel
theorem d_X5_workOut_176 : decode m_X5_workOut.2.1 176 = .ok (.iconst 0, 1) := by decide +kernel
theorem d_X5_workOut_177 : decode m_X5_workOut.2.1 177 = .ok (.invokestatic 37, 3) := by decide +kernel
theorem d_X5_workOut_180 : decode m_X5_workOut.2.1 180 = .ok (.goto 4, 3) := by decide +kernel
theorem d_X5_workOut_183 : decode m_X5_workOut.2.1 183 = .ok (.iconst 0, 1) := by decide +kernel
theorem d_X5_workOut_184 : decode m_X5_workOut.2.1 184 = .ok (.ireturn, 1) := by decide +kernel
theorem d_X5_join_0 : decode m_X5_join.2.1 0 = .ok (.iload_n 0, 1) := by decide +kernel
theorem d_X5_join_1 : decode m_X5_join.2.1 1 = .ok (.tableswitch 84 2 7 #[39, 46, 53, 64, 84, 77], 39) := by decide +kernel
theorem d_X5_join_40 : decode m_X5_join.2.1 40 = .ok (.lload_n 1, 1) := by decide +kernel
theorem d_X5_join_41 : decode m_X5_join.2.1 41 = .ok (.lload_n 3, 1) := by decide +kernel
theorem d_X5_join_42 : decode m_X5_join.2.1 42 = .ok (.ladd, 1) := by decide +kernel
theorem d_X5_join_43 : decode m_X5_join.2.1 43 = .ok (.invokestatic 47, 3) := by decide +kernel
theorem d_X5_join_46 : decode m_X5_join.2.1 46 = .ok (.ireturn, 1) := by decide +kernel
theorem d_X5_join_47 : decode m_X5_join.2.1 47 = .ok (.lload_n 1, 1) := by decide +kernel
theorem d_X5_join_48 : decode m_X5_join.2.1 48 = .ok (.lload_n 3, 1) := by decide +kernel
theorem d_X5_join_49 : decode m_X5_join.2.1 49 = .ok (.lsub, 1) := by decide +kernel
theorem d_X5_join_50 : decode m_X5_join.2.1 50 = .ok (.invokestatic 47, 3) := by decide +kernel
theorem d_X5_join_53 : decode m_X5_join.2.1 53 = .ok (.ireturn, 1) := by decide +kernel
theorem d_X5_join_54 : decode m_X5_join.2.1 54 = .ok (.lload_n 1, 1) := by decide +kernel
theorem d_X5_join_55 : decode m_X5_join.2.1 55 = .ok (.lload_n 3, 1) := by decide +kernel
theorem d_X5_join_56 : decode m_X5_join.2.1 56 = .ok (.lmul, 1) := by decide +kernel
theorem d_X5_join_57 : decode m_X5_join.2.1 57 = .ok (.ldc2_w 55, 3) := by decide +kernel
theorem d_X5_join_60 : decode m_X5_join.2.1 60 = .ok (.ldiv, 1) := by decide +kernel
theorem d_X5_join_61 : decode m_X5_join.2.1 61 = .ok (.invokestatic 47, 3) := by decide +kernel
theorem d_X5_join_64 : decode m_X5_join.2.1 64 = .ok (.ireturn, 1) := by decide +kernel
theorem d_X5_join_65 : decode m_X5_join.2.1 65 = .ok (.lload_n 1, 1) := by decide +kernel
theorem d_X5_join_66 : decode m_X5_join.2.1 66 = .ok (.ldc2_w 55, 3) := by decide +kernel
theorem d_X5_join_69 : decode m_X5_join.2.1 69 = .ok (.lmul, 1) := by decide +kernel
theorem d_X5_join_70 : decode m_X5_join.2.1 70 = .ok (.lload_n 3, 1) := by decide +kernel
theorem d_X5_join_71 : decode m_X5_join.2.1 71 = .ok (.invokestatic 57, 3) := by decide +kernel
theorem d_X5_join_74 : decode m_X5_join.2.1 74 = .ok (.invokestatic 47, 3) := by decide +kernel
theorem d_X5_join_77 : decode m_X5_join.2.1 77 = .ok (.ireturn, 1) := by decide +kernel
theorem d_X5_join_78 : decode m_X5_join.2.1 78 = .ok (.lload_n 1, 1) := by decide +kernel
theorem d_X5_join_79 : decode m_X5_join.2.1 79 = .ok (.lload_n 3, 1) := by decide +kernel
theorem d_X5_join_80 : decode m_X5_join.2.1 80 = .ok (.invokestatic 61, 3) := by decide +kernel
theorem d_X5_join_83 : decode m_X5_join.2.1 83 = .ok (.l2i, 1) := by decide +kernel
theorem d_X5_join_84 : decode m_X5_join.2.1 84 = .ok (.ireturn, 1) := by decide +kernel
theorem d_X5_join_85 : decode m_X5_join.2.1 85 = .ok (.lload_n 1, 1) := by decide +kernel
theorem d_X5_join_86 : decode m_X5_join.2.1 86 = .ok (.lload_n 3, 1) := by decide +kernel
theorem d_X5_join_87 : decode m_X5_join.2.1 87 = .ok (.invokestatic 63, 3) := by decide +kernel
theorem d_X5_join_90 : decode m_X5_join.2.1 90 = .ok (.l2i, 1) := by decide +kernel
theorem d_X5_join_91 : decode m_X5_join.2.1 91 = .ok (.ireturn, 1) := by decide +kernel
theorem d_X5_copyFrom_0 : decode m_X5_copyFrom.2.1 0 = .ok (.aload_n 1, 1) := by decide +kernel
theorem d_X5_copyFrom_1 : decode m_X5_copyFrom.2.1 1 = .ok (.ifnonnull 4, 3) := by decide +kernel
theorem d_X5_copyFrom_4 : decode m_X5_copyFrom.2.1 4 = .ok (.return_, 1) := by decide +kernel
theorem d_X5_copyFrom_5 : decode m_X5_copyFrom.2.1 5 = .ok (.aload_n 1, 1) := by decide +kernel
theorem d_X5_copyFrom_6 : decode m_X5_copyFrom.2.1 6 = .ok (.getfield 9, 3) := by decide +kernel
theorem d_X5_copyFrom_9 : decode m_X5_copyFrom.2.1 9 = .ok (.aload_n 0, 1) := by decide +kernel
theorem d_X5_copyFrom_10 : decode m_X5_copyFrom.2.1 10 = .ok (.getfield 9, 3) := by decide +kernel
theorem d_X5_copyFrom_13 : decode m_X5_copyFrom.2.1 13 = .ok (.sipush 240, 3) := by decide +kernel
theorem d_X5_copyFrom_16 : decode m_X5_copyFrom.2.1 16 = .ok (.invokestatic 66, 3) := by decide +kernel
theorem d_X5_copyFrom_19 : decode m_X5_copyFrom.2.1 19 = .ok (.aload_n 1, 1) := by decide +kernel
theorem d_X5_copyFrom_20 : decode m_X5_copyFrom.2.1 20 = .ok (.getfield 15, 3) := by decide +kernel
theorem d_X5_copyFrom_23 : decode m_X5_copyFrom.2.1 23 = .ok (.aload_n 0, 1) := by decide +kernel
theorem d_X5_copyFrom_24 : decode m_X5_copyFrom.2.1 24 = .ok (.getfield 15, 3) := by decide +kernel
theorem d_X5_copyFrom_27 : decode m_X5_copyFrom.2.1 27 = .ok (.iconst 3, 1) := by decide +kernel
theorem d_X5_copyFrom_28 : decode m_X5_copyFrom.2.1 28 = .ok (.invokestatic 66, 3) := by decide +kernel
theorem d_X5_copyFrom_31 : decode m_X5_copyFrom.2.1 31 = .ok (.aload_n 1, 1) := by decide +kernel
theorem d_X5_copyFrom_32 : decode m_X5_copyFrom.2.1 32 = .ok (.getfield 18, 3) := by decide +kernel
theorem d_X5_copyFrom_35 : decode m_X5_copyFrom.2.1 35 = .ok (.aload_n 0, 1) := by decide +kernel
theorem d_X5_copyFrom_36 : decode m_X5_copyFrom.2.1 36 = .ok (.getfield 18, 3) := by decide +kernel
theorem d_X5_copyFrom_39 : decode m_X5_copyFrom.2.1 39 = .ok (.iconst 3, 1) := by decide +kernel
theorem d_X5_copyFrom_40 : decode m_X5_copyFrom.2.1 40 = .ok (.invokestatic 66, 3) := by decide +kernel
theorem d_X5_copyFrom_43 : decode m_X5_copyFrom.2.1 43 = .ok (.return_, 1) := by decide +kernel
theorem d_X6_init_0 : decode m_X6_init.2.1 0 = .ok (.aload_n 0, 1) := by decide +kernel
theorem d_X6_init_1 : decode m_X6_init.2.1 1 = .ok (.invokespecial 3, 3) := by decide +kernel
theorem d_X6_init_4 : decode m_X6_init.2.1 4 = .ok (.aload_n 0, 1) := by decide +kernel
theorem d_X6_init_5 : decode m_X6_init.2.1 5 = .ok (.new 9, 3) := by decide +kernel
theorem d_X6_init_8 : decode m_X6_init.2.1 8 = .ok (.dup, 1) := by decide +kernel
theorem d_X6_init_9 : decode m_X6_init.2.1 9 = .ok (.invokespecial 11, 3) := by decide +kernel
theorem d_X6_init_12 : decode m_X6_init.2.1 12 = .ok (.putfield 12, 3) := by decide +kernel
theorem d_X6_init_15 : decode m_X6_init.2.1 15 = .ok (.aload_n 0, 1) := by decide +kernel
theorem d_X6_init_16 : decode m_X6_init.2.1 16 = .ok (.new 18, 3) := by decide +kernel
theorem d_X6_init_19 : decode m_X6_init.2.1 19 = .ok (.dup, 1) := by decide +kernel
theorem d_X6_init_20 : decode m_X6_init.2.1 20 = .ok (.invokespecial 20, 3) := by decide +kernel
theorem d_X6_init_23 : decode m_X6_init.2.1 23 = .ok (.putfield 21, 3) := by decide +kernel
theorem d_X6_init_26 : decode m_X6_init.2.1 26 = .ok (.aload_n 0, 1) := by decide +kernel
theorem d_X6_init_27 : decode m_X6_init.2.1 27 = .ok (.new 25, 3) := by decide +kernel
theorem d_X6_init_30 : decode m_X6_init.2.1 30 = .ok (.dup, 1) := by decide +kernel
theorem d_X6_init_31 : decode m_X6_init.2.1 31 = .ok (.invokespecial 27, 3) := by decide +kernel
theorem d_X6_init_34 : decode m_X6_init.2.1 34 = .ok (.putfield 28, 3) := by decide +kernel
theorem d_X6_init_37 : decode m_X6_init.2.1 37 = .ok (.aload_n 0, 1) := by decide +kernel
theorem d_X6_init_38 : decode m_X6_init.2.1 38 = .ok (.iconst 3, 1) := by decide +kernel
theorem d_X6_init_39 : decode m_X6_init.2.1 39 = .ok (.newarray .int, 2) := by decide +kernel
theorem d_X6_init_41 : decode m_X6_init.2.1 41 = .ok (.dup, 1) := by decide +kernel
theorem d_X6_init_42 : decode m_X6_init.2.1 42 = .ok (.iconst 0, 1) := by decide +kernel
theorem d_X6_init_43 : decode m_X6_init.2.1 43 = .ok (.bipush 100, 2) := by decide +kernel
theorem d_X6_init_45 : decode m_X6_init.2.1 45 = .ok (.iastore, 1) := by decide +kernel
theorem d_X6_init_46 : decode m_X6_init.2.1 46 = .ok (.dup, 1) := by decide +kernel
theorem d_X6_init_47 : decode m_X6_init.2.1 47 = .ok (.iconst 1, 1) := by decide +kernel
theorem d_X6_init_48 : decode m_X6_init.2.1 48 = .ok (.iconst 1, 1) := by decide +kernel
theorem d_X6_init_49 : decode m_X6_init.2.1 49 = .ok (.iastore, 1) := by decide +kernel
theorem d_X6_init_50 : decode m_X6_init.2.1 50 = .ok (.dup, 1) := by decide +kernel
theorem d_X6_init_51 : decode m_X6_init.2.1 51 = .ok (.iconst 2, 1) := by decide +kernel
theorem d_X6_init_52 : decode m_X6_init.2.1 52 = .ok (.iconst 2, 1) := by decide +kernel
theorem d_X6_init_53 : decode m_X6_init.2.1 53 = .ok (.iastore, 1) := by decide +kernel
theorem d_X6_init_54 : decode m_X6_init.2.1 54 = .ok (.putfield 32, 3) := by decide +kernel
theorem d_X6_init_57 : decode m_X6_init.2.1 57 = .ok (.aload_n 0, 1) := by decide +kernel
theorem d_X6_init_58 : decode m_X6_init.2.1 58 = .ok (.new 36, 3) := by decide +kernel
theorem d_X6_init_61 : decode m_X6_init.2.1 61 = .ok (.dup, 1) := by decide +kernel
theorem d_X6_init_62 : decode m_X6_init.2.1 62 = .ok (.invokespecial 38, 3) := by decide +kernel
theorem d_X6_init_65 : decode m_X6_init.2.1 65 = .ok (.putfield 39, 3) := by decide +kernel
theorem d_X6_init_68 : decode m_X6_init.2.1 68 = .ok (.aload_n 0, 1) := by decide +kernel
theorem d_X6_init_69 : decode m_X6_init.2.1 69 = .ok (.new 43, 3) := by decide +kernel
theorem d_X6_init_72 : decode m_X6_init.2.1 72 = .ok (.dup, 1) := by decide +kernel
theorem d_X6_init_73 : decode m_X6_init.2.1 73 = .ok (.invokespecial 45, 3) := by decide +kernel
theorem d_X6_init_76 : decode m_X6_init.2.1 76 = .ok (.putfield 46, 3) := by decide +kernel
theorem d_X6_init_79 : decode m_X6_init.2.1 79 = .ok (.return_, 1) := by decide +kernel
theorem d_X6_restart_0 : decode m_X6_restart.2.1 0 = .ok (.aload_n 0, 1) := by decide +kernel
theorem d_X6_restart_1 : decode m_X6_restart.2.1 1 = .ok (.getfield 39, 3) := by decide +kernel
theorem d_X6_restart_4 : decode m_X6_restart.2.1 4 = .ok (.aload_n 0, 1) := by decide +kernel
theorem d_X6_restart_5 : decode m_X6_restart.2.1 5 = .ok (.getfield 21, 3) := by decide +kernel
theorem d_X6_restart_8 : decode m_X6_restart.2.1 8 = .ok (.aload_n 0, 1) := by decide +kernel
theorem d_X6_restart_9 : decode m_X6_restart.2.1 9 = .ok (.getfield 12, 3) := by decide +kernel
theorem d_X6_restart_12 : decode m_X6_restart.2.1 12 = .ok (.invokevirtual 50, 3) := by decide +kernel
theorem d_X6_restart_15 : decode m_X6_restart.2.1 15 = .ok (.invokestatic 54, 3) := by decide +kernel
theorem d_X6_restart_18 : decode m_X6_restart.2.1 18 = .ok (.aload_n 0, 1) := by decide +kernel
theorem d_X6_restart_19 : decode m_X6_restart.2.1 19 = .ok (.getfield 32, 3) := by decide +kernel
theorem d_X6_restart_22 : decode m_X6_restart.2.1 22 = .ok (.iconst 2, 1) := by decide +kernel
theorem d_X6_restart_23 : decode m_X6_restart.2.1 23 = .ok (.invokestatic 58, 3) := by decide +kernel
theorem d_X6_restart_26 : decode m_X6_restart.2.1 26 = .ok (.invokevirtual 62, 3) := by decide +kernel
theorem d_X6_restart_29 : decode m_X6_restart.2.1 29 = .ok (.aload_n 0, 1) := by decide +kernel
theorem d_X6_restart_30 : decode m_X6_restart.2.1 30 = .ok (.getfield 46, 3) := by decide +kernel
theorem d_X6_restart_33 : decode m_X6_restart.2.1 33 = .ok (.aload_n 0, 1) := by decide +kernel
theorem d_X6_restart_34 : decode m_X6_restart.2.1 34 = .ok (.getfield 28, 3) := by decide +kernel
theorem d_X6_restart_37 : decode m_X6_restart.2.1 37 = .ok (.invokevirtual 66, 3) := by decide +kernel
theorem d_X6_restart_40 : decode m_X6_restart.2.1 40 = .ok (.return_, 1) := by decide +kernel
theorem d_X6_valueIn_0 : decode m_X6_valueIn.2.1 0 = .ok (.iload_n 3, 1) := by decide +kernel
theorem d_X6_valueIn_1 : decode m_X6_valueIn.2.1 1 = .ok (.ifCond .gt 15, 3) := by decide +kernel
theorem d_X6_valueIn_4 : decode m_X6_valueIn.2.1 4 = .ok (.aload_n 0, 1) := by decide +kernel
theorem d_X6_valueIn_5 : decode m_X6_valueIn.2.1 5 = .ok (.getfield 28, 3) := by decide +kernel
theorem d_X6_valueIn_8 : decode m_X6_valueIn.2.1 8 = .ok (.iload_n 2, 1) := by decide +kernel
theorem d_X6_valueIn_9 : decode m_X6_valueIn.2.1 9 = .ok (.iload_n 3, 1) := by decide +kernel
theorem d_X6_valueIn_10 : decode m_X6_valueIn.2.1 10 = .ok (.invokevirtual 70, 3) := by decide +kernel
theorem d_X6_valueIn_13 : decode m_X6_valueIn.2.1 13 = .ok (.goto 13, 3) := by decide +kernel
theorem d_X6_valueIn_16 : decode m_X6_valueIn.2.1 16 = .ok (.aload_n 0, 1) := by decide +kernel
theorem d_X6_valueIn_17 : decode m_X6_valueIn.2.1 17 = .ok (.getfield 46, 3) := by decide +kernel
theorem d_X6_valueIn_20 : decode m_X6_valueIn.2.1 20 = .ok (.iload_n 1, 1) := by decide +kernel
theorem d_X6_valueIn_21 : decode m_X6_valueIn.2.1 21 = .ok (.iload_n 2, 1) := by decide +kernel
theorem d_X6_valueIn_22 : decode m_X6_valueIn.2.1 22 = .ok (.iload_n 3, 1) := by decide +kernel
theorem d_X6_valueIn_23 : decode m_X6_valueIn.2.1 23 = .ok (.invokevirtual 74, 3) := by decide +kernel
theorem d_X6_valueIn_26 : decode m_X6_valueIn.2.1 26 = .ok (.ireturn, 1) := by decide +kernel
theorem d_X6_slopeIn_0 : decode m_X6_slopeIn.2.1 0 = .ok (.iload_n 3, 1) := by decide +kernel
theorem d_X6_slopeIn_1 : decode m_X6_slopeIn.2.1 1 = .ok (.ifCond .gt 15, 3) := by decide +kernel
theorem d_X6_slopeIn_4 : decode m_X6_slopeIn.2.1 4 = .ok (.aload_n 0, 1) := by decide +kernel
theorem d_X6_slopeIn_5 : decode m_X6_slopeIn.2.1 5 = .ok (.getfield 28, 3) := by decide +kernel
theorem d_X6_slopeIn_8 : decode m_X6_slopeIn.2.1 8 = .ok (.iload_n 2, 1) := by decide +kernel
theorem d_X6_slopeIn_9 : decode m_X6_slopeIn.2.1 9 = .ok (.iload_n 3, 1) := by decide +kernel
theorem d_X6_slopeIn_10 : decode m_X6_slopeIn.2.1 10 = .ok (.invokevirtual 78, 3) := by decide +kernel
theorem d_X6_slopeIn_13 : decode m_X6_slopeIn.2.1 13 = .ok (.goto 13, 3) := by decide +kernel
theorem d_X6_slopeIn_16 : decode m_X6_slopeIn.2.1 16 = .ok (.aload_n 0, 1) := by decide +kernel
theorem d_X6_slopeIn_17 : decode m_X6_slopeIn.2.1 17 = .ok (.getfield 46, 3) := by decide +kernel
theorem d_X6_slopeIn_20 : decode m_X6_slopeIn.2.1 20 = .ok (.iload_n 1, 1) := by decide +kernel
theorem d_X6_slopeIn_21 : decode m_X6_slopeIn.2.1 21 = .ok (.iload_n 2, 1) := by decide +kernel
theorem d_X6_slopeIn_22 : decode m_X6_slopeIn.2.1 22 = .ok (.iload_n 3, 1) := by decide +kernel
theorem d_X6_slopeIn_23 : decode m_X6_slopeIn.2.1 23 = .ok (.invokevirtual 81, 3) := by decide +kernel
theorem d_X6_slopeIn_26 : decode m_X6_slopeIn.2.1 26 = .ok (.ireturn, 1) := by decide +kernel
theorem d_X6_copyProblem_0 : decode m_X6_copyProblem.2.1 0 = .ok (.aload_n 1, 1) := by decide +kernel
theorem d_X6_copyProblem_1 : decode m_X6_copyProblem.2.1 1 = .ok (.ifnonnull 4, 3) := by decide +kernel
theorem d_X6_copyProblem_4 : decode m_X6_copyProblem.2.1 4 = .ok (.return_, 1) := by decide +kernel
theorem d_X6_copyProblem_5 : decode m_X6_copyProblem.2.1 5 = .ok (.aload_n 0, 1) := by decide +kernel
theorem d_X6_copyProblem_6 : decode m_X6_copyProblem.2.1 6 = .ok (.getfield 12, 3) := by decide +kernel
theorem d_X6_copyProblem_9 : decode m_X6_copyProblem.2.1 9 = .ok (.aload_n 1, 1) := by decide +kernel
theorem d_X6_copyProblem_10 : decode m_X6_copyProblem.2.1 10 = .ok (.getfield 12, 3) := by decide +kernel
theorem d_X6_copyProblem_13 : decode m_X6_copyProblem.2.1 13 = .ok (.invokevirtual 84, 3) := by decide +kernel
theorem d_X6_copyProblem_16 : decode m_X6_copyProblem.2.1 16 = .ok (.aload_n 0, 1) := by decide +kernel
theorem d_X6_copyProblem_17 : decode m_X6_copyProblem.2.1 17 = .ok (.getfield 21, 3) := by decide +kernel
theorem d_X6_copyProblem_20 : decode m_X6_copyProblem.2.1 20 = .ok (.aload_n 1, 1) := by decide +kernel
theorem d_X6_copyProblem_21 : decode m_X6_copyProblem.2.1 21 = .ok (.getfield 21, 3) := by decide +kernel
theorem d_X6_copyProblem_24 : decode m_X6_copyProblem.2.1 24 = .ok (.invokevirtual 88, 3) := by decide +kernel
theorem d_X6_copyProblem_27 : decode m_X6_copyProblem.2.1 27 = .ok (.aload_n 0, 1) := by decide +kernel
theorem d_X6_copyProblem_28 : decode m_X6_copyProblem.2.1 28 = .ok (.getfield 28, 3) := by decide +kernel
theorem d_X6_copyProblem_31 : decode m_X6_copyProblem.2.1 31 = .ok (.aload_n 1, 1) := by decide +kernel
theorem d_X6_copyProblem_32 : decode m_X6_copyProblem.2.1 32 = .ok (.getfield 28, 3) := by decide +kernel
theorem d_X6_copyProblem_35 : decode m_X6_copyProblem.2.1 35 = .ok (.invokevirtual 91, 3) := by decide +kernel
theorem d_X6_copyProblem_38 : decode m_X6_copyProblem.2.1 38 = .ok (.aload_n 1, 1) := by decide +kernel
theorem d_X6_copyProblem_39 : decode m_X6_copyProblem.2.1 39 = .ok (.getfield 32, 3) := by decide +kernel
theorem d_X6_copyProblem_42 : decode m_X6_copyProblem.2.1 42 = .ok (.aload_n 0, 1) := by decide +kernel
theorem d_X6_copyProblem_43 : decode m_X6_copyProblem.2.1 43 = .ok (.getfield 32, 3) := by decide +kernel
theorem d_X6_copyProblem_46 : decode m_X6_copyProblem.2.1 46 = .ok (.iconst 3, 1) := by decide +kernel
theorem d_X6_copyProblem_47 : decode m_X6_copyProblem.2.1 47 = .ok (.invokestatic 93, 3) := by decide +kernel
theorem d_X6_copyProblem_50 : decode m_X6_copyProblem.2.1 50 = .ok (.return_, 1) := by decide +kernel
theorem d_X6_copyFrom_0 : decode m_X6_copyFrom.2.1 0 = .ok (.aload_n 1, 1) := by decide +kernel
theorem d_X6_copyFrom_1 : decode m_X6_copyFrom.2.1 1 = .ok (.ifnonnull 4, 3) := by decide +kernel
theorem d_X6_copyFrom_4 : decode m_X6_copyFrom.2.1 4 = .ok (.return_, 1) := by decide +kernel
theorem d_X6_copyFrom_5 : decode m_X6_copyFrom.2.1 5 = .ok (.aload_n 0, 1) := by decide +kernel
theorem d_X6_copyFrom_6 : decode m_X6_copyFrom.2.1 6 = .ok (.aload_n 1, 1) := by decide +kernel
theorem d_X6_copyFrom_7 : decode m_X6_copyFrom.2.1 7 = .ok (.invokevirtual 97, 3) := by decide +kernel
theorem d_X6_copyFrom_10 : decode m_X6_copyFrom.2.1 10 = .ok (.aload_n 0, 1) := by decide +kernel
theorem d_X6_copyFrom_11 : decode m_X6_copyFrom.2.1 11 = .ok (.getfield 39, 3) := by decide +kernel
theorem d_X6_copyFrom_14 : decode m_X6_copyFrom.2.1 14 = .ok (.aload_n 1, 1) := by decide +kernel
theorem d_X6_copyFrom_15 : decode m_X6_copyFrom.2.1 15 = .ok (.getfield 39, 3) := by decide +kernel
theorem d_X6_copyFrom_18 : decode m_X6_copyFrom.2.1 18 = .ok (.invokevirtual 101, 3) := by decide +kernel
theorem d_X6_copyFrom_21 : decode m_X6_copyFrom.2.1 21 = .ok (.aload_n 0, 1) := by decide +kernel
theorem d_X6_copyFrom_22 : decode m_X6_copyFrom.2.1 22 = .ok (.getfield 46, 3) := by decide +kernel
theorem d_X6_copyFrom_25 : decode m_X6_copyFrom.2.1 25 = .ok (.aload_n 1, 1) := by decide +kernel
theorem d_X6_copyFrom_26 : decode m_X6_copyFrom.2.1 26 = .ok (.getfield 46, 3) := by decide +kernel
theorem d_X6_copyFrom_29 : decode m_X6_copyFrom.2.1 29 = .ok (.invokevirtual 104, 3) := by decide +kernel
theorem d_X6_copyFrom_32 : decode m_X6_copyFrom.2.1 32 = .ok (.return_, 1) := by decide +kernel
theorem d_X7_init_0 : decode m_X7_init.2.1 0 = .ok (.aload_n 0, 1) := by decide +kernel
theorem d_X7_init_1 : decode m_X7_init.2.1 1 = .ok (.invokespecial 3, 3) := by decide +kernel
theorem d_X7_init_4 : decode m_X7_init.2.1 4 = .ok (.aload_n 0, 1) := by decide +kernel
theorem d_X7_init_5 : decode m_X7_init.2.1 5 = .ok (.bipush 22, 2) := by decide +kernel
theorem d_X7_init_7 : decode m_X7_init.2.1 7 = .ok (.newarray .int, 2) := by decide +kernel
theorem d_X7_init_9 : decode m_X7_init.2.1 9 = .ok (.putfield 9, 3) := by decide +kernel
theorem d_X7_init_12 : decode m_X7_init.2.1 12 = .ok (.aload_n 0, 1) := by decide +kernel
theorem d_X7_init_13 : decode m_X7_init.2.1 13 = .ok (.bipush 80, 2) := by decide +kernel
theorem d_X7_init_15 : decode m_X7_init.2.1 15 = .ok (.newarray .int, 2) := by decide +kernel
theorem d_X7_init_17 : decode m_X7_init.2.1 17 = .ok (.putfield 15, 3) := by decide +kernel
theorem d_X7_init_20 : decode m_X7_init.2.1 20 = .ok (.aload_n 0, 1) := by decide +kernel
theorem d_X7_init_21 : decode m_X7_init.2.1 21 = .ok (.iconst 3, 1) := by decide +kernel
theorem d_X7_init_22 : decode m_X7_init.2.1 22 = .ok (.newarray .int, 2) := by decide +kernel
theorem d_X7_init_24 : decode m_X7_init.2.1 24 = .ok (.putfield 18, 3) := by decide +kernel
theorem d_X7_init_27 : decode m_X7_init.2.1 27 = .ok (.aload_n 0, 1) := by decide +kernel
theorem d_X7_init_28 : decode m_X7_init.2.1 28 = .ok (.iconst 3, 1) := by decide +kernel
theorem d_X7_init_29 : decode m_X7_init.2.1 29 = .ok (.newarray .int, 2) := by decide +kernel
theorem d_X7_init_31 : decode m_X7_init.2.1 31 = .ok (.putfield 21, 3) := by decide +kernel
theorem d_X7_init_34 : decode m_X7_init.2.1 34 = .ok (.aload_n 0, 1) := by decide +kernel
theorem d_X7_init_35 : decode m_X7_init.2.1 35 = .ok (.iconst 3, 1) := by decide +kernel
theorem d_X7_init_36 : decode m_X7_init.2.1 36 = .ok (.newarray .int, 2) := by decide +kernel
theorem d_X7_init_38 : decode m_X7_init.2.1 38 = .ok (.putfield 24, 3) := by decide +kernel
theorem d_X7_init_41 : decode m_X7_init.2.1 41 = .ok (.aload_n 0, 1) := by decide +kernel
theorem d_X7_init_42 : decode m_X7_init.2.1 42 = .ok (.iconst 3, 1) := by decide +kernel
theorem d_X7_init_43 : decode m_X7_init.2.1 43 = .ok (.newarray .int, 2) := by decide +kernel
theorem d_X7_init_45 : decode m_X7_init.2.1 45 = .ok (.putfield 27, 3) := by decide +kernel
theorem d_X7_init_48 : decode m_X7_init.2.1 48 = .ok (.return_, 1) := by decide +kernel
theorem d_X7_advance_0 : decode m_X7_advance.2.1 0 = .ok (.aload_n 1, 1) := by decide +kernel
theorem d_X7_advance_1 : decode m_X7_advance.2.1 1 = .ok (.ifnonnull 4, 3) := by decide +kernel
theorem d_X7_advance_4 : decode m_X7_advance.2.1 4 = .ok (.return_, 1) := by decide +kernel
theorem d_X7_advance_5 : decode m_X7_advance.2.1 5 = .ok (.iconst 0, 1) := by decide +kernel
theorem d_X7_advance_6 : decode m_X7_advance.2.1 6 = .ok (.istore_n 3, 1) := by decide +kernel
theorem d_X7_advance_7 : decode m_X7_advance.2.1 7 = .ok (.iload_n 3, 1) := by decide +kernel
theorem d_X7_advance_8 : decode m_X7_advance.2.1 8 = .ok (.sipush 960, 3) := by decide +kernel
theorem d_X7_advance_11 : decode m_X7_advance.2.1 11 = .ok (.if_icmp .ge 67, 3) := by decide +kernel
theorem d_X7_advance_14 : decode m_X7_advance.2.1 14 = .ok (.aload_n 1, 1) := by decide +kernel
theorem d_X7_advance_15 : decode m_X7_advance.2.1 15 = .ok (.getfield 30, 3) := by decide +kernel
theorem d_X7_advance_18 : decode m_X7_advance.2.1 18 = .ok (.invokevirtual 36, 3) := by decide +kernel
theorem d_X7_advance_21 : decode m_X7_advance.2.1 21 = .ok (.iload_n 2, 1) := by decide +kernel
theorem d_X7_advance_22 : decode m_X7_advance.2.1 22 = .ok (.if_icmp .ge 56, 3) := by decide +kernel
theorem d_X7_advance_25 : decode m_X7_advance.2.1 25 = .ok (.aload_n 1, 1) := by decide +kernel
theorem d_X7_advance_26 : decode m_X7_advance.2.1 26 = .ok (.getfield 30, 3) := by decide +kernel
theorem d_X7_advance_29 : decode m_X7_advance.2.1 29 = .ok (.invokevirtual 36, 3) := by decide +kernel
theorem d_X7_advance_32 : decode m_X7_advance.2.1 32 = .ok (.istore 4, 2) := by decide +kernel
theorem d_X7_advance_34 : decode m_X7_advance.2.1 34 = .ok (.iload_n 2, 1) := by decide +kernel
theorem d_X7_advance_35 : decode m_X7_advance.2.1 35 = .ok (.aload_n 1, 1) := by decide +kernel
theorem d_X7_advance_36 : decode m_X7_advance.2.1 36 = .ok (.getfield 42, 3) := by decide +kernel
theorem d_X7_advance_39 : decode m_X7_advance.2.1 39 = .ok (.iload 4, 2) := by decide +kernel
theorem d_X7_advance_41 : decode m_X7_advance.2.1 41 = .ok (.invokevirtual 46, 3) := by decide +kernel
theorem d_X7_advance_44 : decode m_X7_advance.2.1 44 = .ok (.invokestatic 52, 3) := by decide +kernel
theorem d_X7_advance_47 : decode m_X7_advance.2.1 47 = .ok (.istore 5, 2) := by decide +kernel
theorem d_X7_advance_49 : decode m_X7_advance.2.1 49 = .ok (.aload_n 0, 1) := by decide +kernel
theorem d_X7_advance_50 : decode m_X7_advance.2.1 50 = .ok (.aload_n 1, 1) := by decide +kernel
theorem d_X7_advance_51 : decode m_X7_advance.2.1 51 = .ok (.iload 4, 2) := by decide +kernel
theorem d_X7_advance_53 : decode m_X7_advance.2.1 53 = .ok (.aload_n 1, 1) := by decide +kernel
theorem d_X7_advance_54 : decode m_X7_advance.2.1 54 = .ok (.getfield 58, 3) := by decide +kernel
theorem d_X7_advance_57 : decode m_X7_advance.2.1 57 = .ok (.iconst 0, 1) := by decide +kernel
theorem d_X7_advance_58 : decode m_X7_advance.2.1 58 = .ok (.invokestatic 61, 3) := by decide +kernel
theorem d_X7_advance_61 : decode m_X7_advance.2.1 61 = .ok (.iload 5, 2) := by decide +kernel
theorem d_X7_advance_63 : decode m_X7_advance.2.1 63 = .ok (.iload 4, 2) := by decide +kernel
theorem d_X7_advance_65 : decode m_X7_advance.2.1 65 = .ok (.isub, 1) := by decide +kernel
theorem d_X7_advance_66 : decode m_X7_advance.2.1 66 = .ok (.invokestatic 52, 3) := by decide +kernel
theorem d_X7_advance_69 : decode m_X7_advance.2.1 69 = .ok (.invokevirtual 65, 3) := by decide +kernel
theorem d_X7_advance_72 : decode m_X7_advance.2.1 72 = .ok (.iinc 3 1, 3) := by decide +kernel
theorem d_X7_advance_75 : decode m_X7_advance.2.1 75 = .ok (.goto (-68), 3) := by decide +kernel
theorem d_X7_advance_78 : decode m_X7_advance.2.1 78 = .ok (.return_, 1) := by decide +kernel
theorem d_X7_takeStep_0 : decode m_X7_takeStep.2.1 0 = .ok (.iconst 0, 1) := by decide +kernel
theorem d_X7_takeStep_1 : decode m_X7_takeStep.2.1 1 = .ok (.istore 4, 2) := by decide +kernel
theorem d_X7_takeStep_3 : decode m_X7_takeStep.2.1 3 = .ok (.iload 4, 2) := by decide +kernel
theorem d_X7_takeStep_5 : decode m_X7_takeStep.2.1 5 = .ok (.iconst 3, 1) := by decide +kernel
theorem d_X7_takeStep_6 : decode m_X7_takeStep.2.1 6 = .ok (.if_icmp .ge 45, 3) := by decide +kernel
theorem d_X7_takeStep_9 : decode m_X7_takeStep.2.1 9 = .ok (.aload_n 0, 1) := by decide +kernel
theorem d_X7_takeStep_10 : decode m_X7_takeStep.2.1 10 = .ok (.getfield 18, 3) := by decide +kernel
theorem d_X7_takeStep_13 : decode m_X7_takeStep.2.1 13 = .ok (.iload 4, 2) := by decide +kernel
theorem d_X7_takeStep_15 : decode m_X7_takeStep.2.1 15 = .ok (.aload_n 1, 1) := by decide +kernel
theorem d_X7_takeStep_16 : decode m_X7_takeStep.2.1 16 = .ok (.getfield 30, 3) := by decide +kernel
theorem d_X7_takeStep_19 : decode m_X7_takeStep.2.1 19 = .ok (.iload 4, 2) := by decide +kernel
theorem d_X7_takeStep_21 : decode m_X7_takeStep.2.1 21 = .ok (.invokevirtual 69, 3) := by decide +kernel
theorem d_X7_takeStep_24 : decode m_X7_takeStep.2.1 24 = .ok (.invokestatic 72, 3) := by decide +kernel
theorem d_X7_takeStep_27 : decode m_X7_takeStep.2.1 27 = .ok (.aload_n 0, 1) := by decide +kernel
theorem d_X7_takeStep_28 : decode m_X7_takeStep.2.1 28 = .ok (.getfield 21, 3) := by decide +kernel
theorem d_X7_takeStep_31 : decode m_X7_takeStep.2.1 31 = .ok (.iload 4, 2) := by decide +kernel
theorem d_X7_takeStep_33 : decode m_X7_takeStep.2.1 33 = .ok (.aload_n 0, 1) := by decide +kernel
theorem d_X7_takeStep_34 : decode m_X7_takeStep.2.1 34 = .ok (.getfield 18, 3) := by decide +kernel
theorem d_X7_takeStep_37 : decode m_X7_takeStep.2.1 37 = .ok (.iload 4, 2) := by decide +kernel
theorem d_X7_takeStep_39 : decode m_X7_takeStep.2.1 39 = .ok (.invokestatic 61, 3) := by decide +kernel
theorem d_X7_takeStep_42 : decode m_X7_takeStep.2.1 42 = .ok (.invokestatic 72, 3) := by decide +kernel
theorem d_X7_takeStep_45 : decode m_X7_takeStep.2.1 45 = .ok (.iinc 4 1, 3) := by decide +kernel
theorem d_X7_takeStep_48 : decode m_X7_takeStep.2.1 48 = .ok (.goto (-45), 3) := by decide +kernel
theorem d_X7_takeStep_51 : decode m_X7_takeStep.2.1 51 = .ok (.aload_n 0, 1) := by decide +kernel
theorem d_X7_takeStep_52 : decode m_X7_takeStep.2.1 52 = .ok (.aload_n 1, 1) := by decide +kernel
theorem d_X7_takeStep_53 : decode m_X7_takeStep.2.1 53 = .ok (.iload_n 2, 1) := by decide +kernel
theorem d_X7_takeStep_54 : decode m_X7_takeStep.2.1 54 = .ok (.iload_n 2, 1) := by decide +kernel
theorem d_X7_takeStep_55 : decode m_X7_takeStep.2.1 55 = .ok (.invokevirtual 76, 3) := by decide +kernel
theorem d_X7_takeStep_58 : decode m_X7_takeStep.2.1 58 = .ok (.aload_n 0, 1) := by decide +kernel
theorem d_X7_takeStep_59 : decode m_X7_takeStep.2.1 59 = .ok (.aload_n 1, 1) := by decide +kernel
theorem d_X7_takeStep_60 : decode m_X7_takeStep.2.1 60 = .ok (.aload_n 0, 1) := by decide +kernel
theorem d_X7_takeStep_61 : decode m_X7_takeStep.2.1 61 = .ok (.getfield 24, 3) := by decide +kernel
theorem d_X7_takeStep_64 : decode m_X7_takeStep.2.1 64 = .ok (.invokevirtual 79, 3) := by decide +kernel
theorem d_X7_takeStep_67 : decode m_X7_takeStep.2.1 67 = .ok (.iconst 0, 1) := by decide +kernel
theorem d_X7_takeStep_68 : decode m_X7_takeStep.2.1 68 = .ok (.istore 4, 2) := by decide +kernel
theorem d_X7_takeStep_70 : decode m_X7_takeStep.2.1 70 = .ok (.iload 4, 2) := by decide +kernel
theorem d_X7_takeStep_72 : decode m_X7_takeStep.2.1 72 = .ok (.iconst 3, 1) := by decide +kernel
theorem d_X7_takeStep_73 : decode m_X7_takeStep.2.1 73 = .ok (.if_icmp .ge 53, 3) := by decide +kernel
theorem d_X7_takeStep_76 : decode m_X7_takeStep.2.1 76 = .ok (.aload_n 0, 1) := by decide +kernel
theorem d_X7_takeStep_77 : decode m_X7_takeStep.2.1 77 = .ok (.getfield 24, 3) := by decide +kernel
theorem d_X7_takeStep_80 : decode m_X7_takeStep.2.1 80 = .ok (.iload 4, 2) := by decide +kernel
theorem d_X7_takeStep_82 : decode m_X7_takeStep.2.1 82 = .ok (.invokestatic 61, 3) := by decide +kernel
theorem d_X7_takeStep_85 : decode m_X7_takeStep.2.1 85 = .ok (.i2l, 1) := by decide +kernel
theorem d_X7_takeStep_86 : decode m_X7_takeStep.2.1 86 = .ok (.lstore 5, 2) := by decide +kernel
theorem d_X7_takeStep_88 : decode m_X7_takeStep.2.1 88 = .ok (.aload_n 0, 1) := by decide +kernel
theorem d_X7_takeStep_89 : decode m_X7_takeStep.2.1 89 = .ok (.getfield 21, 3) := by decide +kernel
theorem d_X7_takeStep_92 : decode m_X7_takeStep.2.1 92 = .ok (.iload 4, 2) := by decide +kernel
theorem d_X7_takeStep_94 : decode m_X7_takeStep.2.1 94 = .ok (.aload_n 0, 1) := by decide +kernel
theorem d_X7_takeStep_95 : decode m_X7_takeStep.2.1 95 = .ok (.getfield 18, 3) := by decide +kernel
theorem d_X7_takeStep_98 : decode m_X7_takeStep.2.1 98 = .ok (.iload 4, 2) := by decide +kernel
theorem d_X7_takeStep_100 : decode m_X7_takeStep.2.1 100 = .ok (.invokestatic 61, 3) := by decide +kernel
theorem d_X7_takeStep_103 : decode m_X7_takeStep.2.1 103 = .ok (.i2l, 1) := by decide +kernel
theorem d_X7_takeStep_104 : decode m_X7_takeStep.2.1 104 = .ok (.lload 5, 2) := by decide +kernel
theorem d_X7_takeStep_106 : decode m_X7_takeStep.2.1 106 = .ok (.iload_n 3, 1) := by decide +kernel
theorem d_X7_takeStep_107 : decode m_X7_takeStep.2.1 107 = .ok (.i2l, 1) := by decide +kernel
theorem d_X7_takeStep_108 : decode m_X7_takeStep.2.1 108 = .ok (.lmul, 1) := by decide +kernel
theorem d_X7_takeStep_109 : decode m_X7_takeStep.2.1 109 = .ok (.ldc2_w 83, 3) := by decide +kernel
theorem d_X7_takeStep_112 : decode m_X7_takeStep.2.1 112 = .ok (.ldiv, 1) := by decide +kernel
theorem d_X7_takeStep_113 : decode m_X7_takeStep.2.1 113 = .ok (.ladd, 1) := by decide +kernel
theorem d_X7_takeStep_114 : decode m_X7_takeStep.2.1 114 = .ok (.invokestatic 85, 3) := by decide +kernel
theorem d_X7_takeStep_117 : decode m_X7_takeStep.2.1 117 = .ok (.invokestatic 72, 3) := by decide +kernel
theorem d_X7_takeStep_120 : decode m_X7_takeStep.2.1 120 = .ok (.iinc 4 1, 3) := by decide +kernel
theorem d_X7_takeStep_123 : decode m_X7_takeStep.2.1 123 = .ok (.goto (-53), 3) := by decide +kernel
theorem d_X7_takeStep_126 : decode m_X7_takeStep.2.1 126 = .ok (.aload_n 1, 1) := by decide +kernel
theorem d_X7_takeStep_127 : decode m_X7_takeStep.2.1 127 = .ok (.iload_n 2, 1) := by decide +kernel
theorem d_X7_takeStep_128 : decode m_X7_takeStep.2.1 128 = .ok (.iload_n 3, 1) := by decide +kernel
theorem d_X7_takeStep_129 : decode m_X7_takeStep.2.1 129 = .ok (.iadd, 1) := by decide +kernel
theorem d_X7_takeStep_130 : decode m_X7_takeStep.2.1 130 = .ok (.iload_n 3, 1) := by decide +kernel
theorem d_X7_takeStep_131 : decode m_X7_takeStep.2.1 131 = .ok (.invokestatic 89, 3) := by decide +kernel
theorem d_X7_takeStep_134 : decode m_X7_takeStep.2.1 134 = .ok (.istore 4, 2) := by decide +kernel
theorem d_X7_takeStep_136 : decode m_X7_takeStep.2.1 136 = .ok (.iload 4, 2) := by decide +kernel
theorem d_X7_takeStep_138 : decode m_X7_takeStep.2.1 138 = .ok (.ifCond .eq 14, 3) := by decide +kernel
theorem d_X7_takeStep_141 : decode m_X7_takeStep.2.1 141 = .ok (.aload_n 1, 1) := by decide +kernel
theorem d_X7_takeStep_142 : decode m_X7_takeStep.2.1 142 = .ok (.getfield 58, 3) := by decide +kernel
theorem d_X7_takeStep_145 : decode m_X7_takeStep.2.1 145 = .ok (.iconst 1, 1) := by decide +kernel
theorem d_X7_takeStep_146 : decode m_X7_takeStep.2.1 146 = .ok (.invokestatic 61, 3) := by decide +kernel
theorem d_X7_takeStep_149 : decode m_X7_takeStep.2.1 149 = .ok (.goto 4, 3) := by decide +kernel
theorem d_X7_takeStep_152 : decode m_X7_takeStep.2.1 152 = .ok (.iconst 0, 1) := by decide +kernel
theorem d_X7_takeStep_153 : decode m_X7_takeStep.2.1 153 = .ok (.istore 5, 2) := by decide +kernel
theorem d_X7_takeStep_155 : decode m_X7_takeStep.2.1 155 = .ok (.iconst 0, 1) := by decide +kernel
theorem d_X7_takeStep_156 : decode m_X7_takeStep.2.1 156 = .ok (.istore 6, 2) := by decide +kernel
theorem d_X7_takeStep_158 : decode m_X7_takeStep.2.1 158 = .ok (.iload 6, 2) := by decide +kernel
theorem d_X7_takeStep_160 : decode m_X7_takeStep.2.1 160 = .ok (.iload 5, 2) := by decide +kernel
theorem d_X7_takeStep_162 : decode m_X7_takeStep.2.1 162 = .ok (.if_icmp .gt 97, 3) := by decide +kernel
theorem d_X7_takeStep_165 : decode m_X7_takeStep.2.1 165 = .ok (.aload_n 0, 1) := by decide +kernel
theorem d_X7_takeStep_166 : decode m_X7_takeStep.2.1 166 = .ok (.aload_n 1, 1) := by decide +kernel
theorem d_X7_takeStep_167 : decode m_X7_takeStep.2.1 167 = .ok (.iload_n 2, 1) := by decide +kernel
theorem d_X7_takeStep_168 : decode m_X7_takeStep.2.1 168 = .ok (.iload_n 3, 1) := by decide +kernel
theorem d_X7_takeStep_169 : decode m_X7_takeStep.2.1 169 = .ok (.iadd, 1) := by decide +kernel
theorem d_X7_takeStep_170 : decode m_X7_takeStep.2.1 170 = .ok (.iload_n 2, 1) := by decide +kernel
theorem d_X7_takeStep_171 : decode m_X7_takeStep.2.1 171 = .ok (.invokevirtual 76, 3) := by decide +kernel
theorem d_X7_takeStep_174 : decode m_X7_takeStep.2.1 174 = .ok (.aload_n 0, 1) := by decide +kernel
theorem d_X7_takeStep_175 : decode m_X7_takeStep.2.1 175 = .ok (.aload_n 1, 1) := by decide +kernel
theorem d_X7_takeStep_176 : decode m_X7_takeStep.2.1 176 = .ok (.aload_n 0, 1) := by decide +kernel
theorem d_X7_takeStep_177 : decode m_X7_takeStep.2.1 177 = .ok (.getfield 27, 3) := by decide +kernel
theorem d_X7_takeStep_180 : decode m_X7_takeStep.2.1 180 = .ok (.invokevirtual 79, 3) := by decide +kernel
theorem d_X7_takeStep_183 : decode m_X7_takeStep.2.1 183 = .ok (.iconst 0, 1) := by decide +kernel
theorem d_X7_takeStep_184 : decode m_X7_takeStep.2.1 184 = .ok (.istore 7, 2) := by decide +kernel
theorem d_X7_takeStep_186 : decode m_X7_takeStep.2.1 186 = .ok (.iload 7, 2) := by decide +kernel
theorem d_X7_takeStep_188 : decode m_X7_takeStep.2.1 188 = .ok (.iconst 3, 1) := by decide +kernel
theorem d_X7_takeStep_189 : decode m_X7_takeStep.2.1 189 = .ok (.if_icmp .ge 64, 3) := by decide +kernel
theorem d_X7_takeStep_192 : decode m_X7_takeStep.2.1 192 = .ok (.aload_n 0, 1) := by decide +kernel
theorem d_X7_takeStep_193 : decode m_X7_takeStep.2.1 193 = .ok (.getfield 24, 3) := by decide +kernel
theorem d_X7_takeStep_196 : decode m_X7_takeStep.2.1 196 = .ok (.iload 7, 2) := by decide +kernel
theorem d_X7_takeStep_198 : decode m_X7_takeStep.2.1 198 = .ok (.invokestatic 61, 3) := by decide +kernel
theorem d_X7_takeStep_201 : decode m_X7_takeStep.2.1 201 = .ok (.i2l, 1) := by decide +kernel
theorem d_X7_takeStep_202 : decode m_X7_takeStep.2.1 202 = .ok (.aload_n 0, 1) := by decide +kernel
theorem d_X7_takeStep_203 : decode m_X7_takeStep.2.1 203 = .ok (.getfield 27, 3) := by decide +kernel
theorem d_X7_takeStep_206 : decode m_X7_takeStep.2.1 206 = .ok (.iload 7, 2) := by decide +kernel
theorem d_X7_takeStep_208 : decode m_X7_takeStep.2.1 208 = .ok (.invokestatic 61, 3) := by decide +kernel
theorem d_X7_takeStep_211 : decode m_X7_takeStep.2.1 211 = .ok (.i2l, 1) := by decide +kernel
theorem d_X7_takeStep_212 : decode m_X7_takeStep.2.1 212 = .ok (.ladd, 1) := by decide +kernel
theorem d_X7_takeStep_213 : decode m_X7_takeStep.2.1 213 = .ok (.lstore 8, 2) := by decide +kernel
theorem d_X7_takeStep_215 : decode m_X7_takeStep.2.1 215 = .ok (.aload_n 0, 1) := by decide +kernel
theorem d_X7_takeStep_216 : decode m_X7_takeStep.2.1 216 = .ok (.getfield 21, 3) := by decide +kernel
theorem d_X7_takeStep_219 : decode m_X7_takeStep.2.1 219 = .ok (.iload 7, 2) := by decide +kernel
theorem d_X7_takeStep_221 : decode m_X7_takeStep.2.1 221 = .ok (.aload_n 0, 1) := by decide +kernel
theorem d_X7_takeStep_222 : decode m_X7_takeStep.2.1 222 = .ok (.getfield 18, 3) := by decide +kernel
theorem d_X7_takeStep_225 : decode m_X7_takeStep.2.1 225 = .ok (.iload 7, 2) := by decide +kernel
theorem d_X7_takeStep_227 : decode m_X7_takeStep.2.1 227 = .ok (.invokestatic 61, 3) := by decide +kernel
theorem d_X7_takeStep_230 : decode m_X7_takeStep.2.1 230 = .ok (.i2l, 1) := by decide +kernel
theorem d_X7_takeStep_231 : decode m_X7_takeStep.2.1 231 = .ok (.lload 8, 2) := by decide +kernel
theorem d_X7_takeStep_233 : decode m_X7_takeStep.2.1 233 = .ok (.iload_n 3, 1) := by decide +kernel
theorem d_X7_takeStep_234 : decode m_X7_takeStep.2.1 234 = .ok (.i2l, 1) := by decide +kernel
theorem d_X7_takeStep_235 : decode m_X7_takeStep.2.1 235 = .ok (.lmul, 1) := by decide +kernel
theorem d_X7_takeStep_236 : decode m_X7_takeStep.2.1 236 = .ok (.ldc2_w 93, 3) := by decide +kernel
theorem d_X7_takeStep_239 : decode m_X7_takeStep.2.1 239 = .ok (.ldiv, 1) := by decide +kernel
theorem d_X7_takeStep_240 : decode m_X7_takeStep.2.1 240 = .ok (.ladd, 1) := by decide +kernel
theorem d_X7_takeStep_241 : decode m_X7_takeStep.2.1 241 = .ok (.invokestatic 85, 3) := by decide +kernel
theorem d_X7_takeStep_244 : decode m_X7_takeStep.2.1 244 = .ok (.invokestatic 72, 3) := by decide +kernel
theorem d_X7_takeStep_247 : decode m_X7_takeStep.2.1 247 = .ok (.iinc 7 1, 3) := by decide +kernel
theorem d_X7_takeStep_250 : decode m_X7_takeStep.2.1 250 = .ok (.goto (-64), 3) := by decide +kernel
theorem d_X7_takeStep_253 : decode m_X7_takeStep.2.1 253 = .ok (.iinc 6 1, 3) := by decide +kernel
theorem d_X7_takeStep_256 : decode m_X7_takeStep.2.1 256 = .ok (.goto (-98), 3) := by decide +kernel
theorem d_X7_takeStep_259 : decode m_X7_takeStep.2.1 259 = .ok (.aload_n 1, 1) := by decide +kernel
theorem d_X7_takeStep_260 : decode m_X7_takeStep.2.1 260 = .ok (.getfield 30, 3) := by decide +kernel
theorem d_X7_takeStep_263 : decode m_X7_takeStep.2.1 263 = .ok (.iload_n 3, 1) := by decide +kernel
theorem d_X7_takeStep_264 : decode m_X7_takeStep.2.1 264 = .ok (.aload_n 0, 1) := by decide +kernel
theorem d_X7_takeStep_265 : decode m_X7_takeStep.2.1 265 = .ok (.getfield 24, 3) := by decide +kernel
theorem d_X7_takeStep_268 : decode m_X7_takeStep.2.1 268 = .ok (.iload 5, 2) := by decide +kernel
theorem d_X7_takeStep_270 : decode m_X7_takeStep.2.1 270 = .ok (.aload_n 0, 1) := by decide +kernel
theorem d_X7_takeStep_271 : decode m_X7_takeStep.2.1 271 = .ok (.getfield 21, 3) := by decide +kernel
theorem d_X7_takeStep_274 : decode m_X7_takeStep.2.1 274 = .ok (.invokevirtual 95, 3) := by decide +kernel
theorem d_X7_takeStep_277 : decode m_X7_takeStep.2.1 277 = .ok (.return_, 1) := by decide +kernel
theorem d_X7_hasShortLag_0 : decode m_X7_hasShortLag.2.1 0 = .ok (.aload_n 0, 1) := by decide +kernel
theorem d_X7_hasShortLag_1 : decode m_X7_hasShortLag.2.1 1 = .ok (.getfield 99, 3) := by decide +kernel
theorem d_X7_hasShortLag_4 : decode m_X7_hasShortLag.2.1 4 = .ok (.invokevirtual 103, 3) := by decide +kernel
theorem d_X7_hasShortLag_7 : decode m_X7_hasShortLag.2.1 7 = .ok (.istore_n 3, 1) := by decide +kernel
theorem d_X7_hasShortLag_8 : decode m_X7_hasShortLag.2.1 8 = .ok (.iconst 0, 1) := by decide +kernel
theorem d_X7_hasShortLag_9 : decode m_X7_hasShortLag.2.1 9 = .ok (.istore 4, 2) := by decide +kernel
theorem d_X7_hasShortLag_11 : decode m_X7_hasShortLag.2.1 11 = .ok (.iload 4, 2) := by decide +kernel
theorem d_X7_hasShortLag_13 : decode m_X7_hasShortLag.2.1 13 = .ok (.iconst 3, 1) := by decide +kernel
theorem d_X7_hasShortLag_14 : decode m_X7_hasShortLag.2.1 14 = .ok (.if_icmp .ge 43, 3) := by decide +kernel
theorem d_X7_hasShortLag_17 : decode m_X7_hasShortLag.2.1 17 = .ok (.aload_n 0, 1) := by decide +kernel
theorem d_X7_hasShortLag_18 : decode m_X7_hasShortLag.2.1 18 = .ok (.getfield 108, 3) := by decide +kernel
theorem d_X7_hasShortLag_21 : decode m_X7_hasShortLag.2.1 21 = .ok (.iload 4, 2) := by decide +kernel
theorem d_X7_hasShortLag_23 : decode m_X7_hasShortLag.2.1 23 = .ok (.iload_n 1, 1) := by decide +kernel
theorem d_X7_hasShortLag_24 : decode m_X7_hasShortLag.2.1 24 = .ok (.invokevirtual 112, 3) := by decide +kernel
theorem d_X7_hasShortLag_27 : decode m_X7_hasShortLag.2.1 27 = .ok (.istore 5, 2) := by decide +kernel
theorem d_X7_hasShortLag_29 : decode m_X7_hasShortLag.2.1 29 = .ok (.iload_n 3, 1) := by decide +kernel
theorem d_X7_hasShortLag_30 : decode m_X7_hasShortLag.2.1 30 = .ok (.iload 4, 2) := by decide +kernel
theorem d_X7_hasShortLag_32 : decode m_X7_hasShortLag.2.1 32 = .ok (.invokestatic 117, 3) := by decide +kernel
theorem d_X7_hasShortLag_35 : decode m_X7_hasShortLag.2.1 35 = .ok (.ifCond .eq 16, 3) := by decide +kernel
theorem d_X7_hasShortLag_38 : decode m_X7_hasShortLag.2.1 38 = .ok (.iload 5, 2) := by decide +kernel
theorem d_X7_hasShortLag_40 : decode m_X7_hasShortLag.2.1 40 = .ok (.ifCond .eq 11, 3) := by decide +kernel
theorem d_X7_hasShortLag_43 : decode m_X7_hasShortLag.2.1 43 = .ok (.iload 5, 2) := by decide +kernel
theorem d_X7_hasShortLag_45 : decode m_X7_hasShortLag.2.1 45 = .ok (.iload_n 2, 1) := by decide +kernel
theorem d_X7_hasShortLag_46 : decode m_X7_hasShortLag.2.1 46 = .ok (.if_icmp .ge 5, 3) := by decide +kernel
theorem d_X7_hasShortLag_49 : decode m_X7_hasShortLag.2.1 49 = .ok (.iconst 1, 1) := by decide +kernel
theorem d_X7_hasShortLag_50 : decode m_X7_hasShortLag.2.1 50 = .ok (.ireturn, 1) := by decide +kernel
theorem d_X7_hasShortLag_51 : decode m_X7_hasShortLag.2.1 51 = .ok (.iinc 4 1, 3) := by decide +kernel
theorem d_X7_hasShortLag_54 : decode m_X7_hasShortLag.2.1 54 = .ok (.goto (-43), 3) := by decide +kernel
theorem d_X7_hasShortLag_57 : decode m_X7_hasShortLag.2.1 57 = .ok (.iconst 0, 1) := by decide +kernel
theorem d_X7_hasShortLag_58 : decode m_X7_hasShortLag.2.1 58 = .ok (.ireturn, 1) := by decide +kernel
theorem d_X7_workOutSlopes_0 : decode m_X7_workOutSlopes.2.1 0 = .ok (.iconst 0, 1) := by decide +kernel
theorem d_X7_workOutSlopes_1 : decode m_X7_workOutSlopes.2.1 1 = .ok (.istore_n 3, 1) := by decide +kernel
theorem d_X7_workOutSlopes_2 : decode m_X7_workOutSlopes.2.1 2 = .ok (.iload_n 3, 1) := by decide +kernel
theorem d_X7_workOutSlopes_3 : decode m_X7_workOutSlopes.2.1 3 = .ok (.iconst 3, 1) := by decide +kernel
theorem d_X7_workOutSlopes_4 : decode m_X7_workOutSlopes.2.1 4 = .ok (.if_icmp .ge 30, 3) := by decide +kernel
theorem d_X7_workOutSlopes_7 : decode m_X7_workOutSlopes.2.1 7 = .ok (.aload_n 2, 1) := by decide +kernel
theorem d_X7_workOutSlopes_8 : decode m_X7_workOutSlopes.2.1 8 = .ok (.iload_n 3, 1) := by decide +kernel
theorem d_X7_workOutSlopes_9 : decode m_X7_workOutSlopes.2.1 9 = .ok (.aload_n 1, 1) := by decide +kernel
theorem d_X7_workOutSlopes_10 : decode m_X7_workOutSlopes.2.1 10 = .ok (.getfield 99, 3) := by decide +kernel
theorem d_X7_workOutSlopes_13 : decode m_X7_workOutSlopes.2.1 13 = .ok (.iload_n 3, 1) := by decide +kernel
theorem d_X7_workOutSlopes_14 : decode m_X7_workOutSlopes.2.1 14 = .ok (.aload_n 0, 1) := by decide +kernel
theorem d_X7_workOutSlopes_15 : decode m_X7_workOutSlopes.2.1 15 = .ok (.getfield 9, 3) := by decide +kernel
theorem d_X7_workOutSlopes_18 : decode m_X7_workOutSlopes.2.1 18 = .ok (.aload_n 0, 1) := by decide +kernel
theorem d_X7_workOutSlopes_19 : decode m_X7_workOutSlopes.2.1 19 = .ok (.getfield 15, 3) := by decide +kernel
theorem d_X7_workOutSlopes_22 : decode m_X7_workOutSlopes.2.1 22 = .ok (.invokevirtual 121, 3) := by decide +kernel
theorem d_X7_workOutSlopes_25 : decode m_X7_workOutSlopes.2.1 25 = .ok (.invokestatic 72, 3) := by decide +kernel
theorem d_X7_workOutSlopes_28 : decode m_X7_workOutSlopes.2.1 28 = .ok (.iinc 3 1, 3) := by decide +kernel
theorem d_X7_workOutSlopes_31 : decode m_X7_workOutSlopes.2.1 31 = .ok (.goto (-29), 3) := by decide +kernel
theorem d_X7_workOutSlopes_34 : decode m_X7_workOutSlopes.2.1 34 = .ok (.return_, 1) := by decide +kernel
theorem d_X7_rightSide_0 : decode m_X7_rightSide.2.1 0 = .ok (.aload_n 1, 1) := by decide +kernel
theorem d_X7_rightSide_1 : decode m_X7_rightSide.2.1 1 = .ok (.ifnonnull 5, 3) := by decide +kernel
theorem d_X7_rightSide_4 : decode m_X7_rightSide.2.1 4 = .ok (.iconst 0, 1) := by decide +kernel
theorem d_X7_rightSide_5 : decode m_X7_rightSide.2.1 5 = .ok (.ireturn, 1) := by decide +kernel
theorem d_X7_rightSide_6 : decode m_X7_rightSide.2.1 6 = .ok (.aload_n 1, 1) := by decide +kernel
theorem d_X7_rightSide_7 : decode m_X7_rightSide.2.1 7 = .ok (.getfield 30, 3) := by decide +kernel
theorem d_X7_rightSide_10 : decode m_X7_rightSide.2.1 10 = .ok (.iload_n 3, 1) := by decide +kernel
theorem d_X7_rightSide_11 : decode m_X7_rightSide.2.1 11 = .ok (.invokevirtual 125, 3) := by decide +kernel
theorem d_X7_rightSide_14 : decode m_X7_rightSide.2.1 14 = .ok (.istore 4, 2) := by decide +kernel
theorem d_X7_rightSide_16 : decode m_X7_rightSide.2.1 16 = .ok (.iconst 0, 1) := by decide +kernel
theorem d_X7_rightSide_17 : decode m_X7_rightSide.2.1 17 = .ok (.istore 5, 2) := by decide +kernel
theorem d_X7_rightSide_19 : decode m_X7_rightSide.2.1 19 = .ok (.iload 5, 2) := by decide +kernel
theorem d_X7_rightSide_21 : decode m_X7_rightSide.2.1 21 = .ok (.iconst 3, 1) := by decide +kernel
theorem d_X7_rightSide_22 : decode m_X7_rightSide.2.1 22 = .ok (.if_icmp .ge 27, 3) := by decide +kernel
theorem d_X7_rightSide_25 : decode m_X7_rightSide.2.1 25 = .ok (.aload_n 0, 1) := by decide +kernel
theorem d_X7_rightSide_26 : decode m_X7_rightSide.2.1 26 = .ok (.getfield 21, 3) := by decide +kernel
theorem d_X7_rightSide_29 : decode m_X7_rightSide.2.1 29 = .ok (.iload 5, 2) := by decide +kernel
theorem d_X7_rightSide_31 : decode m_X7_rightSide.2.1 31 = .ok (.aload_n 1, 1) := by decide +kernel
theorem d_X7_rightSide_32 : decode m_X7_rightSide.2.1 32 = .ok (.iload 4, 2) := by decide +kernel
theorem d_X7_rightSide_34 : decode m_X7_rightSide.2.1 34 = .ok (.iload 5, 2) := by decide +kernel
theorem d_X7_rightSide_36 : decode m_X7_rightSide.2.1 36 = .ok (.iload_n 3, 1) := by decide +kernel
theorem d_X7_rightSide_37 : decode m_X7_rightSide.2.1 37 = .ok (.invokevirtual 128, 3) := by decide +kernel
theorem d_X7_rightSide_40 : decode m_X7_rightSide.2.1 40 = .ok (.invokestatic 72, 3) := by decide +kernel
theorem d_X7_rightSide_43 : decode m_X7_rightSide.2.1 43 = .ok (.iinc 5 1, 3) := by decide +kernel
theorem d_X7_rightSide_46 : decode m_X7_rightSide.2.1 46 = .ok (.goto (-27), 3) := by decide +kernel
theorem d_X7_rightSide_49 : decode m_X7_rightSide.2.1 49 = .ok (.aload_n 0, 1) := by decide +kernel
theorem d_X7_rightSide_50 : decode m_X7_rightSide.2.1 50 = .ok (.aload_n 1, 1) := by decide +kernel
theorem d_X7_rightSide_51 : decode m_X7_rightSide.2.1 51 = .ok (.iload_n 3, 1) := by decide +kernel
theorem d_X7_rightSide_52 : decode m_X7_rightSide.2.1 52 = .ok (.iload_n 3, 1) := by decide +kernel
theorem d_X7_rightSide_53 : decode m_X7_rightSide.2.1 53 = .ok (.invokevirtual 76, 3) := by decide +kernel
theorem d_X7_rightSide_56 : decode m_X7_rightSide.2.1 56 = .ok (.aload_n 1, 1) := by decide +kernel
theorem d_X7_rightSide_57 : decode m_X7_rightSide.2.1 57 = .ok (.getfield 99, 3) := by decide +kernel
theorem d_X7_rightSide_60 : decode m_X7_rightSide.2.1 60 = .ok (.iload_n 2, 1) := by decide +kernel
theorem d_X7_rightSide_61 : decode m_X7_rightSide.2.1 61 = .ok (.aload_n 0, 1) := by decide +kernel
theorem d_X7_rightSide_62 : decode m_X7_rightSide.2.1 62 = .ok (.getfield 9, 3) := by decide +kernel
theorem d_X7_rightSide_65 : decode m_X7_rightSide.2.1 65 = .ok (.aload_n 0, 1) := by decide +kernel
theorem d_X7_rightSide_66 : decode m_X7_rightSide.2.1 66 = .ok (.getfield 15, 3) := by decide +kernel
theorem d_X7_rightSide_69 : decode m_X7_rightSide.2.1 69 = .ok (.invokevirtual 121, 3) := by decide +kernel
theorem d_X7_rightSide_72 : decode m_X7_rightSide.2.1 72 = .ok (.ireturn, 1) := by decide +kernel
theorem d_X7_gather_0 : decode m_X7_gather.2.1 0 = .ok (.aload_n 1, 1) := by decide +kernel
theorem d_X7_gather_1 : decode m_X7_gather.2.1 1 = .ok (.getfield 99, 3) := by decide +kernel
theorem d_X7_gather_4 : decode m_X7_gather.2.1 4 = .ok (.invokevirtual 103, 3) := by decide +kernel
theorem d_X7_gather_7 : decode m_X7_gather.2.1 7 = .ok (.istore 4, 2) := by decide +kernel
theorem d_X7_gather_9 : decode m_X7_gather.2.1 9 = .ok (.aload_n 0, 1) := by decide +kernel
theorem d_X7_gather_10 : decode m_X7_gather.2.1 10 = .ok (.getfield 9, 3) := by decide +kernel
theorem d_X7_gather_13 : decode m_X7_gather.2.1 13 = .ok (.iconst 3, 1) := by decide +kernel
theorem d_X7_gather_14 : decode m_X7_gather.2.1 14 = .ok (.iload_n 2, 1) := by decide +kernel
theorem d_X7_gather_15 : decode m_X7_gather.2.1 15 = .ok (.invokestatic 72, 3) := by decide +kernel
theorem d_X7_gather_18 : decode m_X7_gather.2.1 18 = .ok (.iconst 0, 1) := by decide +kernel
theorem d_X7_gather_19 : decode m_X7_gather.2.1 19 = .ok (.istore 5, 2) := by decide +kernel
theorem d_X7_gather_21 : decode m_X7_gather.2.1 21 = .ok (.iload 5, 2) := by decide +kernel
theorem d_X7_gather_23 : decode m_X7_gather.2.1 23 = .ok (.iconst 3, 1) := by decide +kernel
theorem d_X7_gather_24 : decode m_X7_gather.2.1 24 = .ok (.if_icmp .ge 27, 3) := by decide +kernel
theorem d_X7_gather_27 : decode m_X7_gather.2.1 27 = .ok (.aload_n 0, 1) := by decide +kernel
theorem d_X7_gather_28 : decode m_X7_gather.2.1 28 = .ok (.getfield 9, 3) := by decide +kernel
theorem d_X7_gather_31 : decode m_X7_gather.2.1 31 = .ok (.iload 5, 2) := by decide +kernel
theorem d_X7_gather_33 : decode m_X7_gather.2.1 33 = .ok (.aload_n 0, 1) := by decide +kernel
theorem d_X7_gather_34 : decode m_X7_gather.2.1 34 = .ok (.getfield 21, 3) := by decide +kernel
theorem d_X7_gather_37 : decode m_X7_gather.2.1 37 = .ok (.iload 5, 2) := by decide +kernel
theorem d_X7_gather_39 : decode m_X7_gather.2.1 39 = .ok (.invokestatic 61, 3) := by decide +kernel
theorem d_X7_gather_42 : decode m_X7_gather.2.1 42 = .ok (.invokestatic 72, 3) := by decide +kernel
theorem d_X7_gather_45 : decode m_X7_gather.2.1 45 = .ok (.iinc 5 1, 3) := by decide +kernel
theorem d_X7_gather_48 : decode m_X7_gather.2.1 48 = .ok (.goto (-27), 3) := by decide +kernel
theorem d_X7_gather_51 : decode m_X7_gather.2.1 51 = .ok (.iconst 0, 1) := by decide +kernel
theorem d_X7_gather_52 : decode m_X7_gather.2.1 52 = .ok (.istore 5, 2) := by decide +kernel
theorem d_X7_gather_54 : decode m_X7_gather.2.1 54 = .ok (.iload 5, 2) := by decide +kernel
theorem d_X7_gather_56 : decode m_X7_gather.2.1 56 = .ok (.iconst 3, 1) := by decide +kernel
theorem d_X7_gather_57 : decode m_X7_gather.2.1 57 = .ok (.if_icmp .ge 178, 3) := by decide +kernel
theorem d_X7_gather_60 : decode m_X7_gather.2.1 60 = .ok (.iload 4, 2) := by decide +kernel
theorem d_X7_gather_62 : decode m_X7_gather.2.1 62 = .ok (.iload 5, 2) := by decide +kernel
theorem d_X7_gather_64 : decode m_X7_gather.2.1 64 = .ok (.invokestatic 117, 3) := by decide +kernel
theorem d_X7_gather_67 : decode m_X7_gather.2.1 67 = .ok (.ifCond .ne 6, 3) := by decide +kernel
theorem d_X7_gather_70 : decode m_X7_gather.2.1 70 = .ok (.goto 159, 3) := by decide +kernel
theorem d_X7_gather_73 : decode m_X7_gather.2.1 73 = .ok (.iload_n 2, 1) := by decide +kernel
theorem d_X7_gather_74 : decode m_X7_gather.2.1 74 = .ok (.aload_n 1, 1) := by decide +kernel
theorem d_X7_gather_75 : decode m_X7_gather.2.1 75 = .ok (.getfield 108, 3) := by decide +kernel
theorem d_X7_gather_78 : decode m_X7_gather.2.1 78 = .ok (.iload 5, 2) := by decide +kernel
theorem d_X7_gather_80 : decode m_X7_gather.2.1 80 = .ok (.iload_n 2, 1) := by decide +kernel
theorem d_X7_gather_81 : decode m_X7_gather.2.1 81 = .ok (.invokevirtual 112, 3) := by decide +kernel
theorem d_X7_gather_84 : decode m_X7_gather.2.1 84 = .ok (.isub, 1) := by decide +kernel
theorem d_X7_gather_85 : decode m_X7_gather.2.1 85 = .ok (.istore 6, 2) := by decide +kernel
theorem d_X7_gather_87 : decode m_X7_gather.2.1 87 = .ok (.aload_n 1, 1) := by decide +kernel
theorem d_X7_gather_88 : decode m_X7_gather.2.1 88 = .ok (.getfield 30, 3) := by decide +kernel
theorem d_X7_gather_91 : decode m_X7_gather.2.1 91 = .ok (.iload 6, 2) := by decide +kernel
theorem d_X7_gather_93 : decode m_X7_gather.2.1 93 = .ok (.invokevirtual 125, 3) := by decide +kernel
theorem d_X7_gather_96 : decode m_X7_gather.2.1 96 = .ok (.istore 7, 2) := by decide +kernel
theorem d_X7_gather_98 : decode m_X7_gather.2.1 98 = .ok (.iconst 0, 1) := by decide +kernel
theorem d_X7_gather_99 : decode m_X7_gather.2.1 99 = .ok (.istore 8, 2) := by decide +kernel
theorem d_X7_gather_101 : decode m_X7_gather.2.1 101 = .ok (.iload 8, 2) := by decide +kernel
theorem d_X7_gather_103 : decode m_X7_gather.2.1 103 = .ok (.iconst 3, 1) := by decide +kernel
theorem d_X7_gather_104 : decode m_X7_gather.2.1 104 = .ok (.if_icmp .ge 125, 3) := by decide +kernel
theorem d_X7_gather_107 : decode m_X7_gather.2.1 107 = .ok (.iload 5, 2) := by decide +kernel
theorem d_X7_gather_109 : decode m_X7_gather.2.1 109 = .ok (.iload 8, 2) := by decide +kernel
theorem d_X7_gather_111 : decode m_X7_gather.2.1 111 = .ok (.invokestatic 132, 3) := by decide +kernel
theorem d_X7_gather_114 : decode m_X7_gather.2.1 114 = .ok (.istore 9, 2) := by decide +kernel
theorem d_X7_gather_116 : decode m_X7_gather.2.1 116 = .ok (.iload 4, 2) := by decide +kernel
theorem d_X7_gather_118 : decode m_X7_gather.2.1 118 = .ok (.iload 9, 2) := by decide +kernel
theorem d_X7_gather_120 : decode m_X7_gather.2.1 120 = .ok (.invokestatic 135, 3) := by decide +kernel
theorem d_X7_gather_123 : decode m_X7_gather.2.1 123 = .ok (.ifCond .eq 44, 3) := by decide +kernel
theorem d_X7_gather_126 : decode m_X7_gather.2.1 126 = .ok (.aload_n 0, 1) := by decide +kernel
theorem d_X7_gather_127 : decode m_X7_gather.2.1 127 = .ok (.getfield 9, 3) := by decide +kernel
theorem d_X7_gather_130 : decode m_X7_gather.2.1 130 = .ok (.iload 9, 2) := by decide +kernel
theorem d_X7_gather_132 : decode m_X7_gather.2.1 132 = .ok (.iload 6, 2) := by decide +kernel
theorem d_X7_gather_134 : decode m_X7_gather.2.1 134 = .ok (.iload_n 3, 1) := by decide +kernel
theorem d_X7_gather_135 : decode m_X7_gather.2.1 135 = .ok (.if_icmp .le 19, 3) := by decide +kernel
theorem d_X7_gather_138 : decode m_X7_gather.2.1 138 = .ok (.aload_n 0, 1) := by decide +kernel
theorem d_X7_gather_139 : decode m_X7_gather.2.1 139 = .ok (.iload 8, 2) := by decide +kernel
theorem d_X7_gather_141 : decode m_X7_gather.2.1 141 = .ok (.iload 6, 2) := by decide +kernel
theorem d_X7_gather_143 : decode m_X7_gather.2.1 143 = .ok (.iload_n 3, 1) := by decide +kernel
theorem d_X7_gather_144 : decode m_X7_gather.2.1 144 = .ok (.isub, 1) := by decide +kernel
theorem d_X7_gather_145 : decode m_X7_gather.2.1 145 = .ok (.iload_n 2, 1) := by decide +kernel
theorem d_X7_gather_146 : decode m_X7_gather.2.1 146 = .ok (.iload_n 3, 1) := by decide +kernel
theorem d_X7_gather_147 : decode m_X7_gather.2.1 147 = .ok (.isub, 1) := by decide +kernel
theorem d_X7_gather_148 : decode m_X7_gather.2.1 148 = .ok (.invokevirtual 138, 3) := by decide +kernel
theorem d_X7_gather_151 : decode m_X7_gather.2.1 151 = .ok (.goto 13, 3) := by decide +kernel
theorem d_X7_gather_154 : decode m_X7_gather.2.1 154 = .ok (.aload_n 1, 1) := by decide +kernel
theorem d_X7_gather_155 : decode m_X7_gather.2.1 155 = .ok (.iload 7, 2) := by decide +kernel
theorem d_X7_gather_157 : decode m_X7_gather.2.1 157 = .ok (.iload 8, 2) := by decide +kernel
theorem d_X7_gather_159 : decode m_X7_gather.2.1 159 = .ok (.iload 6, 2) := by decide +kernel
theorem d_X7_gather_161 : decode m_X7_gather.2.1 161 = .ok (.invokevirtual 128, 3) := by decide +kernel
theorem d_X7_gather_164 : decode m_X7_gather.2.1 164 = .ok (.invokestatic 72, 3) := by decide +kernel
theorem d_X7_gather_167 : decode m_X7_gather.2.1 167 = .ok (.iload 5, 2) := by decide +kernel
theorem d_X7_gather_169 : decode m_X7_gather.2.1 169 = .ok (.iload 8, 2) := by decide +kernel
theorem d_X7_gather_171 : decode m_X7_gather.2.1 171 = .ok (.invokestatic 141, 3) := by decide +kernel
theorem d_X7_gather_174 : decode m_X7_gather.2.1 174 = .ok (.istore 9, 2) := by decide +kernel
theorem d_X7_gather_176 : decode m_X7_gather.2.1 176 = .ok (.iload 4, 2) := by decide +kernel
theorem d_X7_gather_178 : decode m_X7_gather.2.1 178 = .ok (.iload 9, 2) := by decide +kernel
theorem d_X7_gather_180 : decode m_X7_gather.2.1 180 = .ok (.invokestatic 135, 3) := by decide +kernel
theorem d_X7_gather_183 : decode m_X7_gather.2.1 183 = .ok (.ifCond .eq 40, 3) := by decide +kernel
theorem d_X7_gather_186 : decode m_X7_gather.2.1 186 = .ok (.aload_n 0, 1) := by decide +kernel
theorem d_X7_gather_187 : decode m_X7_gather.2.1 187 = .ok (.getfield 9, 3) := by decide +kernel
theorem d_X7_gather_190 : decode m_X7_gather.2.1 190 = .ok (.iload 9, 2) := by decide +kernel
theorem d_X7_gather_192 : decode m_X7_gather.2.1 192 = .ok (.iload 6, 2) := by decide +kernel
theorem d_X7_gather_194 : decode m_X7_gather.2.1 194 = .ok (.iload_n 3, 1) := by decide +kernel
theorem d_X7_gather_195 : decode m_X7_gather.2.1 195 = .ok (.if_icmp .le 15, 3) := by decide +kernel
theorem d_X7_gather_198 : decode m_X7_gather.2.1 198 = .ok (.aload_n 0, 1) := by decide +kernel
theorem d_X7_gather_199 : decode m_X7_gather.2.1 199 = .ok (.iload 8, 2) := by decide +kernel
theorem d_X7_gather_201 : decode m_X7_gather.2.1 201 = .ok (.iload_n 2, 1) := by decide +kernel
theorem d_X7_gather_202 : decode m_X7_gather.2.1 202 = .ok (.iload_n 3, 1) := by decide +kernel
theorem d_X7_gather_203 : decode m_X7_gather.2.1 203 = .ok (.isub, 1) := by decide +kernel
theorem d_X7_gather_204 : decode m_X7_gather.2.1 204 = .ok (.invokevirtual 144, 3) := by decide +kernel
theorem d_X7_gather_207 : decode m_X7_gather.2.1 207 = .ok (.goto 13, 3) := by decide +kernel
theorem d_X7_gather_210 : decode m_X7_gather.2.1 210 = .ok (.aload_n 1, 1) := by decide +kernel
theorem d_X7_gather_211 : decode m_X7_gather.2.1 211 = .ok (.iload 7, 2) := by decide +kernel
theorem d_X7_gather_213 : decode m_X7_gather.2.1 213 = .ok (.iload 8, 2) := by decide +kernel
theorem d_X7_gather_215 : decode m_X7_gather.2.1 215 = .ok (.iload 6, 2) := by decide +kernel
theorem d_X7_gather_217 : decode m_X7_gather.2.1 217 = .ok (.invokevirtual 147, 3) := by decide +kernel
theorem d_X7_gather_220 : decode m_X7_gather.2.1 220 = .ok (.invokestatic 72, 3) := by decide +kernel
theorem d_X7_gather_223 : decode m_X7_gather.2.1 223 = .ok (.iinc 8 1, 3) := by decide +kernel
theorem d_X7_gather_226 : decode m_X7_gather.2.1 226 = .ok (.goto (-125), 3) := by decide +kernel
theorem d_X7_gather_229 : decode m_X7_gather.2.1 229 = .ok (.iinc 5 1, 3) := by decide +kernel
theorem d_X7_gather_232 : decode m_X7_gather.2.1 232 = .ok (.goto (-178), 3) := by decide +kernel
theorem d_X7_gather_235 : decode m_X7_gather.2.1 235 = .ok (.return_, 1) := by decide +kernel
theorem d_X7_guessedValue_0 : decode m_X7_guessedValue.2.1 0 = .ok (.aload_n 0, 1) := by decide +kernel
theorem d_X7_guessedValue_1 : decode m_X7_guessedValue.2.1 1 = .ok (.getfield 18, 3) := by decide +kernel
theorem d_X7_guessedValue_4 : decode m_X7_guessedValue.2.1 4 = .ok (.iload_n 1, 1) := by decide +kernel
theorem d_X7_guessedValue_5 : decode m_X7_guessedValue.2.1 5 = .ok (.invokestatic 61, 3) := by decide +kernel
theorem d_X7_guessedValue_8 : decode m_X7_guessedValue.2.1 8 = .ok (.i2l, 1) := by decide +kernel
theorem d_X7_guessedValue_9 : decode m_X7_guessedValue.2.1 9 = .ok (.lstore 4, 2) := by decide +kernel
theorem d_X7_guessedValue_11 : decode m_X7_guessedValue.2.1 11 = .ok (.aload_n 0, 1) := by decide +kernel
theorem d_X7_guessedValue_12 : decode m_X7_guessedValue.2.1 12 = .ok (.getfield 21, 3) := by decide +kernel
theorem d_X7_guessedValue_15 : decode m_X7_guessedValue.2.1 15 = .ok (.iload_n 1, 1) := by decide +kernel
theorem d_X7_guessedValue_16 : decode m_X7_guessedValue.2.1 16 = .ok (.invokestatic 61, 3) := by decide +kernel
theorem d_X7_guessedValue_19 : decode m_X7_guessedValue.2.1 19 = .ok (.i2l, 1) := by decide +kernel
theorem d_X7_guessedValue_20 : decode m_X7_guessedValue.2.1 20 = .ok (.lload 4, 2) := by decide +kernel
theorem d_X7_guessedValue_22 : decode m_X7_guessedValue.2.1 22 = .ok (.lsub, 1) := by decide +kernel
theorem d_X7_guessedValue_23 : decode m_X7_guessedValue.2.1 23 = .ok (.lstore 6, 2) := by decide +kernel
theorem d_X7_guessedValue_25 : decode m_X7_guessedValue.2.1 25 = .ok (.lload 4, 2) := by decide +kernel
theorem d_X7_guessedValue_27 : decode m_X7_guessedValue.2.1 27 = .ok (.lload 6, 2) := by decide +kernel
theorem d_X7_guessedValue_29 : decode m_X7_guessedValue.2.1 29 = .ok (.iload_n 2, 1) := by decide +kernel
theorem d_X7_guessedValue_30 : decode m_X7_guessedValue.2.1 30 = .ok (.i2l, 1) := by decide +kernel
theorem d_X7_guessedValue_31 : decode m_X7_guessedValue.2.1 31 = .ok (.lmul, 1) := by decide +kernel
theorem d_X7_guessedValue_32 : decode m_X7_guessedValue.2.1 32 = .ok (.iload_n 3, 1) := by decide +kernel
theorem d_X7_guessedValue_33 : decode m_X7_guessedValue.2.1 33 = .ok (.i2l, 1) := by decide +kernel
theorem d_X7_guessedValue_34 : decode m_X7_guessedValue.2.1 34 = .ok (.invokestatic 150, 3) := by decide +kernel
theorem d_X7_guessedValue_37 : decode m_X7_guessedValue.2.1 37 = .ok (.ladd, 1) := by decide +kernel
theorem d_X7_guessedValue_38 : decode m_X7_guessedValue.2.1 38 = .ok (.invokestatic 85, 3) := by decide +kernel
theorem d_X7_guessedValue_41 : decode m_X7_guessedValue.2.1 41 = .ok (.ireturn, 1) := by decide +kernel
theorem d_X7_guessedSlope_0 : decode m_X7_guessedSlope.2.1 0 = .ok (.aload_n 0, 1) := by decide +kernel
theorem d_X7_guessedSlope_1 : decode m_X7_guessedSlope.2.1 1 = .ok (.getfield 21, 3) := by decide +kernel
theorem d_X7_guessedSlope_4 : decode m_X7_guessedSlope.2.1 4 = .ok (.iload_n 1, 1) := by decide +kernel
theorem d_X7_guessedSlope_5 : decode m_X7_guessedSlope.2.1 5 = .ok (.invokestatic 61, 3) := by decide +kernel
theorem d_X7_guessedSlope_8 : decode m_X7_guessedSlope.2.1 8 = .ok (.i2l, 1) := by decide +kernel
theorem d_X7_guessedSlope_9 : decode m_X7_guessedSlope.2.1 9 = .ok (.aload_n 0, 1) := by decide +kernel
theorem d_X7_guessedSlope_10 : decode m_X7_guessedSlope.2.1 10 = .ok (.getfield 18, 3) := by decide +kernel
theorem d_X7_guessedSlope_13 : decode m_X7_guessedSlope.2.1 13 = .ok (.iload_n 1, 1) := by decide +kernel
theorem d_X7_guessedSlope_14 : decode m_X7_guessedSlope.2.1 14 = .ok (.invokestatic 61, 3) := by decide +kernel
theorem d_X7_guessedSlope_17 : decode m_X7_guessedSlope.2.1 17 = .ok (.i2l, 1) := by decide +kernel
theorem d_X7_guessedSlope_18 : decode m_X7_guessedSlope.2.1 18 = .ok (.lsub, 1) := by decide +kernel
theorem d_X7_guessedSlope_19 : decode m_X7_guessedSlope.2.1 19 = .ok (.lstore_n 3, 1) := by decide +kernel
theorem d_X7_guessedSlope_20 : decode m_X7_guessedSlope.2.1 20 = .ok (.lload_n 3, 1) := by decide +kernel
theorem d_X7_guessedSlope_21 : decode m_X7_guessedSlope.2.1 21 = .ok (.ldc2_w 83, 3) := by decide +kernel
theorem d_X7_guessedSlope_24 : decode m_X7_guessedSlope.2.1 24 = .ok (.lmul, 1) := by decide +kernel
theorem d_X7_guessedSlope_25 : decode m_X7_guessedSlope.2.1 25 = .ok (.iload_n 2, 1) := by decide +kernel
theorem d_X7_guessedSlope_26 : decode m_X7_guessedSlope.2.1 26 = .ok (.i2l, 1) := by decide +kernel
theorem d_X7_guessedSlope_27 : decode m_X7_guessedSlope.2.1 27 = .ok (.invokestatic 150, 3) := by decide +kernel
theorem d_X7_guessedSlope_30 : decode m_X7_guessedSlope.2.1 30 = .ok (.invokestatic 85, 3) := by decide +kernel
theorem d_X7_guessedSlope_33 : decode m_X7_guessedSlope.2.1 33 = .ok (.ireturn, 1) := by decide +kernel
theorem d_X8_init_0 : decode m_X8_init.2.1 0 = .ok (.aload_n 0, 1) := by decide +kernel
theorem d_X8_init_1 : decode m_X8_init.2.1 1 = .ok (.invokespecial 3, 3) := by decide +kernel
theorem d_X8_init_4 : decode m_X8_init.2.1 4 = .ok (.aload_n 0, 1) := by decide +kernel
theorem d_X8_init_5 : decode m_X8_init.2.1 5 = .ok (.bipush 80, 2) := by decide +kernel
theorem d_X8_init_7 : decode m_X8_init.2.1 7 = .ok (.newarray .int, 2) := by decide +kernel
theorem d_X8_init_9 : decode m_X8_init.2.1 9 = .ok (.putfield 9, 3) := by decide +kernel
theorem d_X8_init_12 : decode m_X8_init.2.1 12 = .ok (.aload_n 0, 1) := by decide +kernel
theorem d_X8_init_13 : decode m_X8_init.2.1 13 = .ok (.bipush 80, 2) := by decide +kernel
theorem d_X8_init_15 : decode m_X8_init.2.1 15 = .ok (.newarray .int, 2) := by decide +kernel
theorem d_X8_init_17 : decode m_X8_init.2.1 17 = .ok (.putfield 15, 3) := by decide +kernel
theorem d_X8_init_20 : decode m_X8_init.2.1 20 = .ok (.return_, 1) := by decide +kernel
theorem d_X8_append_0 : decode m_X8_append.2.1 0 = .ok (.aload_n 0, 1) := by decide +kernel
theorem d_X8_append_1 : decode m_X8_append.2.1 1 = .ok (.getfield 18, 3) := by decide +kernel
theorem d_X8_append_4 : decode m_X8_append.2.1 4 = .ok (.bipush 80, 2) := by decide +kernel
theorem d_X8_append_6 : decode m_X8_append.2.1 6 = .ok (.if_icmp .lt 5, 3) := by decide +kernel
theorem d_X8_append_9 : decode m_X8_append.2.1 9 = .ok (.iconst 0, 1) := by decide +kernel
theorem d_X8_append_10 : decode m_X8_append.2.1 10 = .ok (.ireturn, 1) := by decide +kernel
theorem d_X8_append_11 : decode m_X8_append.2.1 11 = .ok (.aload_n 0, 1) := by decide +kernel
theorem d_X8_append_12 : decode m_X8_append.2.1 12 = .ok (.getfield 9, 3) := by decide +kernel
theorem d_X8_append_15 : decode m_X8_append.2.1 15 = .ok (.aload_n 0, 1) := by decide +kernel
theorem d_X8_append_16 : decode m_X8_append.2.1 16 = .ok (.getfield 18, 3) := by decide +kernel
theorem d_X8_append_19 : decode m_X8_append.2.1 19 = .ok (.iload_n 1, 1) := by decide +kernel
theorem d_X8_append_20 : decode m_X8_append.2.1 20 = .ok (.invokestatic 22, 3) := by decide +kernel
theorem d_X8_append_23 : decode m_X8_append.2.1 23 = .ok (.aload_n 0, 1) := by decide +kernel
theorem d_X8_append_24 : decode m_X8_append.2.1 24 = .ok (.dup, 1) := by decide +kernel
theorem d_X8_append_25 : decode m_X8_append.2.1 25 = .ok (.getfield 18, 3) := by decide +kernel
theorem d_X8_append_28 : decode m_X8_append.2.1 28 = .ok (.iconst 1, 1) := by decide +kernel
theorem d_X8_append_29 : decode m_X8_append.2.1 29 = .ok (.iadd, 1) := by decide +kernel
theorem d_X8_append_30 : decode m_X8_append.2.1 30 = .ok (.putfield 18, 3) := by decide +kernel
theorem d_X8_append_33 : decode m_X8_append.2.1 33 = .ok (.iconst 1, 1) := by decide +kernel
theorem d_X8_append_34 : decode m_X8_append.2.1 34 = .ok (.ireturn, 1) := by decide +kernel
theorem d_X8_empty_0 : decode m_X8_empty.2.1 0 = .ok (.aload_n 0, 1) := by decide +kernel
theorem d_X8_empty_1 : decode m_X8_empty.2.1 1 = .ok (.iconst 0, 1) := by decide +kernel
theorem d_X8_empty_2 : decode m_X8_empty.2.1 2 = .ok (.putfield 18, 3) := by decide +kernel
theorem d_X8_empty_5 : decode m_X8_empty.2.1 5 = .ok (.return_, 1) := by decide +kernel
theorem d_X8_read_0 : decode m_X8_read.2.1 0 = .ok (.aload_n 0, 1) := by decide +kernel
theorem d_X8_read_1 : decode m_X8_read.2.1 1 = .ok (.iconst 0, 1) := by decide +kernel
theorem d_X8_read_2 : decode m_X8_read.2.1 2 = .ok (.putfield 26, 3) := by decide +kernel
theorem d_X8_read_5 : decode m_X8_read.2.1 5 = .ok (.aload_n 0, 1) := by decide +kernel
theorem d_X8_read_6 : decode m_X8_read.2.1 6 = .ok (.iconst 0, 1) := by decide +kernel
theorem d_X8_read_7 : decode m_X8_read.2.1 7 = .ok (.putfield 29, 3) := by decide +kernel
theorem d_X8_read_10 : decode m_X8_read.2.1 10 = .ok (.aload_n 0, 1) := by decide +kernel
theorem d_X8_read_11 : decode m_X8_read.2.1 11 = .ok (.iconst 0, 1) := by decide +kernel
theorem d_X8_read_12 : decode m_X8_read.2.1 12 = .ok (.putfield 32, 3) := by decide +kernel
theorem d_X8_read_15 : decode m_X8_read.2.1 15 = .ok (.aload_n 0, 1) := by decide +kernel
theorem d_X8_read_16 : decode m_X8_read.2.1 16 = .ok (.iconst 0, 1) := by decide +kernel
theorem d_X8_read_17 : decode m_X8_read.2.1 17 = .ok (.invokevirtual 35, 3) := by decide +kernel
theorem d_X8_read_20 : decode m_X8_read.2.1 20 = .ok (.istore_n 1, 1) := by decide +kernel
theorem d_X8_read_21 : decode m_X8_read.2.1 21 = .ok (.iload_n 1, 1) := by decide +kernel
theorem d_X8_read_22 : decode m_X8_read.2.1 22 = .ok (.ifCond .eq 18, 3) := by decide +kernel
theorem d_X8_read_25 : decode m_X8_read.2.1 25 = .ok (.aload_n 0, 1) := by decide +kernel
theorem d_X8_read_26 : decode m_X8_read.2.1 26 = .ok (.getfield 26, 3) := by decide +kernel
theorem d_X8_read_29 : decode m_X8_read.2.1 29 = .ok (.aload_n 0, 1) := by decide +kernel
theorem d_X8_read_30 : decode m_X8_read.2.1 30 = .ok (.getfield 18, 3) := by decide +kernel
theorem d_X8_read_33 : decode m_X8_read.2.1 33 = .ok (.if_icmp .ne 7, 3) := by decide +kernel
theorem d_X8_read_36 : decode m_X8_read.2.1 36 = .ok (.iconst (-1), 1) := by decide +kernel
theorem d_X8_read_37 : decode m_X8_read.2.1 37 = .ok (.goto 7, 3) := by decide +kernel
theorem d_X8_read_40 : decode m_X8_read.2.1 40 = .ok (.aload_n 0, 1) := by decide +kernel
theorem d_X8_read_41 : decode m_X8_read.2.1 41 = .ok (.getfield 26, 3) := by decide +kernel
theorem d_X8_read_44 : decode m_X8_read.2.1 44 = .ok (.ireturn, 1) := by decide +kernel
theorem d_X8_readSum_0 : decode m_X8_readSum.2.1 0 = .ok (.iload_n 1, 1) := by decide +kernel
theorem d_X8_readSum_1 : decode m_X8_readSum.2.1 1 = .ok (.bipush 6, 2) := by decide +kernel
theorem d_X8_readSum_3 : decode m_X8_readSum.2.1 3 = .ok (.if_icmp .gt 11, 3) := by decide +kernel
theorem d_X8_readSum_6 : decode m_X8_readSum.2.1 6 = .ok (.aload_n 0, 1) := by decide +kernel
theorem d_X8_readSum_7 : decode m_X8_readSum.2.1 7 = .ok (.iload_n 1, 1) := by decide +kernel
theorem d_X8_readSum_8 : decode m_X8_readSum.2.1 8 = .ok (.invokevirtual 39, 3) := by decide +kernel
theorem d_X8_readSum_11 : decode m_X8_readSum.2.1 11 = .ok (.ifCond .ne 5, 3) := by decide +kernel
theorem d_X8_readSum_14 : decode m_X8_readSum.2.1 14 = .ok (.iconst 0, 1) := by decide +kernel
theorem d_X8_readSum_15 : decode m_X8_readSum.2.1 15 = .ok (.ireturn, 1) := by decide +kernel
theorem d_X8_readSum_16 : decode m_X8_readSum.2.1 16 = .ok (.iconst 0, 1) := by decide +kernel
theorem d_X8_readSum_17 : decode m_X8_readSum.2.1 17 = .ok (.istore_n 2, 1) := by decide +kernel
theorem d_X8_readSum_18 : decode m_X8_readSum.2.1 18 = .ok (.iload_n 2, 1) := by decide +kernel
theorem d_X8_readSum_19 : decode m_X8_readSum.2.1 19 = .ok (.bipush 80, 2) := by decide +kernel
theorem d_X8_readSum_21 : decode m_X8_readSum.2.1 21 = .ok (.if_icmp .ge 68, 3) := by decide +kernel
theorem d_X8_readSum_24 : decode m_X8_readSum.2.1 24 = .ok (.aload_n 0, 1) := by decide +kernel
theorem d_X8_readSum_25 : decode m_X8_readSum.2.1 25 = .ok (.invokevirtual 42, 3) := by decide +kernel
theorem d_X8_readSum_28 : decode m_X8_readSum.2.1 28 = .ok (.bipush 43, 2) := by decide +kernel
theorem d_X8_readSum_30 : decode m_X8_readSum.2.1 30 = .ok (.if_icmp .eq 12, 3) := by decide +kernel
theorem d_X8_readSum_33 : decode m_X8_readSum.2.1 33 = .ok (.aload_n 0, 1) := by decide +kernel
theorem d_X8_readSum_34 : decode m_X8_readSum.2.1 34 = .ok (.invokevirtual 42, 3) := by decide +kernel
theorem d_X8_readSum_37 : decode m_X8_readSum.2.1 37 = .ok (.bipush 45, 2) := by decide +kernel
theorem d_X8_readSum_39 : decode m_X8_readSum.2.1 39 = .ok (.if_icmp .ne 50, 3) := by decide +kernel
theorem d_X8_readSum_42 : decode m_X8_readSum.2.1 42 = .ok (.aload_n 0, 1) := by decide +kernel
theorem d_X8_readSum_43 : decode m_X8_readSum.2.1 43 = .ok (.invokevirtual 42, 3) := by decide +kernel
theorem d_X8_readSum_46 : decode m_X8_readSum.2.1 46 = .ok (.bipush 43, 2) := by decide +kernel
theorem d_X8_readSum_48 : decode m_X8_readSum.2.1 48 = .ok (.if_icmp .ne 7, 3) := by decide +kernel
theorem d_X8_readSum_51 : decode m_X8_readSum.2.1 51 = .ok (.iconst 2, 1) := by decide +kernel
theorem d_X8_readSum_52 : decode m_X8_readSum.2.1 52 = .ok (.goto 4, 3) := by decide +kernel
theorem d_X8_readSum_55 : decode m_X8_readSum.2.1 55 = .ok (.iconst 3, 1) := by decide +kernel
theorem d_X8_readSum_56 : decode m_X8_readSum.2.1 56 = .ok (.istore_n 3, 1) := by decide +kernel
theorem d_X8_readSum_57 : decode m_X8_readSum.2.1 57 = .ok (.aload_n 0, 1) := by decide +kernel
theorem d_X8_readSum_58 : decode m_X8_readSum.2.1 58 = .ok (.dup, 1) := by decide +kernel
theorem d_X8_readSum_59 : decode m_X8_readSum.2.1 59 = .ok (.getfield 26, 3) := by decide +kernel
theorem d_X8_readSum_62 : decode m_X8_readSum.2.1 62 = .ok (.iconst 1, 1) := by decide +kernel
theorem d_X8_readSum_63 : decode m_X8_readSum.2.1 63 = .ok (.iadd, 1) := by decide +kernel
theorem d_X8_readSum_64 : decode m_X8_readSum.2.1 64 = .ok (.putfield 26, 3) := by decide +kernel
theorem d_X8_readSum_67 : decode m_X8_readSum.2.1 67 = .ok (.aload_n 0, 1) := by decide +kernel
theorem d_X8_readSum_68 : decode m_X8_readSum.2.1 68 = .ok (.iload_n 1, 1) := by decide +kernel
theorem d_X8_readSum_69 : decode m_X8_readSum.2.1 69 = .ok (.invokevirtual 39, 3) := by decide +kernel
theorem d_X8_readSum_72 : decode m_X8_readSum.2.1 72 = .ok (.ifCond .ne 5, 3) := by decide +kernel
theorem d_X8_readSum_75 : decode m_X8_readSum.2.1 75 = .ok (.iconst 0, 1) := by decide +kernel
theorem d_X8_readSum_76 : decode m_X8_readSum.2.1 76 = .ok (.ireturn, 1) := by decide +kernel
theorem d_X8_readSum_77 : decode m_X8_readSum.2.1 77 = .ok (.aload_n 0, 1) := by decide +kernel
theorem d_X8_readSum_78 : decode m_X8_readSum.2.1 78 = .ok (.iload_n 3, 1) := by decide +kernel
theorem d_X8_readSum_79 : decode m_X8_readSum.2.1 79 = .ok (.iconst 0, 1) := by decide +kernel
theorem d_X8_readSum_80 : decode m_X8_readSum.2.1 80 = .ok (.invokevirtual 46, 3) := by decide +kernel
theorem d_X8_readSum_83 : decode m_X8_readSum.2.1 83 = .ok (.iinc 2 1, 3) := by decide +kernel
theorem d_X8_readSum_86 : decode m_X8_readSum.2.1 86 = .ok (.goto (-68), 3) := by decide +kernel
theorem d_X8_readSum_89 : decode m_X8_readSum.2.1 89 = .ok (.iconst 1, 1) := by decide +kernel
theorem d_X8_readSum_90 : decode m_X8_readSum.2.1 90 = .ok (.ireturn, 1) := by decide +kernel
theorem d_X8_readTerm_0 : decode m_X8_readTerm.2.1 0 = .ok (.aload_n 0, 1) := by decide +kernel
theorem d_X8_readTerm_1 : decode m_X8_readTerm.2.1 1 = .ok (.iload_n 1, 1) := by decide +kernel
theorem d_X8_readTerm_2 : decode m_X8_readTerm.2.1 2 = .ok (.invokevirtual 50, 3) := by decide +kernel
theorem d_X8_readTerm_5 : decode m_X8_readTerm.2.1 5 = .ok (.ifCond .ne 5, 3) := by decide +kernel
theorem d_X8_readTerm_8 : decode m_X8_readTerm.2.1 8 = .ok (.iconst 0, 1) := by decide +kernel
theorem d_X8_readTerm_9 : decode m_X8_readTerm.2.1 9 = .ok (.ireturn, 1) := by decide +kernel
theorem d_X8_readTerm_10 : decode m_X8_readTerm.2.1 10 = .ok (.iconst 0, 1) := by decide +kernel
theorem d_X8_readTerm_11 : decode m_X8_readTerm.2.1 11 = .ok (.istore_n 2, 1) := by decide +kernel
theorem d_X8_readTerm_12 : decode m_X8_readTerm.2.1 12 = .ok (.iload_n 2, 1) := by decide +kernel
theorem d_X8_readTerm_13 : decode m_X8_readTerm.2.1 13 = .ok (.bipush 80, 2) := by decide +kernel
theorem d_X8_readTerm_15 : decode m_X8_readTerm.2.1 15 = .ok (.if_icmp .ge 68, 3) := by decide +kernel
theorem d_X8_readTerm_18 : decode m_X8_readTerm.2.1 18 = .ok (.aload_n 0, 1) := by decide +kernel
theorem d_X8_readTerm_19 : decode m_X8_readTerm.2.1 19 = .ok (.invokevirtual 42, 3) := by decide +kernel
theorem d_X8_readTerm_22 : decode m_X8_readTerm.2.1 22 = .ok (.bipush 42, 2) := by decide +kernel
theorem d_X8_readTerm_24 : decode m_X8_readTerm.2.1 24 = .ok (.if_icmp .eq 12, 3) := by decide +kernel
theorem d_X8_readTerm_27 : decode m_X8_readTerm.2.1 27 = .ok (.aload_n 0, 1) := by decide +kernel
theorem d_X8_readTerm_28 : decode m_X8_readTerm.2.1 28 = .ok (.invokevirtual 42, 3) := by decide +kernel
theorem d_X8_readTerm_31 : decode m_X8_readTerm.2.1 31 = .ok (.bipush 47, 2) := by decide +kernel
theorem d_X8_readTerm_33 : decode m_X8_readTerm.2.1 33 = .ok (.if_icmp .ne 50, 3) := by decide +kernel
theorem d_X8_readTerm_36 : decode m_X8_readTerm.2.1 36 = .ok (.aload_n 0, 1) := by decide +kernel
theorem d_X8_readTerm_37 : decode m_X8_readTerm.2.1 37 = .ok (.invokevirtual 42, 3) := by decide +kernel
theorem d_X8_readTerm_40 : decode m_X8_readTerm.2.1 40 = .ok (.bipush 42, 2) := by decide +kernel
theorem d_X8_readTerm_42 : decode m_X8_readTerm.2.1 42 = .ok (.if_icmp .ne 7, 3) := by decide +kernel
theorem d_X8_readTerm_45 : decode m_X8_readTerm.2.1 45 = .ok (.iconst 4, 1) := by decide +kernel
theorem d_X8_readTerm_46 : decode m_X8_readTerm.2.1 46 = .ok (.goto 4, 3) := by decide +kernel
theorem d_X8_readTerm_49 : decode m_X8_readTerm.2.1 49 = .ok (.iconst 5, 1) := by decide +kernel
theorem d_X8_readTerm_50 : decode m_X8_readTerm.2.1 50 = .ok (.istore_n 3, 1) := by decide +kernel
theorem d_X8_readTerm_51 : decode m_X8_readTerm.2.1 51 = .ok (.aload_n 0, 1) := by decide +kernel
theorem d_X8_readTerm_52 : decode m_X8_readTerm.2.1 52 = .ok (.dup, 1) := by decide +kernel
theorem d_X8_readTerm_53 : decode m_X8_readTerm.2.1 53 = .ok (.getfield 26, 3) := by decide +kernel
theorem d_X8_readTerm_56 : decode m_X8_readTerm.2.1 56 = .ok (.iconst 1, 1) := by decide +kernel
theorem d_X8_readTerm_57 : decode m_X8_readTerm.2.1 57 = .ok (.iadd, 1) := by decide +kernel
theorem d_X8_readTerm_58 : decode m_X8_readTerm.2.1 58 = .ok (.putfield 26, 3) := by decide +kernel
theorem d_X8_readTerm_61 : decode m_X8_readTerm.2.1 61 = .ok (.aload_n 0, 1) := by decide +kernel
theorem d_X8_readTerm_62 : decode m_X8_readTerm.2.1 62 = .ok (.iload_n 1, 1) := by decide +kernel
theorem d_X8_readTerm_63 : decode m_X8_readTerm.2.1 63 = .ok (.invokevirtual 50, 3) := by decide +kernel
theorem d_X8_readTerm_66 : decode m_X8_readTerm.2.1 66 = .ok (.ifCond .ne 5, 3) := by decide +kernel
theorem d_X8_readTerm_69 : decode m_X8_readTerm.2.1 69 = .ok (.iconst 0, 1) := by decide +kernel
theorem d_X8_readTerm_70 : decode m_X8_readTerm.2.1 70 = .ok (.ireturn, 1) := by decide +kernel
theorem d_X8_readTerm_71 : decode m_X8_readTerm.2.1 71 = .ok (.aload_n 0, 1) := by decide +kernel
theorem d_X8_readTerm_72 : decode m_X8_readTerm.2.1 72 = .ok (.iload_n 3, 1) := by decide +kernel
theorem d_X8_readTerm_73 : decode m_X8_readTerm.2.1 73 = .ok (.iconst 0, 1) := by decide +kernel
theorem d_X8_readTerm_74 : decode m_X8_readTerm.2.1 74 = .ok (.invokevirtual 46, 3) := by decide +kernel
theorem d_X8_readTerm_77 : decode m_X8_readTerm.2.1 77 = .ok (.iinc 2 1, 3) := by decide +kernel
theorem d_X8_readTerm_80 : decode m_X8_readTerm.2.1 80 = .ok (.goto (-68), 3) := by decide +kernel
theorem d_X8_readTerm_83 : decode m_X8_readTerm.2.1 83 = .ok (.iconst 1, 1) := by decide +kernel
theorem d_X8_readTerm_84 : decode m_X8_readTerm.2.1 84 = .ok (.ireturn, 1) := by decide +kernel
theorem d_X8_readUnit_0 : decode m_X8_readUnit.2.1 0 = .ok (.iconst 0, 1) := by decide +kernel
theorem d_X8_readUnit_1 : decode m_X8_readUnit.2.1 1 = .ok (.istore_n 2, 1) := by decide +kernel
theorem d_X8_readUnit_2 : decode m_X8_readUnit.2.1 2 = .ok (.iload_n 2, 1) := by decide +kernel
theorem d_X8_readUnit_3 : decode m_X8_readUnit.2.1 3 = .ok (.bipush 80, 2) := by decide +kernel
theorem d_X8_readUnit_5 : decode m_X8_readUnit.2.1 5 = .ok (.if_icmp .ge 18, 3) := by decide +kernel
theorem d_X8_readUnit_8 : decode m_X8_readUnit.2.1 8 = .ok (.aload_n 0, 1) := by decide +kernel
theorem d_X8_readUnit_9 : decode m_X8_readUnit.2.1 9 = .ok (.bipush 45, 2) := by decide +kernel
theorem d_X8_readUnit_11 : decode m_X8_readUnit.2.1 11 = .ok (.invokevirtual 53, 3) := by decide +kernel
theorem d_X8_readUnit_14 : decode m_X8_readUnit.2.1 14 = .ok (.ifCond .eq 9, 3) := by decide +kernel
theorem d_X8_readUnit_17 : decode m_X8_readUnit.2.1 17 = .ok (.iinc 2 1, 3) := by decide +kernel
theorem d_X8_readUnit_20 : decode m_X8_readUnit.2.1 20 = .ok (.goto (-18), 3) := by decide +kernel
theorem d_X8_readUnit_23 : decode m_X8_readUnit.2.1 23 = .ok (.aload_n 0, 1) := by decide +kernel
theorem d_X8_readUnit_24 : decode m_X8_readUnit.2.1 24 = .ok (.iload_n 1, 1) := by decide +kernel
theorem d_X8_readUnit_25 : decode m_X8_readUnit.2.1 25 = .ok (.invokevirtual 56, 3) := by decide +kernel
theorem d_X8_readUnit_28 : decode m_X8_readUnit.2.1 28 = .ok (.ifCond .ne 5, 3) := by decide +kernel
theorem d_X8_readUnit_31 : decode m_X8_readUnit.2.1 31 = .ok (.iconst 0, 1) := by decide +kernel
theorem d_X8_readUnit_32 : decode m_X8_readUnit.2.1 32 = .ok (.ireturn, 1) := by decide +kernel
theorem d_X8_readUnit_33 : decode m_X8_readUnit.2.1 33 = .ok (.iconst 0, 1) := by decide +kernel
theorem d_X8_readUnit_34 : decode m_X8_readUnit.2.1 34 = .ok (.istore_n 3, 1) := by decide +kernel
theorem d_X8_readUnit_35 : decode m_X8_readUnit.2.1 35 = .ok (.iload_n 3, 1) := by decide +kernel
theorem d_X8_readUnit_36 : decode m_X8_readUnit.2.1 36 = .ok (.iload_n 2, 1) := by decide +kernel
theorem d_X8_readUnit_37 : decode m_X8_readUnit.2.1 37 = .ok (.if_icmp .ge 16, 3) := by decide +kernel
theorem d_X8_readUnit_40 : decode m_X8_readUnit.2.1 40 = .ok (.aload_n 0, 1) := by decide +kernel
theorem d_X8_readUnit_41 : decode m_X8_readUnit.2.1 41 = .ok (.bipush 6, 2) := by decide +kernel
theorem d_X8_readUnit_43 : decode m_X8_readUnit.2.1 43 = .ok (.iconst 0, 1) := by decide +kernel
theorem d_X8_readUnit_44 : decode m_X8_readUnit.2.1 44 = .ok (.invokevirtual 46, 3) := by decide +kernel
theorem d_X8_readUnit_47 : decode m_X8_readUnit.2.1 47 = .ok (.iinc 3 1, 3) := by decide +kernel
theorem d_X8_readUnit_50 : decode m_X8_readUnit.2.1 50 = .ok (.goto (-15), 3) := by decide +kernel
theorem d_X8_readUnit_53 : decode m_X8_readUnit.2.1 53 = .ok (.iconst 1, 1) := by decide +kernel
theorem d_X8_readUnit_54 : decode m_X8_readUnit.2.1 54 = .ok (.ireturn, 1) := by decide +kernel
theorem d_X8_readBareUnit_0 : decode m_X8_readBareUnit.2.1 0 = .ok (.aload_n 0, 1) := by decide +kernel
theorem d_X8_readBareUnit_1 : decode m_X8_readBareUnit.2.1 1 = .ok (.invokevirtual 42, 3) := by decide +kernel
theorem d_X8_readBareUnit_4 : decode m_X8_readBareUnit.2.1 4 = .ok (.istore_n 2, 1) := by decide +kernel
theorem d_X8_readBareUnit_5 : decode m_X8_readBareUnit.2.1 5 = .ok (.iload_n 2, 1) := by decide +kernel
theorem d_X8_readBareUnit_6 : decode m_X8_readBareUnit.2.1 6 = .ok (.invokestatic 59, 3) := by decide +kernel
theorem d_X8_readBareUnit_9 : decode m_X8_readBareUnit.2.1 9 = .ok (.ifCond .eq 8, 3) := by decide +kernel
theorem d_X8_readBareUnit_12 : decode m_X8_readBareUnit.2.1 12 = .ok (.aload_n 0, 1) := by decide +kernel
theorem d_X8_readBareUnit_13 : decode m_X8_readBareUnit.2.1 13 = .ok (.invokevirtual 62, 3) := by decide +kernel
theorem d_X8_readBareUnit_16 : decode m_X8_readBareUnit.2.1 16 = .ok (.ireturn, 1) := by decide +kernel
theorem d_X8_readBareUnit_17 : decode m_X8_readBareUnit.2.1 17 = .ok (.iload_n 2, 1) := by decide +kernel
theorem d_X8_readBareUnit_18 : decode m_X8_readBareUnit.2.1 18 = .ok (.bipush 120, 2) := by decide +kernel
theorem d_X8_readBareUnit_20 : decode m_X8_readBareUnit.2.1 20 = .ok (.bipush 122, 2) := by decide +kernel
theorem d_X8_readBareUnit_22 : decode m_X8_readBareUnit.2.1 22 = .ok (.invokestatic 66, 3) := by decide +kernel
theorem d_X8_readBareUnit_25 : decode m_X8_readBareUnit.2.1 25 = .ok (.ifCond .eq 8, 3) := by decide +kernel
theorem d_X8_readBareUnit_28 : decode m_X8_readBareUnit.2.1 28 = .ok (.aload_n 0, 1) := by decide +kernel
theorem d_X8_readBareUnit_29 : decode m_X8_readBareUnit.2.1 29 = .ok (.invokevirtual 70, 3) := by decide +kernel
theorem d_X8_readBareUnit_32 : decode m_X8_readBareUnit.2.1 32 = .ok (.ireturn, 1) := by decide +kernel
theorem d_X8_readBareUnit_33 : decode m_X8_readBareUnit.2.1 33 = .ok (.aload_n 0, 1) := by decide +kernel
theorem d_X8_readBareUnit_34 : decode m_X8_readBareUnit.2.1 34 = .ok (.bipush 116, 2) := by decide +kernel
theorem d_X8_readBareUnit_36 : decode m_X8_readBareUnit.2.1 36 = .ok (.invokevirtual 53, 3) := by decide +kernel
theorem d_X8_readBareUnit_39 : decode m_X8_readBareUnit.2.1 39 = .ok (.ifCond .eq 10, 3) := by decide +kernel
theorem d_X8_readBareUnit_42 : decode m_X8_readBareUnit.2.1 42 = .ok (.aload_n 0, 1) := by decide +kernel
theorem d_X8_readBareUnit_43 : decode m_X8_readBareUnit.2.1 43 = .ok (.iconst 3, 1) := by decide +kernel
theorem d_X8_readBareUnit_44 : decode m_X8_readBareUnit.2.1 44 = .ok (.invokevirtual 73, 3) := by decide +kernel
theorem d_X8_readBareUnit_47 : decode m_X8_readBareUnit.2.1 47 = .ok (.iconst 1, 1) := by decide +kernel
theorem d_X8_readBareUnit_48 : decode m_X8_readBareUnit.2.1 48 = .ok (.ireturn, 1) := by decide +kernel
theorem d_X8_readBareUnit_49 : decode m_X8_readBareUnit.2.1 49 = .ok (.aload_n 0, 1) := by decide +kernel
theorem d_X8_readBareUnit_50 : decode m_X8_readBareUnit.2.1 50 = .ok (.bipush 109, 2) := by decide +kernel
theorem d_X8_readBareUnit_52 : decode m_X8_readBareUnit.2.1 52 = .ok (.invokevirtual 53, 3) := by decide +kernel
theorem d_X8_readBareUnit_55 : decode m_X8_readBareUnit.2.1 55 = .ok (.ifCond .eq 9, 3) := by decide +kernel
theorem d_X8_readBareUnit_58 : decode m_X8_readBareUnit.2.1 58 = .ok (.aload_n 0, 1) := by decide +kernel
theorem d_X8_readBareUnit_59 : decode m_X8_readBareUnit.2.1 59 = .ok (.iload_n 1, 1) := by decide +kernel
theorem d_X8_readBareUnit_60 : decode m_X8_readBareUnit.2.1 60 = .ok (.invokevirtual 77, 3) := by decide +kernel
theorem d_X8_readBareUnit_63 : decode m_X8_readBareUnit.2.1 63 = .ok (.ireturn, 1) := by decide +kernel
theorem d_X8_readBareUnit_64 : decode m_X8_readBareUnit.2.1 64 = .ok (.aload_n 0, 1) := by decide +kernel
theorem d_X8_readBareUnit_65 : decode m_X8_readBareUnit.2.1 65 = .ok (.iload_n 1, 1) := by decide +kernel
theorem d_X8_readBareUnit_66 : decode m_X8_readBareUnit.2.1 66 = .ok (.invokevirtual 80, 3) := by decide +kernel
theorem d_X8_readBareUnit_69 : decode m_X8_readBareUnit.2.1 69 = .ok (.ifCond .eq 26, 3) := by decide +kernel
theorem d_X8_readBareUnit_72 : decode m_X8_readBareUnit.2.1 72 = .ok (.aload_n 0, 1) := by decide +kernel
theorem d_X8_readBareUnit_73 : decode m_X8_readBareUnit.2.1 73 = .ok (.iload_n 1, 1) := by decide +kernel
theorem d_X8_readBareUnit_74 : decode m_X8_readBareUnit.2.1 74 = .ok (.iconst 1, 1) := by decide +kernel
theorem d_X8_readBareUnit_75 : decode m_X8_readBareUnit.2.1 75 = .ok (.iadd, 1) := by decide +kernel
theorem d_X8_readBareUnit_76 : decode m_X8_readBareUnit.2.1 76 = .ok (.invokevirtual 35, 3) := by decide +kernel
theorem d_X8_readBareUnit_79 : decode m_X8_readBareUnit.2.1 79 = .ok (.ifCond .eq 16, 3) := by decide +kernel
theorem d_X8_readBareUnit_82 : decode m_X8_readBareUnit.2.1 82 = .ok (.aload_n 0, 1) := by decide +kernel
theorem d_X8_readBareUnit_83 : decode m_X8_readBareUnit.2.1 83 = .ok (.bipush 41, 2) := by decide +kernel
theorem d_X8_readBareUnit_85 : decode m_X8_readBareUnit.2.1 85 = .ok (.invokevirtual 53, 3) := by decide +kernel
theorem d_X8_readBareUnit_88 : decode m_X8_readBareUnit.2.1 88 = .ok (.ifCond .eq 7, 3) := by decide +kernel
theorem d_X8_readBareUnit_91 : decode m_X8_readBareUnit.2.1 91 = .ok (.iconst 1, 1) := by decide +kernel
theorem d_X8_readBareUnit_92 : decode m_X8_readBareUnit.2.1 92 = .ok (.goto 4, 3) := by decide +kernel
theorem d_X8_readBareUnit_95 : decode m_X8_readBareUnit.2.1 95 = .ok (.iconst 0, 1) := by decide +kernel
theorem d_X8_readBareUnit_96 : decode m_X8_readBareUnit.2.1 96 = .ok (.ireturn, 1) := by decide +kernel
theorem d_X8_readNumber_0 : decode m_X8_readNumber.2.1 0 = .ok (.iconst 0, 1) := by decide +kernel
theorem d_X8_readNumber_1 : decode m_X8_readNumber.2.1 1 = .ok (.istore_n 1, 1) := by decide +kernel
theorem d_X8_readNumber_2 : decode m_X8_readNumber.2.1 2 = .ok (.iconst 0, 1) := by decide +kernel
theorem d_X8_readNumber_3 : decode m_X8_readNumber.2.1 3 = .ok (.istore_n 2, 1) := by decide +kernel
theorem d_X8_readNumber_4 : decode m_X8_readNumber.2.1 4 = .ok (.iload_n 2, 1) := by decide +kernel
theorem d_X8_readNumber_5 : decode m_X8_readNumber.2.1 5 = .ok (.iconst 4, 1) := by decide +kernel
theorem d_X8_readNumber_6 : decode m_X8_readNumber.2.1 6 = .ok (.if_icmp .ge 42, 3) := by decide +kernel
theorem d_X8_readNumber_9 : decode m_X8_readNumber.2.1 9 = .ok (.aload_n 0, 1) := by decide +kernel
theorem d_X8_readNumber_10 : decode m_X8_readNumber.2.1 10 = .ok (.invokevirtual 42, 3) := by decide +kernel
theorem d_X8_readNumber_13 : decode m_X8_readNumber.2.1 13 = .ok (.invokestatic 59, 3) := by decide +kernel
theorem d_X8_readNumber_16 : decode m_X8_readNumber.2.1 16 = .ok (.ifCond .eq 32, 3) := by decide +kernel
theorem d_X8_readNumber_19 : decode m_X8_readNumber.2.1 19 = .ok (.iload_n 1, 1) := by decide +kernel
theorem d_X8_readNumber_20 : decode m_X8_readNumber.2.1 20 = .ok (.bipush 10, 2) := by decide +kernel
theorem d_X8_readNumber_22 : decode m_X8_readNumber.2.1 22 = .ok (.imul, 1) := by decide +kernel
theorem d_X8_readNumber_23 : decode m_X8_readNumber.2.1 23 = .ok (.aload_n 0, 1) := by decide +kernel
theorem d_X8_readNumber_24 : decode m_X8_readNumber.2.1 24 = .ok (.invokevirtual 42, 3) := by decide +kernel
theorem d_X8_readNumber_27 : decode m_X8_readNumber.2.1 27 = .ok (.iadd, 1) := by decide +kernel
theorem d_X8_readNumber_28 : decode m_X8_readNumber.2.1 28 = .ok (.bipush 48, 2) := by decide +kernel
theorem d_X8_readNumber_30 : decode m_X8_readNumber.2.1 30 = .ok (.isub, 1) := by decide +kernel
theorem d_X8_readNumber_31 : decode m_X8_readNumber.2.1 31 = .ok (.istore_n 1, 1) := by decide +kernel
theorem d_X8_readNumber_32 : decode m_X8_readNumber.2.1 32 = .ok (.aload_n 0, 1) := by decide +kernel
theorem d_X8_readNumber_33 : decode m_X8_readNumber.2.1 33 = .ok (.dup, 1) := by decide +kernel
theorem d_X8_readNumber_34 : decode m_X8_readNumber.2.1 34 = .ok (.getfield 26, 3) := by decide +kernel
theorem d_X8_readNumber_37 : decode m_X8_readNumber.2.1 37 = .ok (.iconst 1, 1) := by decide +kernel
theorem d_X8_readNumber_38 : decode m_X8_readNumber.2.1 38 = .ok (.iadd, 1) := by decide +kernel
theorem d_X8_readNumber_39 : decode m_X8_readNumber.2.1 39 = .ok (.putfield 26, 3) := by decide +kernel
theorem d_X8_readNumber_42 : decode m_X8_readNumber.2.1 42 = .ok (.iinc 2 1, 3) := by decide +kernel
theorem d_X8_readNumber_45 : decode m_X8_readNumber.2.1 45 = .ok (.goto (-41), 3) := by decide +kernel
theorem d_X8_readNumber_48 : decode m_X8_readNumber.2.1 48 = .ok (.iload_n 1, 1) := by decide +kernel
theorem d_X8_readNumber_49 : decode m_X8_readNumber.2.1 49 = .ok (.sipush 1000, 3) := by decide +kernel
theorem d_X8_readNumber_52 : decode m_X8_readNumber.2.1 52 = .ok (.imul, 1) := by decide +kernel
theorem d_X8_readNumber_53 : decode m_X8_readNumber.2.1 53 = .ok (.istore_n 1, 1) := by decide +kernel
theorem d_X8_readNumber_54 : decode m_X8_readNumber.2.1 54 = .ok (.aload_n 0, 1) := by decide +kernel
theorem d_X8_readNumber_55 : decode m_X8_readNumber.2.1 55 = .ok (.bipush 46, 2) := by decide +kernel
theorem d_X8_readNumber_57 : decode m_X8_readNumber.2.1 57 = .ok (.invokevirtual 53, 3) := by decide +kernel
theorem d_X8_readNumber_60 : decode m_X8_readNumber.2.1 60 = .ok (.ifCond .eq 68, 3) := by decide +kernel
theorem d_X8_readNumber_63 : decode m_X8_readNumber.2.1 63 = .ok (.aload_n 0, 1) := by decide +kernel
theorem d_X8_readNumber_64 : decode m_X8_readNumber.2.1 64 = .ok (.invokevirtual 42, 3) := by decide +kernel
theorem d_X8_readNumber_67 : decode m_X8_readNumber.2.1 67 = .ok (.invokestatic 59, 3) := by decide +kernel
theorem d_X8_readNumber_70 : decode m_X8_readNumber.2.1 70 = .ok (.ifCond .ne 5, 3) := by decide +kernel
theorem d_X8_readNumber_73 : decode m_X8_readNumber.2.1 73 = .ok (.iconst 0, 1) := by decide +kernel
theorem d_X8_readNumber_74 : decode m_X8_readNumber.2.1 74 = .ok (.ireturn, 1) := by decide +kernel
theorem d_X8_readNumber_75 : decode m_X8_readNumber.2.1 75 = .ok (.bipush 100, 2) := by decide +kernel
theorem d_X8_readNumber_77 : decode m_X8_readNumber.2.1 77 = .ok (.istore_n 2, 1) := by decide +kernel
theorem d_X8_readNumber_78 : decode m_X8_readNumber.2.1 78 = .ok (.iconst 0, 1) := by decide +kernel
theorem d_X8_readNumber_79 : decode m_X8_readNumber.2.1 79 = .ok (.istore_n 3, 1) := by decide +kernel
theorem d_X8_readNumber_80 : decode m_X8_readNumber.2.1 80 = .ok (.iload_n 3, 1) := by decide +kernel
theorem d_X8_readNumber_81 : decode m_X8_readNumber.2.1 81 = .ok (.iconst 3, 1) := by decide +kernel
theorem d_X8_readNumber_82 : decode m_X8_readNumber.2.1 82 = .ok (.if_icmp .ge 46, 3) := by decide +kernel
theorem d_X8_readNumber_85 : decode m_X8_readNumber.2.1 85 = .ok (.aload_n 0, 1) := by decide +kernel
theorem d_X8_readNumber_86 : decode m_X8_readNumber.2.1 86 = .ok (.invokevirtual 42, 3) := by decide +kernel
theorem d_X8_readNumber_89 : decode m_X8_readNumber.2.1 89 = .ok (.invokestatic 59, 3) := by decide +kernel
theorem d_X8_readNumber_92 : decode m_X8_readNumber.2.1 92 = .ok (.ifCond .eq 36, 3) := by decide +kernel
theorem d_X8_readNumber_95 : decode m_X8_readNumber.2.1 95 = .ok (.iload_n 1, 1) := by decide +kernel
theorem d_X8_readNumber_96 : decode m_X8_readNumber.2.1 96 = .ok (.aload_n 0, 1) := by decide +kernel
theorem d_X8_readNumber_97 : decode m_X8_readNumber.2.1 97 = .ok (.invokevirtual 42, 3) := by decide +kernel
theorem d_X8_readNumber_100 : decode m_X8_readNumber.2.1 100 = .ok (.bipush 48, 2) := by decide +kernel
theorem d_X8_readNumber_102 : decode m_X8_readNumber.2.1 102 = .ok (.isub, 1) := by decide +kernel
theorem d_X8_readNumber_103 : decode m_X8_readNumber.2.1 103 = .ok (.iload_n 2, 1) := by decide +kernel
theorem d_X8_readNumber_104 : decode m_X8_readNumber.2.1 104 = .ok (.imul, 1) := by decide +kernel
theorem d_X8_readNumber_105 : decode m_X8_readNumber.2.1 105 = .ok (.iadd, 1) := by decide +kernel
theorem d_X8_readNumber_106 : decode m_X8_readNumber.2.1 106 = .ok (.istore_n 1, 1) := by decide +kernel
theorem d_X8_readNumber_107 : decode m_X8_readNumber.2.1 107 = .ok (.iload_n 2, 1) := by decide +kernel
theorem d_X8_readNumber_108 : decode m_X8_readNumber.2.1 108 = .ok (.bipush 10, 2) := by decide +kernel
theorem d_X8_readNumber_110 : decode m_X8_readNumber.2.1 110 = .ok (.idiv, 1) := by decide +kernel
theorem d_X8_readNumber_111 : decode m_X8_readNumber.2.1 111 = .ok (.istore_n 2, 1) := by decide +kernel
theorem d_X8_readNumber_112 : decode m_X8_readNumber.2.1 112 = .ok (.aload_n 0, 1) := by decide +kernel
theorem d_X8_readNumber_113 : decode m_X8_readNumber.2.1 113 = .ok (.dup, 1) := by decide +kernel
theorem d_X8_readNumber_114 : decode m_X8_readNumber.2.1 114 = .ok (.getfield 26, 3) := by decide +kernel
theorem d_X8_readNumber_117 : decode m_X8_readNumber.2.1 117 = .ok (.iconst 1, 1) := by decide +kernel
theorem d_X8_readNumber_118 : decode m_X8_readNumber.2.1 118 = .ok (.iadd, 1) := by decide +kernel
theorem d_X8_readNumber_119 : decode m_X8_readNumber.2.1 119 = .ok (.putfield 26, 3) := by decide +kernel
theorem d_X8_readNumber_122 : decode m_X8_readNumber.2.1 122 = .ok (.iinc 3 1, 3) := by decide +kernel
theorem d_X8_readNumber_125 : decode m_X8_readNumber.2.1 125 = .ok (.goto (-45), 3) := by decide +kernel
theorem d_X8_readNumber_128 : decode m_X8_readNumber.2.1 128 = .ok (.aload_n 0, 1) := by decide +kernel
theorem d_X8_readNumber_129 : decode m_X8_readNumber.2.1 129 = .ok (.iconst 0, 1) := by decide +kernel
theorem d_X8_readNumber_130 : decode m_X8_readNumber.2.1 130 = .ok (.iload_n 1, 1) := by decide +kernel
theorem d_X8_readNumber_131 : decode m_X8_readNumber.2.1 131 = .ok (.invokevirtual 46, 3) := by decide +kernel
theorem d_X8_readNumber_134 : decode m_X8_readNumber.2.1 134 = .ok (.iconst 1, 1) := by decide +kernel
theorem d_X8_readNumber_135 : decode m_X8_readNumber.2.1 135 = .ok (.ireturn, 1) := by decide +kernel
theorem d_X8_readName_0 : decode m_X8_readName.2.1 0 = .ok (.aload_n 0, 1) := by decide +kernel
theorem d_X8_readName_1 : decode m_X8_readName.2.1 1 = .ok (.invokevirtual 42, 3) := by decide +kernel
theorem d_X8_readName_4 : decode m_X8_readName.2.1 4 = .ok (.bipush 120, 2) := by decide +kernel
theorem d_X8_readName_6 : decode m_X8_readName.2.1 6 = .ok (.isub, 1) := by decide +kernel
theorem d_X8_readName_7 : decode m_X8_readName.2.1 7 = .ok (.istore_n 1, 1) := by decide +kernel
theorem d_X8_readName_8 : decode m_X8_readName.2.1 8 = .ok (.aload_n 0, 1) := by decide +kernel
theorem d_X8_readName_9 : decode m_X8_readName.2.1 9 = .ok (.dup, 1) := by decide +kernel
theorem d_X8_readName_10 : decode m_X8_readName.2.1 10 = .ok (.getfield 26, 3) := by decide +kernel
theorem d_X8_readName_13 : decode m_X8_readName.2.1 13 = .ok (.iconst 1, 1) := by decide +kernel
theorem d_X8_readName_14 : decode m_X8_readName.2.1 14 = .ok (.iadd, 1) := by decide +kernel
theorem d_X8_readName_15 : decode m_X8_readName.2.1 15 = .ok (.putfield 26, 3) := by decide +kernel
theorem d_X8_readName_18 : decode m_X8_readName.2.1 18 = .ok (.aload_n 0, 1) := by decide +kernel
theorem d_X8_readName_19 : decode m_X8_readName.2.1 19 = .ok (.bipush 39, 2) := by decide +kernel
theorem d_X8_readName_21 : decode m_X8_readName.2.1 21 = .ok (.invokevirtual 53, 3) := by decide +kernel
theorem d_X8_readName_24 : decode m_X8_readName.2.1 24 = .ok (.istore_n 2, 1) := by decide +kernel
theorem d_X8_readName_25 : decode m_X8_readName.2.1 25 = .ok (.aload_n 0, 1) := by decide +kernel
theorem d_X8_readName_26 : decode m_X8_readName.2.1 26 = .ok (.bipush 64, 2) := by decide +kernel
theorem d_X8_readName_28 : decode m_X8_readName.2.1 28 = .ok (.invokevirtual 53, 3) := by decide +kernel
theorem d_X8_readName_31 : decode m_X8_readName.2.1 31 = .ok (.ifCond .ne 18, 3) := by decide +kernel
theorem d_X8_readName_34 : decode m_X8_readName.2.1 34 = .ok (.aload_n 0, 1) := by decide +kernel
theorem d_X8_readName_35 : decode m_X8_readName.2.1 35 = .ok (.iload_n 1, 1) := by decide +kernel
theorem d_X8_readName_36 : decode m_X8_readName.2.1 36 = .ok (.invokevirtual 73, 3) := by decide +kernel
theorem d_X8_readName_39 : decode m_X8_readName.2.1 39 = .ok (.iload_n 2, 1) := by decide +kernel
theorem d_X8_readName_40 : decode m_X8_readName.2.1 40 = .ok (.ifCond .ne 7, 3) := by decide +kernel
theorem d_X8_readName_43 : decode m_X8_readName.2.1 43 = .ok (.iconst 1, 1) := by decide +kernel
theorem d_X8_readName_44 : decode m_X8_readName.2.1 44 = .ok (.goto 4, 3) := by decide +kernel
theorem d_X8_readName_47 : decode m_X8_readName.2.1 47 = .ok (.iconst 0, 1) := by decide +kernel
theorem d_X8_readName_48 : decode m_X8_readName.2.1 48 = .ok (.ireturn, 1) := by decide +kernel
theorem d_X8_readName_49 : decode m_X8_readName.2.1 49 = .ok (.aload_n 0, 1) := by decide +kernel
theorem d_X8_readName_50 : decode m_X8_readName.2.1 50 = .ok (.invokevirtual 42, 3) := by decide +kernel
theorem d_X8_readName_53 : decode m_X8_readName.2.1 53 = .ok (.bipush 48, 2) := by decide +kernel
theorem d_X8_readName_55 : decode m_X8_readName.2.1 55 = .ok (.isub, 1) := by decide +kernel
theorem d_X8_readName_56 : decode m_X8_readName.2.1 56 = .ok (.istore_n 3, 1) := by decide +kernel
theorem d_X8_readName_57 : decode m_X8_readName.2.1 57 = .ok (.iload_n 3, 1) := by decide +kernel
theorem d_X8_readName_58 : decode m_X8_readName.2.1 58 = .ok (.invokestatic 83, 3) := by decide +kernel
theorem d_X8_readName_61 : decode m_X8_readName.2.1 61 = .ok (.ifCond .ne 5, 3) := by decide +kernel
theorem d_X8_readName_64 : decode m_X8_readName.2.1 64 = .ok (.iconst 0, 1) := by decide +kernel
theorem d_X8_readName_65 : decode m_X8_readName.2.1 65 = .ok (.ireturn, 1) := by decide +kernel
theorem d_X8_readName_66 : decode m_X8_readName.2.1 66 = .ok (.aload_n 0, 1) := by decide +kernel
theorem d_X8_readName_67 : decode m_X8_readName.2.1 67 = .ok (.dup, 1) := by decide +kernel
theorem d_X8_readName_68 : decode m_X8_readName.2.1 68 = .ok (.getfield 26, 3) := by decide +kernel
theorem d_X8_readName_71 : decode m_X8_readName.2.1 71 = .ok (.iconst 1, 1) := by decide +kernel
theorem d_X8_readName_72 : decode m_X8_readName.2.1 72 = .ok (.iadd, 1) := by decide +kernel
theorem d_X8_readName_73 : decode m_X8_readName.2.1 73 = .ok (.putfield 26, 3) := by decide +kernel
theorem d_X8_readName_76 : decode m_X8_readName.2.1 76 = .ok (.aload_n 0, 1) := by decide +kernel
theorem d_X8_readName_77 : decode m_X8_readName.2.1 77 = .ok (.iload_n 2, 1) := by decide +kernel
theorem d_X8_readName_78 : decode m_X8_readName.2.1 78 = .ok (.ifCond .eq 11, 3) := by decide +kernel
theorem d_X8_readName_81 : decode m_X8_readName.2.1 81 = .ok (.iload_n 3, 1) := by decide +kernel
theorem d_X8_readName_82 : decode m_X8_readName.2.1 82 = .ok (.iload_n 1, 1) := by decide +kernel
theorem d_X8_readName_83 : decode m_X8_readName.2.1 83 = .ok (.invokestatic 86, 3) := by decide +kernel
theorem d_X8_readName_86 : decode m_X8_readName.2.1 86 = .ok (.goto 8, 3) := by decide +kernel
theorem d_X8_readName_89 : decode m_X8_readName.2.1 89 = .ok (.iload_n 3, 1) := by decide +kernel
theorem d_X8_readName_90 : decode m_X8_readName.2.1 90 = .ok (.iload_n 1, 1) := by decide +kernel
theorem d_X8_readName_91 : decode m_X8_readName.2.1 91 = .ok (.invokestatic 90, 3) := by decide +kernel
theorem d_X8_readName_94 : decode m_X8_readName.2.1 94 = .ok (.invokevirtual 73, 3) := by decide +kernel
theorem d_X8_readName_97 : decode m_X8_readName.2.1 97 = .ok (.iconst 1, 1) := by decide +kernel
theorem d_X8_readName_98 : decode m_X8_readName.2.1 98 = .ok (.ireturn, 1) := by decide +kernel
theorem d_X8_readLeastOrMost_0 : decode m_X8_readLeastOrMost.2.1 0 = .ok (.aload_n 0, 1) := by decide +kernel
theorem d_X8_readLeastOrMost_1 : decode m_X8_readLeastOrMost.2.1 1 = .ok (.bipush 105, 2) := by decide +kernel
theorem d_X8_readLeastOrMost_3 : decode m_X8_readLeastOrMost.2.1 3 = .ok (.invokevirtual 53, 3) := by decide +kernel
theorem d_X8_readLeastOrMost_6 : decode m_X8_readLeastOrMost.2.1 6 = .ok (.istore_n 2, 1) := by decide +kernel
theorem d_X8_readLeastOrMost_7 : decode m_X8_readLeastOrMost.2.1 7 = .ok (.iload_n 2, 1) := by decide +kernel
theorem d_X8_readLeastOrMost_8 : decode m_X8_readLeastOrMost.2.1 8 = .ok (.ifCond .ne 14, 3) := by decide +kernel
theorem d_X8_readLeastOrMost_11 : decode m_X8_readLeastOrMost.2.1 11 = .ok (.aload_n 0, 1) := by decide +kernel
theorem d_X8_readLeastOrMost_12 : decode m_X8_readLeastOrMost.2.1 12 = .ok (.bipush 97, 2) := by decide +kernel
theorem d_X8_readLeastOrMost_14 : decode m_X8_readLeastOrMost.2.1 14 = .ok (.invokevirtual 53, 3) := by decide +kernel
theorem d_X8_readLeastOrMost_17 : decode m_X8_readLeastOrMost.2.1 17 = .ok (.ifCond .ne 5, 3) := by decide +kernel
theorem d_X8_readLeastOrMost_20 : decode m_X8_readLeastOrMost.2.1 20 = .ok (.iconst 0, 1) := by decide +kernel
theorem d_X8_readLeastOrMost_21 : decode m_X8_readLeastOrMost.2.1 21 = .ok (.ireturn, 1) := by decide +kernel
theorem d_X8_readLeastOrMost_22 : decode m_X8_readLeastOrMost.2.1 22 = .ok (.aload_n 0, 1) := by decide +kernel
theorem d_X8_readLeastOrMost_23 : decode m_X8_readLeastOrMost.2.1 23 = .ok (.iload_n 2, 1) := by decide +kernel
theorem d_X8_readLeastOrMost_24 : decode m_X8_readLeastOrMost.2.1 24 = .ok (.ifCond .eq 8, 3) := by decide +kernel
theorem d_X8_readLeastOrMost_27 : decode m_X8_readLeastOrMost.2.1 27 = .ok (.bipush 110, 2) := by decide +kernel
theorem d_X8_readLeastOrMost_29 : decode m_X8_readLeastOrMost.2.1 29 = .ok (.goto 5, 3) := by decide +kernel
theorem d_X8_readLeastOrMost_32 : decode m_X8_readLeastOrMost.2.1 32 = .ok (.bipush 120, 2) := by decide +kernel
theorem d_X8_readLeastOrMost_34 : decode m_X8_readLeastOrMost.2.1 34 = .ok (.invokevirtual 53, 3) := by decide +kernel
theorem d_X8_readLeastOrMost_37 : decode m_X8_readLeastOrMost.2.1 37 = .ok (.ifCond .eq 49, 3) := by decide +kernel
theorem d_X8_readLeastOrMost_40 : decode m_X8_readLeastOrMost.2.1 40 = .ok (.aload_n 0, 1) := by decide +kernel
theorem d_X8_readLeastOrMost_41 : decode m_X8_readLeastOrMost.2.1 41 = .ok (.iload_n 1, 1) := by decide +kernel
theorem d_X8_readLeastOrMost_42 : decode m_X8_readLeastOrMost.2.1 42 = .ok (.invokevirtual 80, 3) := by decide +kernel
theorem d_X8_readLeastOrMost_45 : decode m_X8_readLeastOrMost.2.1 45 = .ok (.ifCond .eq 41, 3) := by decide +kernel
theorem d_X8_readLeastOrMost_48 : decode m_X8_readLeastOrMost.2.1 48 = .ok (.aload_n 0, 1) := by decide +kernel
theorem d_X8_readLeastOrMost_49 : decode m_X8_readLeastOrMost.2.1 49 = .ok (.iload_n 1, 1) := by decide +kernel
theorem d_X8_readLeastOrMost_50 : decode m_X8_readLeastOrMost.2.1 50 = .ok (.iconst 1, 1) := by decide +kernel
theorem d_X8_readLeastOrMost_51 : decode m_X8_readLeastOrMost.2.1 51 = .ok (.iadd, 1) := by decide +kernel
theorem d_X8_readLeastOrMost_52 : decode m_X8_readLeastOrMost.2.1 52 = .ok (.invokevirtual 35, 3) := by decide +kernel
theorem d_X8_readLeastOrMost_55 : decode m_X8_readLeastOrMost.2.1 55 = .ok (.ifCond .eq 31, 3) := by decide +kernel
theorem d_X8_readLeastOrMost_58 : decode m_X8_readLeastOrMost.2.1 58 = .ok (.aload_n 0, 1) := by decide +kernel
theorem d_X8_readLeastOrMost_59 : decode m_X8_readLeastOrMost.2.1 59 = .ok (.bipush 44, 2) := by decide +kernel
theorem d_X8_readLeastOrMost_61 : decode m_X8_readLeastOrMost.2.1 61 = .ok (.invokevirtual 53, 3) := by decide +kernel
theorem d_X8_readLeastOrMost_64 : decode m_X8_readLeastOrMost.2.1 64 = .ok (.ifCond .eq 22, 3) := by decide +kernel
theorem d_X8_readLeastOrMost_67 : decode m_X8_readLeastOrMost.2.1 67 = .ok (.aload_n 0, 1) := by decide +kernel
theorem d_X8_readLeastOrMost_68 : decode m_X8_readLeastOrMost.2.1 68 = .ok (.iload_n 1, 1) := by decide +kernel
theorem d_X8_readLeastOrMost_69 : decode m_X8_readLeastOrMost.2.1 69 = .ok (.iconst 1, 1) := by decide +kernel
theorem d_X8_readLeastOrMost_70 : decode m_X8_readLeastOrMost.2.1 70 = .ok (.iadd, 1) := by decide +kernel
theorem d_X8_readLeastOrMost_71 : decode m_X8_readLeastOrMost.2.1 71 = .ok (.invokevirtual 35, 3) := by decide +kernel
theorem d_X8_readLeastOrMost_74 : decode m_X8_readLeastOrMost.2.1 74 = .ok (.ifCond .eq 12, 3) := by decide +kernel
theorem d_X8_readLeastOrMost_77 : decode m_X8_readLeastOrMost.2.1 77 = .ok (.aload_n 0, 1) := by decide +kernel
theorem d_X8_readLeastOrMost_78 : decode m_X8_readLeastOrMost.2.1 78 = .ok (.bipush 41, 2) := by decide +kernel
theorem d_X8_readLeastOrMost_80 : decode m_X8_readLeastOrMost.2.1 80 = .ok (.invokevirtual 53, 3) := by decide +kernel
theorem d_X8_readLeastOrMost_83 : decode m_X8_readLeastOrMost.2.1 83 = .ok (.ifCond .ne 5, 3) := by decide +kernel
theorem d_X8_readLeastOrMost_86 : decode m_X8_readLeastOrMost.2.1 86 = .ok (.iconst 0, 1) := by decide +kernel
theorem d_X8_readLeastOrMost_87 : decode m_X8_readLeastOrMost.2.1 87 = .ok (.ireturn, 1) := by decide +kernel
theorem d_X8_readLeastOrMost_88 : decode m_X8_readLeastOrMost.2.1 88 = .ok (.aload_n 0, 1) := by decide +kernel
theorem d_X8_readLeastOrMost_89 : decode m_X8_readLeastOrMost.2.1 89 = .ok (.iload_n 2, 1) := by decide +kernel
theorem d_X8_readLeastOrMost_90 : decode m_X8_readLeastOrMost.2.1 90 = .ok (.ifCond .eq 8, 3) := by decide +kernel
theorem d_X8_readLeastOrMost_93 : decode m_X8_readLeastOrMost.2.1 93 = .ok (.bipush 7, 2) := by decide +kernel
theorem d_X8_readLeastOrMost_95 : decode m_X8_readLeastOrMost.2.1 95 = .ok (.goto 5, 3) := by decide +kernel
theorem d_X8_readLeastOrMost_98 : decode m_X8_readLeastOrMost.2.1 98 = .ok (.bipush 8, 2) := by decide +kernel
theorem d_X8_readLeastOrMost_100 : decode m_X8_readLeastOrMost.2.1 100 = .ok (.iconst 0, 1) := by decide +kernel
theorem d_X8_readLeastOrMost_101 : decode m_X8_readLeastOrMost.2.1 101 = .ok (.invokevirtual 46, 3) := by decide +kernel
theorem d_X8_readLeastOrMost_104 : decode m_X8_readLeastOrMost.2.1 104 = .ok (.iconst 1, 1) := by decide +kernel
theorem d_X8_readLeastOrMost_105 : decode m_X8_readLeastOrMost.2.1 105 = .ok (.ireturn, 1) := by decide +kernel
theorem d_X8_readOpen_0 : decode m_X8_readOpen.2.1 0 = .ok (.iload_n 1, 1) := by decide +kernel
theorem d_X8_readOpen_1 : decode m_X8_readOpen.2.1 1 = .ok (.bipush 6, 2) := by decide +kernel
theorem d_X8_readOpen_3 : decode m_X8_readOpen.2.1 3 = .ok (.if_icmp .ge 16, 3) := by decide +kernel
theorem d_X8_readOpen_6 : decode m_X8_readOpen.2.1 6 = .ok (.aload_n 0, 1) := by decide +kernel
theorem d_X8_readOpen_7 : decode m_X8_readOpen.2.1 7 = .ok (.bipush 40, 2) := by decide +kernel
theorem d_X8_readOpen_9 : decode m_X8_readOpen.2.1 9 = .ok (.invokevirtual 53, 3) := by decide +kernel
theorem d_X8_readOpen_12 : decode m_X8_readOpen.2.1 12 = .ok (.ifCond .eq 7, 3) := by decide +kernel
theorem d_X8_readOpen_15 : decode m_X8_readOpen.2.1 15 = .ok (.iconst 1, 1) := by decide +kernel
theorem d_X8_readOpen_16 : decode m_X8_readOpen.2.1 16 = .ok (.goto 4, 3) := by decide +kernel
theorem d_X8_readOpen_19 : decode m_X8_readOpen.2.1 19 = .ok (.iconst 0, 1) := by decide +kernel
theorem d_X8_readOpen_20 : decode m_X8_readOpen.2.1 20 = .ok (.ireturn, 1) := by decide +kernel
theorem d_X8_sign_0 : decode m_X8_sign.2.1 0 = .ok (.aload_n 0, 1) := by decide +kernel
theorem d_X8_sign_1 : decode m_X8_sign.2.1 1 = .ok (.getfield 26, 3) := by decide +kernel
theorem d_X8_sign_4 : decode m_X8_sign.2.1 4 = .ok (.aload_n 0, 1) := by decide +kernel
theorem d_X8_sign_5 : decode m_X8_sign.2.1 5 = .ok (.getfield 18, 3) := by decide +kernel
theorem d_X8_sign_8 : decode m_X8_sign.2.1 8 = .ok (.if_icmp .ge 17, 3) := by decide +kernel
theorem d_X8_sign_11 : decode m_X8_sign.2.1 11 = .ok (.aload_n 0, 1) := by decide +kernel
theorem d_X8_sign_12 : decode m_X8_sign.2.1 12 = .ok (.getfield 9, 3) := by decide +kernel
theorem d_X8_sign_15 : decode m_X8_sign.2.1 15 = .ok (.aload_n 0, 1) := by decide +kernel
theorem d_X8_sign_16 : decode m_X8_sign.2.1 16 = .ok (.getfield 26, 3) := by decide +kernel
theorem d_X8_sign_19 : decode m_X8_sign.2.1 19 = .ok (.invokestatic 93, 3) := by decide +kernel
theorem d_X8_sign_22 : decode m_X8_sign.2.1 22 = .ok (.goto 4, 3) := by decide +kernel
theorem d_X8_sign_25 : decode m_X8_sign.2.1 25 = .ok (.iconst 0, 1) := by decide +kernel
theorem d_X8_sign_26 : decode m_X8_sign.2.1 26 = .ok (.ireturn, 1) := by decide +kernel
theorem d_X8_accept_0 : decode m_X8_accept.2.1 0 = .ok (.aload_n 0, 1) := by decide +kernel
theorem d_X8_accept_1 : decode m_X8_accept.2.1 1 = .ok (.invokevirtual 42, 3) := by decide +kernel
theorem d_X8_accept_4 : decode m_X8_accept.2.1 4 = .ok (.iload_n 1, 1) := by decide +kernel
theorem d_X8_accept_5 : decode m_X8_accept.2.1 5 = .ok (.if_icmp .eq 5, 3) := by decide +kernel
theorem d_X8_accept_8 : decode m_X8_accept.2.1 8 = .ok (.iconst 0, 1) := by decide +kernel
theorem d_X8_accept_9 : decode m_X8_accept.2.1 9 = .ok (.ireturn, 1) := by decide +kernel
theorem d_X8_accept_10 : decode m_X8_accept.2.1 10 = .ok (.aload_n 0, 1) := by decide +kernel
theorem d_X8_accept_11 : decode m_X8_accept.2.1 11 = .ok (.dup, 1) := by decide +kernel
theorem d_X8_accept_12 : decode m_X8_accept.2.1 12 = .ok (.getfield 26, 3) := by decide +kernel
theorem d_X8_accept_15 : decode m_X8_accept.2.1 15 = .ok (.iconst 1, 1) := by decide +kernel
theorem d_X8_accept_16 : decode m_X8_accept.2.1 16 = .ok (.iadd, 1) := by decide +kernel
theorem d_X8_accept_17 : decode m_X8_accept.2.1 17 = .ok (.putfield 26, 3) := by decide +kernel
theorem d_X8_accept_20 : decode m_X8_accept.2.1 20 = .ok (.iconst 1, 1) := by decide +kernel
theorem d_X8_accept_21 : decode m_X8_accept.2.1 21 = .ok (.ireturn, 1) := by decide +kernel
theorem d_X8_isDigit_0 : decode m_X8_isDigit.2.1 0 = .ok (.iload_n 0, 1) := by decide +kernel
theorem d_X8_isDigit_1 : decode m_X8_isDigit.2.1 1 = .ok (.bipush 48, 2) := by decide +kernel
theorem d_X8_isDigit_3 : decode m_X8_isDigit.2.1 3 = .ok (.bipush 57, 2) := by decide +kernel
theorem d_X8_isDigit_5 : decode m_X8_isDigit.2.1 5 = .ok (.invokestatic 66, 3) := by decide +kernel
theorem d_X8_isDigit_8 : decode m_X8_isDigit.2.1 8 = .ok (.ireturn, 1) := by decide +kernel
theorem d_X8_emit_0 : decode m_X8_emit.2.1 0 = .ok (.aload_n 0, 1) := by decide +kernel
theorem d_X8_emit_1 : decode m_X8_emit.2.1 1 = .ok (.getfield 29, 3) := by decide +kernel
theorem d_X8_emit_4 : decode m_X8_emit.2.1 4 = .ok (.bipush 80, 2) := by decide +kernel
theorem d_X8_emit_6 : decode m_X8_emit.2.1 6 = .ok (.if_icmp .ge 29, 3) := by decide +kernel
theorem d_X8_emit_9 : decode m_X8_emit.2.1 9 = .ok (.aload_n 0, 1) := by decide +kernel
theorem d_X8_emit_10 : decode m_X8_emit.2.1 10 = .ok (.getfield 15, 3) := by decide +kernel
theorem d_X8_emit_13 : decode m_X8_emit.2.1 13 = .ok (.aload_n 0, 1) := by decide +kernel
theorem d_X8_emit_14 : decode m_X8_emit.2.1 14 = .ok (.getfield 29, 3) := by decide +kernel
theorem d_X8_emit_17 : decode m_X8_emit.2.1 17 = .ok (.iload_n 2, 1) := by decide +kernel
theorem d_X8_emit_18 : decode m_X8_emit.2.1 18 = .ok (.iconst 4, 1) := by decide +kernel
theorem d_X8_emit_19 : decode m_X8_emit.2.1 19 = .ok (.ishl, 1) := by decide +kernel
theorem d_X8_emit_20 : decode m_X8_emit.2.1 20 = .ok (.iload_n 1, 1) := by decide +kernel
theorem d_X8_emit_21 : decode m_X8_emit.2.1 21 = .ok (.ior, 1) := by decide +kernel
theorem d_X8_emit_22 : decode m_X8_emit.2.1 22 = .ok (.invokestatic 22, 3) := by decide +kernel
theorem d_X8_emit_25 : decode m_X8_emit.2.1 25 = .ok (.aload_n 0, 1) := by decide +kernel
theorem d_X8_emit_26 : decode m_X8_emit.2.1 26 = .ok (.dup, 1) := by decide +kernel
theorem d_X8_emit_27 : decode m_X8_emit.2.1 27 = .ok (.getfield 29, 3) := by decide +kernel
theorem d_X8_emit_30 : decode m_X8_emit.2.1 30 = .ok (.iconst 1, 1) := by decide +kernel
theorem d_X8_emit_31 : decode m_X8_emit.2.1 31 = .ok (.iadd, 1) := by decide +kernel
theorem d_X8_emit_32 : decode m_X8_emit.2.1 32 = .ok (.putfield 29, 3) := by decide +kernel
theorem d_X8_emit_35 : decode m_X8_emit.2.1 35 = .ok (.return_, 1) := by decide +kernel
theorem d_X8_emitOperand_0 : decode m_X8_emitOperand.2.1 0 = .ok (.aload_n 0, 1) := by decide +kernel
theorem d_X8_emitOperand_1 : decode m_X8_emitOperand.2.1 1 = .ok (.iconst 1, 1) := by decide +kernel
theorem d_X8_emitOperand_2 : decode m_X8_emitOperand.2.1 2 = .ok (.iload_n 1, 1) := by decide +kernel
theorem d_X8_emitOperand_3 : decode m_X8_emitOperand.2.1 3 = .ok (.invokevirtual 46, 3) := by decide +kernel
theorem d_X8_emitOperand_6 : decode m_X8_emitOperand.2.1 6 = .ok (.aload_n 0, 1) := by decide +kernel
theorem d_X8_emitOperand_7 : decode m_X8_emitOperand.2.1 7 = .ok (.dup, 1) := by decide +kernel
theorem d_X8_emitOperand_8 : decode m_X8_emitOperand.2.1 8 = .ok (.getfield 32, 3) := by decide +kernel
theorem d_X8_emitOperand_11 : decode m_X8_emitOperand.2.1 11 = .ok (.iconst 1, 1) := by decide +kernel
theorem d_X8_emitOperand_12 : decode m_X8_emitOperand.2.1 12 = .ok (.iload_n 1, 1) := by decide +kernel
theorem d_X8_emitOperand_13 : decode m_X8_emitOperand.2.1 13 = .ok (.ishl, 1) := by decide +kernel
theorem d_X8_emitOperand_14 : decode m_X8_emitOperand.2.1 14 = .ok (.ior, 1) := by decide +kernel
theorem d_X8_emitOperand_15 : decode m_X8_emitOperand.2.1 15 = .ok (.putfield 32, 3) := by decide +kernel
theorem d_X8_emitOperand_18 : decode m_X8_emitOperand.2.1 18 = .ok (.return_, 1) := by decide +kernel
