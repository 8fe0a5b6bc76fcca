set_option maxRecDepth 20000
theorem d_X9_init_0 : decode m_X9_init.2.1 0 = .ok (.aload_n 0, 1) := by decide +kernel
theorem d_X9_init_1 : decode m_X9_init.2.1 1 = .ok (.invokespecial 3, 3) := by decide +kernel
theorem d_X9_init_4 : decode m_X9_init.2.1 4 = .ok (.aload_n 0, 1) := by decide +kernel
theorem d_X9_init_5 : decode m_X9_init.2.1 5 = .ok (.new 9, 3) := by decide +kernel
theorem d_X9_init_8 : decode m_X9_init.2.1 8 = .ok (.dup, 1) := by decide +kernel
theorem d_X9_init_9 : decode m_X9_init.2.1 9 = .ok (.invokespecial 11, 3) := by decide +kernel
theorem d_X9_init_12 : decode m_X9_init.2.1 12 = .ok (.putfield 12, 3) := by decide +kernel
theorem d_X9_init_15 : decode m_X9_init.2.1 15 = .ok (.aload_n 0, 1) := by decide +kernel
theorem d_X9_init_16 : decode m_X9_init.2.1 16 = .ok (.new 16, 3) := by decide +kernel
theorem d_X9_init_19 : decode m_X9_init.2.1 19 = .ok (.dup, 1) := by decide +kernel
theorem d_X9_init_20 : decode m_X9_init.2.1 20 = .ok (.invokespecial 18, 3) := by decide +kernel
theorem d_X9_init_23 : decode m_X9_init.2.1 23 = .ok (.putfield 19, 3) := by decide +kernel
theorem d_X9_init_26 : decode m_X9_init.2.1 26 = .ok (.aload_n 0, 1) := by decide +kernel
theorem d_X9_init_27 : decode m_X9_init.2.1 27 = .ok (.new 23, 3) := by decide +kernel
theorem d_X9_init_30 : decode m_X9_init.2.1 30 = .ok (.dup, 1) := by decide +kernel
theorem d_X9_init_31 : decode m_X9_init.2.1 31 = .ok (.invokespecial 25, 3) := by decide +kernel
theorem d_X9_init_34 : decode m_X9_init.2.1 34 = .ok (.putfield 26, 3) := by decide +kernel
theorem d_X9_init_37 : decode m_X9_init.2.1 37 = .ok (.aload_n 0, 1) := by decide +kernel
theorem d_X9_init_38 : decode m_X9_init.2.1 38 = .ok (.iconst 2, 1) := by decide +kernel
theorem d_X9_init_39 : decode m_X9_init.2.1 39 = .ok (.anewarray 16, 3) := by decide +kernel
theorem d_X9_init_42 : decode m_X9_init.2.1 42 = .ok (.putfield 30, 3) := by decide +kernel
theorem d_X9_init_45 : decode m_X9_init.2.1 45 = .ok (.aload_n 0, 1) := by decide +kernel
theorem d_X9_init_46 : decode m_X9_init.2.1 46 = .ok (.new 34, 3) := by decide +kernel
theorem d_X9_init_49 : decode m_X9_init.2.1 49 = .ok (.dup, 1) := by decide +kernel
theorem d_X9_init_50 : decode m_X9_init.2.1 50 = .ok (.invokespecial 36, 3) := by decide +kernel
theorem d_X9_init_53 : decode m_X9_init.2.1 53 = .ok (.putfield 37, 3) := by decide +kernel
theorem d_X9_init_56 : decode m_X9_init.2.1 56 = .ok (.return_, 1) := by decide +kernel
theorem d_X9_type_0 : decode m_X9_type.2.1 0 = .ok (.iload_n 1, 1) := by decide +kernel
theorem d_X9_type_1 : decode m_X9_type.2.1 1 = .ok (.bipush 33, 2) := by decide +kernel
theorem d_X9_type_3 : decode m_X9_type.2.1 3 = .ok (.bipush 126, 2) := by decide +kernel
theorem d_X9_type_5 : decode m_X9_type.2.1 5 = .ok (.invokestatic 41, 3) := by decide +kernel
theorem d_X9_type_8 : decode m_X9_type.2.1 8 = .ok (.ifCond .ne 6, 3) := by decide +kernel
theorem d_X9_type_11 : decode m_X9_type.2.1 11 = .ok (.ldc 45, 2) := by decide +kernel
theorem d_X9_type_13 : decode m_X9_type.2.1 13 = .ok (.ireturn, 1) := by decide +kernel
theorem d_X9_type_14 : decode m_X9_type.2.1 14 = .ok (.aload_n 0, 1) := by decide +kernel
theorem d_X9_type_15 : decode m_X9_type.2.1 15 = .ok (.getfield 12, 3) := by decide +kernel
theorem d_X9_type_18 : decode m_X9_type.2.1 18 = .ok (.iload_n 1, 1) := by decide +kernel
theorem d_X9_type_19 : decode m_X9_type.2.1 19 = .ok (.invokevirtual 46, 3) := by decide +kernel
theorem d_X9_type_22 : decode m_X9_type.2.1 22 = .ok (.ifCond .eq 13, 3) := by decide +kernel
theorem d_X9_type_25 : decode m_X9_type.2.1 25 = .ok (.aload_n 0, 1) := by decide +kernel
theorem d_X9_type_26 : decode m_X9_type.2.1 26 = .ok (.getfield 12, 3) := by decide +kernel
theorem d_X9_type_29 : decode m_X9_type.2.1 29 = .ok (.getfield 50, 3) := by decide +kernel
theorem d_X9_type_32 : decode m_X9_type.2.1 32 = .ok (.goto 5, 3) := by decide +kernel
theorem d_X9_type_35 : decode m_X9_type.2.1 35 = .ok (.ldc 54, 2) := by decide +kernel
theorem d_X9_type_37 : decode m_X9_type.2.1 37 = .ok (.ireturn, 1) := by decide +kernel
theorem d_X9_wipe_0 : decode m_X9_wipe.2.1 0 = .ok (.aload_n 0, 1) := by decide +kernel
theorem d_X9_wipe_1 : decode m_X9_wipe.2.1 1 = .ok (.getfield 12, 3) := by decide +kernel
theorem d_X9_wipe_4 : decode m_X9_wipe.2.1 4 = .ok (.getfield 50, 3) := by decide +kernel
theorem d_X9_wipe_7 : decode m_X9_wipe.2.1 7 = .ok (.istore_n 1, 1) := by decide +kernel
theorem d_X9_wipe_8 : decode m_X9_wipe.2.1 8 = .ok (.aload_n 0, 1) := by decide +kernel
theorem d_X9_wipe_9 : decode m_X9_wipe.2.1 9 = .ok (.getfield 12, 3) := by decide +kernel
theorem d_X9_wipe_12 : decode m_X9_wipe.2.1 12 = .ok (.invokevirtual 55, 3) := by decide +kernel
theorem d_X9_wipe_15 : decode m_X9_wipe.2.1 15 = .ok (.iload_n 1, 1) := by decide +kernel
theorem d_X9_wipe_16 : decode m_X9_wipe.2.1 16 = .ok (.ireturn, 1) := by decide +kernel
theorem d_X9_fault_0 : decode m_X9_fault.2.1 0 = .ok (.aload_n 0, 1) := by decide +kernel
theorem d_X9_fault_1 : decode m_X9_fault.2.1 1 = .ok (.getfield 12, 3) := by decide +kernel
theorem d_X9_fault_4 : decode m_X9_fault.2.1 4 = .ok (.invokevirtual 58, 3) := by decide +kernel
theorem d_X9_fault_7 : decode m_X9_fault.2.1 7 = .ok (.istore_n 1, 1) := by decide +kernel
theorem d_X9_fault_8 : decode m_X9_fault.2.1 8 = .ok (.iload_n 1, 1) := by decide +kernel
theorem d_X9_fault_9 : decode m_X9_fault.2.1 9 = .ok (.iconst (-1), 1) := by decide +kernel
theorem d_X9_fault_10 : decode m_X9_fault.2.1 10 = .ok (.if_icmp .ne 8, 3) := by decide +kernel
theorem d_X9_fault_13 : decode m_X9_fault.2.1 13 = .ok (.ldc 62, 2) := by decide +kernel
theorem d_X9_fault_15 : decode m_X9_fault.2.1 15 = .ok (.goto 4, 3) := by decide +kernel
theorem d_X9_fault_18 : decode m_X9_fault.2.1 18 = .ok (.iload_n 1, 1) := by decide +kernel
theorem d_X9_fault_19 : decode m_X9_fault.2.1 19 = .ok (.ireturn, 1) := by decide +kernel
theorem d_X9_right_0 : decode m_X9_right.2.1 0 = .ok (.iload_n 1, 1) := by decide +kernel
theorem d_X9_right_1 : decode m_X9_right.2.1 1 = .ok (.invokestatic 63, 3) := by decide +kernel
theorem d_X9_right_4 : decode m_X9_right.2.1 4 = .ok (.ifCond .ne 6, 3) := by decide +kernel
theorem d_X9_right_7 : decode m_X9_right.2.1 7 = .ok (.ldc 45, 2) := by decide +kernel
theorem d_X9_right_9 : decode m_X9_right.2.1 9 = .ok (.ireturn, 1) := by decide +kernel
theorem d_X9_right_10 : decode m_X9_right.2.1 10 = .ok (.aload_n 0, 1) := by decide +kernel
theorem d_X9_right_11 : decode m_X9_right.2.1 11 = .ok (.getfield 12, 3) := by decide +kernel
theorem d_X9_right_14 : decode m_X9_right.2.1 14 = .ok (.invokevirtual 58, 3) := by decide +kernel
theorem d_X9_right_17 : decode m_X9_right.2.1 17 = .ok (.iconst (-1), 1) := by decide +kernel
theorem d_X9_right_18 : decode m_X9_right.2.1 18 = .ok (.if_icmp .eq 6, 3) := by decide +kernel
theorem d_X9_right_21 : decode m_X9_right.2.1 21 = .ok (.ldc 66, 2) := by decide +kernel
theorem d_X9_right_23 : decode m_X9_right.2.1 23 = .ok (.ireturn, 1) := by decide +kernel
theorem d_X9_right_24 : decode m_X9_right.2.1 24 = .ok (.aload_n 0, 1) := by decide +kernel
theorem d_X9_right_25 : decode m_X9_right.2.1 25 = .ok (.getfield 26, 3) := by decide +kernel
theorem d_X9_right_28 : decode m_X9_right.2.1 28 = .ok (.aload_n 0, 1) := by decide +kernel
theorem d_X9_right_29 : decode m_X9_right.2.1 29 = .ok (.getfield 19, 3) := by decide +kernel
theorem d_X9_right_32 : decode m_X9_right.2.1 32 = .ok (.invokevirtual 67, 3) := by decide +kernel
theorem d_X9_right_35 : decode m_X9_right.2.1 35 = .ok (.aload_n 0, 1) := by decide +kernel
theorem d_X9_right_36 : decode m_X9_right.2.1 36 = .ok (.getfield 19, 3) := by decide +kernel
theorem d_X9_right_39 : decode m_X9_right.2.1 39 = .ok (.getfield 71, 3) := by decide +kernel
theorem d_X9_right_42 : decode m_X9_right.2.1 42 = .ok (.iload_n 1, 1) := by decide +kernel
theorem d_X9_right_43 : decode m_X9_right.2.1 43 = .ok (.aload_n 0, 1) := by decide +kernel
theorem d_X9_right_44 : decode m_X9_right.2.1 44 = .ok (.getfield 12, 3) := by decide +kernel
theorem d_X9_right_47 : decode m_X9_right.2.1 47 = .ok (.invokevirtual 75, 3) := by decide +kernel
theorem d_X9_right_50 : decode m_X9_right.2.1 50 = .ok (.aload_n 0, 1) := by decide +kernel
theorem d_X9_right_51 : decode m_X9_right.2.1 51 = .ok (.getfield 19, 3) := by decide +kernel
theorem d_X9_right_54 : decode m_X9_right.2.1 54 = .ok (.invokevirtual 81, 3) := by decide +kernel
theorem d_X9_right_57 : decode m_X9_right.2.1 57 = .ok (.aload_n 0, 1) := by decide +kernel
theorem d_X9_right_58 : decode m_X9_right.2.1 58 = .ok (.getfield 12, 3) := by decide +kernel
theorem d_X9_right_61 : decode m_X9_right.2.1 61 = .ok (.invokevirtual 55, 3) := by decide +kernel
theorem d_X9_right_64 : decode m_X9_right.2.1 64 = .ok (.aload_n 0, 1) := by decide +kernel
theorem d_X9_right_65 : decode m_X9_right.2.1 65 = .ok (.getfield 19, 3) := by decide +kernel
theorem d_X9_right_68 : decode m_X9_right.2.1 68 = .ok (.getfield 71, 3) := by decide +kernel
theorem d_X9_right_71 : decode m_X9_right.2.1 71 = .ok (.getfield 84, 3) := by decide +kernel
theorem d_X9_right_74 : decode m_X9_right.2.1 74 = .ok (.iload_n 1, 1) := by decide +kernel
theorem d_X9_right_75 : decode m_X9_right.2.1 75 = .ok (.invokestatic 88, 3) := by decide +kernel
theorem d_X9_right_78 : decode m_X9_right.2.1 78 = .ok (.invokestatic 92, 3) := by decide +kernel
theorem d_X9_right_81 : decode m_X9_right.2.1 81 = .ok (.ireturn, 1) := by decide +kernel
theorem d_X9_delay_0 : decode m_X9_delay.2.1 0 = .ok (.iload_n 1, 1) := by decide +kernel
theorem d_X9_delay_1 : decode m_X9_delay.2.1 1 = .ok (.invokestatic 96, 3) := by decide +kernel
theorem d_X9_delay_4 : decode m_X9_delay.2.1 4 = .ok (.ifCond .eq 27, 3) := by decide +kernel
theorem d_X9_delay_7 : decode m_X9_delay.2.1 7 = .ok (.iload_n 2, 1) := by decide +kernel
theorem d_X9_delay_8 : decode m_X9_delay.2.1 8 = .ok (.iconst 0, 1) := by decide +kernel
theorem d_X9_delay_9 : decode m_X9_delay.2.1 9 = .ok (.sipush 5000, 3) := by decide +kernel
theorem d_X9_delay_12 : decode m_X9_delay.2.1 12 = .ok (.invokestatic 41, 3) := by decide +kernel
theorem d_X9_delay_15 : decode m_X9_delay.2.1 15 = .ok (.ifCond .eq 16, 3) := by decide +kernel
theorem d_X9_delay_18 : decode m_X9_delay.2.1 18 = .ok (.iload_n 3, 1) := by decide +kernel
theorem d_X9_delay_19 : decode m_X9_delay.2.1 19 = .ok (.sipush (-900), 3) := by decide +kernel
theorem d_X9_delay_22 : decode m_X9_delay.2.1 22 = .ok (.sipush 900, 3) := by decide +kernel
theorem d_X9_delay_25 : decode m_X9_delay.2.1 25 = .ok (.invokestatic 41, 3) := by decide +kernel
theorem d_X9_delay_28 : decode m_X9_delay.2.1 28 = .ok (.ifCond .ne 6, 3) := by decide +kernel
theorem d_X9_delay_31 : decode m_X9_delay.2.1 31 = .ok (.ldc 45, 2) := by decide +kernel
theorem d_X9_delay_33 : decode m_X9_delay.2.1 33 = .ok (.ireturn, 1) := by decide +kernel
theorem d_X9_delay_34 : decode m_X9_delay.2.1 34 = .ok (.aload_n 0, 1) := by decide +kernel
theorem d_X9_delay_35 : decode m_X9_delay.2.1 35 = .ok (.getfield 26, 3) := by decide +kernel
theorem d_X9_delay_38 : decode m_X9_delay.2.1 38 = .ok (.aload_n 0, 1) := by decide +kernel
theorem d_X9_delay_39 : decode m_X9_delay.2.1 39 = .ok (.getfield 19, 3) := by decide +kernel
theorem d_X9_delay_42 : decode m_X9_delay.2.1 42 = .ok (.invokevirtual 67, 3) := by decide +kernel
theorem d_X9_delay_45 : decode m_X9_delay.2.1 45 = .ok (.aload_n 0, 1) := by decide +kernel
theorem d_X9_delay_46 : decode m_X9_delay.2.1 46 = .ok (.getfield 19, 3) := by decide +kernel
theorem d_X9_delay_49 : decode m_X9_delay.2.1 49 = .ok (.getfield 99, 3) := by decide +kernel
theorem d_X9_delay_52 : decode m_X9_delay.2.1 52 = .ok (.getfield 103, 3) := by decide +kernel
theorem d_X9_delay_55 : decode m_X9_delay.2.1 55 = .ok (.iload_n 1, 1) := by decide +kernel
theorem d_X9_delay_56 : decode m_X9_delay.2.1 56 = .ok (.invokestatic 88, 3) := by decide +kernel
theorem d_X9_delay_59 : decode m_X9_delay.2.1 59 = .ok (.istore 4, 2) := by decide +kernel
theorem d_X9_delay_61 : decode m_X9_delay.2.1 61 = .ok (.aload_n 0, 1) := by decide +kernel
theorem d_X9_delay_62 : decode m_X9_delay.2.1 62 = .ok (.getfield 19, 3) := by decide +kernel
theorem d_X9_delay_65 : decode m_X9_delay.2.1 65 = .ok (.getfield 99, 3) := by decide +kernel
theorem d_X9_delay_68 : decode m_X9_delay.2.1 68 = .ok (.getfield 103, 3) := by decide +kernel
theorem d_X9_delay_71 : decode m_X9_delay.2.1 71 = .ok (.iload_n 1, 1) := by decide +kernel
theorem d_X9_delay_72 : decode m_X9_delay.2.1 72 = .ok (.iload_n 2, 1) := by decide +kernel
theorem d_X9_delay_73 : decode m_X9_delay.2.1 73 = .ok (.invokestatic 108, 3) := by decide +kernel
theorem d_X9_delay_76 : decode m_X9_delay.2.1 76 = .ok (.aload_n 0, 1) := by decide +kernel
theorem d_X9_delay_77 : decode m_X9_delay.2.1 77 = .ok (.getfield 19, 3) := by decide +kernel
theorem d_X9_delay_80 : decode m_X9_delay.2.1 80 = .ok (.getfield 99, 3) := by decide +kernel
theorem d_X9_delay_83 : decode m_X9_delay.2.1 83 = .ok (.getfield 112, 3) := by decide +kernel
theorem d_X9_delay_86 : decode m_X9_delay.2.1 86 = .ok (.iload_n 1, 1) := by decide +kernel
theorem d_X9_delay_87 : decode m_X9_delay.2.1 87 = .ok (.iload_n 3, 1) := by decide +kernel
theorem d_X9_delay_88 : decode m_X9_delay.2.1 88 = .ok (.invokestatic 108, 3) := by decide +kernel
theorem d_X9_delay_91 : decode m_X9_delay.2.1 91 = .ok (.aload_n 0, 1) := by decide +kernel
theorem d_X9_delay_92 : decode m_X9_delay.2.1 92 = .ok (.getfield 19, 3) := by decide +kernel
theorem d_X9_delay_95 : decode m_X9_delay.2.1 95 = .ok (.invokevirtual 81, 3) := by decide +kernel
theorem d_X9_delay_98 : decode m_X9_delay.2.1 98 = .ok (.iload 4, 2) := by decide +kernel
theorem d_X9_delay_100 : decode m_X9_delay.2.1 100 = .ok (.ireturn, 1) := by decide +kernel
theorem d_X9_point_0 : decode m_X9_point.2.1 0 = .ok (.iload_n 1, 1) := by decide +kernel
theorem d_X9_point_1 : decode m_X9_point.2.1 1 = .ok (.invokestatic 63, 3) := by decide +kernel
theorem d_X9_point_4 : decode m_X9_point.2.1 4 = .ok (.ifCond .eq 25, 3) := by decide +kernel
theorem d_X9_point_7 : decode m_X9_point.2.1 7 = .ok (.iload_n 2, 1) := by decide +kernel
theorem d_X9_point_8 : decode m_X9_point.2.1 8 = .ok (.sipush (-10000), 3) := by decide +kernel
theorem d_X9_point_11 : decode m_X9_point.2.1 11 = .ok (.iconst 0, 1) := by decide +kernel
theorem d_X9_point_12 : decode m_X9_point.2.1 12 = .ok (.invokestatic 41, 3) := by decide +kernel
theorem d_X9_point_15 : decode m_X9_point.2.1 15 = .ok (.ifCond .eq 14, 3) := by decide +kernel
theorem d_X9_point_18 : decode m_X9_point.2.1 18 = .ok (.iload_n 3, 1) := by decide +kernel
theorem d_X9_point_19 : decode m_X9_point.2.1 19 = .ok (.ldc 115, 2) := by decide +kernel
theorem d_X9_point_21 : decode m_X9_point.2.1 21 = .ok (.ldc 116, 2) := by decide +kernel
theorem d_X9_point_23 : decode m_X9_point.2.1 23 = .ok (.invokestatic 41, 3) := by decide +kernel
theorem d_X9_point_26 : decode m_X9_point.2.1 26 = .ok (.ifCond .ne 6, 3) := by decide +kernel
theorem d_X9_point_29 : decode m_X9_point.2.1 29 = .ok (.ldc 45, 2) := by decide +kernel
theorem d_X9_point_31 : decode m_X9_point.2.1 31 = .ok (.ireturn, 1) := by decide +kernel
theorem d_X9_point_32 : decode m_X9_point.2.1 32 = .ok (.aload_n 0, 1) := by decide +kernel
theorem d_X9_point_33 : decode m_X9_point.2.1 33 = .ok (.getfield 19, 3) := by decide +kernel
theorem d_X9_point_36 : decode m_X9_point.2.1 36 = .ok (.getfield 117, 3) := by decide +kernel
theorem d_X9_point_39 : decode m_X9_point.2.1 39 = .ok (.iload_n 1, 1) := by decide +kernel
theorem d_X9_point_40 : decode m_X9_point.2.1 40 = .ok (.iload_n 2, 1) := by decide +kernel
theorem d_X9_point_41 : decode m_X9_point.2.1 41 = .ok (.invokevirtual 121, 3) := by decide +kernel
theorem d_X9_point_44 : decode m_X9_point.2.1 44 = .ok (.ifCond .eq 6, 3) := by decide +kernel
theorem d_X9_point_47 : decode m_X9_point.2.1 47 = .ok (.ldc 66, 2) := by decide +kernel
theorem d_X9_point_49 : decode m_X9_point.2.1 49 = .ok (.ireturn, 1) := by decide +kernel
theorem d_X9_point_50 : decode m_X9_point.2.1 50 = .ok (.aload_n 0, 1) := by decide +kernel
theorem d_X9_point_51 : decode m_X9_point.2.1 51 = .ok (.getfield 19, 3) := by decide +kernel
theorem d_X9_point_54 : decode m_X9_point.2.1 54 = .ok (.getfield 117, 3) := by decide +kernel
theorem d_X9_point_57 : decode m_X9_point.2.1 57 = .ok (.getfield 127, 3) := by decide +kernel
theorem d_X9_point_60 : decode m_X9_point.2.1 60 = .ok (.iload_n 1, 1) := by decide +kernel
theorem d_X9_point_61 : decode m_X9_point.2.1 61 = .ok (.invokestatic 88, 3) := by decide +kernel
theorem d_X9_point_64 : decode m_X9_point.2.1 64 = .ok (.bipush 6, 2) := by decide +kernel
theorem d_X9_point_66 : decode m_X9_point.2.1 66 = .ok (.if_icmp .lt 6, 3) := by decide +kernel
theorem d_X9_point_69 : decode m_X9_point.2.1 69 = .ok (.ldc 54, 2) := by decide +kernel
theorem d_X9_point_71 : decode m_X9_point.2.1 71 = .ok (.ireturn, 1) := by decide +kernel
theorem d_X9_point_72 : decode m_X9_point.2.1 72 = .ok (.aload_n 0, 1) := by decide +kernel
theorem d_X9_point_73 : decode m_X9_point.2.1 73 = .ok (.getfield 26, 3) := by decide +kernel
theorem d_X9_point_76 : decode m_X9_point.2.1 76 = .ok (.aload_n 0, 1) := by decide +kernel
theorem d_X9_point_77 : decode m_X9_point.2.1 77 = .ok (.getfield 19, 3) := by decide +kernel
theorem d_X9_point_80 : decode m_X9_point.2.1 80 = .ok (.invokevirtual 67, 3) := by decide +kernel
theorem d_X9_point_83 : decode m_X9_point.2.1 83 = .ok (.aload_n 0, 1) := by decide +kernel
theorem d_X9_point_84 : decode m_X9_point.2.1 84 = .ok (.getfield 19, 3) := by decide +kernel
theorem d_X9_point_87 : decode m_X9_point.2.1 87 = .ok (.getfield 117, 3) := by decide +kernel
theorem d_X9_point_90 : decode m_X9_point.2.1 90 = .ok (.iload_n 1, 1) := by decide +kernel
theorem d_X9_point_91 : decode m_X9_point.2.1 91 = .ok (.iload_n 2, 1) := by decide +kernel
theorem d_X9_point_92 : decode m_X9_point.2.1 92 = .ok (.iload_n 3, 1) := by decide +kernel
theorem d_X9_point_93 : decode m_X9_point.2.1 93 = .ok (.invokevirtual 130, 3) := by decide +kernel
theorem d_X9_point_96 : decode m_X9_point.2.1 96 = .ok (.aload_n 0, 1) := by decide +kernel
theorem d_X9_point_97 : decode m_X9_point.2.1 97 = .ok (.getfield 19, 3) := by decide +kernel
theorem d_X9_point_100 : decode m_X9_point.2.1 100 = .ok (.invokevirtual 81, 3) := by decide +kernel
theorem d_X9_point_103 : decode m_X9_point.2.1 103 = .ok (.aload_n 0, 1) := by decide +kernel
theorem d_X9_point_104 : decode m_X9_point.2.1 104 = .ok (.getfield 19, 3) := by decide +kernel
theorem d_X9_point_107 : decode m_X9_point.2.1 107 = .ok (.getfield 117, 3) := by decide +kernel
theorem d_X9_point_110 : decode m_X9_point.2.1 110 = .ok (.getfield 127, 3) := by decide +kernel
theorem d_X9_point_113 : decode m_X9_point.2.1 113 = .ok (.iload_n 1, 1) := by decide +kernel
theorem d_X9_point_114 : decode m_X9_point.2.1 114 = .ok (.invokestatic 88, 3) := by decide +kernel
theorem d_X9_point_117 : decode m_X9_point.2.1 117 = .ok (.ireturn, 1) := by decide +kernel
theorem d_X9_clear_0 : decode m_X9_clear.2.1 0 = .ok (.iload_n 1, 1) := by decide +kernel
theorem d_X9_clear_1 : decode m_X9_clear.2.1 1 = .ok (.invokestatic 63, 3) := by decide +kernel
theorem d_X9_clear_4 : decode m_X9_clear.2.1 4 = .ok (.ifCond .ne 6, 3) := by decide +kernel
theorem d_X9_clear_7 : decode m_X9_clear.2.1 7 = .ok (.ldc 45, 2) := by decide +kernel
theorem d_X9_clear_9 : decode m_X9_clear.2.1 9 = .ok (.ireturn, 1) := by decide +kernel
theorem d_X9_clear_10 : decode m_X9_clear.2.1 10 = .ok (.aload_n 0, 1) := by decide +kernel
theorem d_X9_clear_11 : decode m_X9_clear.2.1 11 = .ok (.getfield 26, 3) := by decide +kernel
theorem d_X9_clear_14 : decode m_X9_clear.2.1 14 = .ok (.aload_n 0, 1) := by decide +kernel
theorem d_X9_clear_15 : decode m_X9_clear.2.1 15 = .ok (.getfield 19, 3) := by decide +kernel
theorem d_X9_clear_18 : decode m_X9_clear.2.1 18 = .ok (.invokevirtual 67, 3) := by decide +kernel
theorem d_X9_clear_21 : decode m_X9_clear.2.1 21 = .ok (.aload_n 0, 1) := by decide +kernel
theorem d_X9_clear_22 : decode m_X9_clear.2.1 22 = .ok (.getfield 19, 3) := by decide +kernel
theorem d_X9_clear_25 : decode m_X9_clear.2.1 25 = .ok (.getfield 117, 3) := by decide +kernel
theorem d_X9_clear_28 : decode m_X9_clear.2.1 28 = .ok (.getfield 127, 3) := by decide +kernel
theorem d_X9_clear_31 : decode m_X9_clear.2.1 31 = .ok (.iload_n 1, 1) := by decide +kernel
theorem d_X9_clear_32 : decode m_X9_clear.2.1 32 = .ok (.invokestatic 88, 3) := by decide +kernel
theorem d_X9_clear_35 : decode m_X9_clear.2.1 35 = .ok (.istore_n 2, 1) := by decide +kernel
theorem d_X9_clear_36 : decode m_X9_clear.2.1 36 = .ok (.aload_n 0, 1) := by decide +kernel
theorem d_X9_clear_37 : decode m_X9_clear.2.1 37 = .ok (.getfield 19, 3) := by decide +kernel
theorem d_X9_clear_40 : decode m_X9_clear.2.1 40 = .ok (.getfield 117, 3) := by decide +kernel
theorem d_X9_clear_43 : decode m_X9_clear.2.1 43 = .ok (.getfield 127, 3) := by decide +kernel
theorem d_X9_clear_46 : decode m_X9_clear.2.1 46 = .ok (.iload_n 1, 1) := by decide +kernel
theorem d_X9_clear_47 : decode m_X9_clear.2.1 47 = .ok (.iconst 0, 1) := by decide +kernel
theorem d_X9_clear_48 : decode m_X9_clear.2.1 48 = .ok (.invokestatic 108, 3) := by decide +kernel
theorem d_X9_clear_51 : decode m_X9_clear.2.1 51 = .ok (.aload_n 0, 1) := by decide +kernel
theorem d_X9_clear_52 : decode m_X9_clear.2.1 52 = .ok (.getfield 19, 3) := by decide +kernel
theorem d_X9_clear_55 : decode m_X9_clear.2.1 55 = .ok (.invokevirtual 81, 3) := by decide +kernel
theorem d_X9_clear_58 : decode m_X9_clear.2.1 58 = .ok (.iload_n 2, 1) := by decide +kernel
theorem d_X9_clear_59 : decode m_X9_clear.2.1 59 = .ok (.ireturn, 1) := by decide +kernel
theorem d_X9_set_0 : decode m_X9_set.2.1 0 = .ok (.iload_n 1, 1) := by decide +kernel
theorem d_X9_set_1 : decode m_X9_set.2.1 1 = .ok (.iconst 0, 1) := by decide +kernel
theorem d_X9_set_2 : decode m_X9_set.2.1 2 = .ok (.iconst 2, 1) := by decide +kernel
theorem d_X9_set_3 : decode m_X9_set.2.1 3 = .ok (.invokestatic 41, 3) := by decide +kernel
theorem d_X9_set_6 : decode m_X9_set.2.1 6 = .ok (.ifCond .eq 24, 3) := by decide +kernel
theorem d_X9_set_9 : decode m_X9_set.2.1 9 = .ok (.iload_n 2, 1) := by decide +kernel
theorem d_X9_set_10 : decode m_X9_set.2.1 10 = .ok (.getstatic 134, 3) := by decide +kernel
theorem d_X9_set_13 : decode m_X9_set.2.1 13 = .ok (.iload_n 1, 1) := by decide +kernel
theorem d_X9_set_14 : decode m_X9_set.2.1 14 = .ok (.invokestatic 88, 3) := by decide +kernel
theorem d_X9_set_17 : decode m_X9_set.2.1 17 = .ok (.getstatic 137, 3) := by decide +kernel
theorem d_X9_set_20 : decode m_X9_set.2.1 20 = .ok (.iload_n 1, 1) := by decide +kernel
theorem d_X9_set_21 : decode m_X9_set.2.1 21 = .ok (.invokestatic 88, 3) := by decide +kernel
theorem d_X9_set_24 : decode m_X9_set.2.1 24 = .ok (.invokestatic 41, 3) := by decide +kernel
theorem d_X9_set_27 : decode m_X9_set.2.1 27 = .ok (.ifCond .ne 6, 3) := by decide +kernel
theorem d_X9_set_30 : decode m_X9_set.2.1 30 = .ok (.ldc 45, 2) := by decide +kernel
theorem d_X9_set_32 : decode m_X9_set.2.1 32 = .ok (.ireturn, 1) := by decide +kernel
theorem d_X9_set_33 : decode m_X9_set.2.1 33 = .ok (.aload_n 0, 1) := by decide +kernel
theorem d_X9_set_34 : decode m_X9_set.2.1 34 = .ok (.getfield 26, 3) := by decide +kernel
theorem d_X9_set_37 : decode m_X9_set.2.1 37 = .ok (.aload_n 0, 1) := by decide +kernel
theorem d_X9_set_38 : decode m_X9_set.2.1 38 = .ok (.getfield 19, 3) := by decide +kernel
theorem d_X9_set_41 : decode m_X9_set.2.1 41 = .ok (.invokevirtual 67, 3) := by decide +kernel
theorem d_X9_set_44 : decode m_X9_set.2.1 44 = .ok (.aload_n 0, 1) := by decide +kernel
theorem d_X9_set_45 : decode m_X9_set.2.1 45 = .ok (.getfield 19, 3) := by decide +kernel
theorem d_X9_set_48 : decode m_X9_set.2.1 48 = .ok (.getfield 140, 3) := by decide +kernel
theorem d_X9_set_51 : decode m_X9_set.2.1 51 = .ok (.iload_n 1, 1) := by decide +kernel
theorem d_X9_set_52 : decode m_X9_set.2.1 52 = .ok (.invokestatic 88, 3) := by decide +kernel
theorem d_X9_set_55 : decode m_X9_set.2.1 55 = .ok (.istore_n 3, 1) := by decide +kernel
theorem d_X9_set_56 : decode m_X9_set.2.1 56 = .ok (.aload_n 0, 1) := by decide +kernel
theorem d_X9_set_57 : decode m_X9_set.2.1 57 = .ok (.getfield 19, 3) := by decide +kernel
theorem d_X9_set_60 : decode m_X9_set.2.1 60 = .ok (.getfield 140, 3) := by decide +kernel
theorem d_X9_set_63 : decode m_X9_set.2.1 63 = .ok (.iload_n 1, 1) := by decide +kernel
theorem d_X9_set_64 : decode m_X9_set.2.1 64 = .ok (.iload_n 2, 1) := by decide +kernel
theorem d_X9_set_65 : decode m_X9_set.2.1 65 = .ok (.invokestatic 108, 3) := by decide +kernel
theorem d_X9_set_68 : decode m_X9_set.2.1 68 = .ok (.aload_n 0, 1) := by decide +kernel
theorem d_X9_set_69 : decode m_X9_set.2.1 69 = .ok (.getfield 19, 3) := by decide +kernel
theorem d_X9_set_72 : decode m_X9_set.2.1 72 = .ok (.invokevirtual 81, 3) := by decide +kernel
theorem d_X9_set_75 : decode m_X9_set.2.1 75 = .ok (.iload_n 3, 1) := by decide +kernel
theorem d_X9_set_76 : decode m_X9_set.2.1 76 = .ok (.ireturn, 1) := by decide +kernel
theorem d_X9_lag_0 : decode m_X9_lag.2.1 0 = .ok (.iload_n 1, 1) := by decide +kernel
theorem d_X9_lag_1 : decode m_X9_lag.2.1 1 = .ok (.invokestatic 96, 3) := by decide +kernel
theorem d_X9_lag_4 : decode m_X9_lag.2.1 4 = .ok (.ifCond .eq 14, 3) := by decide +kernel
theorem d_X9_lag_7 : decode m_X9_lag.2.1 7 = .ok (.iload_n 2, 1) := by decide +kernel
theorem d_X9_lag_8 : decode m_X9_lag.2.1 8 = .ok (.iconst 0, 1) := by decide +kernel
theorem d_X9_lag_9 : decode m_X9_lag.2.1 9 = .ok (.sipush 8000, 3) := by decide +kernel
theorem d_X9_lag_12 : decode m_X9_lag.2.1 12 = .ok (.invokestatic 41, 3) := by decide +kernel
theorem d_X9_lag_15 : decode m_X9_lag.2.1 15 = .ok (.ifCond .ne 6, 3) := by decide +kernel
theorem d_X9_lag_18 : decode m_X9_lag.2.1 18 = .ok (.ldc 45, 2) := by decide +kernel
theorem d_X9_lag_20 : decode m_X9_lag.2.1 20 = .ok (.ireturn, 1) := by decide +kernel
theorem d_X9_lag_21 : decode m_X9_lag.2.1 21 = .ok (.aload_n 0, 1) := by decide +kernel
theorem d_X9_lag_22 : decode m_X9_lag.2.1 22 = .ok (.getfield 19, 3) := by decide +kernel
theorem d_X9_lag_25 : decode m_X9_lag.2.1 25 = .ok (.getfield 99, 3) := by decide +kernel
theorem d_X9_lag_28 : decode m_X9_lag.2.1 28 = .ok (.iload_n 1, 1) := by decide +kernel
theorem d_X9_lag_29 : decode m_X9_lag.2.1 29 = .ok (.iload_n 2, 1) := by decide +kernel
theorem d_X9_lag_30 : decode m_X9_lag.2.1 30 = .ok (.invokevirtual 143, 3) := by decide +kernel
theorem d_X9_lag_33 : decode m_X9_lag.2.1 33 = .ok (.ireturn, 1) := by decide +kernel
theorem d_X9_breakAt_0 : decode m_X9_breakAt.2.1 0 = .ok (.iload_n 1, 1) := by decide +kernel
theorem d_X9_breakAt_1 : decode m_X9_breakAt.2.1 1 = .ok (.ifCond .lt 12, 3) := by decide +kernel
theorem d_X9_breakAt_4 : decode m_X9_breakAt.2.1 4 = .ok (.iload_n 2, 1) := by decide +kernel
theorem d_X9_breakAt_5 : decode m_X9_breakAt.2.1 5 = .ok (.iconst 0, 1) := by decide +kernel
theorem d_X9_breakAt_6 : decode m_X9_breakAt.2.1 6 = .ok (.iconst 2, 1) := by decide +kernel
theorem d_X9_breakAt_7 : decode m_X9_breakAt.2.1 7 = .ok (.invokestatic 41, 3) := by decide +kernel
theorem d_X9_breakAt_10 : decode m_X9_breakAt.2.1 10 = .ok (.ifCond .ne 6, 3) := by decide +kernel
theorem d_X9_breakAt_13 : decode m_X9_breakAt.2.1 13 = .ok (.ldc 45, 2) := by decide +kernel
theorem d_X9_breakAt_15 : decode m_X9_breakAt.2.1 15 = .ok (.ireturn, 1) := by decide +kernel
theorem d_X9_breakAt_16 : decode m_X9_breakAt.2.1 16 = .ok (.aload_n 0, 1) := by decide +kernel
theorem d_X9_breakAt_17 : decode m_X9_breakAt.2.1 17 = .ok (.getfield 19, 3) := by decide +kernel
theorem d_X9_breakAt_20 : decode m_X9_breakAt.2.1 20 = .ok (.getfield 147, 3) := by decide +kernel
theorem d_X9_breakAt_23 : decode m_X9_breakAt.2.1 23 = .ok (.astore_n 3, 1) := by decide +kernel
theorem d_X9_breakAt_24 : decode m_X9_breakAt.2.1 24 = .ok (.iload_n 1, 1) := by decide +kernel
theorem d_X9_breakAt_25 : decode m_X9_breakAt.2.1 25 = .ok (.aload_n 3, 1) := by decide +kernel
theorem d_X9_breakAt_26 : decode m_X9_breakAt.2.1 26 = .ok (.getfield 151, 3) := by decide +kernel
theorem d_X9_breakAt_29 : decode m_X9_breakAt.2.1 29 = .ok (.if_icmp .ge 12, 3) := by decide +kernel
theorem d_X9_breakAt_32 : decode m_X9_breakAt.2.1 32 = .ok (.iload_n 1, 1) := by decide +kernel
theorem d_X9_breakAt_33 : decode m_X9_breakAt.2.1 33 = .ok (.ifCond .ne 11, 3) := by decide +kernel
theorem d_X9_breakAt_36 : decode m_X9_breakAt.2.1 36 = .ok (.iload_n 2, 1) := by decide +kernel
theorem d_X9_breakAt_37 : decode m_X9_breakAt.2.1 37 = .ok (.iconst 2, 1) := by decide +kernel
theorem d_X9_breakAt_38 : decode m_X9_breakAt.2.1 38 = .ok (.if_icmp .ne 6, 3) := by decide +kernel
theorem d_X9_breakAt_41 : decode m_X9_breakAt.2.1 41 = .ok (.ldc 62, 2) := by decide +kernel
theorem d_X9_breakAt_43 : decode m_X9_breakAt.2.1 43 = .ok (.ireturn, 1) := by decide +kernel
theorem d_X9_breakAt_44 : decode m_X9_breakAt.2.1 44 = .ok (.iload_n 2, 1) := by decide +kernel
theorem d_X9_breakAt_45 : decode m_X9_breakAt.2.1 45 = .ok (.lookupswitch 45 #[(0, 27), (1, 36)], 27) := by decide +kernel
theorem d_X9_breakAt_72 : decode m_X9_breakAt.2.1 72 = .ok (.aload_n 3, 1) := by decide +kernel
theorem d_X9_breakAt_73 : decode m_X9_breakAt.2.1 73 = .ok (.getfield 156, 3) := by decide +kernel
theorem d_X9_breakAt_76 : decode m_X9_breakAt.2.1 76 = .ok (.iload_n 1, 1) := by decide +kernel
theorem d_X9_breakAt_77 : decode m_X9_breakAt.2.1 77 = .ok (.invokestatic 88, 3) := by decide +kernel
theorem d_X9_breakAt_80 : decode m_X9_breakAt.2.1 80 = .ok (.ireturn, 1) := by decide +kernel
theorem d_X9_breakAt_81 : decode m_X9_breakAt.2.1 81 = .ok (.aload_n 3, 1) := by decide +kernel
theorem d_X9_breakAt_82 : decode m_X9_breakAt.2.1 82 = .ok (.getfield 159, 3) := by decide +kernel
theorem d_X9_breakAt_85 : decode m_X9_breakAt.2.1 85 = .ok (.iload_n 1, 1) := by decide +kernel
theorem d_X9_breakAt_86 : decode m_X9_breakAt.2.1 86 = .ok (.invokestatic 88, 3) := by decide +kernel
theorem d_X9_breakAt_89 : decode m_X9_breakAt.2.1 89 = .ok (.ireturn, 1) := by decide +kernel
theorem d_X9_breakAt_90 : decode m_X9_breakAt.2.1 90 = .ok (.aload_n 3, 1) := by decide +kernel
theorem d_X9_breakAt_91 : decode m_X9_breakAt.2.1 91 = .ok (.getfield 162, 3) := by decide +kernel
theorem d_X9_breakAt_94 : decode m_X9_breakAt.2.1 94 = .ok (.iload_n 1, 1) := by decide +kernel
theorem d_X9_breakAt_95 : decode m_X9_breakAt.2.1 95 = .ok (.invokestatic 88, 3) := by decide +kernel
theorem d_X9_breakAt_98 : decode m_X9_breakAt.2.1 98 = .ok (.ireturn, 1) := by decide +kernel
theorem d_X9_solve_0 : decode m_X9_solve.2.1 0 = .ok (.iload_n 1, 1) := by decide +kernel
theorem d_X9_solve_1 : decode m_X9_solve.2.1 1 = .ok (.iconst 1, 1) := by decide +kernel
theorem d_X9_solve_2 : decode m_X9_solve.2.1 2 = .ok (.sipush 2000, 3) := by decide +kernel
theorem d_X9_solve_5 : decode m_X9_solve.2.1 5 = .ok (.invokestatic 41, 3) := by decide +kernel
theorem d_X9_solve_8 : decode m_X9_solve.2.1 8 = .ok (.ifCond .ne 6, 3) := by decide +kernel
theorem d_X9_solve_11 : decode m_X9_solve.2.1 11 = .ok (.ldc 45, 2) := by decide +kernel
theorem d_X9_solve_13 : decode m_X9_solve.2.1 13 = .ok (.ireturn, 1) := by decide +kernel
theorem d_X9_solve_14 : decode m_X9_solve.2.1 14 = .ok (.aload_n 0, 1) := by decide +kernel
theorem d_X9_solve_15 : decode m_X9_solve.2.1 15 = .ok (.getfield 19, 3) := by decide +kernel
theorem d_X9_solve_18 : decode m_X9_solve.2.1 18 = .ok (.getfield 165, 3) := by decide +kernel
theorem d_X9_solve_21 : decode m_X9_solve.2.1 21 = .ok (.invokevirtual 169, 3) := by decide +kernel
theorem d_X9_solve_24 : decode m_X9_solve.2.1 24 = .ok (.iload_n 1, 1) := by decide +kernel
theorem d_X9_solve_25 : decode m_X9_solve.2.1 25 = .ok (.iadd, 1) := by decide +kernel
theorem d_X9_solve_26 : decode m_X9_solve.2.1 26 = .ok (.istore_n 2, 1) := by decide +kernel
theorem d_X9_solve_27 : decode m_X9_solve.2.1 27 = .ok (.iload_n 2, 1) := by decide +kernel
theorem d_X9_solve_28 : decode m_X9_solve.2.1 28 = .ok (.sipush 8000, 3) := by decide +kernel
theorem d_X9_solve_31 : decode m_X9_solve.2.1 31 = .ok (.if_icmp .le 6, 3) := by decide +kernel
theorem d_X9_solve_34 : decode m_X9_solve.2.1 34 = .ok (.ldc 54, 2) := by decide +kernel
theorem d_X9_solve_36 : decode m_X9_solve.2.1 36 = .ok (.ireturn, 1) := by decide +kernel
theorem d_X9_solve_37 : decode m_X9_solve.2.1 37 = .ok (.aload_n 0, 1) := by decide +kernel
theorem d_X9_solve_38 : decode m_X9_solve.2.1 38 = .ok (.getfield 26, 3) := by decide +kernel
theorem d_X9_solve_41 : decode m_X9_solve.2.1 41 = .ok (.aload_n 0, 1) := by decide +kernel
theorem d_X9_solve_42 : decode m_X9_solve.2.1 42 = .ok (.getfield 19, 3) := by decide +kernel
theorem d_X9_solve_45 : decode m_X9_solve.2.1 45 = .ok (.invokevirtual 67, 3) := by decide +kernel
theorem d_X9_solve_48 : decode m_X9_solve.2.1 48 = .ok (.aload_n 0, 1) := by decide +kernel
theorem d_X9_solve_49 : decode m_X9_solve.2.1 49 = .ok (.getfield 37, 3) := by decide +kernel
theorem d_X9_solve_52 : decode m_X9_solve.2.1 52 = .ok (.aload_n 0, 1) := by decide +kernel
theorem d_X9_solve_53 : decode m_X9_solve.2.1 53 = .ok (.getfield 19, 3) := by decide +kernel
theorem d_X9_solve_56 : decode m_X9_solve.2.1 56 = .ok (.iload_n 2, 1) := by decide +kernel
theorem d_X9_solve_57 : decode m_X9_solve.2.1 57 = .ok (.invokevirtual 174, 3) := by decide +kernel
theorem d_X9_solve_60 : decode m_X9_solve.2.1 60 = .ok (.aload_n 0, 1) := by decide +kernel
theorem d_X9_solve_61 : decode m_X9_solve.2.1 61 = .ok (.getfield 19, 3) := by decide +kernel
theorem d_X9_solve_64 : decode m_X9_solve.2.1 64 = .ok (.getfield 165, 3) := by decide +kernel
theorem d_X9_solve_67 : decode m_X9_solve.2.1 67 = .ok (.invokevirtual 169, 3) := by decide +kernel
theorem d_X9_solve_70 : decode m_X9_solve.2.1 70 = .ok (.ireturn, 1) := by decide +kernel
theorem d_X9_value_0 : decode m_X9_value.2.1 0 = .ok (.iload_n 1, 1) := by decide +kernel
theorem d_X9_value_1 : decode m_X9_value.2.1 1 = .ok (.invokestatic 63, 3) := by decide +kernel
theorem d_X9_value_4 : decode m_X9_value.2.1 4 = .ok (.ifCond .eq 16, 3) := by decide +kernel
theorem d_X9_value_7 : decode m_X9_value.2.1 7 = .ok (.iload_n 2, 1) := by decide +kernel
theorem d_X9_value_8 : decode m_X9_value.2.1 8 = .ok (.sipush (-10000), 3) := by decide +kernel
theorem d_X9_value_11 : decode m_X9_value.2.1 11 = .ok (.sipush 8000, 3) := by decide +kernel
theorem d_X9_value_14 : decode m_X9_value.2.1 14 = .ok (.invokestatic 41, 3) := by decide +kernel
theorem d_X9_value_17 : decode m_X9_value.2.1 17 = .ok (.ifCond .ne 6, 3) := by decide +kernel
theorem d_X9_value_20 : decode m_X9_value.2.1 20 = .ok (.ldc 45, 2) := by decide +kernel
theorem d_X9_value_22 : decode m_X9_value.2.1 22 = .ok (.ireturn, 1) := by decide +kernel
theorem d_X9_value_23 : decode m_X9_value.2.1 23 = .ok (.aload_n 0, 1) := by decide +kernel
theorem d_X9_value_24 : decode m_X9_value.2.1 24 = .ok (.getfield 19, 3) := by decide +kernel
theorem d_X9_value_27 : decode m_X9_value.2.1 27 = .ok (.getfield 165, 3) := by decide +kernel
theorem d_X9_value_30 : decode m_X9_value.2.1 30 = .ok (.iload_n 2, 1) := by decide +kernel
theorem d_X9_value_31 : decode m_X9_value.2.1 31 = .ok (.invokevirtual 178, 3) := by decide +kernel
theorem d_X9_value_34 : decode m_X9_value.2.1 34 = .ok (.istore_n 3, 1) := by decide +kernel
theorem d_X9_value_35 : decode m_X9_value.2.1 35 = .ok (.iload_n 2, 1) := by decide +kernel
theorem d_X9_value_36 : decode m_X9_value.2.1 36 = .ok (.aload_n 0, 1) := by decide +kernel
theorem d_X9_value_37 : decode m_X9_value.2.1 37 = .ok (.getfield 19, 3) := by decide +kernel
theorem d_X9_value_40 : decode m_X9_value.2.1 40 = .ok (.getfield 165, 3) := by decide +kernel
theorem d_X9_value_43 : decode m_X9_value.2.1 43 = .ok (.invokevirtual 169, 3) := by decide +kernel
theorem d_X9_value_46 : decode m_X9_value.2.1 46 = .ok (.if_icmp .le 8, 3) := by decide +kernel
theorem d_X9_value_49 : decode m_X9_value.2.1 49 = .ok (.ldc 62, 2) := by decide +kernel
theorem d_X9_value_51 : decode m_X9_value.2.1 51 = .ok (.goto 13, 3) := by decide +kernel
theorem d_X9_value_54 : decode m_X9_value.2.1 54 = .ok (.aload_n 0, 1) := by decide +kernel
theorem d_X9_value_55 : decode m_X9_value.2.1 55 = .ok (.getfield 19, 3) := by decide +kernel
theorem d_X9_value_58 : decode m_X9_value.2.1 58 = .ok (.iload_n 3, 1) := by decide +kernel
theorem d_X9_value_59 : decode m_X9_value.2.1 59 = .ok (.iload_n 1, 1) := by decide +kernel
theorem d_X9_value_60 : decode m_X9_value.2.1 60 = .ok (.iload_n 2, 1) := by decide +kernel
theorem d_X9_value_61 : decode m_X9_value.2.1 61 = .ok (.invokevirtual 181, 3) := by decide +kernel
theorem d_X9_value_64 : decode m_X9_value.2.1 64 = .ok (.ireturn, 1) := by decide +kernel
theorem d_X9_slope_0 : decode m_X9_slope.2.1 0 = .ok (.iload_n 1, 1) := by decide +kernel
theorem d_X9_slope_1 : decode m_X9_slope.2.1 1 = .ok (.invokestatic 63, 3) := by decide +kernel
theorem d_X9_slope_4 : decode m_X9_slope.2.1 4 = .ok (.ifCond .eq 16, 3) := by decide +kernel
theorem d_X9_slope_7 : decode m_X9_slope.2.1 7 = .ok (.iload_n 2, 1) := by decide +kernel
theorem d_X9_slope_8 : decode m_X9_slope.2.1 8 = .ok (.sipush (-10000), 3) := by decide +kernel
theorem d_X9_slope_11 : decode m_X9_slope.2.1 11 = .ok (.sipush 8000, 3) := by decide +kernel
theorem d_X9_slope_14 : decode m_X9_slope.2.1 14 = .ok (.invokestatic 41, 3) := by decide +kernel
theorem d_X9_slope_17 : decode m_X9_slope.2.1 17 = .ok (.ifCond .ne 6, 3) := by decide +kernel
theorem d_X9_slope_20 : decode m_X9_slope.2.1 20 = .ok (.ldc 45, 2) := by decide +kernel
theorem d_X9_slope_22 : decode m_X9_slope.2.1 22 = .ok (.ireturn, 1) := by decide +kernel
theorem d_X9_slope_23 : decode m_X9_slope.2.1 23 = .ok (.aload_n 0, 1) := by decide +kernel
theorem d_X9_slope_24 : decode m_X9_slope.2.1 24 = .ok (.getfield 19, 3) := by decide +kernel
theorem d_X9_slope_27 : decode m_X9_slope.2.1 27 = .ok (.getfield 165, 3) := by decide +kernel
theorem d_X9_slope_30 : decode m_X9_slope.2.1 30 = .ok (.iload_n 2, 1) := by decide +kernel
theorem d_X9_slope_31 : decode m_X9_slope.2.1 31 = .ok (.invokevirtual 178, 3) := by decide +kernel
theorem d_X9_slope_34 : decode m_X9_slope.2.1 34 = .ok (.istore_n 3, 1) := by decide +kernel
theorem d_X9_slope_35 : decode m_X9_slope.2.1 35 = .ok (.iload_n 2, 1) := by decide +kernel
theorem d_X9_slope_36 : decode m_X9_slope.2.1 36 = .ok (.aload_n 0, 1) := by decide +kernel
theorem d_X9_slope_37 : decode m_X9_slope.2.1 37 = .ok (.getfield 19, 3) := by decide +kernel
theorem d_X9_slope_40 : decode m_X9_slope.2.1 40 = .ok (.getfield 165, 3) := by decide +kernel
theorem d_X9_slope_43 : decode m_X9_slope.2.1 43 = .ok (.invokevirtual 169, 3) := by decide +kernel
theorem d_X9_slope_46 : decode m_X9_slope.2.1 46 = .ok (.if_icmp .le 8, 3) := by decide +kernel
theorem d_X9_slope_49 : decode m_X9_slope.2.1 49 = .ok (.ldc 62, 2) := by decide +kernel
theorem d_X9_slope_51 : decode m_X9_slope.2.1 51 = .ok (.goto 13, 3) := by decide +kernel
theorem d_X9_slope_54 : decode m_X9_slope.2.1 54 = .ok (.aload_n 0, 1) := by decide +kernel
theorem d_X9_slope_55 : decode m_X9_slope.2.1 55 = .ok (.getfield 19, 3) := by decide +kernel
theorem d_X9_slope_58 : decode m_X9_slope.2.1 58 = .ok (.iload_n 3, 1) := by decide +kernel
theorem d_X9_slope_59 : decode m_X9_slope.2.1 59 = .ok (.iload_n 1, 1) := by decide +kernel
theorem d_X9_slope_60 : decode m_X9_slope.2.1 60 = .ok (.iload_n 2, 1) := by decide +kernel
theorem d_X9_slope_61 : decode m_X9_slope.2.1 61 = .ok (.invokevirtual 185, 3) := by decide +kernel
theorem d_X9_slope_64 : decode m_X9_slope.2.1 64 = .ok (.ireturn, 1) := by decide +kernel
theorem d_X9_rightAt_0 : decode m_X9_rightAt.2.1 0 = .ok (.iload_n 1, 1) := by decide +kernel
theorem d_X9_rightAt_1 : decode m_X9_rightAt.2.1 1 = .ok (.invokestatic 63, 3) := by decide +kernel
theorem d_X9_rightAt_4 : decode m_X9_rightAt.2.1 4 = .ok (.ifCond .eq 14, 3) := by decide +kernel
theorem d_X9_rightAt_7 : decode m_X9_rightAt.2.1 7 = .ok (.iload_n 2, 1) := by decide +kernel
theorem d_X9_rightAt_8 : decode m_X9_rightAt.2.1 8 = .ok (.iconst 0, 1) := by decide +kernel
theorem d_X9_rightAt_9 : decode m_X9_rightAt.2.1 9 = .ok (.sipush 8000, 3) := by decide +kernel
theorem d_X9_rightAt_12 : decode m_X9_rightAt.2.1 12 = .ok (.invokestatic 41, 3) := by decide +kernel
theorem d_X9_rightAt_15 : decode m_X9_rightAt.2.1 15 = .ok (.ifCond .ne 6, 3) := by decide +kernel
theorem d_X9_rightAt_18 : decode m_X9_rightAt.2.1 18 = .ok (.ldc 45, 2) := by decide +kernel
theorem d_X9_rightAt_20 : decode m_X9_rightAt.2.1 20 = .ok (.ireturn, 1) := by decide +kernel
theorem d_X9_rightAt_21 : decode m_X9_rightAt.2.1 21 = .ok (.iload_n 2, 1) := by decide +kernel
theorem d_X9_rightAt_22 : decode m_X9_rightAt.2.1 22 = .ok (.aload_n 0, 1) := by decide +kernel
theorem d_X9_rightAt_23 : decode m_X9_rightAt.2.1 23 = .ok (.getfield 19, 3) := by decide +kernel
theorem d_X9_rightAt_26 : decode m_X9_rightAt.2.1 26 = .ok (.getfield 165, 3) := by decide +kernel
theorem d_X9_rightAt_29 : decode m_X9_rightAt.2.1 29 = .ok (.invokevirtual 169, 3) := by decide +kernel
theorem d_X9_rightAt_32 : decode m_X9_rightAt.2.1 32 = .ok (.if_icmp .le 8, 3) := by decide +kernel
theorem d_X9_rightAt_35 : decode m_X9_rightAt.2.1 35 = .ok (.ldc 62, 2) := by decide +kernel
theorem d_X9_rightAt_37 : decode m_X9_rightAt.2.1 37 = .ok (.goto 16, 3) := by decide +kernel
theorem d_X9_rightAt_40 : decode m_X9_rightAt.2.1 40 = .ok (.aload_n 0, 1) := by decide +kernel
theorem d_X9_rightAt_41 : decode m_X9_rightAt.2.1 41 = .ok (.getfield 37, 3) := by decide +kernel
theorem d_X9_rightAt_44 : decode m_X9_rightAt.2.1 44 = .ok (.aload_n 0, 1) := by decide +kernel
theorem d_X9_rightAt_45 : decode m_X9_rightAt.2.1 45 = .ok (.getfield 19, 3) := by decide +kernel
theorem d_X9_rightAt_48 : decode m_X9_rightAt.2.1 48 = .ok (.iload_n 1, 1) := by decide +kernel
theorem d_X9_rightAt_49 : decode m_X9_rightAt.2.1 49 = .ok (.iload_n 2, 1) := by decide +kernel
theorem d_X9_rightAt_50 : decode m_X9_rightAt.2.1 50 = .ok (.invokevirtual 188, 3) := by decide +kernel
theorem d_X9_rightAt_53 : decode m_X9_rightAt.2.1 53 = .ok (.ireturn, 1) := by decide +kernel
theorem d_X9_step_0 : decode m_X9_step.2.1 0 = .ok (.iload_n 1, 1) := by decide +kernel
theorem d_X9_step_1 : decode m_X9_step.2.1 1 = .ok (.ifCond .lt 12, 3) := by decide +kernel
theorem d_X9_step_4 : decode m_X9_step.2.1 4 = .ok (.iload_n 2, 1) := by decide +kernel
theorem d_X9_step_5 : decode m_X9_step.2.1 5 = .ok (.iconst 0, 1) := by decide +kernel
theorem d_X9_step_6 : decode m_X9_step.2.1 6 = .ok (.iconst 5, 1) := by decide +kernel
theorem d_X9_step_7 : decode m_X9_step.2.1 7 = .ok (.invokestatic 41, 3) := by decide +kernel
theorem d_X9_step_10 : decode m_X9_step.2.1 10 = .ok (.ifCond .ne 6, 3) := by decide +kernel
theorem d_X9_step_13 : decode m_X9_step.2.1 13 = .ok (.ldc 45, 2) := by decide +kernel
theorem d_X9_step_15 : decode m_X9_step.2.1 15 = .ok (.ireturn, 1) := by decide +kernel
theorem d_X9_step_16 : decode m_X9_step.2.1 16 = .ok (.aload_n 0, 1) := by decide +kernel
theorem d_X9_step_17 : decode m_X9_step.2.1 17 = .ok (.getfield 19, 3) := by decide +kernel
theorem d_X9_step_20 : decode m_X9_step.2.1 20 = .ok (.getfield 165, 3) := by decide +kernel
theorem d_X9_step_23 : decode m_X9_step.2.1 23 = .ok (.astore_n 3, 1) := by decide +kernel
theorem d_X9_step_24 : decode m_X9_step.2.1 24 = .ok (.iload_n 1, 1) := by decide +kernel
theorem d_X9_step_25 : decode m_X9_step.2.1 25 = .ok (.aload_n 3, 1) := by decide +kernel
theorem d_X9_step_26 : decode m_X9_step.2.1 26 = .ok (.getfield 192, 3) := by decide +kernel
theorem d_X9_step_29 : decode m_X9_step.2.1 29 = .ok (.if_icmp .lt 6, 3) := by decide +kernel
theorem d_X9_step_32 : decode m_X9_step.2.1 32 = .ok (.ldc 62, 2) := by decide +kernel
theorem d_X9_step_34 : decode m_X9_step.2.1 34 = .ok (.ireturn, 1) := by decide +kernel
theorem d_X9_step_35 : decode m_X9_step.2.1 35 = .ok (.iload_n 2, 1) := by decide +kernel
theorem d_X9_step_36 : decode m_X9_step.2.1 36 = .ok (.ifCond .ne 9, 3) := by decide +kernel
theorem d_X9_step_39 : decode m_X9_step.2.1 39 = .ok (.aload_n 3, 1) := by decide +kernel
theorem d_X9_step_40 : decode m_X9_step.2.1 40 = .ok (.iload_n 1, 1) := by decide +kernel
theorem d_X9_step_41 : decode m_X9_step.2.1 41 = .ok (.invokevirtual 195, 3) := by decide +kernel
theorem d_X9_step_44 : decode m_X9_step.2.1 44 = .ok (.ireturn, 1) := by decide +kernel
theorem d_X9_step_45 : decode m_X9_step.2.1 45 = .ok (.iload_n 2, 1) := by decide +kernel
theorem d_X9_step_46 : decode m_X9_step.2.1 46 = .ok (.iconst 1, 1) := by decide +kernel
theorem d_X9_step_47 : decode m_X9_step.2.1 47 = .ok (.if_icmp .ne 15, 3) := by decide +kernel
theorem d_X9_step_50 : decode m_X9_step.2.1 50 = .ok (.aload_n 3, 1) := by decide +kernel
theorem d_X9_step_51 : decode m_X9_step.2.1 51 = .ok (.iload_n 1, 1) := by decide +kernel
theorem d_X9_step_52 : decode m_X9_step.2.1 52 = .ok (.invokevirtual 198, 3) := by decide +kernel
theorem d_X9_step_55 : decode m_X9_step.2.1 55 = .ok (.aload_n 3, 1) := by decide +kernel
theorem d_X9_step_56 : decode m_X9_step.2.1 56 = .ok (.iload_n 1, 1) := by decide +kernel
theorem d_X9_step_57 : decode m_X9_step.2.1 57 = .ok (.invokevirtual 195, 3) := by decide +kernel
theorem d_X9_step_60 : decode m_X9_step.2.1 60 = .ok (.isub, 1) := by decide +kernel
theorem d_X9_step_61 : decode m_X9_step.2.1 61 = .ok (.ireturn, 1) := by decide +kernel
theorem d_X9_step_62 : decode m_X9_step.2.1 62 = .ok (.iload_n 2, 1) := by decide +kernel
theorem d_X9_step_63 : decode m_X9_step.2.1 63 = .ok (.iconst 5, 1) := by decide +kernel
theorem d_X9_step_64 : decode m_X9_step.2.1 64 = .ok (.if_icmp .ne 11, 3) := by decide +kernel
theorem d_X9_step_67 : decode m_X9_step.2.1 67 = .ok (.aload_n 3, 1) := by decide +kernel
theorem d_X9_step_68 : decode m_X9_step.2.1 68 = .ok (.iload_n 1, 1) := by decide +kernel
theorem d_X9_step_69 : decode m_X9_step.2.1 69 = .ok (.invokevirtual 201, 3) := by decide +kernel
theorem d_X9_step_72 : decode m_X9_step.2.1 72 = .ok (.goto 11, 3) := by decide +kernel
theorem d_X9_step_75 : decode m_X9_step.2.1 75 = .ok (.aload_n 3, 1) := by decide +kernel
theorem d_X9_step_76 : decode m_X9_step.2.1 76 = .ok (.iload_n 1, 1) := by decide +kernel
theorem d_X9_step_77 : decode m_X9_step.2.1 77 = .ok (.iload_n 2, 1) := by decide +kernel
theorem d_X9_step_78 : decode m_X9_step.2.1 78 = .ok (.iconst 2, 1) := by decide +kernel
theorem d_X9_step_79 : decode m_X9_step.2.1 79 = .ok (.isub, 1) := by decide +kernel
theorem d_X9_step_80 : decode m_X9_step.2.1 80 = .ok (.invokevirtual 204, 3) := by decide +kernel
theorem d_X9_step_83 : decode m_X9_step.2.1 83 = .ok (.ireturn, 1) := by decide +kernel
theorem d_X9_crossing_0 : decode m_X9_crossing.2.1 0 = .ok (.iload_n 1, 1) := by decide +kernel
theorem d_X9_crossing_1 : decode m_X9_crossing.2.1 1 = .ok (.invokestatic 63, 3) := by decide +kernel
theorem d_X9_crossing_4 : decode m_X9_crossing.2.1 4 = .ok (.ifCond .eq 25, 3) := by decide +kernel
theorem d_X9_crossing_7 : decode m_X9_crossing.2.1 7 = .ok (.iload_n 2, 1) := by decide +kernel
theorem d_X9_crossing_8 : decode m_X9_crossing.2.1 8 = .ok (.ldc 207, 2) := by decide +kernel
theorem d_X9_crossing_10 : decode m_X9_crossing.2.1 10 = .ok (.ldc 208, 2) := by decide +kernel
theorem d_X9_crossing_12 : decode m_X9_crossing.2.1 12 = .ok (.invokestatic 41, 3) := by decide +kernel
theorem d_X9_crossing_15 : decode m_X9_crossing.2.1 15 = .ok (.ifCond .eq 14, 3) := by decide +kernel
theorem d_X9_crossing_18 : decode m_X9_crossing.2.1 18 = .ok (.iload_n 3, 1) := by decide +kernel
theorem d_X9_crossing_19 : decode m_X9_crossing.2.1 19 = .ok (.iconst 1, 1) := by decide +kernel
theorem d_X9_crossing_20 : decode m_X9_crossing.2.1 20 = .ok (.sipush 8000, 3) := by decide +kernel
theorem d_X9_crossing_23 : decode m_X9_crossing.2.1 23 = .ok (.invokestatic 41, 3) := by decide +kernel
theorem d_X9_crossing_26 : decode m_X9_crossing.2.1 26 = .ok (.ifCond .ne 6, 3) := by decide +kernel
theorem d_X9_crossing_29 : decode m_X9_crossing.2.1 29 = .ok (.ldc 45, 2) := by decide +kernel
theorem d_X9_crossing_31 : decode m_X9_crossing.2.1 31 = .ok (.ireturn, 1) := by decide +kernel
theorem d_X9_crossing_32 : decode m_X9_crossing.2.1 32 = .ok (.aload_n 0, 1) := by decide +kernel
theorem d_X9_crossing_33 : decode m_X9_crossing.2.1 33 = .ok (.getfield 19, 3) := by decide +kernel
theorem d_X9_crossing_36 : decode m_X9_crossing.2.1 36 = .ok (.getfield 165, 3) := by decide +kernel
theorem d_X9_crossing_39 : decode m_X9_crossing.2.1 39 = .ok (.astore 4, 2) := by decide +kernel
theorem d_X9_crossing_41 : decode m_X9_crossing.2.1 41 = .ok (.aload 4, 2) := by decide +kernel
theorem d_X9_crossing_43 : decode m_X9_crossing.2.1 43 = .ok (.invokevirtual 169, 3) := by decide +kernel
theorem d_X9_crossing_46 : decode m_X9_crossing.2.1 46 = .ok (.istore 5, 2) := by decide +kernel
theorem d_X9_crossing_48 : decode m_X9_crossing.2.1 48 = .ok (.iload_n 3, 1) := by decide +kernel
theorem d_X9_crossing_49 : decode m_X9_crossing.2.1 49 = .ok (.iload 5, 2) := by decide +kernel
theorem d_X9_crossing_51 : decode m_X9_crossing.2.1 51 = .ok (.if_icmp .le 6, 3) := by decide +kernel
theorem d_X9_crossing_54 : decode m_X9_crossing.2.1 54 = .ok (.ldc 62, 2) := by decide +kernel
theorem d_X9_crossing_56 : decode m_X9_crossing.2.1 56 = .ok (.ireturn, 1) := by decide +kernel
theorem d_X9_crossing_57 : decode m_X9_crossing.2.1 57 = .ok (.aload 4, 2) := by decide +kernel
theorem d_X9_crossing_59 : decode m_X9_crossing.2.1 59 = .ok (.iload_n 3, 1) := by decide +kernel
theorem d_X9_crossing_60 : decode m_X9_crossing.2.1 60 = .ok (.iconst 1, 1) := by decide +kernel
theorem d_X9_crossing_61 : decode m_X9_crossing.2.1 61 = .ok (.isub, 1) := by decide +kernel
theorem d_X9_crossing_62 : decode m_X9_crossing.2.1 62 = .ok (.invokevirtual 178, 3) := by decide +kernel
theorem d_X9_crossing_65 : decode m_X9_crossing.2.1 65 = .ok (.istore 6, 2) := by decide +kernel
theorem d_X9_crossing_67 : decode m_X9_crossing.2.1 67 = .ok (.aload 4, 2) := by decide +kernel
theorem d_X9_crossing_69 : decode m_X9_crossing.2.1 69 = .ok (.iload 6, 2) := by decide +kernel
theorem d_X9_crossing_71 : decode m_X9_crossing.2.1 71 = .ok (.iload_n 1, 1) := by decide +kernel
theorem d_X9_crossing_72 : decode m_X9_crossing.2.1 72 = .ok (.iload_n 3, 1) := by decide +kernel
theorem d_X9_crossing_73 : decode m_X9_crossing.2.1 73 = .ok (.iconst 1, 1) := by decide +kernel
theorem d_X9_crossing_74 : decode m_X9_crossing.2.1 74 = .ok (.isub, 1) := by decide +kernel
theorem d_X9_crossing_75 : decode m_X9_crossing.2.1 75 = .ok (.invokevirtual 209, 3) := by decide +kernel
theorem d_X9_crossing_78 : decode m_X9_crossing.2.1 78 = .ok (.iload_n 2, 1) := by decide +kernel
theorem d_X9_crossing_79 : decode m_X9_crossing.2.1 79 = .ok (.if_icmp .ge 7, 3) := by decide +kernel
theorem d_X9_crossing_82 : decode m_X9_crossing.2.1 82 = .ok (.iconst 1, 1) := by decide +kernel
theorem d_X9_crossing_83 : decode m_X9_crossing.2.1 83 = .ok (.goto 4, 3) := by decide +kernel
theorem d_X9_crossing_86 : decode m_X9_crossing.2.1 86 = .ok (.iconst 0, 1) := by decide +kernel
theorem d_X9_crossing_87 : decode m_X9_crossing.2.1 87 = .ok (.istore 7, 2) := by decide +kernel
theorem d_X9_crossing_89 : decode m_X9_crossing.2.1 89 = .ok (.iload_n 3, 1) := by decide +kernel
theorem d_X9_crossing_90 : decode m_X9_crossing.2.1 90 = .ok (.istore 8, 2) := by decide +kernel
theorem d_X9_crossing_92 : decode m_X9_crossing.2.1 92 = .ok (.iload 8, 2) := by decide +kernel
theorem d_X9_crossing_94 : decode m_X9_crossing.2.1 94 = .ok (.iload 5, 2) := by decide +kernel
theorem d_X9_crossing_96 : decode m_X9_crossing.2.1 96 = .ok (.if_icmp .gt 62, 3) := by decide +kernel
theorem d_X9_crossing_99 : decode m_X9_crossing.2.1 99 = .ok (.iload 8, 2) := by decide +kernel
theorem d_X9_crossing_101 : decode m_X9_crossing.2.1 101 = .ok (.aload 4, 2) := by decide +kernel
theorem d_X9_crossing_103 : decode m_X9_crossing.2.1 103 = .ok (.iload 6, 2) := by decide +kernel
theorem d_X9_crossing_105 : decode m_X9_crossing.2.1 105 = .ok (.invokevirtual 198, 3) := by decide +kernel
theorem d_X9_crossing_108 : decode m_X9_crossing.2.1 108 = .ok (.if_icmp .le 6, 3) := by decide +kernel
theorem d_X9_crossing_111 : decode m_X9_crossing.2.1 111 = .ok (.iinc 6 1, 3) := by decide +kernel
theorem d_X9_crossing_114 : decode m_X9_crossing.2.1 114 = .ok (.aload 4, 2) := by decide +kernel
theorem d_X9_crossing_116 : decode m_X9_crossing.2.1 116 = .ok (.iload 6, 2) := by decide +kernel
theorem d_X9_crossing_118 : decode m_X9_crossing.2.1 118 = .ok (.iload_n 1, 1) := by decide +kernel
theorem d_X9_crossing_119 : decode m_X9_crossing.2.1 119 = .ok (.iload 8, 2) := by decide +kernel
theorem d_X9_crossing_121 : decode m_X9_crossing.2.1 121 = .ok (.invokevirtual 209, 3) := by decide +kernel
theorem d_X9_crossing_124 : decode m_X9_crossing.2.1 124 = .ok (.iload_n 2, 1) := by decide +kernel
theorem d_X9_crossing_125 : decode m_X9_crossing.2.1 125 = .ok (.if_icmp .ge 7, 3) := by decide +kernel
theorem d_X9_crossing_128 : decode m_X9_crossing.2.1 128 = .ok (.iconst 1, 1) := by decide +kernel
theorem d_X9_crossing_129 : decode m_X9_crossing.2.1 129 = .ok (.goto 4, 3) := by decide +kernel
theorem d_X9_crossing_132 : decode m_X9_crossing.2.1 132 = .ok (.iconst 0, 1) := by decide +kernel
theorem d_X9_crossing_133 : decode m_X9_crossing.2.1 133 = .ok (.istore 9, 2) := by decide +kernel
theorem d_X9_crossing_135 : decode m_X9_crossing.2.1 135 = .ok (.iload 7, 2) := by decide +kernel
theorem d_X9_crossing_137 : decode m_X9_crossing.2.1 137 = .ok (.ifCond .eq 11, 3) := by decide +kernel
theorem d_X9_crossing_140 : decode m_X9_crossing.2.1 140 = .ok (.iload 9, 2) := by decide +kernel
theorem d_X9_crossing_142 : decode m_X9_crossing.2.1 142 = .ok (.ifCond .ne 6, 3) := by decide +kernel
theorem d_X9_crossing_145 : decode m_X9_crossing.2.1 145 = .ok (.iload 8, 2) := by decide +kernel
theorem d_X9_crossing_147 : decode m_X9_crossing.2.1 147 = .ok (.ireturn, 1) := by decide +kernel
theorem d_X9_crossing_148 : decode m_X9_crossing.2.1 148 = .ok (.iload 9, 2) := by decide +kernel
theorem d_X9_crossing_150 : decode m_X9_crossing.2.1 150 = .ok (.istore 7, 2) := by decide +kernel
theorem d_X9_crossing_152 : decode m_X9_crossing.2.1 152 = .ok (.iinc 8 1, 3) := by decide +kernel
theorem d_X9_crossing_155 : decode m_X9_crossing.2.1 155 = .ok (.goto (-63), 3) := by decide +kernel
theorem d_X9_crossing_158 : decode m_X9_crossing.2.1 158 = .ok (.ldc 62, 2) := by decide +kernel
theorem d_X9_crossing_160 : decode m_X9_crossing.2.1 160 = .ok (.ireturn, 1) := by decide +kernel
theorem d_X9_greatest_0 : decode m_X9_greatest.2.1 0 = .ok (.iload_n 1, 1) := by decide +kernel
theorem d_X9_greatest_1 : decode m_X9_greatest.2.1 1 = .ok (.invokestatic 63, 3) := by decide +kernel
theorem d_X9_greatest_4 : decode m_X9_greatest.2.1 4 = .ok (.ifCond .eq 35, 3) := by decide +kernel
theorem d_X9_greatest_7 : decode m_X9_greatest.2.1 7 = .ok (.iload_n 2, 1) := by decide +kernel
theorem d_X9_greatest_8 : decode m_X9_greatest.2.1 8 = .ok (.iconst 0, 1) := by decide +kernel
theorem d_X9_greatest_9 : decode m_X9_greatest.2.1 9 = .ok (.sipush 8000, 3) := by decide +kernel
theorem d_X9_greatest_12 : decode m_X9_greatest.2.1 12 = .ok (.invokestatic 41, 3) := by decide +kernel
theorem d_X9_greatest_15 : decode m_X9_greatest.2.1 15 = .ok (.ifCond .eq 24, 3) := by decide +kernel
theorem d_X9_greatest_18 : decode m_X9_greatest.2.1 18 = .ok (.iload_n 3, 1) := by decide +kernel
theorem d_X9_greatest_19 : decode m_X9_greatest.2.1 19 = .ok (.iload_n 2, 1) := by decide +kernel
theorem d_X9_greatest_20 : decode m_X9_greatest.2.1 20 = .ok (.sipush 8000, 3) := by decide +kernel
theorem d_X9_greatest_23 : decode m_X9_greatest.2.1 23 = .ok (.invokestatic 41, 3) := by decide +kernel
theorem d_X9_greatest_26 : decode m_X9_greatest.2.1 26 = .ok (.ifCond .eq 13, 3) := by decide +kernel
theorem d_X9_greatest_29 : decode m_X9_greatest.2.1 29 = .ok (.iload 4, 2) := by decide +kernel
theorem d_X9_greatest_31 : decode m_X9_greatest.2.1 31 = .ok (.iconst 0, 1) := by decide +kernel
theorem d_X9_greatest_32 : decode m_X9_greatest.2.1 32 = .ok (.iconst 1, 1) := by decide +kernel
theorem d_X9_greatest_33 : decode m_X9_greatest.2.1 33 = .ok (.invokestatic 41, 3) := by decide +kernel
theorem d_X9_greatest_36 : decode m_X9_greatest.2.1 36 = .ok (.ifCond .ne 6, 3) := by decide +kernel
theorem d_X9_greatest_39 : decode m_X9_greatest.2.1 39 = .ok (.ldc 45, 2) := by decide +kernel
theorem d_X9_greatest_41 : decode m_X9_greatest.2.1 41 = .ok (.ireturn, 1) := by decide +kernel
theorem d_X9_greatest_42 : decode m_X9_greatest.2.1 42 = .ok (.aload_n 0, 1) := by decide +kernel
theorem d_X9_greatest_43 : decode m_X9_greatest.2.1 43 = .ok (.getfield 19, 3) := by decide +kernel
theorem d_X9_greatest_46 : decode m_X9_greatest.2.1 46 = .ok (.getfield 165, 3) := by decide +kernel
theorem d_X9_greatest_49 : decode m_X9_greatest.2.1 49 = .ok (.astore 5, 2) := by decide +kernel
theorem d_X9_greatest_51 : decode m_X9_greatest.2.1 51 = .ok (.iload_n 3, 1) := by decide +kernel
theorem d_X9_greatest_52 : decode m_X9_greatest.2.1 52 = .ok (.aload 5, 2) := by decide +kernel
theorem d_X9_greatest_54 : decode m_X9_greatest.2.1 54 = .ok (.invokevirtual 169, 3) := by decide +kernel
theorem d_X9_greatest_57 : decode m_X9_greatest.2.1 57 = .ok (.if_icmp .le 6, 3) := by decide +kernel
theorem d_X9_greatest_60 : decode m_X9_greatest.2.1 60 = .ok (.ldc 62, 2) := by decide +kernel
theorem d_X9_greatest_62 : decode m_X9_greatest.2.1 62 = .ok (.ireturn, 1) := by decide +kernel
theorem d_X9_greatest_63 : decode m_X9_greatest.2.1 63 = .ok (.aload 5, 2) := by decide +kernel
theorem d_X9_greatest_65 : decode m_X9_greatest.2.1 65 = .ok (.iload_n 2, 1) := by decide +kernel
theorem d_X9_greatest_66 : decode m_X9_greatest.2.1 66 = .ok (.invokevirtual 178, 3) := by decide +kernel
theorem d_X9_greatest_69 : decode m_X9_greatest.2.1 69 = .ok (.istore 6, 2) := by decide +kernel
theorem d_X9_greatest_71 : decode m_X9_greatest.2.1 71 = .ok (.aload 5, 2) := by decide +kernel
theorem d_X9_greatest_73 : decode m_X9_greatest.2.1 73 = .ok (.iload 6, 2) := by decide +kernel
theorem d_X9_greatest_75 : decode m_X9_greatest.2.1 75 = .ok (.iload_n 1, 1) := by decide +kernel
theorem d_X9_greatest_76 : decode m_X9_greatest.2.1 76 = .ok (.iload_n 2, 1) := by decide +kernel
theorem d_X9_greatest_77 : decode m_X9_greatest.2.1 77 = .ok (.invokevirtual 209, 3) := by decide +kernel
theorem d_X9_greatest_80 : decode m_X9_greatest.2.1 80 = .ok (.istore 7, 2) := by decide +kernel
theorem d_X9_greatest_82 : decode m_X9_greatest.2.1 82 = .ok (.iload_n 2, 1) := by decide +kernel
theorem d_X9_greatest_83 : decode m_X9_greatest.2.1 83 = .ok (.istore 8, 2) := by decide +kernel
theorem d_X9_greatest_85 : decode m_X9_greatest.2.1 85 = .ok (.iload_n 2, 1) := by decide +kernel
theorem d_X9_greatest_86 : decode m_X9_greatest.2.1 86 = .ok (.iconst 1, 1) := by decide +kernel
theorem d_X9_greatest_87 : decode m_X9_greatest.2.1 87 = .ok (.iadd, 1) := by decide +kernel
theorem d_X9_greatest_88 : decode m_X9_greatest.2.1 88 = .ok (.istore 9, 2) := by decide +kernel
theorem d_X9_greatest_90 : decode m_X9_greatest.2.1 90 = .ok (.iload 9, 2) := by decide +kernel
theorem d_X9_greatest_92 : decode m_X9_greatest.2.1 92 = .ok (.iload_n 3, 1) := by decide +kernel
theorem d_X9_greatest_93 : decode m_X9_greatest.2.1 93 = .ok (.if_icmp .gt 51, 3) := by decide +kernel
theorem d_X9_greatest_96 : decode m_X9_greatest.2.1 96 = .ok (.iload 9, 2) := by decide +kernel
theorem d_X9_greatest_98 : decode m_X9_greatest.2.1 98 = .ok (.aload 5, 2) := by decide +kernel
theorem d_X9_greatest_100 : decode m_X9_greatest.2.1 100 = .ok (.iload 6, 2) := by decide +kernel
theorem d_X9_greatest_102 : decode m_X9_greatest.2.1 102 = .ok (.invokevirtual 198, 3) := by decide +kernel
theorem d_X9_greatest_105 : decode m_X9_greatest.2.1 105 = .ok (.if_icmp .le 6, 3) := by decide +kernel
theorem d_X9_greatest_108 : decode m_X9_greatest.2.1 108 = .ok (.iinc 6 1, 3) := by decide +kernel
theorem d_X9_greatest_111 : decode m_X9_greatest.2.1 111 = .ok (.aload 5, 2) := by decide +kernel
theorem d_X9_greatest_113 : decode m_X9_greatest.2.1 113 = .ok (.iload 6, 2) := by decide +kernel
theorem d_X9_greatest_115 : decode m_X9_greatest.2.1 115 = .ok (.iload_n 1, 1) := by decide +kernel
theorem d_X9_greatest_116 : decode m_X9_greatest.2.1 116 = .ok (.iload 9, 2) := by decide +kernel
theorem d_X9_greatest_118 : decode m_X9_greatest.2.1 118 = .ok (.invokevirtual 209, 3) := by decide +kernel
theorem d_X9_greatest_121 : decode m_X9_greatest.2.1 121 = .ok (.istore 10, 2) := by decide +kernel
theorem d_X9_greatest_123 : decode m_X9_greatest.2.1 123 = .ok (.iload 10, 2) := by decide +kernel
theorem d_X9_greatest_125 : decode m_X9_greatest.2.1 125 = .ok (.iload 7, 2) := by decide +kernel
theorem d_X9_greatest_127 : decode m_X9_greatest.2.1 127 = .ok (.if_icmp .le 11, 3) := by decide +kernel
theorem d_X9_greatest_130 : decode m_X9_greatest.2.1 130 = .ok (.iload 10, 2) := by decide +kernel
theorem d_X9_greatest_132 : decode m_X9_greatest.2.1 132 = .ok (.istore 7, 2) := by decide +kernel
theorem d_X9_greatest_134 : decode m_X9_greatest.2.1 134 = .ok (.iload 9, 2) := by decide +kernel
theorem d_X9_greatest_136 : decode m_X9_greatest.2.1 136 = .ok (.istore 8, 2) := by decide +kernel
theorem d_X9_greatest_138 : decode m_X9_greatest.2.1 138 = .ok (.iinc 9 1, 3) := by decide +kernel
theorem d_X9_greatest_141 : decode m_X9_greatest.2.1 141 = .ok (.goto (-51), 3) := by decide +kernel
theorem d_X9_greatest_144 : decode m_X9_greatest.2.1 144 = .ok (.iload 4, 2) := by decide +kernel
theorem d_X9_greatest_146 : decode m_X9_greatest.2.1 146 = .ok (.ifCond .ne 8, 3) := by decide +kernel
theorem d_X9_greatest_149 : decode m_X9_greatest.2.1 149 = .ok (.iload 7, 2) := by decide +kernel
theorem d_X9_greatest_151 : decode m_X9_greatest.2.1 151 = .ok (.goto 5, 3) := by decide +kernel
theorem d_X9_greatest_154 : decode m_X9_greatest.2.1 154 = .ok (.iload 8, 2) := by decide +kernel
theorem d_X9_greatest_156 : decode m_X9_greatest.2.1 156 = .ok (.ireturn, 1) := by decide +kernel
theorem d_X9_differs_0 : decode m_X9_differs.2.1 0 = .ok (.iload_n 1, 1) := by decide +kernel
theorem d_X9_differs_1 : decode m_X9_differs.2.1 1 = .ok (.getstatic 134, 3) := by decide +kernel
theorem d_X9_differs_4 : decode m_X9_differs.2.1 4 = .ok (.iconst 0, 1) := by decide +kernel
theorem d_X9_differs_5 : decode m_X9_differs.2.1 5 = .ok (.invokestatic 88, 3) := by decide +kernel
theorem d_X9_differs_8 : decode m_X9_differs.2.1 8 = .ok (.getstatic 137, 3) := by decide +kernel
theorem d_X9_differs_11 : decode m_X9_differs.2.1 11 = .ok (.iconst 0, 1) := by decide +kernel
theorem d_X9_differs_12 : decode m_X9_differs.2.1 12 = .ok (.invokestatic 88, 3) := by decide +kernel
theorem d_X9_differs_15 : decode m_X9_differs.2.1 15 = .ok (.invokestatic 41, 3) := by decide +kernel
theorem d_X9_differs_18 : decode m_X9_differs.2.1 18 = .ok (.ifCond .ne 6, 3) := by decide +kernel
theorem d_X9_differs_21 : decode m_X9_differs.2.1 21 = .ok (.ldc 45, 2) := by decide +kernel
theorem d_X9_differs_23 : decode m_X9_differs.2.1 23 = .ok (.ireturn, 1) := by decide +kernel
theorem d_X9_differs_24 : decode m_X9_differs.2.1 24 = .ok (.aload_n 0, 1) := by decide +kernel
theorem d_X9_differs_25 : decode m_X9_differs.2.1 25 = .ok (.getfield 210, 3) := by decide +kernel
theorem d_X9_differs_28 : decode m_X9_differs.2.1 28 = .ok (.astore_n 2, 1) := by decide +kernel
theorem d_X9_differs_29 : decode m_X9_differs.2.1 29 = .ok (.aload_n 2, 1) := by decide +kernel
theorem d_X9_differs_30 : decode m_X9_differs.2.1 30 = .ok (.ifnonnull 16, 3) := by decide +kernel
theorem d_X9_differs_33 : decode m_X9_differs.2.1 33 = .ok (.new 16, 3) := by decide +kernel
theorem d_X9_differs_36 : decode m_X9_differs.2.1 36 = .ok (.dup, 1) := by decide +kernel
theorem d_X9_differs_37 : decode m_X9_differs.2.1 37 = .ok (.invokespecial 18, 3) := by decide +kernel
theorem d_X9_differs_40 : decode m_X9_differs.2.1 40 = .ok (.astore_n 2, 1) := by decide +kernel
theorem d_X9_differs_41 : decode m_X9_differs.2.1 41 = .ok (.aload_n 0, 1) := by decide +kernel
theorem d_X9_differs_42 : decode m_X9_differs.2.1 42 = .ok (.aload_n 2, 1) := by decide +kernel
theorem d_X9_differs_43 : decode m_X9_differs.2.1 43 = .ok (.putfield 210, 3) := by decide +kernel
theorem d_X9_differs_46 : decode m_X9_differs.2.1 46 = .ok (.aload_n 2, 1) := by decide +kernel
theorem d_X9_differs_47 : decode m_X9_differs.2.1 47 = .ok (.aload_n 0, 1) := by decide +kernel
theorem d_X9_differs_48 : decode m_X9_differs.2.1 48 = .ok (.getfield 19, 3) := by decide +kernel
theorem d_X9_differs_51 : decode m_X9_differs.2.1 51 = .ok (.invokevirtual 213, 3) := by decide +kernel
theorem d_X9_differs_54 : decode m_X9_differs.2.1 54 = .ok (.aload_n 2, 1) := by decide +kernel
theorem d_X9_differs_55 : decode m_X9_differs.2.1 55 = .ok (.getfield 140, 3) := by decide +kernel
theorem d_X9_differs_58 : decode m_X9_differs.2.1 58 = .ok (.iconst 0, 1) := by decide +kernel
theorem d_X9_differs_59 : decode m_X9_differs.2.1 59 = .ok (.iload_n 1, 1) := by decide +kernel
theorem d_X9_differs_60 : decode m_X9_differs.2.1 60 = .ok (.invokestatic 108, 3) := by decide +kernel
theorem d_X9_differs_63 : decode m_X9_differs.2.1 63 = .ok (.aload_n 2, 1) := by decide +kernel
theorem d_X9_differs_64 : decode m_X9_differs.2.1 64 = .ok (.invokevirtual 81, 3) := by decide +kernel
theorem d_X9_differs_67 : decode m_X9_differs.2.1 67 = .ok (.aload_n 0, 1) := by decide +kernel
theorem d_X9_differs_68 : decode m_X9_differs.2.1 68 = .ok (.getfield 37, 3) := by decide +kernel
theorem d_X9_differs_71 : decode m_X9_differs.2.1 71 = .ok (.aload_n 2, 1) := by decide +kernel
theorem d_X9_differs_72 : decode m_X9_differs.2.1 72 = .ok (.aload_n 0, 1) := by decide +kernel
theorem d_X9_differs_73 : decode m_X9_differs.2.1 73 = .ok (.getfield 19, 3) := by decide +kernel
theorem d_X9_differs_76 : decode m_X9_differs.2.1 76 = .ok (.getfield 165, 3) := by decide +kernel
theorem d_X9_differs_79 : decode m_X9_differs.2.1 79 = .ok (.invokevirtual 169, 3) := by decide +kernel
theorem d_X9_differs_82 : decode m_X9_differs.2.1 82 = .ok (.invokevirtual 174, 3) := by decide +kernel
theorem d_X9_differs_85 : decode m_X9_differs.2.1 85 = .ok (.lconst 0, 1) := by decide +kernel
theorem d_X9_differs_86 : decode m_X9_differs.2.1 86 = .ok (.lstore_n 3, 1) := by decide +kernel
theorem d_X9_differs_87 : decode m_X9_differs.2.1 87 = .ok (.iconst 0, 1) := by decide +kernel
theorem d_X9_differs_88 : decode m_X9_differs.2.1 88 = .ok (.istore 5, 2) := by decide +kernel
theorem d_X9_differs_90 : decode m_X9_differs.2.1 90 = .ok (.iload 5, 2) := by decide +kernel
theorem d_X9_differs_92 : decode m_X9_differs.2.1 92 = .ok (.iconst 3, 1) := by decide +kernel
theorem d_X9_differs_93 : decode m_X9_differs.2.1 93 = .ok (.if_icmp .ge 45, 3) := by decide +kernel
theorem d_X9_differs_96 : decode m_X9_differs.2.1 96 = .ok (.aload_n 0, 1) := by decide +kernel
theorem d_X9_differs_97 : decode m_X9_differs.2.1 97 = .ok (.getfield 19, 3) := by decide +kernel
theorem d_X9_differs_100 : decode m_X9_differs.2.1 100 = .ok (.getfield 165, 3) := by decide +kernel
theorem d_X9_differs_103 : decode m_X9_differs.2.1 103 = .ok (.iload 5, 2) := by decide +kernel
theorem d_X9_differs_105 : decode m_X9_differs.2.1 105 = .ok (.invokevirtual 216, 3) := by decide +kernel
theorem d_X9_differs_108 : decode m_X9_differs.2.1 108 = .ok (.i2l, 1) := by decide +kernel
theorem d_X9_differs_109 : decode m_X9_differs.2.1 109 = .ok (.lstore 6, 2) := by decide +kernel
theorem d_X9_differs_111 : decode m_X9_differs.2.1 111 = .ok (.lload_n 3, 1) := by decide +kernel
theorem d_X9_differs_112 : decode m_X9_differs.2.1 112 = .ok (.aload_n 2, 1) := by decide +kernel
theorem d_X9_differs_113 : decode m_X9_differs.2.1 113 = .ok (.getfield 165, 3) := by decide +kernel
theorem d_X9_differs_116 : decode m_X9_differs.2.1 116 = .ok (.iload 5, 2) := by decide +kernel
theorem d_X9_differs_118 : decode m_X9_differs.2.1 118 = .ok (.invokevirtual 216, 3) := by decide +kernel
theorem d_X9_differs_121 : decode m_X9_differs.2.1 121 = .ok (.i2l, 1) := by decide +kernel
theorem d_X9_differs_122 : decode m_X9_differs.2.1 122 = .ok (.lload 6, 2) := by decide +kernel
theorem d_X9_differs_124 : decode m_X9_differs.2.1 124 = .ok (.lsub, 1) := by decide +kernel
theorem d_X9_differs_125 : decode m_X9_differs.2.1 125 = .ok (.invokestatic 219, 3) := by decide +kernel
theorem d_X9_differs_128 : decode m_X9_differs.2.1 128 = .ok (.invokestatic 225, 3) := by decide +kernel
theorem d_X9_differs_131 : decode m_X9_differs.2.1 131 = .ok (.lstore_n 3, 1) := by decide +kernel
theorem d_X9_differs_132 : decode m_X9_differs.2.1 132 = .ok (.iinc 5 1, 3) := by decide +kernel
theorem d_X9_differs_135 : decode m_X9_differs.2.1 135 = .ok (.goto (-45), 3) := by decide +kernel
theorem d_X9_differs_138 : decode m_X9_differs.2.1 138 = .ok (.lload_n 3, 1) := by decide +kernel
theorem d_X9_differs_139 : decode m_X9_differs.2.1 139 = .ok (.invokestatic 229, 3) := by decide +kernel
theorem d_X9_differs_142 : decode m_X9_differs.2.1 142 = .ok (.ireturn, 1) := by decide +kernel
theorem d_X9_count_0 : decode m_X9_count.2.1 0 = .ok (.iload_n 1, 1) := by decide +kernel
theorem d_X9_count_1 : decode m_X9_count.2.1 1 = .ok (.tableswitch 186 0 14 #[75, 75, 75, 87, 98, 109, 120, 128, 136, 136, 136, 154, 154, 154, 172], 75) := by decide +kernel
theorem d_X9_count_76 : decode m_X9_count.2.1 76 = .ok (.aload_n 0, 1) := by decide +kernel
theorem d_X9_count_77 : decode m_X9_count.2.1 77 = .ok (.getfield 19, 3) := by decide +kernel
theorem d_X9_count_80 : decode m_X9_count.2.1 80 = .ok (.getfield 140, 3) := by decide +kernel
theorem d_X9_count_83 : decode m_X9_count.2.1 83 = .ok (.iload_n 1, 1) := by decide +kernel
theorem d_X9_count_84 : decode m_X9_count.2.1 84 = .ok (.invokestatic 88, 3) := by decide +kernel
theorem d_X9_count_87 : decode m_X9_count.2.1 87 = .ok (.ireturn, 1) := by decide +kernel
theorem d_X9_count_88 : decode m_X9_count.2.1 88 = .ok (.aload_n 0, 1) := by decide +kernel
theorem d_X9_count_89 : decode m_X9_count.2.1 89 = .ok (.getfield 19, 3) := by decide +kernel
theorem d_X9_count_92 : decode m_X9_count.2.1 92 = .ok (.getfield 165, 3) := by decide +kernel
theorem d_X9_count_95 : decode m_X9_count.2.1 95 = .ok (.invokevirtual 169, 3) := by decide +kernel
theorem d_X9_count_98 : decode m_X9_count.2.1 98 = .ok (.ireturn, 1) := by decide +kernel
theorem d_X9_count_99 : decode m_X9_count.2.1 99 = .ok (.aload_n 0, 1) := by decide +kernel
theorem d_X9_count_100 : decode m_X9_count.2.1 100 = .ok (.getfield 19, 3) := by decide +kernel
theorem d_X9_count_103 : decode m_X9_count.2.1 103 = .ok (.getfield 165, 3) := by decide +kernel
theorem d_X9_count_106 : decode m_X9_count.2.1 106 = .ok (.getfield 192, 3) := by decide +kernel
theorem d_X9_count_109 : decode m_X9_count.2.1 109 = .ok (.ireturn, 1) := by decide +kernel
theorem d_X9_count_110 : decode m_X9_count.2.1 110 = .ok (.aload_n 0, 1) := by decide +kernel
theorem d_X9_count_111 : decode m_X9_count.2.1 111 = .ok (.getfield 19, 3) := by decide +kernel
theorem d_X9_count_114 : decode m_X9_count.2.1 114 = .ok (.getfield 147, 3) := by decide +kernel
theorem d_X9_count_117 : decode m_X9_count.2.1 117 = .ok (.getfield 151, 3) := by decide +kernel
theorem d_X9_count_120 : decode m_X9_count.2.1 120 = .ok (.ireturn, 1) := by decide +kernel
theorem d_X9_count_121 : decode m_X9_count.2.1 121 = .ok (.aload_n 0, 1) := by decide +kernel
theorem d_X9_count_122 : decode m_X9_count.2.1 122 = .ok (.getfield 12, 3) := by decide +kernel
theorem d_X9_count_125 : decode m_X9_count.2.1 125 = .ok (.getfield 50, 3) := by decide +kernel
theorem d_X9_count_128 : decode m_X9_count.2.1 128 = .ok (.ireturn, 1) := by decide +kernel
theorem d_X9_count_129 : decode m_X9_count.2.1 129 = .ok (.aload_n 0, 1) := by decide +kernel
theorem d_X9_count_130 : decode m_X9_count.2.1 130 = .ok (.getfield 26, 3) := by decide +kernel
theorem d_X9_count_133 : decode m_X9_count.2.1 133 = .ok (.getfield 233, 3) := by decide +kernel
theorem d_X9_count_136 : decode m_X9_count.2.1 136 = .ok (.ireturn, 1) := by decide +kernel
theorem d_X9_count_137 : decode m_X9_count.2.1 137 = .ok (.aload_n 0, 1) := by decide +kernel
theorem d_X9_count_138 : decode m_X9_count.2.1 138 = .ok (.getfield 19, 3) := by decide +kernel
theorem d_X9_count_141 : decode m_X9_count.2.1 141 = .ok (.getfield 117, 3) := by decide +kernel
theorem d_X9_count_144 : decode m_X9_count.2.1 144 = .ok (.getfield 127, 3) := by decide +kernel
theorem d_X9_count_147 : decode m_X9_count.2.1 147 = .ok (.iload_n 1, 1) := by decide +kernel
theorem d_X9_count_148 : decode m_X9_count.2.1 148 = .ok (.bipush 8, 2) := by decide +kernel
theorem d_X9_count_150 : decode m_X9_count.2.1 150 = .ok (.isub, 1) := by decide +kernel
theorem d_X9_count_151 : decode m_X9_count.2.1 151 = .ok (.invokestatic 88, 3) := by decide +kernel
theorem d_X9_count_154 : decode m_X9_count.2.1 154 = .ok (.ireturn, 1) := by decide +kernel
theorem d_X9_count_155 : decode m_X9_count.2.1 155 = .ok (.aload_n 0, 1) := by decide +kernel
theorem d_X9_count_156 : decode m_X9_count.2.1 156 = .ok (.getfield 19, 3) := by decide +kernel
theorem d_X9_count_159 : decode m_X9_count.2.1 159 = .ok (.getfield 99, 3) := by decide +kernel
theorem d_X9_count_162 : decode m_X9_count.2.1 162 = .ok (.getfield 112, 3) := by decide +kernel
theorem d_X9_count_165 : decode m_X9_count.2.1 165 = .ok (.iload_n 1, 1) := by decide +kernel
theorem d_X9_count_166 : decode m_X9_count.2.1 166 = .ok (.bipush 11, 2) := by decide +kernel
theorem d_X9_count_168 : decode m_X9_count.2.1 168 = .ok (.isub, 1) := by decide +kernel
theorem d_X9_count_169 : decode m_X9_count.2.1 169 = .ok (.invokestatic 88, 3) := by decide +kernel
theorem d_X9_count_172 : decode m_X9_count.2.1 172 = .ok (.ireturn, 1) := by decide +kernel
theorem d_X9_count_173 : decode m_X9_count.2.1 173 = .ok (.aload_n 0, 1) := by decide +kernel
theorem d_X9_count_174 : decode m_X9_count.2.1 174 = .ok (.getfield 19, 3) := by decide +kernel
theorem d_X9_count_177 : decode m_X9_count.2.1 177 = .ok (.getfield 71, 3) := by decide +kernel
theorem d_X9_count_180 : decode m_X9_count.2.1 180 = .ok (.invokevirtual 234, 3) := by decide +kernel
theorem d_X9_count_183 : decode m_X9_count.2.1 183 = .ok (.invokestatic 92, 3) := by decide +kernel
theorem d_X9_count_186 : decode m_X9_count.2.1 186 = .ok (.ireturn, 1) := by decide +kernel
theorem d_X9_count_187 : decode m_X9_count.2.1 187 = .ok (.ldc 45, 2) := by decide +kernel
theorem d_X9_count_189 : decode m_X9_count.2.1 189 = .ok (.ireturn, 1) := by decide +kernel
theorem d_X9_undo_0 : decode m_X9_undo.2.1 0 = .ok (.aload_n 0, 1) := by decide +kernel
theorem d_X9_undo_1 : decode m_X9_undo.2.1 1 = .ok (.getfield 26, 3) := by decide +kernel
theorem d_X9_undo_4 : decode m_X9_undo.2.1 4 = .ok (.aload_n 0, 1) := by decide +kernel
theorem d_X9_undo_5 : decode m_X9_undo.2.1 5 = .ok (.getfield 19, 3) := by decide +kernel
theorem d_X9_undo_8 : decode m_X9_undo.2.1 8 = .ok (.invokevirtual 237, 3) := by decide +kernel
theorem d_X9_undo_11 : decode m_X9_undo.2.1 11 = .ok (.ifCond .eq 13, 3) := by decide +kernel
theorem d_X9_undo_14 : decode m_X9_undo.2.1 14 = .ok (.aload_n 0, 1) := by decide +kernel
theorem d_X9_undo_15 : decode m_X9_undo.2.1 15 = .ok (.getfield 26, 3) := by decide +kernel
theorem d_X9_undo_18 : decode m_X9_undo.2.1 18 = .ok (.getfield 233, 3) := by decide +kernel
theorem d_X9_undo_21 : decode m_X9_undo.2.1 21 = .ok (.goto 5, 3) := by decide +kernel
theorem d_X9_undo_24 : decode m_X9_undo.2.1 24 = .ok (.ldc 66, 2) := by decide +kernel
theorem d_X9_undo_26 : decode m_X9_undo.2.1 26 = .ok (.ireturn, 1) := by decide +kernel
theorem d_X9_save_0 : decode m_X9_save.2.1 0 = .ok (.iload_n 1, 1) := by decide +kernel
theorem d_X9_save_1 : decode m_X9_save.2.1 1 = .ok (.ifCond .lt 12, 3) := by decide +kernel
theorem d_X9_save_4 : decode m_X9_save.2.1 4 = .ok (.iload_n 1, 1) := by decide +kernel
theorem d_X9_save_5 : decode m_X9_save.2.1 5 = .ok (.aload_n 0, 1) := by decide +kernel
theorem d_X9_save_6 : decode m_X9_save.2.1 6 = .ok (.getfield 30, 3) := by decide +kernel
theorem d_X9_save_9 : decode m_X9_save.2.1 9 = .ok (.arraylength, 1) := by decide +kernel
theorem d_X9_save_10 : decode m_X9_save.2.1 10 = .ok (.if_icmp .lt 6, 3) := by decide +kernel
theorem d_X9_save_13 : decode m_X9_save.2.1 13 = .ok (.ldc 45, 2) := by decide +kernel
theorem d_X9_save_15 : decode m_X9_save.2.1 15 = .ok (.ireturn, 1) := by decide +kernel
theorem d_X9_save_16 : decode m_X9_save.2.1 16 = .ok (.aload_n 0, 1) := by decide +kernel
theorem d_X9_save_17 : decode m_X9_save.2.1 17 = .ok (.getfield 30, 3) := by decide +kernel
theorem d_X9_save_20 : decode m_X9_save.2.1 20 = .ok (.iload_n 1, 1) := by decide +kernel
theorem d_X9_save_21 : decode m_X9_save.2.1 21 = .ok (.aaload, 1) := by decide +kernel
theorem d_X9_save_22 : decode m_X9_save.2.1 22 = .ok (.astore_n 2, 1) := by decide +kernel
theorem d_X9_save_23 : decode m_X9_save.2.1 23 = .ok (.aload_n 2, 1) := by decide +kernel
theorem d_X9_save_24 : decode m_X9_save.2.1 24 = .ok (.ifnonnull 18, 3) := by decide +kernel
theorem d_X9_save_27 : decode m_X9_save.2.1 27 = .ok (.new 16, 3) := by decide +kernel
theorem d_X9_save_30 : decode m_X9_save.2.1 30 = .ok (.dup, 1) := by decide +kernel
theorem d_X9_save_31 : decode m_X9_save.2.1 31 = .ok (.invokespecial 18, 3) := by decide +kernel
theorem d_X9_save_34 : decode m_X9_save.2.1 34 = .ok (.astore_n 2, 1) := by decide +kernel
theorem d_X9_save_35 : decode m_X9_save.2.1 35 = .ok (.aload_n 0, 1) := by decide +kernel
theorem d_X9_save_36 : decode m_X9_save.2.1 36 = .ok (.getfield 30, 3) := by decide +kernel
theorem d_X9_save_39 : decode m_X9_save.2.1 39 = .ok (.iload_n 1, 1) := by decide +kernel
theorem d_X9_save_40 : decode m_X9_save.2.1 40 = .ok (.aload_n 2, 1) := by decide +kernel
theorem d_X9_save_41 : decode m_X9_save.2.1 41 = .ok (.aastore, 1) := by decide +kernel
theorem d_X9_save_42 : decode m_X9_save.2.1 42 = .ok (.aload_n 2, 1) := by decide +kernel
theorem d_X9_save_43 : decode m_X9_save.2.1 43 = .ok (.aload_n 0, 1) := by decide +kernel
theorem d_X9_save_44 : decode m_X9_save.2.1 44 = .ok (.getfield 19, 3) := by decide +kernel
theorem d_X9_save_47 : decode m_X9_save.2.1 47 = .ok (.invokevirtual 241, 3) := by decide +kernel
theorem d_X9_save_50 : decode m_X9_save.2.1 50 = .ok (.aload_n 0, 1) := by decide +kernel
theorem d_X9_save_51 : decode m_X9_save.2.1 51 = .ok (.getfield 19, 3) := by decide +kernel
theorem d_X9_save_54 : decode m_X9_save.2.1 54 = .ok (.getfield 165, 3) := by decide +kernel
theorem d_X9_save_57 : decode m_X9_save.2.1 57 = .ok (.invokevirtual 169, 3) := by decide +kernel
theorem d_X9_save_60 : decode m_X9_save.2.1 60 = .ok (.ireturn, 1) := by decide +kernel
theorem d_X9_restore_0 : decode m_X9_restore.2.1 0 = .ok (.iload_n 1, 1) := by decide +kernel
theorem d_X9_restore_1 : decode m_X9_restore.2.1 1 = .ok (.ifCond .lt 12, 3) := by decide +kernel
theorem d_X9_restore_4 : decode m_X9_restore.2.1 4 = .ok (.iload_n 1, 1) := by decide +kernel
theorem d_X9_restore_5 : decode m_X9_restore.2.1 5 = .ok (.aload_n 0, 1) := by decide +kernel
theorem d_X9_restore_6 : decode m_X9_restore.2.1 6 = .ok (.getfield 30, 3) := by decide +kernel
theorem d_X9_restore_9 : decode m_X9_restore.2.1 9 = .ok (.arraylength, 1) := by decide +kernel
theorem d_X9_restore_10 : decode m_X9_restore.2.1 10 = .ok (.if_icmp .lt 6, 3) := by decide +kernel
theorem d_X9_restore_13 : decode m_X9_restore.2.1 13 = .ok (.ldc 45, 2) := by decide +kernel
theorem d_X9_restore_15 : decode m_X9_restore.2.1 15 = .ok (.ireturn, 1) := by decide +kernel
theorem d_X9_restore_16 : decode m_X9_restore.2.1 16 = .ok (.aload_n 0, 1) := by decide +kernel
theorem d_X9_restore_17 : decode m_X9_restore.2.1 17 = .ok (.getfield 30, 3) := by decide +kernel
theorem d_X9_restore_20 : decode m_X9_restore.2.1 20 = .ok (.iload_n 1, 1) := by decide +kernel
theorem d_X9_restore_21 : decode m_X9_restore.2.1 21 = .ok (.aaload, 1) := by decide +kernel
theorem d_X9_restore_22 : decode m_X9_restore.2.1 22 = .ok (.astore_n 2, 1) := by decide +kernel
theorem d_X9_restore_23 : decode m_X9_restore.2.1 23 = .ok (.aload_n 2, 1) := by decide +kernel
theorem d_X9_restore_24 : decode m_X9_restore.2.1 24 = .ok (.ifnonnull 6, 3) := by decide +kernel
theorem d_X9_restore_27 : decode m_X9_restore.2.1 27 = .ok (.ldc 66, 2) := by decide +kernel
theorem d_X9_restore_29 : decode m_X9_restore.2.1 29 = .ok (.ireturn, 1) := by decide +kernel
theorem d_X9_restore_30 : decode m_X9_restore.2.1 30 = .ok (.aload_n 0, 1) := by decide +kernel
theorem d_X9_restore_31 : decode m_X9_restore.2.1 31 = .ok (.getfield 26, 3) := by decide +kernel
theorem d_X9_restore_34 : decode m_X9_restore.2.1 34 = .ok (.aload_n 0, 1) := by decide +kernel
theorem d_X9_restore_35 : decode m_X9_restore.2.1 35 = .ok (.getfield 19, 3) := by decide +kernel
theorem d_X9_restore_38 : decode m_X9_restore.2.1 38 = .ok (.invokevirtual 67, 3) := by decide +kernel
theorem d_X9_restore_41 : decode m_X9_restore.2.1 41 = .ok (.aload_n 0, 1) := by decide +kernel
theorem d_X9_restore_42 : decode m_X9_restore.2.1 42 = .ok (.getfield 19, 3) := by decide +kernel
theorem d_X9_restore_45 : decode m_X9_restore.2.1 45 = .ok (.aload_n 2, 1) := by decide +kernel
theorem d_X9_restore_46 : decode m_X9_restore.2.1 46 = .ok (.invokevirtual 241, 3) := by decide +kernel
theorem d_X9_restore_49 : decode m_X9_restore.2.1 49 = .ok (.aload_n 0, 1) := by decide +kernel
theorem d_X9_restore_50 : decode m_X9_restore.2.1 50 = .ok (.getfield 19, 3) := by decide +kernel
theorem d_X9_restore_53 : decode m_X9_restore.2.1 53 = .ok (.getfield 165, 3) := by decide +kernel
theorem d_X9_restore_56 : decode m_X9_restore.2.1 56 = .ok (.invokevirtual 169, 3) := by decide +kernel
theorem d_X9_restore_59 : decode m_X9_restore.2.1 59 = .ok (.ireturn, 1) := by decide +kernel
theorem d_X9_isWithin_0 : decode m_X9_isWithin.2.1 0 = .ok (.iload_n 0, 1) := by decide +kernel
theorem d_X9_isWithin_1 : decode m_X9_isWithin.2.1 1 = .ok (.iload_n 1, 1) := by decide +kernel
theorem d_X9_isWithin_2 : decode m_X9_isWithin.2.1 2 = .ok (.if_icmp .lt 12, 3) := by decide +kernel
theorem d_X9_isWithin_5 : decode m_X9_isWithin.2.1 5 = .ok (.iload_n 0, 1) := by decide +kernel
theorem d_X9_isWithin_6 : decode m_X9_isWithin.2.1 6 = .ok (.iload_n 2, 1) := by decide +kernel
theorem d_X9_isWithin_7 : decode m_X9_isWithin.2.1 7 = .ok (.if_icmp .gt 7, 3) := by decide +kernel
theorem d_X9_isWithin_10 : decode m_X9_isWithin.2.1 10 = .ok (.iconst 1, 1) := by decide +kernel
theorem d_X9_isWithin_11 : decode m_X9_isWithin.2.1 11 = .ok (.goto 4, 3) := by decide +kernel
theorem d_X9_isWithin_14 : decode m_X9_isWithin.2.1 14 = .ok (.iconst 0, 1) := by decide +kernel
theorem d_X9_isWithin_15 : decode m_X9_isWithin.2.1 15 = .ok (.ireturn, 1) := by decide +kernel
theorem d_X9_isVariable_0 : decode m_X9_isVariable.2.1 0 = .ok (.iload_n 0, 1) := by decide +kernel
theorem d_X9_isVariable_1 : decode m_X9_isVariable.2.1 1 = .ok (.iconst 0, 1) := by decide +kernel
theorem d_X9_isVariable_2 : decode m_X9_isVariable.2.1 2 = .ok (.iconst 2, 1) := by decide +kernel
theorem d_X9_isVariable_3 : decode m_X9_isVariable.2.1 3 = .ok (.invokestatic 41, 3) := by decide +kernel
theorem d_X9_isVariable_6 : decode m_X9_isVariable.2.1 6 = .ok (.ireturn, 1) := by decide +kernel
theorem d_X9_isDelay_0 : decode m_X9_isDelay.2.1 0 = .ok (.iload_n 0, 1) := by decide +kernel
theorem d_X9_isDelay_1 : decode m_X9_isDelay.2.1 1 = .ok (.iconst 0, 1) := by decide +kernel
theorem d_X9_isDelay_2 : decode m_X9_isDelay.2.1 2 = .ok (.iconst 2, 1) := by decide +kernel
theorem d_X9_isDelay_3 : decode m_X9_isDelay.2.1 3 = .ok (.invokestatic 41, 3) := by decide +kernel
theorem d_X9_isDelay_6 : decode m_X9_isDelay.2.1 6 = .ok (.ireturn, 1) := by decide +kernel
theorem d_X9_hold_0 : decode m_X9_hold.2.1 0 = .ok (.lload_n 0, 1) := by decide +kernel
theorem d_X9_hold_1 : decode m_X9_hold.2.1 1 = .ok (.ldc2_w 244, 3) := by decide +kernel
theorem d_X9_hold_4 : decode m_X9_hold.2.1 4 = .ok (.lcmp, 1) := by decide +kernel
theorem d_X9_hold_5 : decode m_X9_hold.2.1 5 = .ok (.ifCond .ge 8, 3) := by decide +kernel
theorem d_X9_hold_8 : decode m_X9_hold.2.1 8 = .ok (.ldc 207, 2) := by decide +kernel
theorem d_X9_hold_10 : decode m_X9_hold.2.1 10 = .ok (.goto 18, 3) := by decide +kernel
theorem d_X9_hold_13 : decode m_X9_hold.2.1 13 = .ok (.lload_n 0, 1) := by decide +kernel
theorem d_X9_hold_14 : decode m_X9_hold.2.1 14 = .ok (.ldc2_w 246, 3) := by decide +kernel
theorem d_X9_hold_17 : decode m_X9_hold.2.1 17 = .ok (.lcmp, 1) := by decide +kernel
theorem d_X9_hold_18 : decode m_X9_hold.2.1 18 = .ok (.ifCond .le 8, 3) := by decide +kernel
theorem d_X9_hold_21 : decode m_X9_hold.2.1 21 = .ok (.ldc 208, 2) := by decide +kernel
theorem d_X9_hold_23 : decode m_X9_hold.2.1 23 = .ok (.goto 5, 3) := by decide +kernel
theorem d_X9_hold_26 : decode m_X9_hold.2.1 26 = .ok (.lload_n 0, 1) := by decide +kernel
theorem d_X9_hold_27 : decode m_X9_hold.2.1 27 = .ok (.l2i, 1) := by decide +kernel
theorem d_X9_hold_28 : decode m_X9_hold.2.1 28 = .ok (.ireturn, 1) := by decide +kernel
theorem d_X9_quotient_0 : decode m_X9_quotient.2.1 0 = .ok (.lload_n 2, 1) := by decide +kernel
theorem d_X9_quotient_1 : decode m_X9_quotient.2.1 1 = .ok (.lconst 0, 1) := by decide +kernel
theorem d_X9_quotient_2 : decode m_X9_quotient.2.1 2 = .ok (.lcmp, 1) := by decide +kernel
theorem d_X9_quotient_3 : decode m_X9_quotient.2.1 3 = .ok (.ifCond .ne 7, 3) := by decide +kernel
theorem d_X9_quotient_6 : decode m_X9_quotient.2.1 6 = .ok (.lconst 0, 1) := by decide +kernel
theorem d_X9_quotient_7 : decode m_X9_quotient.2.1 7 = .ok (.goto 6, 3) := by decide +kernel
theorem d_X9_quotient_10 : decode m_X9_quotient.2.1 10 = .ok (.lload_n 0, 1) := by decide +kernel
theorem d_X9_quotient_11 : decode m_X9_quotient.2.1 11 = .ok (.lload_n 2, 1) := by decide +kernel
theorem d_X9_quotient_12 : decode m_X9_quotient.2.1 12 = .ok (.ldiv, 1) := by decide +kernel
theorem d_X9_quotient_13 : decode m_X9_quotient.2.1 13 = .ok (.lreturn, 1) := by decide +kernel
theorem d_X9_pick_0 : decode m_X9_pick.2.1 0 = .ok (.aload_n 0, 1) := by decide +kernel
theorem d_X9_pick_1 : decode m_X9_pick.2.1 1 = .ok (.ifnull 19, 3) := by decide +kernel
theorem d_X9_pick_4 : decode m_X9_pick.2.1 4 = .ok (.iload_n 1, 1) := by decide +kernel
theorem d_X9_pick_5 : decode m_X9_pick.2.1 5 = .ok (.ifCond .lt 15, 3) := by decide +kernel
theorem d_X9_pick_8 : decode m_X9_pick.2.1 8 = .ok (.iload_n 1, 1) := by decide +kernel
theorem d_X9_pick_9 : decode m_X9_pick.2.1 9 = .ok (.aload_n 0, 1) := by decide +kernel
theorem d_X9_pick_10 : decode m_X9_pick.2.1 10 = .ok (.arraylength, 1) := by decide +kernel
theorem d_X9_pick_11 : decode m_X9_pick.2.1 11 = .ok (.if_icmp .ge 9, 3) := by decide +kernel
theorem d_X9_pick_14 : decode m_X9_pick.2.1 14 = .ok (.aload_n 0, 1) := by decide +kernel
theorem d_X9_pick_15 : decode m_X9_pick.2.1 15 = .ok (.iload_n 1, 1) := by decide +kernel
theorem d_X9_pick_16 : decode m_X9_pick.2.1 16 = .ok (.iaload, 1) := by decide +kernel
theorem d_X9_pick_17 : decode m_X9_pick.2.1 17 = .ok (.goto 4, 3) := by decide +kernel
theorem d_X9_pick_20 : decode m_X9_pick.2.1 20 = .ok (.iconst 0, 1) := by decide +kernel
theorem d_X9_pick_21 : decode m_X9_pick.2.1 21 = .ok (.ireturn, 1) := by decide +kernel
theorem d_X9_put_0 : decode m_X9_put.2.1 0 = .ok (.aload_n 0, 1) := by decide +kernel
theorem d_X9_put_1 : decode m_X9_put.2.1 1 = .ok (.ifnull 17, 3) := by decide +kernel
theorem d_X9_put_4 : decode m_X9_put.2.1 4 = .ok (.iload_n 1, 1) := by decide +kernel
theorem d_X9_put_5 : decode m_X9_put.2.1 5 = .ok (.ifCond .lt 13, 3) := by decide +kernel
theorem d_X9_put_8 : decode m_X9_put.2.1 8 = .ok (.iload_n 1, 1) := by decide +kernel
theorem d_X9_put_9 : decode m_X9_put.2.1 9 = .ok (.aload_n 0, 1) := by decide +kernel
theorem d_X9_put_10 : decode m_X9_put.2.1 10 = .ok (.arraylength, 1) := by decide +kernel
theorem d_X9_put_11 : decode m_X9_put.2.1 11 = .ok (.if_icmp .ge 7, 3) := by decide +kernel
theorem d_X9_put_14 : decode m_X9_put.2.1 14 = .ok (.aload_n 0, 1) := by decide +kernel
theorem d_X9_put_15 : decode m_X9_put.2.1 15 = .ok (.iload_n 1, 1) := by decide +kernel
theorem d_X9_put_16 : decode m_X9_put.2.1 16 = .ok (.iload_n 2, 1) := by decide +kernel
theorem d_X9_put_17 : decode m_X9_put.2.1 17 = .ok (.iastore, 1) := by decide +kernel
theorem d_X9_put_18 : decode m_X9_put.2.1 18 = .ok (.return_, 1) := by decide +kernel
theorem d_X9_copyRow_0 : decode m_X9_copyRow.2.1 0 = .ok (.aload_n 0, 1) := by decide +kernel
theorem d_X9_copyRow_1 : decode m_X9_copyRow.2.1 1 = .ok (.ifnull 7, 3) := by decide +kernel
theorem d_X9_copyRow_4 : decode m_X9_copyRow.2.1 4 = .ok (.aload_n 1, 1) := by decide +kernel
theorem d_X9_copyRow_5 : decode m_X9_copyRow.2.1 5 = .ok (.ifnonnull 4, 3) := by decide +kernel
theorem d_X9_copyRow_8 : decode m_X9_copyRow.2.1 8 = .ok (.return_, 1) := by decide +kernel
theorem d_X9_copyRow_9 : decode m_X9_copyRow.2.1 9 = .ok (.iload_n 2, 1) := by decide +kernel
theorem d_X9_copyRow_10 : decode m_X9_copyRow.2.1 10 = .ok (.aload_n 0, 1) := by decide +kernel
theorem d_X9_copyRow_11 : decode m_X9_copyRow.2.1 11 = .ok (.arraylength, 1) := by decide +kernel
theorem d_X9_copyRow_12 : decode m_X9_copyRow.2.1 12 = .ok (.aload_n 1, 1) := by decide +kernel
theorem d_X9_copyRow_13 : decode m_X9_copyRow.2.1 13 = .ok (.arraylength, 1) := by decide +kernel
theorem d_X9_copyRow_14 : decode m_X9_copyRow.2.1 14 = .ok (.invokestatic 248, 3) := by decide +kernel
theorem d_X9_copyRow_17 : decode m_X9_copyRow.2.1 17 = .ok (.invokestatic 248, 3) := by decide +kernel
theorem d_X9_copyRow_20 : decode m_X9_copyRow.2.1 20 = .ok (.istore_n 3, 1) := by decide +kernel
theorem d_X9_copyRow_21 : decode m_X9_copyRow.2.1 21 = .ok (.iload_n 3, 1) := by decide +kernel
theorem d_X9_copyRow_22 : decode m_X9_copyRow.2.1 22 = .ok (.ifCond .le 11, 3) := by decide +kernel
theorem d_X9_copyRow_25 : decode m_X9_copyRow.2.1 25 = .ok (.aload_n 0, 1) := by decide +kernel
theorem d_X9_copyRow_26 : decode m_X9_copyRow.2.1 26 = .ok (.iconst 0, 1) := by decide +kernel
theorem d_X9_copyRow_27 : decode m_X9_copyRow.2.1 27 = .ok (.aload_n 1, 1) := by decide +kernel
theorem d_X9_copyRow_28 : decode m_X9_copyRow.2.1 28 = .ok (.iconst 0, 1) := by decide +kernel
theorem d_X9_copyRow_29 : decode m_X9_copyRow.2.1 29 = .ok (.iload_n 3, 1) := by decide +kernel
theorem d_X9_copyRow_30 : decode m_X9_copyRow.2.1 30 = .ok (.invokestatic 251, 3) := by decide +kernel
theorem d_X9_copyRow_33 : decode m_X9_copyRow.2.1 33 = .ok (.return_, 1) := by decide +kernel
theorem d_X9_makeRoom_0 : decode m_X9_makeRoom.2.1 0 = .ok (.iload_n 2, 1) := by decide +kernel
theorem d_X9_makeRoom_1 : decode m_X9_makeRoom.2.1 1 = .ok (.istore_n 3, 1) := by decide +kernel
theorem d_X9_makeRoom_2 : decode m_X9_makeRoom.2.1 2 = .ok (.iload_n 3, 1) := by decide +kernel
theorem d_X9_makeRoom_3 : decode m_X9_makeRoom.2.1 3 = .ok (.iload_n 1, 1) := by decide +kernel
theorem d_X9_makeRoom_4 : decode m_X9_makeRoom.2.1 4 = .ok (.if_icmp .le 21, 3) := by decide +kernel
theorem d_X9_makeRoom_7 : decode m_X9_makeRoom.2.1 7 = .ok (.aload_n 0, 1) := by decide +kernel
theorem d_X9_makeRoom_8 : decode m_X9_makeRoom.2.1 8 = .ok (.iload_n 3, 1) := by decide +kernel
theorem d_X9_makeRoom_9 : decode m_X9_makeRoom.2.1 9 = .ok (.aload_n 0, 1) := by decide +kernel
theorem d_X9_makeRoom_10 : decode m_X9_makeRoom.2.1 10 = .ok (.iload_n 3, 1) := by decide +kernel
theorem d_X9_makeRoom_11 : decode m_X9_makeRoom.2.1 11 = .ok (.iconst 1, 1) := by decide +kernel
theorem d_X9_makeRoom_12 : decode m_X9_makeRoom.2.1 12 = .ok (.isub, 1) := by decide +kernel
theorem d_X9_makeRoom_13 : decode m_X9_makeRoom.2.1 13 = .ok (.invokestatic 88, 3) := by decide +kernel
theorem d_X9_makeRoom_16 : decode m_X9_makeRoom.2.1 16 = .ok (.invokestatic 108, 3) := by decide +kernel
theorem d_X9_makeRoom_19 : decode m_X9_makeRoom.2.1 19 = .ok (.iinc 3 (-1), 3) := by decide +kernel
theorem d_X9_makeRoom_22 : decode m_X9_makeRoom.2.1 22 = .ok (.goto (-20), 3) := by decide +kernel
theorem d_X9_makeRoom_25 : decode m_X9_makeRoom.2.1 25 = .ok (.return_, 1) := by decide +kernel
theorem d_X9_hasBit_0 : decode m_X9_hasBit.2.1 0 = .ok (.iload_n 0, 1) := by decide +kernel
theorem d_X9_hasBit_1 : decode m_X9_hasBit.2.1 1 = .ok (.iload_n 1, 1) := by decide +kernel
theorem d_X9_hasBit_2 : decode m_X9_hasBit.2.1 2 = .ok (.ishr, 1) := by decide +kernel
theorem d_X9_hasBit_3 : decode m_X9_hasBit.2.1 3 = .ok (.iconst 1, 1) := by decide +kernel
theorem d_X9_hasBit_4 : decode m_X9_hasBit.2.1 4 = .ok (.iand, 1) := by decide +kernel
theorem d_X9_hasBit_5 : decode m_X9_hasBit.2.1 5 = .ok (.ifCond .eq 7, 3) := by decide +kernel
theorem d_X9_hasBit_8 : decode m_X9_hasBit.2.1 8 = .ok (.iconst 1, 1) := by decide +kernel
theorem d_X9_hasBit_9 : decode m_X9_hasBit.2.1 9 = .ok (.goto 4, 3) := by decide +kernel
theorem d_X9_hasBit_12 : decode m_X9_hasBit.2.1 12 = .ok (.iconst 0, 1) := by decide +kernel
theorem d_X9_hasBit_13 : decode m_X9_hasBit.2.1 13 = .ok (.ireturn, 1) := by decide +kernel
theorem d_X9_pastOperand_0 : decode m_X9_pastOperand.2.1 0 = .ok (.iconst 4, 1) := by decide +kernel
theorem d_X9_pastOperand_1 : decode m_X9_pastOperand.2.1 1 = .ok (.iload_n 0, 1) := by decide +kernel
theorem d_X9_pastOperand_2 : decode m_X9_pastOperand.2.1 2 = .ok (.iconst 3, 1) := by decide +kernel
theorem d_X9_pastOperand_3 : decode m_X9_pastOperand.2.1 3 = .ok (.imul, 1) := by decide +kernel
theorem d_X9_pastOperand_4 : decode m_X9_pastOperand.2.1 4 = .ok (.iadd, 1) := by decide +kernel
theorem d_X9_pastOperand_5 : decode m_X9_pastOperand.2.1 5 = .ok (.iload_n 1, 1) := by decide +kernel
theorem d_X9_pastOperand_6 : decode m_X9_pastOperand.2.1 6 = .ok (.iadd, 1) := by decide +kernel
theorem d_X9_pastOperand_7 : decode m_X9_pastOperand.2.1 7 = .ok (.ireturn, 1) := by decide +kernel
theorem d_X9_slopeOperand_0 : decode m_X9_slopeOperand.2.1 0 = .ok (.bipush 13, 2) := by decide +kernel
theorem d_X9_slopeOperand_2 : decode m_X9_slopeOperand.2.1 2 = .ok (.iload_n 0, 1) := by decide +kernel
theorem d_X9_slopeOperand_3 : decode m_X9_slopeOperand.2.1 3 = .ok (.iconst 3, 1) := by decide +kernel
theorem d_X9_slopeOperand_4 : decode m_X9_slopeOperand.2.1 4 = .ok (.imul, 1) := by decide +kernel
theorem d_X9_slopeOperand_5 : decode m_X9_slopeOperand.2.1 5 = .ok (.iadd, 1) := by decide +kernel
theorem d_X9_slopeOperand_6 : decode m_X9_slopeOperand.2.1 6 = .ok (.iload_n 1, 1) := by decide +kernel
theorem d_X9_slopeOperand_7 : decode m_X9_slopeOperand.2.1 7 = .ok (.iadd, 1) := by decide +kernel
theorem d_X9_slopeOperand_8 : decode m_X9_slopeOperand.2.1 8 = .ok (.ireturn, 1) := by decide +kernel
theorem d_X9_needsDelay_0 : decode m_X9_needsDelay.2.1 0 = .ok (.bipush 7, 2) := by decide +kernel
theorem d_X9_needsDelay_2 : decode m_X9_needsDelay.2.1 2 = .ok (.iload_n 1, 1) := by decide +kernel
theorem d_X9_needsDelay_3 : decode m_X9_needsDelay.2.1 3 = .ok (.iconst 0, 1) := by decide +kernel
theorem d_X9_needsDelay_4 : decode m_X9_needsDelay.2.1 4 = .ok (.invokestatic 257, 3) := by decide +kernel
theorem d_X9_needsDelay_7 : decode m_X9_needsDelay.2.1 7 = .ok (.ishl, 1) := by decide +kernel
theorem d_X9_needsDelay_8 : decode m_X9_needsDelay.2.1 8 = .ok (.bipush 7, 2) := by decide +kernel
theorem d_X9_needsDelay_10 : decode m_X9_needsDelay.2.1 10 = .ok (.iload_n 1, 1) := by decide +kernel
theorem d_X9_needsDelay_11 : decode m_X9_needsDelay.2.1 11 = .ok (.iconst 0, 1) := by decide +kernel
theorem d_X9_needsDelay_12 : decode m_X9_needsDelay.2.1 12 = .ok (.invokestatic 260, 3) := by decide +kernel
theorem d_X9_needsDelay_15 : decode m_X9_needsDelay.2.1 15 = .ok (.ishl, 1) := by decide +kernel
theorem d_X9_needsDelay_16 : decode m_X9_needsDelay.2.1 16 = .ok (.ior, 1) := by decide +kernel
theorem d_X9_needsDelay_17 : decode m_X9_needsDelay.2.1 17 = .ok (.istore_n 2, 1) := by decide +kernel
theorem d_X9_needsDelay_18 : decode m_X9_needsDelay.2.1 18 = .ok (.iload_n 0, 1) := by decide +kernel
theorem d_X9_needsDelay_19 : decode m_X9_needsDelay.2.1 19 = .ok (.iload_n 2, 1) := by decide +kernel
theorem d_X9_needsDelay_20 : decode m_X9_needsDelay.2.1 20 = .ok (.iand, 1) := by decide +kernel
theorem d_X9_needsDelay_21 : decode m_X9_needsDelay.2.1 21 = .ok (.ifCond .eq 7, 3) := by decide +kernel
theorem d_X9_needsDelay_24 : decode m_X9_needsDelay.2.1 24 = .ok (.iconst 1, 1) := by decide +kernel
theorem d_X9_needsDelay_25 : decode m_X9_needsDelay.2.1 25 = .ok (.goto 4, 3) := by decide +kernel
theorem d_X9_needsDelay_28 : decode m_X9_needsDelay.2.1 28 = .ok (.iconst 0, 1) := by decide +kernel
theorem d_X9_needsDelay_29 : decode m_X9_needsDelay.2.1 29 = .ok (.ireturn, 1) := by decide +kernel
theorem d_X9_delaysIn_0 : decode m_X9_delaysIn.2.1 0 = .ok (.iconst 0, 1) := by decide +kernel
theorem d_X9_delaysIn_1 : decode m_X9_delaysIn.2.1 1 = .ok (.istore_n 1, 1) := by decide +kernel
theorem d_X9_delaysIn_2 : decode m_X9_delaysIn.2.1 2 = .ok (.iconst 0, 1) := by decide +kernel
theorem d_X9_delaysIn_3 : decode m_X9_delaysIn.2.1 3 = .ok (.istore_n 2, 1) := by decide +kernel
theorem d_X9_delaysIn_4 : decode m_X9_delaysIn.2.1 4 = .ok (.iload_n 2, 1) := by decide +kernel
theorem d_X9_delaysIn_5 : decode m_X9_delaysIn.2.1 5 = .ok (.iconst 3, 1) := by decide +kernel
theorem d_X9_delaysIn_6 : decode m_X9_delaysIn.2.1 6 = .ok (.if_icmp .ge 23, 3) := by decide +kernel
theorem d_X9_delaysIn_9 : decode m_X9_delaysIn.2.1 9 = .ok (.iload_n 0, 1) := by decide +kernel
theorem d_X9_delaysIn_10 : decode m_X9_delaysIn.2.1 10 = .ok (.iload_n 2, 1) := by decide +kernel
theorem d_X9_delaysIn_11 : decode m_X9_delaysIn.2.1 11 = .ok (.invokestatic 263, 3) := by decide +kernel
theorem d_X9_delaysIn_14 : decode m_X9_delaysIn.2.1 14 = .ok (.ifCond .eq 9, 3) := by decide +kernel
theorem d_X9_delaysIn_17 : decode m_X9_delaysIn.2.1 17 = .ok (.iload_n 1, 1) := by decide +kernel
theorem d_X9_delaysIn_18 : decode m_X9_delaysIn.2.1 18 = .ok (.iconst 1, 1) := by decide +kernel
theorem d_X9_delaysIn_19 : decode m_X9_delaysIn.2.1 19 = .ok (.iload_n 2, 1) := by decide +kernel
theorem d_X9_delaysIn_20 : decode m_X9_delaysIn.2.1 20 = .ok (.ishl, 1) := by decide +kernel
theorem d_X9_delaysIn_21 : decode m_X9_delaysIn.2.1 21 = .ok (.ior, 1) := by decide +kernel
theorem d_X9_delaysIn_22 : decode m_X9_delaysIn.2.1 22 = .ok (.istore_n 1, 1) := by decide +kernel
theorem d_X9_delaysIn_23 : decode m_X9_delaysIn.2.1 23 = .ok (.iinc 2 1, 3) := by decide +kernel
theorem d_X9_delaysIn_26 : decode m_X9_delaysIn.2.1 26 = .ok (.goto (-22), 3) := by decide +kernel
theorem d_X9_delaysIn_29 : decode m_X9_delaysIn.2.1 29 = .ok (.iload_n 1, 1) := by decide +kernel
theorem d_X9_delaysIn_30 : decode m_X9_delaysIn.2.1 30 = .ok (.ireturn, 1) := by decide +kernel
