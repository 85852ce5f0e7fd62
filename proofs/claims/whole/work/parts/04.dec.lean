theorem d_J_bitCount_0 : decode b_J_bitCount 0 = .ok (.iload_n 0, 1) := by decide +kernel
theorem d_J_bitCount_1 : decode b_J_bitCount 1 = .ok (.iload_n 0, 1) := by decide +kernel
theorem d_J_bitCount_2 : decode b_J_bitCount 2 = .ok (.iconst 1, 1) := by decide +kernel
theorem d_J_bitCount_3 : decode b_J_bitCount 3 = .ok (.iushr, 1) := by decide +kernel
theorem d_J_bitCount_4 : decode b_J_bitCount 4 = .ok (.ldc_w 265, 3) := by decide +kernel
theorem d_J_bitCount_7 : decode b_J_bitCount 7 = .ok (.iand, 1) := by decide +kernel
theorem d_J_bitCount_8 : decode b_J_bitCount 8 = .ok (.isub, 1) := by decide +kernel
theorem d_J_bitCount_9 : decode b_J_bitCount 9 = .ok (.istore_n 0, 1) := by decide +kernel
theorem d_J_bitCount_10 : decode b_J_bitCount 10 = .ok (.iload_n 0, 1) := by decide +kernel
theorem d_J_bitCount_11 : decode b_J_bitCount 11 = .ok (.ldc_w 266, 3) := by decide +kernel
theorem d_J_bitCount_14 : decode b_J_bitCount 14 = .ok (.iand, 1) := by decide +kernel
theorem d_J_bitCount_15 : decode b_J_bitCount 15 = .ok (.iload_n 0, 1) := by decide +kernel
theorem d_J_bitCount_16 : decode b_J_bitCount 16 = .ok (.iconst 2, 1) := by decide +kernel
theorem d_J_bitCount_17 : decode b_J_bitCount 17 = .ok (.iushr, 1) := by decide +kernel
theorem d_J_bitCount_18 : decode b_J_bitCount 18 = .ok (.ldc_w 266, 3) := by decide +kernel
theorem d_J_bitCount_21 : decode b_J_bitCount 21 = .ok (.iand, 1) := by decide +kernel
theorem d_J_bitCount_22 : decode b_J_bitCount 22 = .ok (.iadd, 1) := by decide +kernel
theorem d_J_bitCount_23 : decode b_J_bitCount 23 = .ok (.istore_n 0, 1) := by decide +kernel
theorem d_J_bitCount_24 : decode b_J_bitCount 24 = .ok (.iload_n 0, 1) := by decide +kernel
theorem d_J_bitCount_25 : decode b_J_bitCount 25 = .ok (.iload_n 0, 1) := by decide +kernel
theorem d_J_bitCount_26 : decode b_J_bitCount 26 = .ok (.iconst 4, 1) := by decide +kernel
theorem d_J_bitCount_27 : decode b_J_bitCount 27 = .ok (.iushr, 1) := by decide +kernel
theorem d_J_bitCount_28 : decode b_J_bitCount 28 = .ok (.iadd, 1) := by decide +kernel
theorem d_J_bitCount_29 : decode b_J_bitCount 29 = .ok (.ldc_w 267, 3) := by decide +kernel
theorem d_J_bitCount_32 : decode b_J_bitCount 32 = .ok (.iand, 1) := by decide +kernel
theorem d_J_bitCount_33 : decode b_J_bitCount 33 = .ok (.istore_n 0, 1) := by decide +kernel
theorem d_J_bitCount_34 : decode b_J_bitCount 34 = .ok (.iload_n 0, 1) := by decide +kernel
theorem d_J_bitCount_35 : decode b_J_bitCount 35 = .ok (.iload_n 0, 1) := by decide +kernel
theorem d_J_bitCount_36 : decode b_J_bitCount 36 = .ok (.bipush 8, 2) := by decide +kernel
theorem d_J_bitCount_38 : decode b_J_bitCount 38 = .ok (.iushr, 1) := by decide +kernel
theorem d_J_bitCount_39 : decode b_J_bitCount 39 = .ok (.iadd, 1) := by decide +kernel
theorem d_J_bitCount_40 : decode b_J_bitCount 40 = .ok (.istore_n 0, 1) := by decide +kernel
theorem d_J_bitCount_41 : decode b_J_bitCount 41 = .ok (.iload_n 0, 1) := by decide +kernel
theorem d_J_bitCount_42 : decode b_J_bitCount 42 = .ok (.iload_n 0, 1) := by decide +kernel
theorem d_J_bitCount_43 : decode b_J_bitCount 43 = .ok (.bipush 16, 2) := by decide +kernel
theorem d_J_bitCount_45 : decode b_J_bitCount 45 = .ok (.iushr, 1) := by decide +kernel
theorem d_J_bitCount_46 : decode b_J_bitCount 46 = .ok (.iadd, 1) := by decide +kernel
theorem d_J_bitCount_47 : decode b_J_bitCount 47 = .ok (.istore_n 0, 1) := by decide +kernel
theorem d_J_bitCount_48 : decode b_J_bitCount 48 = .ok (.iload_n 0, 1) := by decide +kernel
theorem d_J_bitCount_49 : decode b_J_bitCount 49 = .ok (.bipush 63, 2) := by decide +kernel
theorem d_J_bitCount_51 : decode b_J_bitCount 51 = .ok (.iand, 1) := by decide +kernel
theorem d_J_bitCount_52 : decode b_J_bitCount 52 = .ok (.ireturn, 1) := by decide +kernel
theorem d_E_init_0 : decode b_E_init 0 = .ok (.aload_n 0, 1) := by decide +kernel
theorem d_E_init_1 : decode b_E_init 1 = .ok (.invokespecial 3, 3) := by decide +kernel
theorem d_E_init_4 : decode b_E_init 4 = .ok (.aload_n 0, 1) := by decide +kernel
theorem d_E_init_5 : decode b_E_init 5 = .ok (.new 9, 3) := by decide +kernel
theorem d_E_init_8 : decode b_E_init 8 = .ok (.dup, 1) := by decide +kernel
theorem d_E_init_9 : decode b_E_init 9 = .ok (.invokespecial 11, 3) := by decide +kernel
theorem d_E_init_12 : decode b_E_init 12 = .ok (.putfield 12, 3) := by decide +kernel
theorem d_E_init_15 : decode b_E_init 15 = .ok (.aload_n 0, 1) := by decide +kernel
theorem d_E_init_16 : decode b_E_init 16 = .ok (.new 16, 3) := by decide +kernel
theorem d_E_init_19 : decode b_E_init 19 = .ok (.dup, 1) := by decide +kernel
theorem d_E_init_20 : decode b_E_init 20 = .ok (.aload_n 0, 1) := by decide +kernel
theorem d_E_init_21 : decode b_E_init 21 = .ok (.getfield 12, 3) := by decide +kernel
theorem d_E_init_24 : decode b_E_init 24 = .ok (.invokespecial 18, 3) := by decide +kernel
theorem d_E_init_27 : decode b_E_init 27 = .ok (.putfield 21, 3) := by decide +kernel
theorem d_E_init_30 : decode b_E_init 30 = .ok (.aload_n 0, 1) := by decide +kernel
theorem d_E_init_31 : decode b_E_init 31 = .ok (.new 25, 3) := by decide +kernel
theorem d_E_init_34 : decode b_E_init 34 = .ok (.dup, 1) := by decide +kernel
theorem d_E_init_35 : decode b_E_init 35 = .ok (.aload_n 0, 1) := by decide +kernel
theorem d_E_init_36 : decode b_E_init 36 = .ok (.getfield 12, 3) := by decide +kernel
theorem d_E_init_39 : decode b_E_init 39 = .ok (.aload_n 0, 1) := by decide +kernel
theorem d_E_init_40 : decode b_E_init 40 = .ok (.getfield 21, 3) := by decide +kernel
theorem d_E_init_43 : decode b_E_init 43 = .ok (.invokespecial 27, 3) := by decide +kernel
theorem d_E_init_46 : decode b_E_init 46 = .ok (.putfield 30, 3) := by decide +kernel
theorem d_E_init_49 : decode b_E_init 49 = .ok (.aload_n 0, 1) := by decide +kernel
theorem d_E_init_50 : decode b_E_init 50 = .ok (.new 34, 3) := by decide +kernel
theorem d_E_init_53 : decode b_E_init 53 = .ok (.dup, 1) := by decide +kernel
theorem d_E_init_54 : decode b_E_init 54 = .ok (.aload_n 0, 1) := by decide +kernel
theorem d_E_init_55 : decode b_E_init 55 = .ok (.getfield 12, 3) := by decide +kernel
theorem d_E_init_58 : decode b_E_init 58 = .ok (.invokespecial 36, 3) := by decide +kernel
theorem d_E_init_61 : decode b_E_init 61 = .ok (.putfield 37, 3) := by decide +kernel
theorem d_E_init_64 : decode b_E_init 64 = .ok (.return_, 1) := by decide +kernel
theorem d_E_clear_0 : decode b_E_clear 0 = .ok (.aload_n 0, 1) := by decide +kernel
theorem d_E_clear_1 : decode b_E_clear 1 = .ok (.getfield 12, 3) := by decide +kernel
theorem d_E_clear_4 : decode b_E_clear 4 = .ok (.getfield 41, 3) := by decide +kernel
theorem d_E_clear_7 : decode b_E_clear 7 = .ok (.istore_n 1, 1) := by decide +kernel
theorem d_E_clear_8 : decode b_E_clear 8 = .ok (.aload_n 0, 1) := by decide +kernel
theorem d_E_clear_9 : decode b_E_clear 9 = .ok (.getfield 12, 3) := by decide +kernel
theorem d_E_clear_12 : decode b_E_clear 12 = .ok (.invokevirtual 45, 3) := by decide +kernel
theorem d_E_clear_15 : decode b_E_clear 15 = .ok (.aload_n 0, 1) := by decide +kernel
theorem d_E_clear_16 : decode b_E_clear 16 = .ok (.getfield 21, 3) := by decide +kernel
theorem d_E_clear_19 : decode b_E_clear 19 = .ok (.invokevirtual 48, 3) := by decide +kernel
theorem d_E_clear_22 : decode b_E_clear 22 = .ok (.iload_n 1, 1) := by decide +kernel
theorem d_E_clear_23 : decode b_E_clear 23 = .ok (.ireturn, 1) := by decide +kernel
theorem d_E_method_0 : decode b_E_method 0 = .ok (.aload_n 0, 1) := by decide +kernel
theorem d_E_method_1 : decode b_E_method 1 = .ok (.getfield 12, 3) := by decide +kernel
theorem d_E_method_4 : decode b_E_method 4 = .ok (.getfield 51, 3) := by decide +kernel
theorem d_E_method_7 : decode b_E_method 7 = .ok (.bipush 8, 2) := by decide +kernel
theorem d_E_method_9 : decode b_E_method 9 = .ok (.if_icmp .lt 6, 3) := by decide +kernel
theorem d_E_method_12 : decode b_E_method 12 = .ok (.bipush (-3), 2) := by decide +kernel
theorem d_E_method_14 : decode b_E_method 14 = .ok (.ireturn, 1) := by decide +kernel
theorem d_E_method_15 : decode b_E_method 15 = .ok (.aload_n 0, 1) := by decide +kernel
theorem d_E_method_16 : decode b_E_method 16 = .ok (.getfield 12, 3) := by decide +kernel
theorem d_E_method_19 : decode b_E_method 19 = .ok (.invokevirtual 54, 3) := by decide +kernel
theorem d_E_method_22 : decode b_E_method 22 = .ok (.ireturn, 1) := by decide +kernel
theorem d_E_step_0 : decode b_E_step 0 = .ok (.aload_n 0, 1) := by decide +kernel
theorem d_E_step_1 : decode b_E_step 1 = .ok (.iload_n 1, 1) := by decide +kernel
theorem d_E_step_2 : decode b_E_step 2 = .ok (.invokevirtual 58, 3) := by decide +kernel
theorem d_E_step_5 : decode b_E_step 5 = .ok (.ifCond .eq 18, 3) := by decide +kernel
theorem d_E_step_8 : decode b_E_step 8 = .ok (.iload_n 2, 1) := by decide +kernel
theorem d_E_step_9 : decode b_E_step 9 = .ok (.bipush 11, 2) := by decide +kernel
theorem d_E_step_11 : decode b_E_step 11 = .ok (.invokestatic 62, 3) := by decide +kernel
theorem d_E_step_14 : decode b_E_step 14 = .ok (.ifCond .eq 9, 3) := by decide +kernel
theorem d_E_step_17 : decode b_E_step 17 = .ok (.iload_n 2, 1) := by decide +kernel
theorem d_E_step_18 : decode b_E_step 18 = .ok (.bipush 6, 2) := by decide +kernel
theorem d_E_step_20 : decode b_E_step 20 = .ok (.if_icmp .ne 6, 3) := by decide +kernel
theorem d_E_step_23 : decode b_E_step 23 = .ok (.bipush (-2), 2) := by decide +kernel
theorem d_E_step_25 : decode b_E_step 25 = .ok (.ireturn, 1) := by decide +kernel
theorem d_E_step_26 : decode b_E_step 26 = .ok (.iload_n 2, 1) := by decide +kernel
theorem d_E_step_27 : decode b_E_step 27 = .ok (.iconst 0, 1) := by decide +kernel
theorem d_E_step_28 : decode b_E_step 28 = .ok (.iload_n 3, 1) := by decide +kernel
theorem d_E_step_29 : decode b_E_step 29 = .ok (.invokestatic 66, 3) := by decide +kernel
theorem d_E_step_32 : decode b_E_step 32 = .ok (.ifCond .eq 23, 3) := by decide +kernel
theorem d_E_step_35 : decode b_E_step 35 = .ok (.iload_n 2, 1) := by decide +kernel
theorem d_E_step_36 : decode b_E_step 36 = .ok (.iconst 1, 1) := by decide +kernel
theorem d_E_step_37 : decode b_E_step 37 = .ok (.iload 4, 2) := by decide +kernel
theorem d_E_step_39 : decode b_E_step 39 = .ok (.invokestatic 66, 3) := by decide +kernel
theorem d_E_step_42 : decode b_E_step 42 = .ok (.ifCond .eq 13, 3) := by decide +kernel
theorem d_E_step_45 : decode b_E_step 45 = .ok (.iload_n 2, 1) := by decide +kernel
theorem d_E_step_46 : decode b_E_step 46 = .ok (.iconst 2, 1) := by decide +kernel
theorem d_E_step_47 : decode b_E_step 47 = .ok (.iload 5, 2) := by decide +kernel
theorem d_E_step_49 : decode b_E_step 49 = .ok (.invokestatic 66, 3) := by decide +kernel
theorem d_E_step_52 : decode b_E_step 52 = .ok (.ifCond .ne 6, 3) := by decide +kernel
theorem d_E_step_55 : decode b_E_step 55 = .ok (.bipush (-2), 2) := by decide +kernel
theorem d_E_step_57 : decode b_E_step 57 = .ok (.ireturn, 1) := by decide +kernel
theorem d_E_step_58 : decode b_E_step 58 = .ok (.aload_n 0, 1) := by decide +kernel
theorem d_E_step_59 : decode b_E_step 59 = .ok (.getfield 12, 3) := by decide +kernel
theorem d_E_step_62 : decode b_E_step 62 = .ok (.iload_n 2, 1) := by decide +kernel
theorem d_E_step_63 : decode b_E_step 63 = .ok (.invokevirtual 70, 3) := by decide +kernel
theorem d_E_step_66 : decode b_E_step 66 = .ok (.ifCond .ne 6, 3) := by decide +kernel
theorem d_E_step_69 : decode b_E_step 69 = .ok (.bipush (-3), 2) := by decide +kernel
theorem d_E_step_71 : decode b_E_step 71 = .ok (.ireturn, 1) := by decide +kernel
theorem d_E_step_72 : decode b_E_step 72 = .ok (.aload_n 0, 1) := by decide +kernel
theorem d_E_step_73 : decode b_E_step 73 = .ok (.getfield 21, 3) := by decide +kernel
theorem d_E_step_76 : decode b_E_step 76 = .ok (.invokevirtual 48, 3) := by decide +kernel
theorem d_E_step_79 : decode b_E_step 79 = .ok (.aload_n 0, 1) := by decide +kernel
theorem d_E_step_80 : decode b_E_step 80 = .ok (.getfield 12, 3) := by decide +kernel
theorem d_E_step_83 : decode b_E_step 83 = .ok (.iload_n 1, 1) := by decide +kernel
theorem d_E_step_84 : decode b_E_step 84 = .ok (.iload_n 2, 1) := by decide +kernel
theorem d_E_step_85 : decode b_E_step 85 = .ok (.invokevirtual 73, 3) := by decide +kernel
theorem d_E_step_88 : decode b_E_step 88 = .ok (.istore 6, 2) := by decide +kernel
theorem d_E_step_90 : decode b_E_step 90 = .ok (.aload_n 0, 1) := by decide +kernel
theorem d_E_step_91 : decode b_E_step 91 = .ok (.getfield 12, 3) := by decide +kernel
theorem d_E_step_94 : decode b_E_step 94 = .ok (.iload 6, 2) := by decide +kernel
theorem d_E_step_96 : decode b_E_step 96 = .ok (.iconst 0, 1) := by decide +kernel
theorem d_E_step_97 : decode b_E_step 97 = .ok (.iload_n 2, 1) := by decide +kernel
theorem d_E_step_98 : decode b_E_step 98 = .ok (.iconst 0, 1) := by decide +kernel
theorem d_E_step_99 : decode b_E_step 99 = .ok (.iload_n 3, 1) := by decide +kernel
theorem d_E_step_100 : decode b_E_step 100 = .ok (.invokestatic 77, 3) := by decide +kernel
theorem d_E_step_103 : decode b_E_step 103 = .ok (.invokevirtual 81, 3) := by decide +kernel
theorem d_E_step_106 : decode b_E_step 106 = .ok (.aload_n 0, 1) := by decide +kernel
theorem d_E_step_107 : decode b_E_step 107 = .ok (.getfield 12, 3) := by decide +kernel
theorem d_E_step_110 : decode b_E_step 110 = .ok (.iload 6, 2) := by decide +kernel
theorem d_E_step_112 : decode b_E_step 112 = .ok (.iconst 1, 1) := by decide +kernel
theorem d_E_step_113 : decode b_E_step 113 = .ok (.iload_n 2, 1) := by decide +kernel
theorem d_E_step_114 : decode b_E_step 114 = .ok (.iconst 1, 1) := by decide +kernel
theorem d_E_step_115 : decode b_E_step 115 = .ok (.iload 4, 2) := by decide +kernel
theorem d_E_step_117 : decode b_E_step 117 = .ok (.invokestatic 77, 3) := by decide +kernel
theorem d_E_step_120 : decode b_E_step 120 = .ok (.invokevirtual 81, 3) := by decide +kernel
theorem d_E_step_123 : decode b_E_step 123 = .ok (.aload_n 0, 1) := by decide +kernel
theorem d_E_step_124 : decode b_E_step 124 = .ok (.getfield 12, 3) := by decide +kernel
theorem d_E_step_127 : decode b_E_step 127 = .ok (.iload 6, 2) := by decide +kernel
theorem d_E_step_129 : decode b_E_step 129 = .ok (.iconst 2, 1) := by decide +kernel
theorem d_E_step_130 : decode b_E_step 130 = .ok (.iload_n 2, 1) := by decide +kernel
theorem d_E_step_131 : decode b_E_step 131 = .ok (.iconst 2, 1) := by decide +kernel
theorem d_E_step_132 : decode b_E_step 132 = .ok (.iload 5, 2) := by decide +kernel
theorem d_E_step_134 : decode b_E_step 134 = .ok (.invokestatic 77, 3) := by decide +kernel
theorem d_E_step_137 : decode b_E_step 137 = .ok (.invokevirtual 81, 3) := by decide +kernel
theorem d_E_step_140 : decode b_E_step 140 = .ok (.iload 6, 2) := by decide +kernel
theorem d_E_step_142 : decode b_E_step 142 = .ok (.ireturn, 1) := by decide +kernel
theorem d_E_call_0 : decode b_E_call 0 = .ok (.aload_n 0, 1) := by decide +kernel
theorem d_E_call_1 : decode b_E_call 1 = .ok (.iload_n 1, 1) := by decide +kernel
theorem d_E_call_2 : decode b_E_call 2 = .ok (.invokevirtual 58, 3) := by decide +kernel
theorem d_E_call_5 : decode b_E_call 5 = .ok (.ifCond .eq 11, 3) := by decide +kernel
theorem d_E_call_8 : decode b_E_call 8 = .ok (.aload_n 0, 1) := by decide +kernel
theorem d_E_call_9 : decode b_E_call 9 = .ok (.iload_n 2, 1) := by decide +kernel
theorem d_E_call_10 : decode b_E_call 10 = .ok (.invokevirtual 58, 3) := by decide +kernel
theorem d_E_call_13 : decode b_E_call 13 = .ok (.ifCond .ne 6, 3) := by decide +kernel
theorem d_E_call_16 : decode b_E_call 16 = .ok (.bipush (-2), 2) := by decide +kernel
theorem d_E_call_18 : decode b_E_call 18 = .ok (.ireturn, 1) := by decide +kernel
theorem d_E_call_19 : decode b_E_call 19 = .ok (.iload_n 3, 1) := by decide +kernel
theorem d_E_call_20 : decode b_E_call 20 = .ok (.invokestatic 85, 3) := by decide +kernel
theorem d_E_call_23 : decode b_E_call 23 = .ok (.ifCond .eq 27, 3) := by decide +kernel
theorem d_E_call_26 : decode b_E_call 26 = .ok (.iload 4, 2) := by decide +kernel
theorem d_E_call_28 : decode b_E_call 28 = .ok (.invokestatic 85, 3) := by decide +kernel
theorem d_E_call_31 : decode b_E_call 31 = .ok (.ifCond .eq 19, 3) := by decide +kernel
theorem d_E_call_34 : decode b_E_call 34 = .ok (.iload 5, 2) := by decide +kernel
theorem d_E_call_36 : decode b_E_call 36 = .ok (.invokestatic 85, 3) := by decide +kernel
theorem d_E_call_39 : decode b_E_call 39 = .ok (.ifCond .eq 11, 3) := by decide +kernel
theorem d_E_call_42 : decode b_E_call 42 = .ok (.iload 6, 2) := by decide +kernel
theorem d_E_call_44 : decode b_E_call 44 = .ok (.invokestatic 85, 3) := by decide +kernel
theorem d_E_call_47 : decode b_E_call 47 = .ok (.ifCond .ne 6, 3) := by decide +kernel
theorem d_E_call_50 : decode b_E_call 50 = .ok (.bipush (-2), 2) := by decide +kernel
theorem d_E_call_52 : decode b_E_call 52 = .ok (.ireturn, 1) := by decide +kernel
theorem d_E_call_53 : decode b_E_call 53 = .ok (.aload_n 0, 1) := by decide +kernel
theorem d_E_call_54 : decode b_E_call 54 = .ok (.getfield 12, 3) := by decide +kernel
theorem d_E_call_57 : decode b_E_call 57 = .ok (.bipush 6, 2) := by decide +kernel
theorem d_E_call_59 : decode b_E_call 59 = .ok (.invokevirtual 70, 3) := by decide +kernel
theorem d_E_call_62 : decode b_E_call 62 = .ok (.ifCond .ne 6, 3) := by decide +kernel
theorem d_E_call_65 : decode b_E_call 65 = .ok (.bipush (-3), 2) := by decide +kernel
theorem d_E_call_67 : decode b_E_call 67 = .ok (.ireturn, 1) := by decide +kernel
theorem d_E_call_68 : decode b_E_call 68 = .ok (.aload_n 0, 1) := by decide +kernel
theorem d_E_call_69 : decode b_E_call 69 = .ok (.getfield 21, 3) := by decide +kernel
theorem d_E_call_72 : decode b_E_call 72 = .ok (.invokevirtual 48, 3) := by decide +kernel
theorem d_E_call_75 : decode b_E_call 75 = .ok (.aload_n 0, 1) := by decide +kernel
theorem d_E_call_76 : decode b_E_call 76 = .ok (.getfield 12, 3) := by decide +kernel
theorem d_E_call_79 : decode b_E_call 79 = .ok (.iload_n 1, 1) := by decide +kernel
theorem d_E_call_80 : decode b_E_call 80 = .ok (.bipush 6, 2) := by decide +kernel
theorem d_E_call_82 : decode b_E_call 82 = .ok (.invokevirtual 73, 3) := by decide +kernel
theorem d_E_call_85 : decode b_E_call 85 = .ok (.istore 7, 2) := by decide +kernel
theorem d_E_call_87 : decode b_E_call 87 = .ok (.aload_n 0, 1) := by decide +kernel
theorem d_E_call_88 : decode b_E_call 88 = .ok (.getfield 12, 3) := by decide +kernel
theorem d_E_call_91 : decode b_E_call 91 = .ok (.iload 7, 2) := by decide +kernel
theorem d_E_call_93 : decode b_E_call 93 = .ok (.iconst 0, 1) := by decide +kernel
theorem d_E_call_94 : decode b_E_call 94 = .ok (.iload_n 2, 1) := by decide +kernel
theorem d_E_call_95 : decode b_E_call 95 = .ok (.invokevirtual 81, 3) := by decide +kernel
theorem d_E_call_98 : decode b_E_call 98 = .ok (.aload_n 0, 1) := by decide +kernel
theorem d_E_call_99 : decode b_E_call 99 = .ok (.getfield 12, 3) := by decide +kernel
theorem d_E_call_102 : decode b_E_call 102 = .ok (.iload 7, 2) := by decide +kernel
theorem d_E_call_104 : decode b_E_call 104 = .ok (.iconst 1, 1) := by decide +kernel
theorem d_E_call_105 : decode b_E_call 105 = .ok (.iload_n 3, 1) := by decide +kernel
theorem d_E_call_106 : decode b_E_call 106 = .ok (.invokevirtual 81, 3) := by decide +kernel
theorem d_E_call_109 : decode b_E_call 109 = .ok (.aload_n 0, 1) := by decide +kernel
theorem d_E_call_110 : decode b_E_call 110 = .ok (.getfield 12, 3) := by decide +kernel
theorem d_E_call_113 : decode b_E_call 113 = .ok (.iload 7, 2) := by decide +kernel
theorem d_E_call_115 : decode b_E_call 115 = .ok (.iconst 2, 1) := by decide +kernel
theorem d_E_call_116 : decode b_E_call 116 = .ok (.iload 4, 2) := by decide +kernel
theorem d_E_call_118 : decode b_E_call 118 = .ok (.invokevirtual 81, 3) := by decide +kernel
theorem d_E_call_121 : decode b_E_call 121 = .ok (.aload_n 0, 1) := by decide +kernel
theorem d_E_call_122 : decode b_E_call 122 = .ok (.getfield 12, 3) := by decide +kernel
theorem d_E_call_125 : decode b_E_call 125 = .ok (.iload 7, 2) := by decide +kernel
theorem d_E_call_127 : decode b_E_call 127 = .ok (.iconst 3, 1) := by decide +kernel
theorem d_E_call_128 : decode b_E_call 128 = .ok (.iload 5, 2) := by decide +kernel
theorem d_E_call_130 : decode b_E_call 130 = .ok (.invokevirtual 81, 3) := by decide +kernel
theorem d_E_call_133 : decode b_E_call 133 = .ok (.aload_n 0, 1) := by decide +kernel
theorem d_E_call_134 : decode b_E_call 134 = .ok (.getfield 12, 3) := by decide +kernel
theorem d_E_call_137 : decode b_E_call 137 = .ok (.iload 7, 2) := by decide +kernel
theorem d_E_call_139 : decode b_E_call 139 = .ok (.iconst 4, 1) := by decide +kernel
theorem d_E_call_140 : decode b_E_call 140 = .ok (.iload 6, 2) := by decide +kernel
theorem d_E_call_142 : decode b_E_call 142 = .ok (.invokevirtual 81, 3) := by decide +kernel
theorem d_E_call_145 : decode b_E_call 145 = .ok (.iload 7, 2) := by decide +kernel
theorem d_E_call_147 : decode b_E_call 147 = .ok (.ireturn, 1) := by decide +kernel
theorem d_E_undo_0 : decode b_E_undo 0 = .ok (.aload_n 0, 1) := by decide +kernel
theorem d_E_undo_1 : decode b_E_undo 1 = .ok (.getfield 12, 3) := by decide +kernel
theorem d_E_undo_4 : decode b_E_undo 4 = .ok (.getfield 41, 3) := by decide +kernel
theorem d_E_undo_7 : decode b_E_undo 7 = .ok (.ifCond .gt 5, 3) := by decide +kernel
theorem d_E_undo_10 : decode b_E_undo 10 = .ok (.iconst (-1), 1) := by decide +kernel
theorem d_E_undo_11 : decode b_E_undo 11 = .ok (.ireturn, 1) := by decide +kernel
theorem d_E_undo_12 : decode b_E_undo 12 = .ok (.aload_n 0, 1) := by decide +kernel
theorem d_E_undo_13 : decode b_E_undo 13 = .ok (.getfield 21, 3) := by decide +kernel
theorem d_E_undo_16 : decode b_E_undo 16 = .ok (.invokevirtual 48, 3) := by decide +kernel
theorem d_E_undo_19 : decode b_E_undo 19 = .ok (.aload_n 0, 1) := by decide +kernel
theorem d_E_undo_20 : decode b_E_undo 20 = .ok (.getfield 12, 3) := by decide +kernel
theorem d_E_undo_23 : decode b_E_undo 23 = .ok (.invokevirtual 88, 3) := by decide +kernel
theorem d_E_undo_26 : decode b_E_undo 26 = .ok (.ireturn, 1) := by decide +kernel
theorem d_E_told_0 : decode b_E_told 0 = .ok (.aload_n 0, 1) := by decide +kernel
theorem d_E_told_1 : decode b_E_told 1 = .ok (.iload_n 1, 1) := by decide +kernel
theorem d_E_told_2 : decode b_E_told 2 = .ok (.invokevirtual 91, 3) := by decide +kernel
theorem d_E_told_5 : decode b_E_told 5 = .ok (.ifCond .eq 12, 3) := by decide +kernel
theorem d_E_told_8 : decode b_E_told 8 = .ok (.iload_n 2, 1) := by decide +kernel
theorem d_E_told_9 : decode b_E_told 9 = .ok (.bipush 8, 2) := by decide +kernel
theorem d_E_told_11 : decode b_E_told 11 = .ok (.invokestatic 62, 3) := by decide +kernel
theorem d_E_told_14 : decode b_E_told 14 = .ok (.ifCond .ne 6, 3) := by decide +kernel
theorem d_E_told_17 : decode b_E_told 17 = .ok (.bipush (-2), 2) := by decide +kernel
theorem d_E_told_19 : decode b_E_told 19 = .ok (.ireturn, 1) := by decide +kernel
theorem d_E_told_20 : decode b_E_told 20 = .ok (.iload_n 2, 1) := by decide +kernel
theorem d_E_told_21 : decode b_E_told 21 = .ok (.tableswitch 54 0 2 #[27, 36, 45], 27) := by decide +kernel
theorem d_E_told_48 : decode b_E_told 48 = .ok (.aload_n 0, 1) := by decide +kernel
theorem d_E_told_49 : decode b_E_told 49 = .ok (.getfield 12, 3) := by decide +kernel
theorem d_E_told_52 : decode b_E_told 52 = .ok (.iload_n 1, 1) := by decide +kernel
theorem d_E_told_53 : decode b_E_told 53 = .ok (.invokevirtual 94, 3) := by decide +kernel
theorem d_E_told_56 : decode b_E_told 56 = .ok (.ireturn, 1) := by decide +kernel
theorem d_E_told_57 : decode b_E_told 57 = .ok (.aload_n 0, 1) := by decide +kernel
theorem d_E_told_58 : decode b_E_told 58 = .ok (.getfield 12, 3) := by decide +kernel
theorem d_E_told_61 : decode b_E_told 61 = .ok (.iload_n 1, 1) := by decide +kernel
theorem d_E_told_62 : decode b_E_told 62 = .ok (.invokevirtual 98, 3) := by decide +kernel
theorem d_E_told_65 : decode b_E_told 65 = .ok (.ireturn, 1) := by decide +kernel
theorem d_E_told_66 : decode b_E_told 66 = .ok (.aload_n 0, 1) := by decide +kernel
theorem d_E_told_67 : decode b_E_told 67 = .ok (.getfield 12, 3) := by decide +kernel
theorem d_E_told_70 : decode b_E_told 70 = .ok (.iload_n 1, 1) := by decide +kernel
theorem d_E_told_71 : decode b_E_told 71 = .ok (.invokevirtual 101, 3) := by decide +kernel
theorem d_E_told_74 : decode b_E_told 74 = .ok (.ireturn, 1) := by decide +kernel
theorem d_E_told_75 : decode b_E_told 75 = .ok (.aload_n 0, 1) := by decide +kernel
theorem d_E_told_76 : decode b_E_told 76 = .ok (.getfield 12, 3) := by decide +kernel
theorem d_E_told_79 : decode b_E_told 79 = .ok (.iload_n 1, 1) := by decide +kernel
theorem d_E_told_80 : decode b_E_told 80 = .ok (.iload_n 2, 1) := by decide +kernel
theorem d_E_told_81 : decode b_E_told 81 = .ok (.iconst 3, 1) := by decide +kernel
theorem d_E_told_82 : decode b_E_told 82 = .ok (.isub, 1) := by decide +kernel
theorem d_E_told_83 : decode b_E_told 83 = .ok (.invokevirtual 104, 3) := by decide +kernel
theorem d_E_told_86 : decode b_E_told 86 = .ok (.ireturn, 1) := by decide +kernel
theorem d_E_all_0 : decode b_E_all 0 = .ok (.iload_n 1, 1) := by decide +kernel
theorem d_E_all_1 : decode b_E_all 1 = .ok (.bipush 13, 2) := by decide +kernel
theorem d_E_all_3 : decode b_E_all 3 = .ok (.invokestatic 62, 3) := by decide +kernel
theorem d_E_all_6 : decode b_E_all 6 = .ok (.ifCond .ne 6, 3) := by decide +kernel
theorem d_E_all_9 : decode b_E_all 9 = .ok (.bipush (-2), 2) := by decide +kernel
theorem d_E_all_11 : decode b_E_all 11 = .ok (.ireturn, 1) := by decide +kernel
theorem d_E_all_12 : decode b_E_all 12 = .ok (.aload_n 0, 1) := by decide +kernel
theorem d_E_all_13 : decode b_E_all 13 = .ok (.getfield 21, 3) := by decide +kernel
theorem d_E_all_16 : decode b_E_all 16 = .ok (.invokevirtual 107, 3) := by decide +kernel
theorem d_E_all_19 : decode b_E_all 19 = .ok (.iload_n 1, 1) := by decide +kernel
theorem d_E_all_20 : decode b_E_all 20 = .ok (.tableswitch 167 0 11 #[64, 72, 80, 88, 96, 111, 119, 127, 135, 143, 151, 159], 64) := by decide +kernel
theorem d_E_all_84 : decode b_E_all 84 = .ok (.aload_n 0, 1) := by decide +kernel
theorem d_E_all_85 : decode b_E_all 85 = .ok (.getfield 12, 3) := by decide +kernel
theorem d_E_all_88 : decode b_E_all 88 = .ok (.getfield 51, 3) := by decide +kernel
theorem d_E_all_91 : decode b_E_all 91 = .ok (.ireturn, 1) := by decide +kernel
theorem d_E_all_92 : decode b_E_all 92 = .ok (.aload_n 0, 1) := by decide +kernel
theorem d_E_all_93 : decode b_E_all 93 = .ok (.getfield 12, 3) := by decide +kernel
theorem d_E_all_96 : decode b_E_all 96 = .ok (.getfield 41, 3) := by decide +kernel
theorem d_E_all_99 : decode b_E_all 99 = .ok (.ireturn, 1) := by decide +kernel
theorem d_E_all_100 : decode b_E_all 100 = .ok (.aload_n 0, 1) := by decide +kernel
theorem d_E_all_101 : decode b_E_all 101 = .ok (.getfield 12, 3) := by decide +kernel
theorem d_E_all_104 : decode b_E_all 104 = .ok (.getfield 110, 3) := by decide +kernel
theorem d_E_all_107 : decode b_E_all 107 = .ok (.ireturn, 1) := by decide +kernel
theorem d_E_all_108 : decode b_E_all 108 = .ok (.aload_n 0, 1) := by decide +kernel
theorem d_E_all_109 : decode b_E_all 109 = .ok (.getfield 21, 3) := by decide +kernel
theorem d_E_all_112 : decode b_E_all 112 = .ok (.getfield 113, 3) := by decide +kernel
theorem d_E_all_115 : decode b_E_all 115 = .ok (.ireturn, 1) := by decide +kernel
theorem d_E_all_116 : decode b_E_all 116 = .ok (.aload_n 0, 1) := by decide +kernel
theorem d_E_all_117 : decode b_E_all 117 = .ok (.getfield 12, 3) := by decide +kernel
theorem d_E_all_120 : decode b_E_all 120 = .ok (.aload_n 0, 1) := by decide +kernel
theorem d_E_all_121 : decode b_E_all 121 = .ok (.getfield 21, 3) := by decide +kernel
theorem d_E_all_124 : decode b_E_all 124 = .ok (.getfield 113, 3) := by decide +kernel
theorem d_E_all_127 : decode b_E_all 127 = .ok (.invokevirtual 116, 3) := by decide +kernel
theorem d_E_all_130 : decode b_E_all 130 = .ok (.ireturn, 1) := by decide +kernel
theorem d_E_all_131 : decode b_E_all 131 = .ok (.aload_n 0, 1) := by decide +kernel
theorem d_E_all_132 : decode b_E_all 132 = .ok (.getfield 21, 3) := by decide +kernel
theorem d_E_all_135 : decode b_E_all 135 = .ok (.getfield 119, 3) := by decide +kernel
theorem d_E_all_138 : decode b_E_all 138 = .ok (.ireturn, 1) := by decide +kernel
theorem d_E_all_139 : decode b_E_all 139 = .ok (.aload_n 0, 1) := by decide +kernel
theorem d_E_all_140 : decode b_E_all 140 = .ok (.getfield 30, 3) := by decide +kernel
theorem d_E_all_143 : decode b_E_all 143 = .ok (.invokevirtual 122, 3) := by decide +kernel
theorem d_E_all_146 : decode b_E_all 146 = .ok (.ireturn, 1) := by decide +kernel
theorem d_E_all_147 : decode b_E_all 147 = .ok (.aload_n 0, 1) := by decide +kernel
theorem d_E_all_148 : decode b_E_all 148 = .ok (.getfield 30, 3) := by decide +kernel
theorem d_E_all_151 : decode b_E_all 151 = .ok (.invokevirtual 125, 3) := by decide +kernel
theorem d_E_all_154 : decode b_E_all 154 = .ok (.ireturn, 1) := by decide +kernel
theorem d_E_all_155 : decode b_E_all 155 = .ok (.aload_n 0, 1) := by decide +kernel
theorem d_E_all_156 : decode b_E_all 156 = .ok (.getfield 30, 3) := by decide +kernel
theorem d_E_all_159 : decode b_E_all 159 = .ok (.invokevirtual 128, 3) := by decide +kernel
theorem d_E_all_162 : decode b_E_all 162 = .ok (.ireturn, 1) := by decide +kernel
theorem d_E_all_163 : decode b_E_all 163 = .ok (.aload_n 0, 1) := by decide +kernel
theorem d_E_all_164 : decode b_E_all 164 = .ok (.getfield 30, 3) := by decide +kernel
theorem d_E_all_167 : decode b_E_all 167 = .ok (.invokevirtual 131, 3) := by decide +kernel
theorem d_E_all_170 : decode b_E_all 170 = .ok (.ireturn, 1) := by decide +kernel
theorem d_E_all_171 : decode b_E_all 171 = .ok (.aload_n 0, 1) := by decide +kernel
theorem d_E_all_172 : decode b_E_all 172 = .ok (.getfield 30, 3) := by decide +kernel
theorem d_E_all_175 : decode b_E_all 175 = .ok (.invokevirtual 134, 3) := by decide +kernel
theorem d_E_all_178 : decode b_E_all 178 = .ok (.ireturn, 1) := by decide +kernel
theorem d_E_all_179 : decode b_E_all 179 = .ok (.aload_n 0, 1) := by decide +kernel
theorem d_E_all_180 : decode b_E_all 180 = .ok (.getfield 30, 3) := by decide +kernel
theorem d_E_all_183 : decode b_E_all 183 = .ok (.invokevirtual 137, 3) := by decide +kernel
theorem d_E_all_186 : decode b_E_all 186 = .ok (.ireturn, 1) := by decide +kernel
theorem d_E_all_187 : decode b_E_all 187 = .ok (.aload_n 0, 1) := by decide +kernel
theorem d_E_all_188 : decode b_E_all 188 = .ok (.getfield 21, 3) := by decide +kernel
theorem d_E_all_191 : decode b_E_all 191 = .ok (.getfield 140, 3) := by decide +kernel
theorem d_E_all_194 : decode b_E_all 194 = .ok (.ireturn, 1) := by decide +kernel
theorem d_E_points_0 : decode b_E_points 0 = .ok (.aload_n 0, 1) := by decide +kernel
theorem d_E_points_1 : decode b_E_points 1 = .ok (.iload_n 1, 1) := by decide +kernel
theorem d_E_points_2 : decode b_E_points 2 = .ok (.invokevirtual 58, 3) := by decide +kernel
theorem d_E_points_5 : decode b_E_points 5 = .ok (.ifCond .eq 12, 3) := by decide +kernel
theorem d_E_points_8 : decode b_E_points 8 = .ok (.iload_n 2, 1) := by decide +kernel
theorem d_E_points_9 : decode b_E_points 9 = .ok (.bipush 8, 2) := by decide +kernel
theorem d_E_points_11 : decode b_E_points 11 = .ok (.invokestatic 62, 3) := by decide +kernel
theorem d_E_points_14 : decode b_E_points 14 = .ok (.ifCond .ne 6, 3) := by decide +kernel
theorem d_E_points_17 : decode b_E_points 17 = .ok (.bipush (-2), 2) := by decide +kernel
theorem d_E_points_19 : decode b_E_points 19 = .ok (.ireturn, 1) := by decide +kernel
theorem d_E_points_20 : decode b_E_points 20 = .ok (.aload_n 0, 1) := by decide +kernel
theorem d_E_points_21 : decode b_E_points 21 = .ok (.getfield 21, 3) := by decide +kernel
theorem d_E_points_24 : decode b_E_points 24 = .ok (.invokevirtual 107, 3) := by decide +kernel
theorem d_E_points_27 : decode b_E_points 27 = .ok (.aload_n 0, 1) := by decide +kernel
theorem d_E_points_28 : decode b_E_points 28 = .ok (.getfield 21, 3) := by decide +kernel
theorem d_E_points_31 : decode b_E_points 31 = .ok (.iload_n 1, 1) := by decide +kernel
theorem d_E_points_32 : decode b_E_points 32 = .ok (.iload_n 2, 1) := by decide +kernel
theorem d_E_points_33 : decode b_E_points 33 = .ok (.invokevirtual 143, 3) := by decide +kernel
theorem d_E_points_36 : decode b_E_points 36 = .ok (.ireturn, 1) := by decide +kernel
theorem d_E_field_0 : decode b_E_field 0 = .ok (.aload_n 0, 1) := by decide +kernel
theorem d_E_field_1 : decode b_E_field 1 = .ok (.iload_n 1, 1) := by decide +kernel
theorem d_E_field_2 : decode b_E_field 2 = .ok (.invokevirtual 146, 3) := by decide +kernel
theorem d_E_field_5 : decode b_E_field 5 = .ok (.ifCond .eq 11, 3) := by decide +kernel
theorem d_E_field_8 : decode b_E_field 8 = .ok (.iload_n 2, 1) := by decide +kernel
theorem d_E_field_9 : decode b_E_field 9 = .ok (.iconst 4, 1) := by decide +kernel
theorem d_E_field_10 : decode b_E_field 10 = .ok (.invokestatic 62, 3) := by decide +kernel
theorem d_E_field_13 : decode b_E_field 13 = .ok (.ifCond .ne 6, 3) := by decide +kernel
theorem d_E_field_16 : decode b_E_field 16 = .ok (.bipush (-2), 2) := by decide +kernel
theorem d_E_field_18 : decode b_E_field 18 = .ok (.ireturn, 1) := by decide +kernel
theorem d_E_field_19 : decode b_E_field 19 = .ok (.aload_n 0, 1) := by decide +kernel
theorem d_E_field_20 : decode b_E_field 20 = .ok (.getfield 21, 3) := by decide +kernel
theorem d_E_field_23 : decode b_E_field 23 = .ok (.invokevirtual 107, 3) := by decide +kernel
theorem d_E_field_26 : decode b_E_field 26 = .ok (.aload_n 0, 1) := by decide +kernel
theorem d_E_field_27 : decode b_E_field 27 = .ok (.getfield 21, 3) := by decide +kernel
theorem d_E_field_30 : decode b_E_field 30 = .ok (.iload_n 1, 1) := by decide +kernel
theorem d_E_field_31 : decode b_E_field 31 = .ok (.iload_n 2, 1) := by decide +kernel
theorem d_E_field_32 : decode b_E_field 32 = .ok (.invokevirtual 149, 3) := by decide +kernel
theorem d_E_field_35 : decode b_E_field 35 = .ok (.ireturn, 1) := by decide +kernel
theorem d_E_place_0 : decode b_E_place 0 = .ok (.iload_n 1, 1) := by decide +kernel
theorem d_E_place_1 : decode b_E_place 1 = .ok (.iconst 4, 1) := by decide +kernel
theorem d_E_place_2 : decode b_E_place 2 = .ok (.invokestatic 62, 3) := by decide +kernel
theorem d_E_place_5 : decode b_E_place 5 = .ok (.ifCond .ne 6, 3) := by decide +kernel
theorem d_E_place_8 : decode b_E_place 8 = .ok (.bipush (-2), 2) := by decide +kernel
theorem d_E_place_10 : decode b_E_place 10 = .ok (.ireturn, 1) := by decide +kernel
theorem d_E_place_11 : decode b_E_place 11 = .ok (.aload_n 0, 1) := by decide +kernel
theorem d_E_place_12 : decode b_E_place 12 = .ok (.getfield 21, 3) := by decide +kernel
theorem d_E_place_15 : decode b_E_place 15 = .ok (.invokevirtual 107, 3) := by decide +kernel
theorem d_E_place_18 : decode b_E_place 18 = .ok (.aload_n 0, 1) := by decide +kernel
theorem d_E_place_19 : decode b_E_place 19 = .ok (.getfield 21, 3) := by decide +kernel
theorem d_E_place_22 : decode b_E_place 22 = .ok (.getfield 152, 3) := by decide +kernel
theorem d_E_place_25 : decode b_E_place 25 = .ok (.iload_n 1, 1) := by decide +kernel
theorem d_E_place_26 : decode b_E_place 26 = .ok (.invokestatic 156, 3) := by decide +kernel
theorem d_E_place_29 : decode b_E_place 29 = .ok (.ireturn, 1) := by decide +kernel
theorem d_E_result_0 : decode b_E_result 0 = .ok (.aload_n 0, 1) := by decide +kernel
theorem d_E_result_1 : decode b_E_result 1 = .ok (.iload_n 1, 1) := by decide +kernel
theorem d_E_result_2 : decode b_E_result 2 = .ok (.invokevirtual 58, 3) := by decide +kernel
theorem d_E_result_5 : decode b_E_result 5 = .ok (.ifCond .ne 6, 3) := by decide +kernel
theorem d_E_result_8 : decode b_E_result 8 = .ok (.bipush (-2), 2) := by decide +kernel
theorem d_E_result_10 : decode b_E_result 10 = .ok (.ireturn, 1) := by decide +kernel
theorem d_E_result_11 : decode b_E_result 11 = .ok (.aload_n 0, 1) := by decide +kernel
theorem d_E_result_12 : decode b_E_result 12 = .ok (.getfield 21, 3) := by decide +kernel
theorem d_E_result_15 : decode b_E_result 15 = .ok (.invokevirtual 107, 3) := by decide +kernel
theorem d_E_result_18 : decode b_E_result 18 = .ok (.aload_n 0, 1) := by decide +kernel
theorem d_E_result_19 : decode b_E_result 19 = .ok (.getfield 21, 3) := by decide +kernel
theorem d_E_result_22 : decode b_E_result 22 = .ok (.getfield 160, 3) := by decide +kernel
theorem d_E_result_25 : decode b_E_result 25 = .ok (.iload_n 1, 1) := by decide +kernel
theorem d_E_result_26 : decode b_E_result 26 = .ok (.invokestatic 156, 3) := by decide +kernel
theorem d_E_result_29 : decode b_E_result 29 = .ok (.ireturn, 1) := by decide +kernel
theorem d_E_of_0 : decode b_E_of 0 = .ok (.aload_n 0, 1) := by decide +kernel
theorem d_E_of_1 : decode b_E_of 1 = .ok (.iload_n 1, 1) := by decide +kernel
theorem d_E_of_2 : decode b_E_of 2 = .ok (.invokevirtual 146, 3) := by decide +kernel
theorem d_E_of_5 : decode b_E_of 5 = .ok (.ifCond .eq 12, 3) := by decide +kernel
theorem d_E_of_8 : decode b_E_of 8 = .ok (.iload_n 2, 1) := by decide +kernel
theorem d_E_of_9 : decode b_E_of 9 = .ok (.bipush 7, 2) := by decide +kernel
theorem d_E_of_11 : decode b_E_of 11 = .ok (.invokestatic 62, 3) := by decide +kernel
theorem d_E_of_14 : decode b_E_of 14 = .ok (.ifCond .ne 6, 3) := by decide +kernel
theorem d_E_of_17 : decode b_E_of 17 = .ok (.bipush (-2), 2) := by decide +kernel
theorem d_E_of_19 : decode b_E_of 19 = .ok (.ireturn, 1) := by decide +kernel
theorem d_E_of_20 : decode b_E_of 20 = .ok (.aload_n 0, 1) := by decide +kernel
theorem d_E_of_21 : decode b_E_of 21 = .ok (.getfield 21, 3) := by decide +kernel
theorem d_E_of_24 : decode b_E_of 24 = .ok (.invokevirtual 107, 3) := by decide +kernel
theorem d_E_of_27 : decode b_E_of 27 = .ok (.iload_n 2, 1) := by decide +kernel
theorem d_E_of_28 : decode b_E_of 28 = .ok (.tableswitch 97 0 5 #[40, 49, 58, 70, 79, 88], 40) := by decide +kernel
theorem d_E_of_68 : decode b_E_of 68 = .ok (.aload_n 0, 1) := by decide +kernel
theorem d_E_of_69 : decode b_E_of 69 = .ok (.getfield 12, 3) := by decide +kernel
theorem d_E_of_72 : decode b_E_of 72 = .ok (.iload_n 1, 1) := by decide +kernel
theorem d_E_of_73 : decode b_E_of 73 = .ok (.invokevirtual 163, 3) := by decide +kernel
theorem d_E_of_76 : decode b_E_of 76 = .ok (.ireturn, 1) := by decide +kernel
theorem d_E_of_77 : decode b_E_of 77 = .ok (.aload_n 0, 1) := by decide +kernel
theorem d_E_of_78 : decode b_E_of 78 = .ok (.getfield 12, 3) := by decide +kernel
theorem d_E_of_81 : decode b_E_of 81 = .ok (.iload_n 1, 1) := by decide +kernel
theorem d_E_of_82 : decode b_E_of 82 = .ok (.invokevirtual 166, 3) := by decide +kernel
theorem d_E_of_85 : decode b_E_of 85 = .ok (.ireturn, 1) := by decide +kernel
theorem d_E_of_86 : decode b_E_of 86 = .ok (.aload_n 0, 1) := by decide +kernel
theorem d_E_of_87 : decode b_E_of 87 = .ok (.getfield 21, 3) := by decide +kernel
theorem d_E_of_90 : decode b_E_of 90 = .ok (.getfield 169, 3) := by decide +kernel
theorem d_E_of_93 : decode b_E_of 93 = .ok (.iload_n 1, 1) := by decide +kernel
theorem d_E_of_94 : decode b_E_of 94 = .ok (.invokestatic 156, 3) := by decide +kernel
theorem d_E_of_97 : decode b_E_of 97 = .ok (.ireturn, 1) := by decide +kernel
theorem d_E_of_98 : decode b_E_of 98 = .ok (.aload_n 0, 1) := by decide +kernel
theorem d_E_of_99 : decode b_E_of 99 = .ok (.getfield 30, 3) := by decide +kernel
theorem d_E_of_102 : decode b_E_of 102 = .ok (.iload_n 1, 1) := by decide +kernel
theorem d_E_of_103 : decode b_E_of 103 = .ok (.invokevirtual 172, 3) := by decide +kernel
theorem d_E_of_106 : decode b_E_of 106 = .ok (.ireturn, 1) := by decide +kernel
theorem d_E_of_107 : decode b_E_of 107 = .ok (.aload_n 0, 1) := by decide +kernel
theorem d_E_of_108 : decode b_E_of 108 = .ok (.getfield 30, 3) := by decide +kernel
theorem d_E_of_111 : decode b_E_of 111 = .ok (.iload_n 1, 1) := by decide +kernel
theorem d_E_of_112 : decode b_E_of 112 = .ok (.invokevirtual 175, 3) := by decide +kernel
theorem d_E_of_115 : decode b_E_of 115 = .ok (.ireturn, 1) := by decide +kernel
theorem d_E_of_116 : decode b_E_of 116 = .ok (.aload_n 0, 1) := by decide +kernel
theorem d_E_of_117 : decode b_E_of 117 = .ok (.getfield 30, 3) := by decide +kernel
theorem d_E_of_120 : decode b_E_of 120 = .ok (.iload_n 1, 1) := by decide +kernel
theorem d_E_of_121 : decode b_E_of 121 = .ok (.invokevirtual 178, 3) := by decide +kernel
theorem d_E_of_124 : decode b_E_of 124 = .ok (.ireturn, 1) := by decide +kernel
theorem d_E_of_125 : decode b_E_of 125 = .ok (.aload_n 0, 1) := by decide +kernel
theorem d_E_of_126 : decode b_E_of 126 = .ok (.getfield 30, 3) := by decide +kernel
theorem d_E_of_129 : decode b_E_of 129 = .ok (.iload_n 1, 1) := by decide +kernel
theorem d_E_of_130 : decode b_E_of 130 = .ok (.invokevirtual 181, 3) := by decide +kernel
theorem d_E_of_133 : decode b_E_of 133 = .ok (.ireturn, 1) := by decide +kernel
theorem d_E_meet_0 : decode b_E_meet 0 = .ok (.aload_n 0, 1) := by decide +kernel
theorem d_E_meet_1 : decode b_E_meet 1 = .ok (.iload_n 1, 1) := by decide +kernel
theorem d_E_meet_2 : decode b_E_meet 2 = .ok (.invokevirtual 58, 3) := by decide +kernel
theorem d_E_meet_5 : decode b_E_meet 5 = .ok (.ifCond .eq 30, 3) := by decide +kernel
theorem d_E_meet_8 : decode b_E_meet 8 = .ok (.iload_n 2, 1) := by decide +kernel
theorem d_E_meet_9 : decode b_E_meet 9 = .ok (.bipush 8, 2) := by decide +kernel
theorem d_E_meet_11 : decode b_E_meet 11 = .ok (.invokestatic 62, 3) := by decide +kernel
theorem d_E_meet_14 : decode b_E_meet 14 = .ok (.ifCond .eq 21, 3) := by decide +kernel
theorem d_E_meet_17 : decode b_E_meet 17 = .ok (.aload_n 0, 1) := by decide +kernel
theorem d_E_meet_18 : decode b_E_meet 18 = .ok (.iload_n 3, 1) := by decide +kernel
theorem d_E_meet_19 : decode b_E_meet 19 = .ok (.invokevirtual 58, 3) := by decide +kernel
theorem d_E_meet_22 : decode b_E_meet 22 = .ok (.ifCond .eq 13, 3) := by decide +kernel
theorem d_E_meet_25 : decode b_E_meet 25 = .ok (.iload 4, 2) := by decide +kernel
theorem d_E_meet_27 : decode b_E_meet 27 = .ok (.bipush 8, 2) := by decide +kernel
theorem d_E_meet_29 : decode b_E_meet 29 = .ok (.invokestatic 62, 3) := by decide +kernel
theorem d_E_meet_32 : decode b_E_meet 32 = .ok (.ifCond .ne 6, 3) := by decide +kernel
theorem d_E_meet_35 : decode b_E_meet 35 = .ok (.bipush (-2), 2) := by decide +kernel
theorem d_E_meet_37 : decode b_E_meet 37 = .ok (.ireturn, 1) := by decide +kernel
theorem d_E_meet_38 : decode b_E_meet 38 = .ok (.aload_n 0, 1) := by decide +kernel
theorem d_E_meet_39 : decode b_E_meet 39 = .ok (.getfield 21, 3) := by decide +kernel
theorem d_E_meet_42 : decode b_E_meet 42 = .ok (.invokevirtual 107, 3) := by decide +kernel
theorem d_E_meet_45 : decode b_E_meet 45 = .ok (.aload_n 0, 1) := by decide +kernel
theorem d_E_meet_46 : decode b_E_meet 46 = .ok (.getfield 21, 3) := by decide +kernel
theorem d_E_meet_49 : decode b_E_meet 49 = .ok (.iload_n 1, 1) := by decide +kernel
theorem d_E_meet_50 : decode b_E_meet 50 = .ok (.iload_n 2, 1) := by decide +kernel
theorem d_E_meet_51 : decode b_E_meet 51 = .ok (.invokevirtual 143, 3) := by decide +kernel
theorem d_E_meet_54 : decode b_E_meet 54 = .ok (.aload_n 0, 1) := by decide +kernel
theorem d_E_meet_55 : decode b_E_meet 55 = .ok (.getfield 21, 3) := by decide +kernel
theorem d_E_meet_58 : decode b_E_meet 58 = .ok (.iload_n 3, 1) := by decide +kernel
theorem d_E_meet_59 : decode b_E_meet 59 = .ok (.iload 4, 2) := by decide +kernel
theorem d_E_meet_61 : decode b_E_meet 61 = .ok (.invokevirtual 143, 3) := by decide +kernel
theorem d_E_meet_64 : decode b_E_meet 64 = .ok (.iand, 1) := by decide +kernel
theorem d_E_meet_65 : decode b_E_meet 65 = .ok (.ifCond .eq 7, 3) := by decide +kernel
theorem d_E_meet_68 : decode b_E_meet 68 = .ok (.iconst 1, 1) := by decide +kernel
theorem d_E_meet_69 : decode b_E_meet 69 = .ok (.goto 4, 3) := by decide +kernel
theorem d_E_meet_72 : decode b_E_meet 72 = .ok (.iconst 0, 1) := by decide +kernel
theorem d_E_meet_73 : decode b_E_meet 73 = .ok (.ireturn, 1) := by decide +kernel
theorem d_E_reach_0 : decode b_E_reach 0 = .ok (.aload_n 0, 1) := by decide +kernel
theorem d_E_reach_1 : decode b_E_reach 1 = .ok (.iload_n 1, 1) := by decide +kernel
theorem d_E_reach_2 : decode b_E_reach 2 = .ok (.invokevirtual 58, 3) := by decide +kernel
theorem d_E_reach_5 : decode b_E_reach 5 = .ok (.ifCond .eq 12, 3) := by decide +kernel
theorem d_E_reach_8 : decode b_E_reach 8 = .ok (.iload_n 2, 1) := by decide +kernel
theorem d_E_reach_9 : decode b_E_reach 9 = .ok (.bipush 8, 2) := by decide +kernel
theorem d_E_reach_11 : decode b_E_reach 11 = .ok (.invokestatic 62, 3) := by decide +kernel
theorem d_E_reach_14 : decode b_E_reach 14 = .ok (.ifCond .ne 6, 3) := by decide +kernel
theorem d_E_reach_17 : decode b_E_reach 17 = .ok (.bipush (-2), 2) := by decide +kernel
theorem d_E_reach_19 : decode b_E_reach 19 = .ok (.ireturn, 1) := by decide +kernel
theorem d_E_reach_20 : decode b_E_reach 20 = .ok (.aload_n 0, 1) := by decide +kernel
theorem d_E_reach_21 : decode b_E_reach 21 = .ok (.getfield 21, 3) := by decide +kernel
theorem d_E_reach_24 : decode b_E_reach 24 = .ok (.invokevirtual 107, 3) := by decide +kernel
theorem d_E_reach_27 : decode b_E_reach 27 = .ok (.aload_n 0, 1) := by decide +kernel
theorem d_E_reach_28 : decode b_E_reach 28 = .ok (.getfield 21, 3) := by decide +kernel
theorem d_E_reach_31 : decode b_E_reach 31 = .ok (.aload_n 0, 1) := by decide +kernel
theorem d_E_reach_32 : decode b_E_reach 32 = .ok (.getfield 21, 3) := by decide +kernel
theorem d_E_reach_35 : decode b_E_reach 35 = .ok (.iload_n 1, 1) := by decide +kernel
theorem d_E_reach_36 : decode b_E_reach 36 = .ok (.iload_n 2, 1) := by decide +kernel
theorem d_E_reach_37 : decode b_E_reach 37 = .ok (.invokevirtual 143, 3) := by decide +kernel
theorem d_E_reach_40 : decode b_E_reach 40 = .ok (.invokevirtual 184, 3) := by decide +kernel
theorem d_E_reach_43 : decode b_E_reach 43 = .ok (.ireturn, 1) := by decide +kernel
theorem d_E_parameter_0 : decode b_E_parameter 0 = .ok (.aload_n 0, 1) := by decide +kernel
theorem d_E_parameter_1 : decode b_E_parameter 1 = .ok (.iload_n 1, 1) := by decide +kernel
theorem d_E_parameter_2 : decode b_E_parameter 2 = .ok (.invokevirtual 58, 3) := by decide +kernel
theorem d_E_parameter_5 : decode b_E_parameter 5 = .ok (.ifCond .eq 19, 3) := by decide +kernel
theorem d_E_parameter_8 : decode b_E_parameter 8 = .ok (.iload_n 2, 1) := by decide +kernel
theorem d_E_parameter_9 : decode b_E_parameter 9 = .ok (.iconst 3, 1) := by decide +kernel
theorem d_E_parameter_10 : decode b_E_parameter 10 = .ok (.invokestatic 62, 3) := by decide +kernel
theorem d_E_parameter_13 : decode b_E_parameter 13 = .ok (.ifCond .eq 11, 3) := by decide +kernel
theorem d_E_parameter_16 : decode b_E_parameter 16 = .ok (.iload_n 3, 1) := by decide +kernel
theorem d_E_parameter_17 : decode b_E_parameter 17 = .ok (.iconst 3, 1) := by decide +kernel
theorem d_E_parameter_18 : decode b_E_parameter 18 = .ok (.invokestatic 62, 3) := by decide +kernel
theorem d_E_parameter_21 : decode b_E_parameter 21 = .ok (.ifCond .ne 6, 3) := by decide +kernel
theorem d_E_parameter_24 : decode b_E_parameter 24 = .ok (.bipush (-2), 2) := by decide +kernel
theorem d_E_parameter_26 : decode b_E_parameter 26 = .ok (.ireturn, 1) := by decide +kernel
theorem d_E_parameter_27 : decode b_E_parameter 27 = .ok (.aload_n 0, 1) := by decide +kernel
theorem d_E_parameter_28 : decode b_E_parameter 28 = .ok (.getfield 21, 3) := by decide +kernel
theorem d_E_parameter_31 : decode b_E_parameter 31 = .ok (.invokevirtual 107, 3) := by decide +kernel
theorem d_E_parameter_34 : decode b_E_parameter 34 = .ok (.aload_n 0, 1) := by decide +kernel
theorem d_E_parameter_35 : decode b_E_parameter 35 = .ok (.getfield 21, 3) := by decide +kernel
theorem d_E_parameter_38 : decode b_E_parameter 38 = .ok (.getfield 113, 3) := by decide +kernel
theorem d_E_parameter_41 : decode b_E_parameter 41 = .ok (.iload_n 1, 1) := by decide +kernel
theorem d_E_parameter_42 : decode b_E_parameter 42 = .ok (.invokestatic 187, 3) := by decide +kernel
theorem d_E_parameter_45 : decode b_E_parameter 45 = .ok (.ifCond .ne 5, 3) := by decide +kernel
theorem d_E_parameter_48 : decode b_E_parameter 48 = .ok (.iconst (-1), 1) := by decide +kernel
theorem d_E_parameter_49 : decode b_E_parameter 49 = .ok (.ireturn, 1) := by decide +kernel
theorem d_E_parameter_50 : decode b_E_parameter 50 = .ok (.aload_n 0, 1) := by decide +kernel
theorem d_E_parameter_51 : decode b_E_parameter 51 = .ok (.getfield 37, 3) := by decide +kernel
theorem d_E_parameter_54 : decode b_E_parameter 54 = .ok (.iload_n 1, 1) := by decide +kernel
theorem d_E_parameter_55 : decode b_E_parameter 55 = .ok (.iload_n 2, 1) := by decide +kernel
theorem d_E_parameter_56 : decode b_E_parameter 56 = .ok (.aload_n 0, 1) := by decide +kernel
theorem d_E_parameter_57 : decode b_E_parameter 57 = .ok (.getfield 21, 3) := by decide +kernel
theorem d_E_parameter_60 : decode b_E_parameter 60 = .ok (.getfield 113, 3) := by decide +kernel
theorem d_E_parameter_63 : decode b_E_parameter 63 = .ok (.invokevirtual 190, 3) := by decide +kernel
theorem d_E_parameter_66 : decode b_E_parameter 66 = .ok (.iload_n 3, 1) := by decide +kernel
theorem d_E_parameter_67 : decode b_E_parameter 67 = .ok (.lookupswitch 61 #[(0, 25), (1, 41)], 25) := by decide +kernel
theorem d_E_parameter_92 : decode b_E_parameter 92 = .ok (.aload_n 0, 1) := by decide +kernel
theorem d_E_parameter_93 : decode b_E_parameter 93 = .ok (.getfield 37, 3) := by decide +kernel
theorem d_E_parameter_96 : decode b_E_parameter 96 = .ok (.invokevirtual 193, 3) := by decide +kernel
theorem d_E_parameter_99 : decode b_E_parameter 99 = .ok (.ifCond .eq 7, 3) := by decide +kernel
theorem d_E_parameter_102 : decode b_E_parameter 102 = .ok (.iconst 1, 1) := by decide +kernel
theorem d_E_parameter_103 : decode b_E_parameter 103 = .ok (.goto 4, 3) := by decide +kernel
theorem d_E_parameter_106 : decode b_E_parameter 106 = .ok (.iconst 0, 1) := by decide +kernel
theorem d_E_parameter_107 : decode b_E_parameter 107 = .ok (.ireturn, 1) := by decide +kernel
theorem d_E_parameter_108 : decode b_E_parameter 108 = .ok (.aload_n 0, 1) := by decide +kernel
theorem d_E_parameter_109 : decode b_E_parameter 109 = .ok (.getfield 37, 3) := by decide +kernel
theorem d_E_parameter_112 : decode b_E_parameter 112 = .ok (.getfield 197, 3) := by decide +kernel
theorem d_E_parameter_115 : decode b_E_parameter 115 = .ok (.iload_n 1, 1) := by decide +kernel
theorem d_E_parameter_116 : decode b_E_parameter 116 = .ok (.invokestatic 187, 3) := by decide +kernel
theorem d_E_parameter_119 : decode b_E_parameter 119 = .ok (.ifCond .eq 7, 3) := by decide +kernel
theorem d_E_parameter_122 : decode b_E_parameter 122 = .ok (.iconst 1, 1) := by decide +kernel
theorem d_E_parameter_123 : decode b_E_parameter 123 = .ok (.goto 4, 3) := by decide +kernel
theorem d_E_parameter_126 : decode b_E_parameter 126 = .ok (.iconst 0, 1) := by decide +kernel
theorem d_E_parameter_127 : decode b_E_parameter 127 = .ok (.ireturn, 1) := by decide +kernel
theorem d_E_parameter_128 : decode b_E_parameter 128 = .ok (.aload_n 0, 1) := by decide +kernel
theorem d_E_parameter_129 : decode b_E_parameter 129 = .ok (.getfield 37, 3) := by decide +kernel
theorem d_E_parameter_132 : decode b_E_parameter 132 = .ok (.invokevirtual 200, 3) := by decide +kernel
theorem d_E_parameter_135 : decode b_E_parameter 135 = .ok (.ireturn, 1) := by decide +kernel
theorem d_E_idle_0 : decode b_E_idle 0 = .ok (.aload_n 0, 1) := by decide +kernel
theorem d_E_idle_1 : decode b_E_idle 1 = .ok (.iload_n 1, 1) := by decide +kernel
theorem d_E_idle_2 : decode b_E_idle 2 = .ok (.invokevirtual 91, 3) := by decide +kernel
theorem d_E_idle_5 : decode b_E_idle 5 = .ok (.ifCond .eq 16, 3) := by decide +kernel
theorem d_E_idle_8 : decode b_E_idle 8 = .ok (.aload_n 0, 1) := by decide +kernel
theorem d_E_idle_9 : decode b_E_idle 9 = .ok (.getfield 12, 3) := by decide +kernel
theorem d_E_idle_12 : decode b_E_idle 12 = .ok (.iload_n 1, 1) := by decide +kernel
theorem d_E_idle_13 : decode b_E_idle 13 = .ok (.invokevirtual 98, 3) := by decide +kernel
theorem d_E_idle_16 : decode b_E_idle 16 = .ok (.bipush 10, 2) := by decide +kernel
theorem d_E_idle_18 : decode b_E_idle 18 = .ok (.if_icmp .eq 6, 3) := by decide +kernel
theorem d_E_idle_21 : decode b_E_idle 21 = .ok (.bipush (-2), 2) := by decide +kernel
theorem d_E_idle_23 : decode b_E_idle 23 = .ok (.ireturn, 1) := by decide +kernel
theorem d_E_idle_24 : decode b_E_idle 24 = .ok (.aload_n 0, 1) := by decide +kernel
theorem d_E_idle_25 : decode b_E_idle 25 = .ok (.getfield 21, 3) := by decide +kernel
theorem d_E_idle_28 : decode b_E_idle 28 = .ok (.invokevirtual 107, 3) := by decide +kernel
theorem d_E_idle_31 : decode b_E_idle 31 = .ok (.aload_n 0, 1) := by decide +kernel
theorem d_E_idle_32 : decode b_E_idle 32 = .ok (.getfield 21, 3) := by decide +kernel
theorem d_E_idle_35 : decode b_E_idle 35 = .ok (.getfield 113, 3) := by decide +kernel
theorem d_E_idle_38 : decode b_E_idle 38 = .ok (.aload_n 0, 1) := by decide +kernel
theorem d_E_idle_39 : decode b_E_idle 39 = .ok (.getfield 12, 3) := by decide +kernel
theorem d_E_idle_42 : decode b_E_idle 42 = .ok (.iload_n 1, 1) := by decide +kernel
theorem d_E_idle_43 : decode b_E_idle 43 = .ok (.invokevirtual 94, 3) := by decide +kernel
theorem d_E_idle_46 : decode b_E_idle 46 = .ok (.invokestatic 187, 3) := by decide +kernel
theorem d_E_idle_49 : decode b_E_idle 49 = .ok (.ifCond .ne 5, 3) := by decide +kernel
theorem d_E_idle_52 : decode b_E_idle 52 = .ok (.iconst (-1), 1) := by decide +kernel
theorem d_E_idle_53 : decode b_E_idle 53 = .ok (.ireturn, 1) := by decide +kernel
theorem d_E_idle_54 : decode b_E_idle 54 = .ok (.aload_n 0, 1) := by decide +kernel
theorem d_E_idle_55 : decode b_E_idle 55 = .ok (.getfield 30, 3) := by decide +kernel
theorem d_E_idle_58 : decode b_E_idle 58 = .ok (.iload_n 1, 1) := by decide +kernel
theorem d_E_idle_59 : decode b_E_idle 59 = .ok (.invokevirtual 203, 3) := by decide +kernel
theorem d_E_idle_62 : decode b_E_idle 62 = .ok (.ifCond .eq 7, 3) := by decide +kernel
theorem d_E_idle_65 : decode b_E_idle 65 = .ok (.iconst 1, 1) := by decide +kernel
theorem d_E_idle_66 : decode b_E_idle 66 = .ok (.goto 4, 3) := by decide +kernel
theorem d_E_idle_69 : decode b_E_idle 69 = .ok (.iconst 0, 1) := by decide +kernel
theorem d_E_idle_70 : decode b_E_idle 70 = .ok (.ireturn, 1) := by decide +kernel
theorem d_E_calls_0 : decode b_E_calls 0 = .ok (.aload_n 0, 1) := by decide +kernel
theorem d_E_calls_1 : decode b_E_calls 1 = .ok (.iload_n 1, 1) := by decide +kernel
theorem d_E_calls_2 : decode b_E_calls 2 = .ok (.invokevirtual 58, 3) := by decide +kernel
theorem d_E_calls_5 : decode b_E_calls 5 = .ok (.ifCond .eq 11, 3) := by decide +kernel
theorem d_E_calls_8 : decode b_E_calls 8 = .ok (.iload_n 2, 1) := by decide +kernel
theorem d_E_calls_9 : decode b_E_calls 9 = .ok (.iconst 3, 1) := by decide +kernel
theorem d_E_calls_10 : decode b_E_calls 10 = .ok (.invokestatic 62, 3) := by decide +kernel
theorem d_E_calls_13 : decode b_E_calls 13 = .ok (.ifCond .ne 6, 3) := by decide +kernel
theorem d_E_calls_16 : decode b_E_calls 16 = .ok (.bipush (-2), 2) := by decide +kernel
theorem d_E_calls_18 : decode b_E_calls 18 = .ok (.ireturn, 1) := by decide +kernel
theorem d_E_calls_19 : decode b_E_calls 19 = .ok (.aload_n 0, 1) := by decide +kernel
theorem d_E_calls_20 : decode b_E_calls 20 = .ok (.getfield 21, 3) := by decide +kernel
theorem d_E_calls_23 : decode b_E_calls 23 = .ok (.invokevirtual 107, 3) := by decide +kernel
theorem d_E_calls_26 : decode b_E_calls 26 = .ok (.iload_n 2, 1) := by decide +kernel
theorem d_E_calls_27 : decode b_E_calls 27 = .ok (.lookupswitch 56 #[(0, 25), (1, 37)], 25) := by decide +kernel
theorem d_E_calls_52 : decode b_E_calls 52 = .ok (.aload_n 0, 1) := by decide +kernel
theorem d_E_calls_53 : decode b_E_calls 53 = .ok (.getfield 21, 3) := by decide +kernel
theorem d_E_calls_56 : decode b_E_calls 56 = .ok (.getfield 206, 3) := by decide +kernel
theorem d_E_calls_59 : decode b_E_calls 59 = .ok (.iload_n 1, 1) := by decide +kernel
theorem d_E_calls_60 : decode b_E_calls 60 = .ok (.invokestatic 156, 3) := by decide +kernel
theorem d_E_calls_63 : decode b_E_calls 63 = .ok (.ireturn, 1) := by decide +kernel
theorem d_E_calls_64 : decode b_E_calls 64 = .ok (.aload_n 0, 1) := by decide +kernel
theorem d_E_calls_65 : decode b_E_calls 65 = .ok (.getfield 21, 3) := by decide +kernel
theorem d_E_calls_68 : decode b_E_calls 68 = .ok (.aload_n 0, 1) := by decide +kernel
theorem d_E_calls_69 : decode b_E_calls 69 = .ok (.getfield 21, 3) := by decide +kernel
theorem d_E_calls_72 : decode b_E_calls 72 = .ok (.getfield 206, 3) := by decide +kernel
theorem d_E_calls_75 : decode b_E_calls 75 = .ok (.iload_n 1, 1) := by decide +kernel
theorem d_E_calls_76 : decode b_E_calls 76 = .ok (.invokestatic 156, 3) := by decide +kernel
theorem d_E_calls_79 : decode b_E_calls 79 = .ok (.invokevirtual 209, 3) := by decide +kernel
theorem d_E_calls_82 : decode b_E_calls 82 = .ok (.ireturn, 1) := by decide +kernel
theorem d_E_calls_83 : decode b_E_calls 83 = .ok (.aload_n 0, 1) := by decide +kernel
theorem d_E_calls_84 : decode b_E_calls 84 = .ok (.getfield 21, 3) := by decide +kernel
theorem d_E_calls_87 : decode b_E_calls 87 = .ok (.iload_n 1, 1) := by decide +kernel
theorem d_E_calls_88 : decode b_E_calls 88 = .ok (.invokevirtual 212, 3) := by decide +kernel
theorem d_E_calls_91 : decode b_E_calls 91 = .ok (.ireturn, 1) := by decide +kernel
theorem d_E_isMethod_0 : decode b_E_isMethod 0 = .ok (.iload_n 1, 1) := by decide +kernel
theorem d_E_isMethod_1 : decode b_E_isMethod 1 = .ok (.aload_n 0, 1) := by decide +kernel
theorem d_E_isMethod_2 : decode b_E_isMethod 2 = .ok (.getfield 12, 3) := by decide +kernel
theorem d_E_isMethod_5 : decode b_E_isMethod 5 = .ok (.getfield 51, 3) := by decide +kernel
theorem d_E_isMethod_8 : decode b_E_isMethod 8 = .ok (.invokestatic 62, 3) := by decide +kernel
theorem d_E_isMethod_11 : decode b_E_isMethod 11 = .ok (.ireturn, 1) := by decide +kernel
theorem d_E_isStep_0 : decode b_E_isStep 0 = .ok (.iload_n 1, 1) := by decide +kernel
theorem d_E_isStep_1 : decode b_E_isStep 1 = .ok (.aload_n 0, 1) := by decide +kernel
theorem d_E_isStep_2 : decode b_E_isStep 2 = .ok (.getfield 12, 3) := by decide +kernel
theorem d_E_isStep_5 : decode b_E_isStep 5 = .ok (.getfield 41, 3) := by decide +kernel
theorem d_E_isStep_8 : decode b_E_isStep 8 = .ok (.invokestatic 62, 3) := by decide +kernel
theorem d_E_isStep_11 : decode b_E_isStep 11 = .ok (.ireturn, 1) := by decide +kernel
theorem d_E_isSite_0 : decode b_E_isSite 0 = .ok (.iload_n 1, 1) := by decide +kernel
theorem d_E_isSite_1 : decode b_E_isSite 1 = .ok (.aload_n 0, 1) := by decide +kernel
theorem d_E_isSite_2 : decode b_E_isSite 2 = .ok (.getfield 12, 3) := by decide +kernel
theorem d_E_isSite_5 : decode b_E_isSite 5 = .ok (.getfield 110, 3) := by decide +kernel
theorem d_E_isSite_8 : decode b_E_isSite 8 = .ok (.invokestatic 62, 3) := by decide +kernel
theorem d_E_isSite_11 : decode b_E_isSite 11 = .ok (.ireturn, 1) := by decide +kernel
theorem d_E_isNameOrNone_0 : decode b_E_isNameOrNone 0 = .ok (.iload_n 0, 1) := by decide +kernel
theorem d_E_isNameOrNone_1 : decode b_E_isNameOrNone 1 = .ok (.iconst (-1), 1) := by decide +kernel
theorem d_E_isNameOrNone_2 : decode b_E_isNameOrNone 2 = .ok (.if_icmp .eq 12, 3) := by decide +kernel
theorem d_E_isNameOrNone_5 : decode b_E_isNameOrNone 5 = .ok (.iload_n 0, 1) := by decide +kernel
theorem d_E_isNameOrNone_6 : decode b_E_isNameOrNone 6 = .ok (.bipush 8, 2) := by decide +kernel
theorem d_E_isNameOrNone_8 : decode b_E_isNameOrNone 8 = .ok (.invokestatic 62, 3) := by decide +kernel
theorem d_E_isNameOrNone_11 : decode b_E_isNameOrNone 11 = .ok (.ifCond .eq 7, 3) := by decide +kernel
theorem d_E_isNameOrNone_14 : decode b_E_isNameOrNone 14 = .ok (.iconst 1, 1) := by decide +kernel
theorem d_E_isNameOrNone_15 : decode b_E_isNameOrNone 15 = .ok (.goto 4, 3) := by decide +kernel
theorem d_E_isNameOrNone_18 : decode b_E_isNameOrNone 18 = .ok (.iconst 0, 1) := by decide +kernel
theorem d_E_isNameOrNone_19 : decode b_E_isNameOrNone 19 = .ok (.ireturn, 1) := by decide +kernel
theorem d_E_isBelow_0 : decode b_E_isBelow 0 = .ok (.iload_n 0, 1) := by decide +kernel
theorem d_E_isBelow_1 : decode b_E_isBelow 1 = .ok (.ifCond .lt 12, 3) := by decide +kernel
theorem d_E_isBelow_4 : decode b_E_isBelow 4 = .ok (.iload_n 0, 1) := by decide +kernel
theorem d_E_isBelow_5 : decode b_E_isBelow 5 = .ok (.iload_n 1, 1) := by decide +kernel
theorem d_E_isBelow_6 : decode b_E_isBelow 6 = .ok (.if_icmp .ge 7, 3) := by decide +kernel
theorem d_E_isBelow_9 : decode b_E_isBelow 9 = .ok (.iconst 1, 1) := by decide +kernel
theorem d_E_isBelow_10 : decode b_E_isBelow 10 = .ok (.goto 4, 3) := by decide +kernel
theorem d_E_isBelow_13 : decode b_E_isBelow 13 = .ok (.iconst 0, 1) := by decide +kernel
theorem d_E_isBelow_14 : decode b_E_isBelow 14 = .ok (.ireturn, 1) := by decide +kernel
theorem d_E_limitOf_0 : decode b_E_limitOf 0 = .ok (.getstatic 215, 3) := by decide +kernel
theorem d_E_limitOf_3 : decode b_E_limitOf 3 = .ok (.iload_n 0, 1) := by decide +kernel
theorem d_E_limitOf_4 : decode b_E_limitOf 4 = .ok (.iconst 3, 1) := by decide +kernel
theorem d_E_limitOf_5 : decode b_E_limitOf 5 = .ok (.imul, 1) := by decide +kernel
theorem d_E_limitOf_6 : decode b_E_limitOf 6 = .ok (.iload_n 1, 1) := by decide +kernel
theorem d_E_limitOf_7 : decode b_E_limitOf 7 = .ok (.iadd, 1) := by decide +kernel
theorem d_E_limitOf_8 : decode b_E_limitOf 8 = .ok (.invokestatic 156, 3) := by decide +kernel
theorem d_E_limitOf_11 : decode b_E_limitOf 11 = .ok (.ireturn, 1) := by decide +kernel
theorem d_E_fits_0 : decode b_E_fits 0 = .ok (.iload_n 0, 1) := by decide +kernel
theorem d_E_fits_1 : decode b_E_fits 1 = .ok (.iload_n 1, 1) := by decide +kernel
theorem d_E_fits_2 : decode b_E_fits 2 = .ok (.invokestatic 218, 3) := by decide +kernel
theorem d_E_fits_5 : decode b_E_fits 5 = .ok (.istore_n 3, 1) := by decide +kernel
theorem d_E_fits_6 : decode b_E_fits 6 = .ok (.iload_n 3, 1) := by decide +kernel
theorem d_E_fits_7 : decode b_E_fits 7 = .ok (.ifCond .eq 11, 3) := by decide +kernel
theorem d_E_fits_10 : decode b_E_fits 10 = .ok (.iload_n 2, 1) := by decide +kernel
theorem d_E_fits_11 : decode b_E_fits 11 = .ok (.iload_n 3, 1) := by decide +kernel
theorem d_E_fits_12 : decode b_E_fits 12 = .ok (.invokestatic 62, 3) := by decide +kernel
theorem d_E_fits_15 : decode b_E_fits 15 = .ok (.ifCond .eq 7, 3) := by decide +kernel
theorem d_E_fits_18 : decode b_E_fits 18 = .ok (.iconst 1, 1) := by decide +kernel
theorem d_E_fits_19 : decode b_E_fits 19 = .ok (.goto 4, 3) := by decide +kernel
theorem d_E_fits_22 : decode b_E_fits 22 = .ok (.iconst 0, 1) := by decide +kernel
theorem d_E_fits_23 : decode b_E_fits 23 = .ok (.ireturn, 1) := by decide +kernel
theorem d_E_needed_0 : decode b_E_needed 0 = .ok (.iload_n 0, 1) := by decide +kernel
theorem d_E_needed_1 : decode b_E_needed 1 = .ok (.iload_n 1, 1) := by decide +kernel
theorem d_E_needed_2 : decode b_E_needed 2 = .ok (.invokestatic 218, 3) := by decide +kernel
theorem d_E_needed_5 : decode b_E_needed 5 = .ok (.ifCond .ne 7, 3) := by decide +kernel
theorem d_E_needed_8 : decode b_E_needed 8 = .ok (.iconst (-1), 1) := by decide +kernel
theorem d_E_needed_9 : decode b_E_needed 9 = .ok (.goto 4, 3) := by decide +kernel
theorem d_E_needed_12 : decode b_E_needed 12 = .ok (.iload_n 2, 1) := by decide +kernel
theorem d_E_needed_13 : decode b_E_needed 13 = .ok (.ireturn, 1) := by decide +kernel
theorem d_E_has_0 : decode b_E_has 0 = .ok (.iload_n 1, 1) := by decide +kernel
theorem d_E_has_1 : decode b_E_has 1 = .ok (.ifCond .lt 21, 3) := by decide +kernel
theorem d_E_has_4 : decode b_E_has 4 = .ok (.iload_n 1, 1) := by decide +kernel
theorem d_E_has_5 : decode b_E_has 5 = .ok (.bipush 32, 2) := by decide +kernel
theorem d_E_has_7 : decode b_E_has 7 = .ok (.if_icmp .ge 15, 3) := by decide +kernel
theorem d_E_has_10 : decode b_E_has 10 = .ok (.iload_n 0, 1) := by decide +kernel
theorem d_E_has_11 : decode b_E_has 11 = .ok (.iload_n 1, 1) := by decide +kernel
theorem d_E_has_12 : decode b_E_has 12 = .ok (.iushr, 1) := by decide +kernel
theorem d_E_has_13 : decode b_E_has 13 = .ok (.iconst 1, 1) := by decide +kernel
theorem d_E_has_14 : decode b_E_has 14 = .ok (.iand, 1) := by decide +kernel
theorem d_E_has_15 : decode b_E_has 15 = .ok (.ifCond .eq 7, 3) := by decide +kernel
theorem d_E_has_18 : decode b_E_has 18 = .ok (.iconst 1, 1) := by decide +kernel
theorem d_E_has_19 : decode b_E_has 19 = .ok (.goto 4, 3) := by decide +kernel
theorem d_E_has_22 : decode b_E_has 22 = .ok (.iconst 0, 1) := by decide +kernel
theorem d_E_has_23 : decode b_E_has 23 = .ok (.ireturn, 1) := by decide +kernel
theorem d_E_at_0 : decode b_E_at 0 = .ok (.iload_n 1, 1) := by decide +kernel
theorem d_E_at_1 : decode b_E_at 1 = .ok (.ifCond .lt 15, 3) := by decide +kernel
theorem d_E_at_4 : decode b_E_at 4 = .ok (.iload_n 1, 1) := by decide +kernel
theorem d_E_at_5 : decode b_E_at 5 = .ok (.aload_n 0, 1) := by decide +kernel
theorem d_E_at_6 : decode b_E_at 6 = .ok (.arraylength, 1) := by decide +kernel
theorem d_E_at_7 : decode b_E_at 7 = .ok (.if_icmp .ge 9, 3) := by decide +kernel
theorem d_E_at_10 : decode b_E_at 10 = .ok (.aload_n 0, 1) := by decide +kernel
theorem d_E_at_11 : decode b_E_at 11 = .ok (.iload_n 1, 1) := by decide +kernel
theorem d_E_at_12 : decode b_E_at 12 = .ok (.iaload, 1) := by decide +kernel
theorem d_E_at_13 : decode b_E_at 13 = .ok (.goto 4, 3) := by decide +kernel
theorem d_E_at_16 : decode b_E_at 16 = .ok (.iconst 0, 1) := by decide +kernel
theorem d_E_at_17 : decode b_E_at 17 = .ok (.ireturn, 1) := by decide +kernel
theorem d_E_put_0 : decode b_E_put 0 = .ok (.iload_n 1, 1) := by decide +kernel
theorem d_E_put_1 : decode b_E_put 1 = .ok (.ifCond .lt 13, 3) := by decide +kernel
theorem d_E_put_4 : decode b_E_put 4 = .ok (.iload_n 1, 1) := by decide +kernel
theorem d_E_put_5 : decode b_E_put 5 = .ok (.aload_n 0, 1) := by decide +kernel
theorem d_E_put_6 : decode b_E_put 6 = .ok (.arraylength, 1) := by decide +kernel
theorem d_E_put_7 : decode b_E_put 7 = .ok (.if_icmp .ge 7, 3) := by decide +kernel
theorem d_E_put_10 : decode b_E_put 10 = .ok (.aload_n 0, 1) := by decide +kernel
theorem d_E_put_11 : decode b_E_put 11 = .ok (.iload_n 1, 1) := by decide +kernel
theorem d_E_put_12 : decode b_E_put 12 = .ok (.iload_n 2, 1) := by decide +kernel
theorem d_E_put_13 : decode b_E_put 13 = .ok (.iastore, 1) := by decide +kernel
theorem d_E_put_14 : decode b_E_put 14 = .ok (.return_, 1) := by decide +kernel
theorem d_E_fill_0 : decode b_E_fill 0 = .ok (.iconst 0, 1) := by decide +kernel
theorem d_E_fill_1 : decode b_E_fill 1 = .ok (.istore_n 2, 1) := by decide +kernel
theorem d_E_fill_2 : decode b_E_fill 2 = .ok (.iload_n 2, 1) := by decide +kernel
theorem d_E_fill_3 : decode b_E_fill 3 = .ok (.aload_n 0, 1) := by decide +kernel
theorem d_E_fill_4 : decode b_E_fill 4 = .ok (.arraylength, 1) := by decide +kernel
theorem d_E_fill_5 : decode b_E_fill 5 = .ok (.if_icmp .ge 13, 3) := by decide +kernel
theorem d_E_fill_8 : decode b_E_fill 8 = .ok (.aload_n 0, 1) := by decide +kernel
theorem d_E_fill_9 : decode b_E_fill 9 = .ok (.iload_n 2, 1) := by decide +kernel
theorem d_E_fill_10 : decode b_E_fill 10 = .ok (.iload_n 1, 1) := by decide +kernel
theorem d_E_fill_11 : decode b_E_fill 11 = .ok (.iastore, 1) := by decide +kernel
theorem d_E_fill_12 : decode b_E_fill 12 = .ok (.iinc 2 1, 3) := by decide +kernel
theorem d_E_fill_15 : decode b_E_fill 15 = .ok (.goto (-13), 3) := by decide +kernel
theorem d_E_fill_18 : decode b_E_fill 18 = .ok (.return_, 1) := by decide +kernel
theorem d_E_join_0 : decode b_E_join 0 = .ok (.iload_n 1, 1) := by decide +kernel
theorem d_E_join_1 : decode b_E_join 1 = .ok (.ifCond .lt 9, 3) := by decide +kernel
theorem d_E_join_4 : decode b_E_join 4 = .ok (.iload_n 1, 1) := by decide +kernel
theorem d_E_join_5 : decode b_E_join 5 = .ok (.aload_n 0, 1) := by decide +kernel
theorem d_E_join_6 : decode b_E_join 6 = .ok (.arraylength, 1) := by decide +kernel
theorem d_E_join_7 : decode b_E_join 7 = .ok (.if_icmp .lt 5, 3) := by decide +kernel
theorem d_E_join_10 : decode b_E_join 10 = .ok (.iconst 0, 1) := by decide +kernel
theorem d_E_join_11 : decode b_E_join 11 = .ok (.ireturn, 1) := by decide +kernel
theorem d_E_join_12 : decode b_E_join 12 = .ok (.aload_n 0, 1) := by decide +kernel
theorem d_E_join_13 : decode b_E_join 13 = .ok (.iload_n 1, 1) := by decide +kernel
theorem d_E_join_14 : decode b_E_join 14 = .ok (.iaload, 1) := by decide +kernel
theorem d_E_join_15 : decode b_E_join 15 = .ok (.istore_n 3, 1) := by decide +kernel
theorem d_E_join_16 : decode b_E_join 16 = .ok (.aload_n 0, 1) := by decide +kernel
theorem d_E_join_17 : decode b_E_join 17 = .ok (.iload_n 1, 1) := by decide +kernel
theorem d_E_join_18 : decode b_E_join 18 = .ok (.iload_n 3, 1) := by decide +kernel
theorem d_E_join_19 : decode b_E_join 19 = .ok (.iload_n 2, 1) := by decide +kernel
theorem d_E_join_20 : decode b_E_join 20 = .ok (.ior, 1) := by decide +kernel
theorem d_E_join_21 : decode b_E_join 21 = .ok (.iastore, 1) := by decide +kernel
theorem d_E_join_22 : decode b_E_join 22 = .ok (.aload_n 0, 1) := by decide +kernel
theorem d_E_join_23 : decode b_E_join 23 = .ok (.iload_n 1, 1) := by decide +kernel
theorem d_E_join_24 : decode b_E_join 24 = .ok (.iaload, 1) := by decide +kernel
theorem d_E_join_25 : decode b_E_join 25 = .ok (.iload_n 3, 1) := by decide +kernel
theorem d_E_join_26 : decode b_E_join 26 = .ok (.if_icmp .eq 7, 3) := by decide +kernel
theorem d_E_join_29 : decode b_E_join 29 = .ok (.iconst 1, 1) := by decide +kernel
theorem d_E_join_30 : decode b_E_join 30 = .ok (.goto 4, 3) := by decide +kernel
theorem d_E_join_33 : decode b_E_join 33 = .ok (.iconst 0, 1) := by decide +kernel
theorem d_E_join_34 : decode b_E_join 34 = .ok (.ireturn, 1) := by decide +kernel
theorem d_P_init_0 : decode b_P_init 0 = .ok (.aload_n 0, 1) := by decide +kernel
theorem d_P_init_1 : decode b_P_init 1 = .ok (.invokespecial 3, 3) := by decide +kernel
theorem d_P_init_4 : decode b_P_init 4 = .ok (.aload_n 0, 1) := by decide +kernel
theorem d_P_init_5 : decode b_P_init 5 = .ok (.iconst 1, 1) := by decide +kernel
theorem d_P_init_6 : decode b_P_init 6 = .ok (.putfield 9, 3) := by decide +kernel
theorem d_P_init_9 : decode b_P_init 9 = .ok (.aload_n 0, 1) := by decide +kernel
theorem d_P_init_10 : decode b_P_init 10 = .ok (.iconst 0, 1) := by decide +kernel
theorem d_P_init_11 : decode b_P_init 11 = .ok (.putfield 15, 3) := by decide +kernel
theorem d_P_init_14 : decode b_P_init 14 = .ok (.aload_n 0, 1) := by decide +kernel
theorem d_P_init_15 : decode b_P_init 15 = .ok (.iconst 0, 1) := by decide +kernel
theorem d_P_init_16 : decode b_P_init 16 = .ok (.putfield 18, 3) := by decide +kernel
theorem d_P_init_19 : decode b_P_init 19 = .ok (.aload_n 0, 1) := by decide +kernel
theorem d_P_init_20 : decode b_P_init 20 = .ok (.bipush 64, 2) := by decide +kernel
theorem d_P_init_22 : decode b_P_init 22 = .ok (.newarray .int, 2) := by decide +kernel
theorem d_P_init_24 : decode b_P_init 24 = .ok (.putfield 21, 3) := by decide +kernel
theorem d_P_init_27 : decode b_P_init 27 = .ok (.aload_n 0, 1) := by decide +kernel
theorem d_P_init_28 : decode b_P_init 28 = .ok (.bipush 64, 2) := by decide +kernel
theorem d_P_init_30 : decode b_P_init 30 = .ok (.newarray .int, 2) := by decide +kernel
theorem d_P_init_32 : decode b_P_init 32 = .ok (.putfield 25, 3) := by decide +kernel
theorem d_P_init_35 : decode b_P_init 35 = .ok (.aload_n 0, 1) := by decide +kernel
theorem d_P_init_36 : decode b_P_init 36 = .ok (.bipush 64, 2) := by decide +kernel
theorem d_P_init_38 : decode b_P_init 38 = .ok (.newarray .int, 2) := by decide +kernel
theorem d_P_init_40 : decode b_P_init 40 = .ok (.putfield 28, 3) := by decide +kernel
theorem d_P_init_43 : decode b_P_init 43 = .ok (.aload_n 0, 1) := by decide +kernel
theorem d_P_init_44 : decode b_P_init 44 = .ok (.sipush 320, 3) := by decide +kernel
theorem d_P_init_47 : decode b_P_init 47 = .ok (.newarray .int, 2) := by decide +kernel
theorem d_P_init_49 : decode b_P_init 49 = .ok (.putfield 31, 3) := by decide +kernel
theorem d_P_init_52 : decode b_P_init 52 = .ok (.aload_n 0, 1) := by decide +kernel
theorem d_P_init_53 : decode b_P_init 53 = .ok (.bipush 16, 2) := by decide +kernel
theorem d_P_init_55 : decode b_P_init 55 = .ok (.newarray .int, 2) := by decide +kernel
theorem d_P_init_57 : decode b_P_init 57 = .ok (.putfield 34, 3) := by decide +kernel
theorem d_P_init_60 : decode b_P_init 60 = .ok (.return_, 1) := by decide +kernel
theorem d_P_empty_0 : decode b_P_empty 0 = .ok (.aload_n 0, 1) := by decide +kernel
theorem d_P_empty_1 : decode b_P_empty 1 = .ok (.iconst 1, 1) := by decide +kernel
theorem d_P_empty_2 : decode b_P_empty 2 = .ok (.putfield 9, 3) := by decide +kernel
theorem d_P_empty_5 : decode b_P_empty 5 = .ok (.aload_n 0, 1) := by decide +kernel
theorem d_P_empty_6 : decode b_P_empty 6 = .ok (.iconst 0, 1) := by decide +kernel
theorem d_P_empty_7 : decode b_P_empty 7 = .ok (.putfield 15, 3) := by decide +kernel
theorem d_P_empty_10 : decode b_P_empty 10 = .ok (.aload_n 0, 1) := by decide +kernel
theorem d_P_empty_11 : decode b_P_empty 11 = .ok (.iconst 0, 1) := by decide +kernel
theorem d_P_empty_12 : decode b_P_empty 12 = .ok (.putfield 18, 3) := by decide +kernel
theorem d_P_empty_15 : decode b_P_empty 15 = .ok (.return_, 1) := by decide +kernel
theorem d_P_addMethod_0 : decode b_P_addMethod 0 = .ok (.aload_n 0, 1) := by decide +kernel
theorem d_P_addMethod_1 : decode b_P_addMethod 1 = .ok (.dup, 1) := by decide +kernel
theorem d_P_addMethod_2 : decode b_P_addMethod 2 = .ok (.getfield 9, 3) := by decide +kernel
theorem d_P_addMethod_5 : decode b_P_addMethod 5 = .ok (.iconst 1, 1) := by decide +kernel
theorem d_P_addMethod_6 : decode b_P_addMethod 6 = .ok (.iadd, 1) := by decide +kernel
theorem d_P_addMethod_7 : decode b_P_addMethod 7 = .ok (.putfield 9, 3) := by decide +kernel
theorem d_P_addMethod_10 : decode b_P_addMethod 10 = .ok (.aload_n 0, 1) := by decide +kernel
theorem d_P_addMethod_11 : decode b_P_addMethod 11 = .ok (.getfield 9, 3) := by decide +kernel
theorem d_P_addMethod_14 : decode b_P_addMethod 14 = .ok (.iconst 1, 1) := by decide +kernel
theorem d_P_addMethod_15 : decode b_P_addMethod 15 = .ok (.isub, 1) := by decide +kernel
theorem d_P_addMethod_16 : decode b_P_addMethod 16 = .ok (.ireturn, 1) := by decide +kernel
theorem d_P_hasRoomFor_0 : decode b_P_hasRoomFor 0 = .ok (.aload_n 0, 1) := by decide +kernel
theorem d_P_hasRoomFor_1 : decode b_P_hasRoomFor 1 = .ok (.getfield 15, 3) := by decide +kernel
theorem d_P_hasRoomFor_4 : decode b_P_hasRoomFor 4 = .ok (.bipush 64, 2) := by decide +kernel
theorem d_P_hasRoomFor_6 : decode b_P_hasRoomFor 6 = .ok (.if_icmp .ge 20, 3) := by decide +kernel
theorem d_P_hasRoomFor_9 : decode b_P_hasRoomFor 9 = .ok (.iload_n 1, 1) := by decide +kernel
theorem d_P_hasRoomFor_10 : decode b_P_hasRoomFor 10 = .ok (.ifCond .ne 12, 3) := by decide +kernel
theorem d_P_hasRoomFor_13 : decode b_P_hasRoomFor 13 = .ok (.aload_n 0, 1) := by decide +kernel
theorem d_P_hasRoomFor_14 : decode b_P_hasRoomFor 14 = .ok (.getfield 18, 3) := by decide +kernel
theorem d_P_hasRoomFor_17 : decode b_P_hasRoomFor 17 = .ok (.bipush 16, 2) := by decide +kernel
theorem d_P_hasRoomFor_19 : decode b_P_hasRoomFor 19 = .ok (.if_icmp .ge 7, 3) := by decide +kernel
theorem d_P_hasRoomFor_22 : decode b_P_hasRoomFor 22 = .ok (.iconst 1, 1) := by decide +kernel
theorem d_P_hasRoomFor_23 : decode b_P_hasRoomFor 23 = .ok (.goto 4, 3) := by decide +kernel
theorem d_P_hasRoomFor_26 : decode b_P_hasRoomFor 26 = .ok (.iconst 0, 1) := by decide +kernel
theorem d_P_hasRoomFor_27 : decode b_P_hasRoomFor 27 = .ok (.ireturn, 1) := by decide +kernel
theorem d_P_addStep_0 : decode b_P_addStep 0 = .ok (.aload_n 0, 1) := by decide +kernel
theorem d_P_addStep_1 : decode b_P_addStep 1 = .ok (.getfield 15, 3) := by decide +kernel
theorem d_P_addStep_4 : decode b_P_addStep 4 = .ok (.istore_n 3, 1) := by decide +kernel
theorem d_P_addStep_5 : decode b_P_addStep 5 = .ok (.aload_n 0, 1) := by decide +kernel
theorem d_P_addStep_6 : decode b_P_addStep 6 = .ok (.getfield 21, 3) := by decide +kernel
theorem d_P_addStep_9 : decode b_P_addStep 9 = .ok (.iload_n 3, 1) := by decide +kernel
theorem d_P_addStep_10 : decode b_P_addStep 10 = .ok (.iload_n 1, 1) := by decide +kernel
theorem d_P_addStep_11 : decode b_P_addStep 11 = .ok (.invokestatic 37, 3) := by decide +kernel
theorem d_P_addStep_14 : decode b_P_addStep 14 = .ok (.aload_n 0, 1) := by decide +kernel
theorem d_P_addStep_15 : decode b_P_addStep 15 = .ok (.getfield 25, 3) := by decide +kernel
theorem d_P_addStep_18 : decode b_P_addStep 18 = .ok (.iload_n 3, 1) := by decide +kernel
theorem d_P_addStep_19 : decode b_P_addStep 19 = .ok (.iload_n 2, 1) := by decide +kernel
theorem d_P_addStep_20 : decode b_P_addStep 20 = .ok (.invokestatic 37, 3) := by decide +kernel
theorem d_P_addStep_23 : decode b_P_addStep 23 = .ok (.aload_n 0, 1) := by decide +kernel
theorem d_P_addStep_24 : decode b_P_addStep 24 = .ok (.getfield 28, 3) := by decide +kernel
theorem d_P_addStep_27 : decode b_P_addStep 27 = .ok (.iload_n 3, 1) := by decide +kernel
theorem d_P_addStep_28 : decode b_P_addStep 28 = .ok (.iconst (-1), 1) := by decide +kernel
theorem d_P_addStep_29 : decode b_P_addStep 29 = .ok (.invokestatic 37, 3) := by decide +kernel
theorem d_P_addStep_32 : decode b_P_addStep 32 = .ok (.iconst 0, 1) := by decide +kernel
theorem d_P_addStep_33 : decode b_P_addStep 33 = .ok (.istore 4, 2) := by decide +kernel
theorem d_P_addStep_35 : decode b_P_addStep 35 = .ok (.iload 4, 2) := by decide +kernel
theorem d_P_addStep_37 : decode b_P_addStep 37 = .ok (.iconst 5, 1) := by decide +kernel
theorem d_P_addStep_38 : decode b_P_addStep 38 = .ok (.if_icmp .ge 17, 3) := by decide +kernel
theorem d_P_addStep_41 : decode b_P_addStep 41 = .ok (.aload_n 0, 1) := by decide +kernel
theorem d_P_addStep_42 : decode b_P_addStep 42 = .ok (.iload_n 3, 1) := by decide +kernel
theorem d_P_addStep_43 : decode b_P_addStep 43 = .ok (.iload 4, 2) := by decide +kernel
theorem d_P_addStep_45 : decode b_P_addStep 45 = .ok (.iconst (-1), 1) := by decide +kernel
theorem d_P_addStep_46 : decode b_P_addStep 46 = .ok (.invokevirtual 41, 3) := by decide +kernel
theorem d_P_addStep_49 : decode b_P_addStep 49 = .ok (.iinc 4 1, 3) := by decide +kernel
theorem d_P_addStep_52 : decode b_P_addStep 52 = .ok (.goto (-17), 3) := by decide +kernel
theorem d_P_addStep_55 : decode b_P_addStep 55 = .ok (.iload_n 2, 1) := by decide +kernel
theorem d_P_addStep_56 : decode b_P_addStep 56 = .ok (.ifCond .ne 37, 3) := by decide +kernel
theorem d_P_addStep_59 : decode b_P_addStep 59 = .ok (.aload_n 0, 1) := by decide +kernel
theorem d_P_addStep_60 : decode b_P_addStep 60 = .ok (.getfield 28, 3) := by decide +kernel
theorem d_P_addStep_63 : decode b_P_addStep 63 = .ok (.iload_n 3, 1) := by decide +kernel
theorem d_P_addStep_64 : decode b_P_addStep 64 = .ok (.aload_n 0, 1) := by decide +kernel
theorem d_P_addStep_65 : decode b_P_addStep 65 = .ok (.getfield 18, 3) := by decide +kernel
theorem d_P_addStep_68 : decode b_P_addStep 68 = .ok (.invokestatic 37, 3) := by decide +kernel
theorem d_P_addStep_71 : decode b_P_addStep 71 = .ok (.aload_n 0, 1) := by decide +kernel
theorem d_P_addStep_72 : decode b_P_addStep 72 = .ok (.getfield 34, 3) := by decide +kernel
theorem d_P_addStep_75 : decode b_P_addStep 75 = .ok (.aload_n 0, 1) := by decide +kernel
theorem d_P_addStep_76 : decode b_P_addStep 76 = .ok (.getfield 18, 3) := by decide +kernel
theorem d_P_addStep_79 : decode b_P_addStep 79 = .ok (.iload_n 3, 1) := by decide +kernel
theorem d_P_addStep_80 : decode b_P_addStep 80 = .ok (.invokestatic 37, 3) := by decide +kernel
theorem d_P_addStep_83 : decode b_P_addStep 83 = .ok (.aload_n 0, 1) := by decide +kernel
theorem d_P_addStep_84 : decode b_P_addStep 84 = .ok (.dup, 1) := by decide +kernel
theorem d_P_addStep_85 : decode b_P_addStep 85 = .ok (.getfield 18, 3) := by decide +kernel
theorem d_P_addStep_88 : decode b_P_addStep 88 = .ok (.iconst 1, 1) := by decide +kernel
theorem d_P_addStep_89 : decode b_P_addStep 89 = .ok (.iadd, 1) := by decide +kernel
theorem d_P_addStep_90 : decode b_P_addStep 90 = .ok (.putfield 18, 3) := by decide +kernel
theorem d_P_addStep_93 : decode b_P_addStep 93 = .ok (.aload_n 0, 1) := by decide +kernel
theorem d_P_addStep_94 : decode b_P_addStep 94 = .ok (.dup, 1) := by decide +kernel
theorem d_P_addStep_95 : decode b_P_addStep 95 = .ok (.getfield 15, 3) := by decide +kernel
theorem d_P_addStep_98 : decode b_P_addStep 98 = .ok (.iconst 1, 1) := by decide +kernel
theorem d_P_addStep_99 : decode b_P_addStep 99 = .ok (.iadd, 1) := by decide +kernel
theorem d_P_addStep_100 : decode b_P_addStep 100 = .ok (.putfield 15, 3) := by decide +kernel
theorem d_P_addStep_103 : decode b_P_addStep 103 = .ok (.iload_n 3, 1) := by decide +kernel
theorem d_P_addStep_104 : decode b_P_addStep 104 = .ok (.ireturn, 1) := by decide +kernel
theorem d_P_dropStep_0 : decode b_P_dropStep 0 = .ok (.aload_n 0, 1) := by decide +kernel
theorem d_P_dropStep_1 : decode b_P_dropStep 1 = .ok (.dup, 1) := by decide +kernel
theorem d_P_dropStep_2 : decode b_P_dropStep 2 = .ok (.getfield 15, 3) := by decide +kernel
theorem d_P_dropStep_5 : decode b_P_dropStep 5 = .ok (.iconst 1, 1) := by decide +kernel
theorem d_P_dropStep_6 : decode b_P_dropStep 6 = .ok (.isub, 1) := by decide +kernel
theorem d_P_dropStep_7 : decode b_P_dropStep 7 = .ok (.putfield 15, 3) := by decide +kernel
theorem d_P_dropStep_10 : decode b_P_dropStep 10 = .ok (.aload_n 0, 1) := by decide +kernel
theorem d_P_dropStep_11 : decode b_P_dropStep 11 = .ok (.aload_n 0, 1) := by decide +kernel
theorem d_P_dropStep_12 : decode b_P_dropStep 12 = .ok (.getfield 15, 3) := by decide +kernel
theorem d_P_dropStep_15 : decode b_P_dropStep 15 = .ok (.invokevirtual 45, 3) := by decide +kernel
theorem d_P_dropStep_18 : decode b_P_dropStep 18 = .ok (.ifCond .ne 13, 3) := by decide +kernel
theorem d_P_dropStep_21 : decode b_P_dropStep 21 = .ok (.aload_n 0, 1) := by decide +kernel
theorem d_P_dropStep_22 : decode b_P_dropStep 22 = .ok (.dup, 1) := by decide +kernel
theorem d_P_dropStep_23 : decode b_P_dropStep 23 = .ok (.getfield 18, 3) := by decide +kernel
theorem d_P_dropStep_26 : decode b_P_dropStep 26 = .ok (.iconst 1, 1) := by decide +kernel
theorem d_P_dropStep_27 : decode b_P_dropStep 27 = .ok (.isub, 1) := by decide +kernel
theorem d_P_dropStep_28 : decode b_P_dropStep 28 = .ok (.putfield 18, 3) := by decide +kernel
theorem d_P_dropStep_31 : decode b_P_dropStep 31 = .ok (.aload_n 0, 1) := by decide +kernel
theorem d_P_dropStep_32 : decode b_P_dropStep 32 = .ok (.getfield 15, 3) := by decide +kernel
theorem d_P_dropStep_35 : decode b_P_dropStep 35 = .ok (.ireturn, 1) := by decide +kernel
theorem d_P_setNeed_0 : decode b_P_setNeed 0 = .ok (.aload_n 0, 1) := by decide +kernel
theorem d_P_setNeed_1 : decode b_P_setNeed 1 = .ok (.getfield 31, 3) := by decide +kernel
theorem d_P_setNeed_4 : decode b_P_setNeed 4 = .ok (.iload_n 1, 1) := by decide +kernel
theorem d_P_setNeed_5 : decode b_P_setNeed 5 = .ok (.iconst 5, 1) := by decide +kernel
theorem d_P_setNeed_6 : decode b_P_setNeed 6 = .ok (.imul, 1) := by decide +kernel
theorem d_P_setNeed_7 : decode b_P_setNeed 7 = .ok (.iload_n 2, 1) := by decide +kernel
theorem d_P_setNeed_8 : decode b_P_setNeed 8 = .ok (.iadd, 1) := by decide +kernel
theorem d_P_setNeed_9 : decode b_P_setNeed 9 = .ok (.iload_n 3, 1) := by decide +kernel
theorem d_P_setNeed_10 : decode b_P_setNeed 10 = .ok (.invokestatic 37, 3) := by decide +kernel
theorem d_P_setNeed_13 : decode b_P_setNeed 13 = .ok (.return_, 1) := by decide +kernel
theorem d_P_need_0 : decode b_P_need 0 = .ok (.aload_n 0, 1) := by decide +kernel
theorem d_P_need_1 : decode b_P_need 1 = .ok (.getfield 31, 3) := by decide +kernel
theorem d_P_need_4 : decode b_P_need 4 = .ok (.iload_n 1, 1) := by decide +kernel
theorem d_P_need_5 : decode b_P_need 5 = .ok (.iconst 5, 1) := by decide +kernel
theorem d_P_need_6 : decode b_P_need 6 = .ok (.imul, 1) := by decide +kernel
theorem d_P_need_7 : decode b_P_need 7 = .ok (.iload_n 2, 1) := by decide +kernel
theorem d_P_need_8 : decode b_P_need 8 = .ok (.iadd, 1) := by decide +kernel
theorem d_P_need_9 : decode b_P_need 9 = .ok (.invokestatic 49, 3) := by decide +kernel
theorem d_P_need_12 : decode b_P_need 12 = .ok (.ireturn, 1) := by decide +kernel
theorem d_P_owner_0 : decode b_P_owner 0 = .ok (.aload_n 0, 1) := by decide +kernel
theorem d_P_owner_1 : decode b_P_owner 1 = .ok (.getfield 21, 3) := by decide +kernel
theorem d_P_owner_4 : decode b_P_owner 4 = .ok (.iload_n 1, 1) := by decide +kernel
theorem d_P_owner_5 : decode b_P_owner 5 = .ok (.invokestatic 49, 3) := by decide +kernel
theorem d_P_owner_8 : decode b_P_owner 8 = .ok (.ireturn, 1) := by decide +kernel
theorem d_P_kind_0 : decode b_P_kind 0 = .ok (.aload_n 0, 1) := by decide +kernel
theorem d_P_kind_1 : decode b_P_kind 1 = .ok (.getfield 25, 3) := by decide +kernel
theorem d_P_kind_4 : decode b_P_kind 4 = .ok (.iload_n 1, 1) := by decide +kernel
theorem d_P_kind_5 : decode b_P_kind 5 = .ok (.invokestatic 49, 3) := by decide +kernel
theorem d_P_kind_8 : decode b_P_kind 8 = .ok (.ireturn, 1) := by decide +kernel
theorem d_P_siteOf_0 : decode b_P_siteOf 0 = .ok (.aload_n 0, 1) := by decide +kernel
theorem d_P_siteOf_1 : decode b_P_siteOf 1 = .ok (.getfield 28, 3) := by decide +kernel
theorem d_P_siteOf_4 : decode b_P_siteOf 4 = .ok (.iload_n 1, 1) := by decide +kernel
theorem d_P_siteOf_5 : decode b_P_siteOf 5 = .ok (.invokestatic 49, 3) := by decide +kernel
theorem d_P_siteOf_8 : decode b_P_siteOf 8 = .ok (.ireturn, 1) := by decide +kernel
theorem d_P_maker_0 : decode b_P_maker 0 = .ok (.aload_n 0, 1) := by decide +kernel
theorem d_P_maker_1 : decode b_P_maker 1 = .ok (.getfield 34, 3) := by decide +kernel
theorem d_P_maker_4 : decode b_P_maker 4 = .ok (.iload_n 1, 1) := by decide +kernel
theorem d_P_maker_5 : decode b_P_maker 5 = .ok (.invokestatic 49, 3) := by decide +kernel
theorem d_P_maker_8 : decode b_P_maker 8 = .ok (.ireturn, 1) := by decide +kernel
theorem d_P_methodOfSite_0 : decode b_P_methodOfSite 0 = .ok (.aload_n 0, 1) := by decide +kernel
theorem d_P_methodOfSite_1 : decode b_P_methodOfSite 1 = .ok (.aload_n 0, 1) := by decide +kernel
theorem d_P_methodOfSite_2 : decode b_P_methodOfSite 2 = .ok (.iload_n 1, 1) := by decide +kernel
theorem d_P_methodOfSite_3 : decode b_P_methodOfSite 3 = .ok (.invokevirtual 53, 3) := by decide +kernel
theorem d_P_methodOfSite_6 : decode b_P_methodOfSite 6 = .ok (.invokevirtual 56, 3) := by decide +kernel
theorem d_P_methodOfSite_9 : decode b_P_methodOfSite 9 = .ok (.ireturn, 1) := by decide +kernel
theorem d_P_isIn_0 : decode b_P_isIn 0 = .ok (.iload_n 1, 1) := by decide +kernel
theorem d_P_isIn_1 : decode b_P_isIn 1 = .ok (.aload_n 0, 1) := by decide +kernel
theorem d_P_isIn_2 : decode b_P_isIn 2 = .ok (.iload_n 2, 1) := by decide +kernel
theorem d_P_isIn_3 : decode b_P_isIn 3 = .ok (.invokevirtual 56, 3) := by decide +kernel
theorem d_P_isIn_6 : decode b_P_isIn 6 = .ok (.invokestatic 59, 3) := by decide +kernel
theorem d_P_isIn_9 : decode b_P_isIn 9 = .ok (.ireturn, 1) := by decide +kernel
theorem d_P_madeBy_0 : decode b_P_madeBy 0 = .ok (.iconst 0, 1) := by decide +kernel
theorem d_P_madeBy_1 : decode b_P_madeBy 1 = .ok (.istore_n 2, 1) := by decide +kernel
theorem d_P_madeBy_2 : decode b_P_madeBy 2 = .ok (.iconst 0, 1) := by decide +kernel
theorem d_P_madeBy_3 : decode b_P_madeBy 3 = .ok (.istore_n 3, 1) := by decide +kernel
theorem d_P_madeBy_4 : decode b_P_madeBy 4 = .ok (.iload_n 3, 1) := by decide +kernel
theorem d_P_madeBy_5 : decode b_P_madeBy 5 = .ok (.aload_n 0, 1) := by decide +kernel
theorem d_P_madeBy_6 : decode b_P_madeBy 6 = .ok (.getfield 18, 3) := by decide +kernel
theorem d_P_madeBy_9 : decode b_P_madeBy 9 = .ok (.if_icmp .ge 27, 3) := by decide +kernel
theorem d_P_madeBy_12 : decode b_P_madeBy 12 = .ok (.iload_n 1, 1) := by decide +kernel
theorem d_P_madeBy_13 : decode b_P_madeBy 13 = .ok (.aload_n 0, 1) := by decide +kernel
theorem d_P_madeBy_14 : decode b_P_madeBy 14 = .ok (.iload_n 3, 1) := by decide +kernel
theorem d_P_madeBy_15 : decode b_P_madeBy 15 = .ok (.invokevirtual 63, 3) := by decide +kernel
theorem d_P_madeBy_18 : decode b_P_madeBy 18 = .ok (.invokestatic 59, 3) := by decide +kernel
theorem d_P_madeBy_21 : decode b_P_madeBy 21 = .ok (.ifCond .eq 9, 3) := by decide +kernel
theorem d_P_madeBy_24 : decode b_P_madeBy 24 = .ok (.iload_n 2, 1) := by decide +kernel
theorem d_P_madeBy_25 : decode b_P_madeBy 25 = .ok (.iconst 1, 1) := by decide +kernel
theorem d_P_madeBy_26 : decode b_P_madeBy 26 = .ok (.iload_n 3, 1) := by decide +kernel
theorem d_P_madeBy_27 : decode b_P_madeBy 27 = .ok (.ishl, 1) := by decide +kernel
theorem d_P_madeBy_28 : decode b_P_madeBy 28 = .ok (.ior, 1) := by decide +kernel
theorem d_P_madeBy_29 : decode b_P_madeBy 29 = .ok (.istore_n 2, 1) := by decide +kernel
theorem d_P_madeBy_30 : decode b_P_madeBy 30 = .ok (.iinc 3 1, 3) := by decide +kernel
theorem d_P_madeBy_33 : decode b_P_madeBy 33 = .ok (.goto (-29), 3) := by decide +kernel
theorem d_P_madeBy_36 : decode b_P_madeBy 36 = .ok (.iload_n 2, 1) := by decide +kernel
theorem d_P_madeBy_37 : decode b_P_madeBy 37 = .ok (.ireturn, 1) := by decide +kernel
theorem d_S_init_0 : decode b_S_init 0 = .ok (.aload_n 0, 1) := by decide +kernel
theorem d_S_init_1 : decode b_S_init 1 = .ok (.invokespecial 3, 3) := by decide +kernel
theorem d_S_init_4 : decode b_S_init 4 = .ok (.aload_n 0, 1) := by decide +kernel
theorem d_S_init_5 : decode b_S_init 5 = .ok (.aload_n 1, 1) := by decide +kernel
theorem d_S_init_6 : decode b_S_init 6 = .ok (.putfield 9, 3) := by decide +kernel
theorem d_S_init_9 : decode b_S_init 9 = .ok (.aload_n 0, 1) := by decide +kernel
theorem d_S_init_10 : decode b_S_init 10 = .ok (.bipush 8, 2) := by decide +kernel
theorem d_S_init_12 : decode b_S_init 12 = .ok (.newarray .int, 2) := by decide +kernel
theorem d_S_init_14 : decode b_S_init 14 = .ok (.putfield 15, 3) := by decide +kernel
theorem d_S_init_17 : decode b_S_init 17 = .ok (.aload_n 0, 1) := by decide +kernel
theorem d_S_init_18 : decode b_S_init 18 = .ok (.bipush 64, 2) := by decide +kernel
theorem d_S_init_20 : decode b_S_init 20 = .ok (.newarray .int, 2) := by decide +kernel
theorem d_S_init_22 : decode b_S_init 22 = .ok (.putfield 19, 3) := by decide +kernel
theorem d_S_init_25 : decode b_S_init 25 = .ok (.aload_n 0, 1) := by decide +kernel
theorem d_S_init_26 : decode b_S_init 26 = .ok (.bipush 64, 2) := by decide +kernel
theorem d_S_init_28 : decode b_S_init 28 = .ok (.newarray .int, 2) := by decide +kernel
theorem d_S_init_30 : decode b_S_init 30 = .ok (.putfield 22, 3) := by decide +kernel
theorem d_S_init_33 : decode b_S_init 33 = .ok (.aload_n 0, 1) := by decide +kernel
theorem d_S_init_34 : decode b_S_init 34 = .ok (.iconst 4, 1) := by decide +kernel
theorem d_S_init_35 : decode b_S_init 35 = .ok (.newarray .int, 2) := by decide +kernel
theorem d_S_init_37 : decode b_S_init 37 = .ok (.putfield 25, 3) := by decide +kernel
theorem d_S_init_40 : decode b_S_init 40 = .ok (.aload_n 0, 1) := by decide +kernel
theorem d_S_init_41 : decode b_S_init 41 = .ok (.bipush 8, 2) := by decide +kernel
theorem d_S_init_43 : decode b_S_init 43 = .ok (.newarray .int, 2) := by decide +kernel
theorem d_S_init_45 : decode b_S_init 45 = .ok (.putfield 28, 3) := by decide +kernel
theorem d_S_init_48 : decode b_S_init 48 = .ok (.aload_n 0, 1) := by decide +kernel
theorem d_S_init_49 : decode b_S_init 49 = .ok (.bipush 16, 2) := by decide +kernel
theorem d_S_init_51 : decode b_S_init 51 = .ok (.newarray .int, 2) := by decide +kernel
theorem d_S_init_53 : decode b_S_init 53 = .ok (.putfield 31, 3) := by decide +kernel
theorem d_S_init_56 : decode b_S_init 56 = .ok (.aload_n 0, 1) := by decide +kernel
theorem d_S_init_57 : decode b_S_init 57 = .ok (.iconst 1, 1) := by decide +kernel
theorem d_S_init_58 : decode b_S_init 58 = .ok (.putfield 34, 3) := by decide +kernel
theorem d_S_init_61 : decode b_S_init 61 = .ok (.aload_n 0, 1) := by decide +kernel
theorem d_S_init_62 : decode b_S_init 62 = .ok (.iconst 0, 1) := by decide +kernel
theorem d_S_init_63 : decode b_S_init 63 = .ok (.putfield 38, 3) := by decide +kernel
theorem d_S_init_66 : decode b_S_init 66 = .ok (.aload_n 0, 1) := by decide +kernel
theorem d_S_init_67 : decode b_S_init 67 = .ok (.iconst (-1), 1) := by decide +kernel
theorem d_S_init_68 : decode b_S_init 68 = .ok (.putfield 41, 3) := by decide +kernel
theorem d_S_init_71 : decode b_S_init 71 = .ok (.aload_n 0, 1) := by decide +kernel
theorem d_S_init_72 : decode b_S_init 72 = .ok (.iconst 0, 1) := by decide +kernel
theorem d_S_init_73 : decode b_S_init 73 = .ok (.putfield 44, 3) := by decide +kernel
theorem d_S_init_76 : decode b_S_init 76 = .ok (.return_, 1) := by decide +kernel
theorem d_S_forget_0 : decode b_S_forget 0 = .ok (.aload_n 0, 1) := by decide +kernel
theorem d_S_forget_1 : decode b_S_forget 1 = .ok (.iconst 0, 1) := by decide +kernel
theorem d_S_forget_2 : decode b_S_forget 2 = .ok (.putfield 44, 3) := by decide +kernel
theorem d_S_forget_5 : decode b_S_forget 5 = .ok (.return_, 1) := by decide +kernel
theorem d_S_solve_0 : decode b_S_solve 0 = .ok (.aload_n 0, 1) := by decide +kernel
theorem d_S_solve_1 : decode b_S_solve 1 = .ok (.getfield 44, 3) := by decide +kernel
theorem d_S_solve_4 : decode b_S_solve 4 = .ok (.ifCond .eq 4, 3) := by decide +kernel
theorem d_S_solve_7 : decode b_S_solve 7 = .ok (.return_, 1) := by decide +kernel
theorem d_S_solve_8 : decode b_S_solve 8 = .ok (.aload_n 0, 1) := by decide +kernel
theorem d_S_solve_9 : decode b_S_solve 9 = .ok (.iconst 1, 1) := by decide +kernel
theorem d_S_solve_10 : decode b_S_solve 10 = .ok (.putfield 44, 3) := by decide +kernel
theorem d_S_solve_13 : decode b_S_solve 13 = .ok (.aload_n 0, 1) := by decide +kernel
theorem d_S_solve_14 : decode b_S_solve 14 = .ok (.getfield 15, 3) := by decide +kernel
theorem d_S_solve_17 : decode b_S_solve 17 = .ok (.iconst 0, 1) := by decide +kernel
theorem d_S_solve_18 : decode b_S_solve 18 = .ok (.invokestatic 48, 3) := by decide +kernel
theorem d_S_solve_21 : decode b_S_solve 21 = .ok (.aload_n 0, 1) := by decide +kernel
theorem d_S_solve_22 : decode b_S_solve 22 = .ok (.getfield 19, 3) := by decide +kernel
theorem d_S_solve_25 : decode b_S_solve 25 = .ok (.iconst 0, 1) := by decide +kernel
theorem d_S_solve_26 : decode b_S_solve 26 = .ok (.invokestatic 48, 3) := by decide +kernel
theorem d_S_solve_29 : decode b_S_solve 29 = .ok (.aload_n 0, 1) := by decide +kernel
theorem d_S_solve_30 : decode b_S_solve 30 = .ok (.getfield 22, 3) := by decide +kernel
theorem d_S_solve_33 : decode b_S_solve 33 = .ok (.iconst 0, 1) := by decide +kernel
theorem d_S_solve_34 : decode b_S_solve 34 = .ok (.invokestatic 48, 3) := by decide +kernel
theorem d_S_solve_37 : decode b_S_solve 37 = .ok (.aload_n 0, 1) := by decide +kernel
theorem d_S_solve_38 : decode b_S_solve 38 = .ok (.getfield 25, 3) := by decide +kernel
theorem d_S_solve_41 : decode b_S_solve 41 = .ok (.iconst 0, 1) := by decide +kernel
theorem d_S_solve_42 : decode b_S_solve 42 = .ok (.invokestatic 48, 3) := by decide +kernel
theorem d_S_solve_45 : decode b_S_solve 45 = .ok (.aload_n 0, 1) := by decide +kernel
theorem d_S_solve_46 : decode b_S_solve 46 = .ok (.getfield 28, 3) := by decide +kernel
theorem d_S_solve_49 : decode b_S_solve 49 = .ok (.iconst 0, 1) := by decide +kernel
theorem d_S_solve_50 : decode b_S_solve 50 = .ok (.invokestatic 48, 3) := by decide +kernel
theorem d_S_solve_53 : decode b_S_solve 53 = .ok (.aload_n 0, 1) := by decide +kernel
theorem d_S_solve_54 : decode b_S_solve 54 = .ok (.invokevirtual 52, 3) := by decide +kernel
theorem d_S_solve_57 : decode b_S_solve 57 = .ok (.iconst 1, 1) := by decide +kernel
theorem d_S_solve_58 : decode b_S_solve 58 = .ok (.istore_n 1, 1) := by decide +kernel
theorem d_S_solve_59 : decode b_S_solve 59 = .ok (.iconst 0, 1) := by decide +kernel
theorem d_S_solve_60 : decode b_S_solve 60 = .ok (.istore_n 2, 1) := by decide +kernel
theorem d_S_solve_61 : decode b_S_solve 61 = .ok (.iload_n 1, 1) := by decide +kernel
theorem d_S_solve_62 : decode b_S_solve 62 = .ok (.ifCond .eq 21, 3) := by decide +kernel
theorem d_S_solve_65 : decode b_S_solve 65 = .ok (.iload_n 2, 1) := by decide +kernel
theorem d_S_solve_66 : decode b_S_solve 66 = .ok (.sipush 2241, 3) := by decide +kernel
theorem d_S_solve_69 : decode b_S_solve 69 = .ok (.if_icmp .ge 14, 3) := by decide +kernel
theorem d_S_solve_72 : decode b_S_solve 72 = .ok (.aload_n 0, 1) := by decide +kernel
theorem d_S_solve_73 : decode b_S_solve 73 = .ok (.invokevirtual 55, 3) := by decide +kernel
theorem d_S_solve_76 : decode b_S_solve 76 = .ok (.istore_n 1, 1) := by decide +kernel
theorem d_S_solve_77 : decode b_S_solve 77 = .ok (.iinc 2 1, 3) := by decide +kernel
theorem d_S_solve_80 : decode b_S_solve 80 = .ok (.goto (-19), 3) := by decide +kernel
theorem d_S_solve_83 : decode b_S_solve 83 = .ok (.aload_n 0, 1) := by decide +kernel
theorem d_S_solve_84 : decode b_S_solve 84 = .ok (.invokevirtual 59, 3) := by decide +kernel
theorem d_S_solve_87 : decode b_S_solve 87 = .ok (.return_, 1) := by decide +kernel
theorem d_S_findLive_0 : decode b_S_findLive 0 = .ok (.iconst 0, 1) := by decide +kernel
theorem d_S_findLive_1 : decode b_S_findLive 1 = .ok (.istore_n 1, 1) := by decide +kernel
theorem d_S_findLive_2 : decode b_S_findLive 2 = .ok (.iload_n 1, 1) := by decide +kernel
theorem d_S_findLive_3 : decode b_S_findLive 3 = .ok (.aload_n 0, 1) := by decide +kernel
theorem d_S_findLive_4 : decode b_S_findLive 4 = .ok (.getfield 9, 3) := by decide +kernel
theorem d_S_findLive_7 : decode b_S_findLive 7 = .ok (.getfield 62, 3) := by decide +kernel
theorem d_S_findLive_10 : decode b_S_findLive 10 = .ok (.if_icmp .ge 49, 3) := by decide +kernel
theorem d_S_findLive_13 : decode b_S_findLive 13 = .ok (.aload_n 0, 1) := by decide +kernel
theorem d_S_findLive_14 : decode b_S_findLive 14 = .ok (.getfield 9, 3) := by decide +kernel
theorem d_S_findLive_17 : decode b_S_findLive 17 = .ok (.iload_n 1, 1) := by decide +kernel
theorem d_S_findLive_18 : decode b_S_findLive 18 = .ok (.invokevirtual 67, 3) := by decide +kernel
theorem d_S_findLive_21 : decode b_S_findLive 21 = .ok (.bipush 6, 2) := by decide +kernel
theorem d_S_findLive_23 : decode b_S_findLive 23 = .ok (.if_icmp .ne 30, 3) := by decide +kernel
theorem d_S_findLive_26 : decode b_S_findLive 26 = .ok (.aload_n 0, 1) := by decide +kernel
theorem d_S_findLive_27 : decode b_S_findLive 27 = .ok (.getfield 15, 3) := by decide +kernel
theorem d_S_findLive_30 : decode b_S_findLive 30 = .ok (.aload_n 0, 1) := by decide +kernel
theorem d_S_findLive_31 : decode b_S_findLive 31 = .ok (.getfield 9, 3) := by decide +kernel
theorem d_S_findLive_34 : decode b_S_findLive 34 = .ok (.iload_n 1, 1) := by decide +kernel
theorem d_S_findLive_35 : decode b_S_findLive 35 = .ok (.invokevirtual 71, 3) := by decide +kernel
theorem d_S_findLive_38 : decode b_S_findLive 38 = .ok (.iconst 1, 1) := by decide +kernel
theorem d_S_findLive_39 : decode b_S_findLive 39 = .ok (.aload_n 0, 1) := by decide +kernel
theorem d_S_findLive_40 : decode b_S_findLive 40 = .ok (.getfield 9, 3) := by decide +kernel
theorem d_S_findLive_43 : decode b_S_findLive 43 = .ok (.iload_n 1, 1) := by decide +kernel
theorem d_S_findLive_44 : decode b_S_findLive 44 = .ok (.iconst 0, 1) := by decide +kernel
theorem d_S_findLive_45 : decode b_S_findLive 45 = .ok (.invokevirtual 74, 3) := by decide +kernel
theorem d_S_findLive_48 : decode b_S_findLive 48 = .ok (.ishl, 1) := by decide +kernel
theorem d_S_findLive_49 : decode b_S_findLive 49 = .ok (.invokestatic 78, 3) := by decide +kernel
theorem d_S_findLive_52 : decode b_S_findLive 52 = .ok (.pop, 1) := by decide +kernel
theorem d_S_findLive_53 : decode b_S_findLive 53 = .ok (.iinc 1 1, 3) := by decide +kernel
theorem d_S_findLive_56 : decode b_S_findLive 56 = .ok (.goto (-54), 3) := by decide +kernel
theorem d_S_findLive_59 : decode b_S_findLive 59 = .ok (.aload_n 0, 1) := by decide +kernel
theorem d_S_findLive_60 : decode b_S_findLive 60 = .ok (.aload_n 0, 1) := by decide +kernel
theorem d_S_findLive_61 : decode b_S_findLive 61 = .ok (.iconst 1, 1) := by decide +kernel
theorem d_S_findLive_62 : decode b_S_findLive 62 = .ok (.invokevirtual 82, 3) := by decide +kernel
theorem d_S_findLive_65 : decode b_S_findLive 65 = .ok (.putfield 34, 3) := by decide +kernel
theorem d_S_findLive_68 : decode b_S_findLive 68 = .ok (.iconst 0, 1) := by decide +kernel
theorem d_S_findLive_69 : decode b_S_findLive 69 = .ok (.istore_n 1, 1) := by decide +kernel
theorem d_S_findLive_70 : decode b_S_findLive 70 = .ok (.iload_n 1, 1) := by decide +kernel
theorem d_S_findLive_71 : decode b_S_findLive 71 = .ok (.bipush 8, 2) := by decide +kernel
theorem d_S_findLive_73 : decode b_S_findLive 73 = .ok (.if_icmp .ge 29, 3) := by decide +kernel
theorem d_S_findLive_76 : decode b_S_findLive 76 = .ok (.aload_n 0, 1) := by decide +kernel
theorem d_S_findLive_77 : decode b_S_findLive 77 = .ok (.getfield 34, 3) := by decide +kernel
theorem d_S_findLive_80 : decode b_S_findLive 80 = .ok (.iload_n 1, 1) := by decide +kernel
theorem d_S_findLive_81 : decode b_S_findLive 81 = .ok (.invokestatic 85, 3) := by decide +kernel
theorem d_S_findLive_84 : decode b_S_findLive 84 = .ok (.ifCond .ne 12, 3) := by decide +kernel
theorem d_S_findLive_87 : decode b_S_findLive 87 = .ok (.aload_n 0, 1) := by decide +kernel
theorem d_S_findLive_88 : decode b_S_findLive 88 = .ok (.getfield 15, 3) := by decide +kernel
theorem d_S_findLive_91 : decode b_S_findLive 91 = .ok (.iload_n 1, 1) := by decide +kernel
theorem d_S_findLive_92 : decode b_S_findLive 92 = .ok (.iconst 0, 1) := by decide +kernel
theorem d_S_findLive_93 : decode b_S_findLive 93 = .ok (.invokestatic 89, 3) := by decide +kernel
theorem d_S_findLive_96 : decode b_S_findLive 96 = .ok (.iinc 1 1, 3) := by decide +kernel
theorem d_S_findLive_99 : decode b_S_findLive 99 = .ok (.goto (-29), 3) := by decide +kernel
theorem d_S_findLive_102 : decode b_S_findLive 102 = .ok (.return_, 1) := by decide +kernel
theorem d_S_withCallees_0 : decode b_S_withCallees 0 = .ok (.iload_n 1, 1) := by decide +kernel
theorem d_S_withCallees_1 : decode b_S_withCallees 1 = .ok (.istore_n 2, 1) := by decide +kernel
theorem d_S_withCallees_2 : decode b_S_withCallees 2 = .ok (.iconst 0, 1) := by decide +kernel
theorem d_S_withCallees_3 : decode b_S_withCallees 3 = .ok (.istore_n 3, 1) := by decide +kernel
theorem d_S_withCallees_4 : decode b_S_withCallees 4 = .ok (.iload_n 3, 1) := by decide +kernel
theorem d_S_withCallees_5 : decode b_S_withCallees 5 = .ok (.bipush 8, 2) := by decide +kernel
theorem d_S_withCallees_7 : decode b_S_withCallees 7 = .ok (.if_icmp .ge 46, 3) := by decide +kernel
theorem d_S_withCallees_10 : decode b_S_withCallees 10 = .ok (.iconst 0, 1) := by decide +kernel
theorem d_S_withCallees_11 : decode b_S_withCallees 11 = .ok (.istore 4, 2) := by decide +kernel
theorem d_S_withCallees_13 : decode b_S_withCallees 13 = .ok (.iload 4, 2) := by decide +kernel
theorem d_S_withCallees_15 : decode b_S_withCallees 15 = .ok (.bipush 8, 2) := by decide +kernel
theorem d_S_withCallees_17 : decode b_S_withCallees 17 = .ok (.if_icmp .ge 30, 3) := by decide +kernel
theorem d_S_withCallees_20 : decode b_S_withCallees 20 = .ok (.iload_n 2, 1) := by decide +kernel
theorem d_S_withCallees_21 : decode b_S_withCallees 21 = .ok (.iload 4, 2) := by decide +kernel
theorem d_S_withCallees_23 : decode b_S_withCallees 23 = .ok (.invokestatic 85, 3) := by decide +kernel
theorem d_S_withCallees_26 : decode b_S_withCallees 26 = .ok (.ifCond .eq 15, 3) := by decide +kernel
theorem d_S_withCallees_29 : decode b_S_withCallees 29 = .ok (.iload_n 2, 1) := by decide +kernel
theorem d_S_withCallees_30 : decode b_S_withCallees 30 = .ok (.aload_n 0, 1) := by decide +kernel
theorem d_S_withCallees_31 : decode b_S_withCallees 31 = .ok (.getfield 15, 3) := by decide +kernel
theorem d_S_withCallees_34 : decode b_S_withCallees 34 = .ok (.iload 4, 2) := by decide +kernel
theorem d_S_withCallees_36 : decode b_S_withCallees 36 = .ok (.invokestatic 93, 3) := by decide +kernel
theorem d_S_withCallees_39 : decode b_S_withCallees 39 = .ok (.ior, 1) := by decide +kernel
theorem d_S_withCallees_40 : decode b_S_withCallees 40 = .ok (.istore_n 2, 1) := by decide +kernel
theorem d_S_withCallees_41 : decode b_S_withCallees 41 = .ok (.iinc 4 1, 3) := by decide +kernel
theorem d_S_withCallees_44 : decode b_S_withCallees 44 = .ok (.goto (-31), 3) := by decide +kernel
theorem d_S_withCallees_47 : decode b_S_withCallees 47 = .ok (.iinc 3 1, 3) := by decide +kernel
theorem d_S_withCallees_50 : decode b_S_withCallees 50 = .ok (.goto (-46), 3) := by decide +kernel
theorem d_S_withCallees_53 : decode b_S_withCallees 53 = .ok (.iload_n 2, 1) := by decide +kernel
theorem d_S_withCallees_54 : decode b_S_withCallees 54 = .ok (.ireturn, 1) := by decide +kernel
theorem d_S_callersOf_0 : decode b_S_callersOf 0 = .ok (.iconst 0, 1) := by decide +kernel
theorem d_S_callersOf_1 : decode b_S_callersOf 1 = .ok (.istore_n 2, 1) := by decide +kernel
theorem d_S_callersOf_2 : decode b_S_callersOf 2 = .ok (.iconst 0, 1) := by decide +kernel
theorem d_S_callersOf_3 : decode b_S_callersOf 3 = .ok (.istore_n 3, 1) := by decide +kernel
theorem d_S_callersOf_4 : decode b_S_callersOf 4 = .ok (.iload_n 3, 1) := by decide +kernel
theorem d_S_callersOf_5 : decode b_S_callersOf 5 = .ok (.bipush 8, 2) := by decide +kernel
theorem d_S_callersOf_7 : decode b_S_callersOf 7 = .ok (.if_icmp .ge 30, 3) := by decide +kernel
theorem d_S_callersOf_10 : decode b_S_callersOf 10 = .ok (.aload_n 0, 1) := by decide +kernel
theorem d_S_callersOf_11 : decode b_S_callersOf 11 = .ok (.getfield 15, 3) := by decide +kernel
theorem d_S_callersOf_14 : decode b_S_callersOf 14 = .ok (.iload_n 3, 1) := by decide +kernel
theorem d_S_callersOf_15 : decode b_S_callersOf 15 = .ok (.invokestatic 93, 3) := by decide +kernel
theorem d_S_callersOf_18 : decode b_S_callersOf 18 = .ok (.iload_n 1, 1) := by decide +kernel
theorem d_S_callersOf_19 : decode b_S_callersOf 19 = .ok (.invokestatic 85, 3) := by decide +kernel
theorem d_S_callersOf_22 : decode b_S_callersOf 22 = .ok (.ifCond .eq 9, 3) := by decide +kernel
theorem d_S_callersOf_25 : decode b_S_callersOf 25 = .ok (.iload_n 2, 1) := by decide +kernel
theorem d_S_callersOf_26 : decode b_S_callersOf 26 = .ok (.iconst 1, 1) := by decide +kernel
theorem d_S_callersOf_27 : decode b_S_callersOf 27 = .ok (.iload_n 3, 1) := by decide +kernel
theorem d_S_callersOf_28 : decode b_S_callersOf 28 = .ok (.ishl, 1) := by decide +kernel
theorem d_S_callersOf_29 : decode b_S_callersOf 29 = .ok (.ior, 1) := by decide +kernel
theorem d_S_callersOf_30 : decode b_S_callersOf 30 = .ok (.istore_n 2, 1) := by decide +kernel
theorem d_S_callersOf_31 : decode b_S_callersOf 31 = .ok (.iinc 3 1, 3) := by decide +kernel
theorem d_S_callersOf_34 : decode b_S_callersOf 34 = .ok (.goto (-30), 3) := by decide +kernel
theorem d_S_callersOf_37 : decode b_S_callersOf 37 = .ok (.iload_n 2, 1) := by decide +kernel
theorem d_S_callersOf_38 : decode b_S_callersOf 38 = .ok (.ireturn, 1) := by decide +kernel
theorem d_S_sweep_0 : decode b_S_sweep 0 = .ok (.iconst 0, 1) := by decide +kernel
theorem d_S_sweep_1 : decode b_S_sweep 1 = .ok (.istore_n 1, 1) := by decide +kernel
theorem d_S_sweep_2 : decode b_S_sweep 2 = .ok (.iconst 0, 1) := by decide +kernel
theorem d_S_sweep_3 : decode b_S_sweep 3 = .ok (.istore_n 2, 1) := by decide +kernel
theorem d_S_sweep_4 : decode b_S_sweep 4 = .ok (.iload_n 2, 1) := by decide +kernel
theorem d_S_sweep_5 : decode b_S_sweep 5 = .ok (.aload_n 0, 1) := by decide +kernel
theorem d_S_sweep_6 : decode b_S_sweep 6 = .ok (.getfield 9, 3) := by decide +kernel
theorem d_S_sweep_9 : decode b_S_sweep 9 = .ok (.getfield 62, 3) := by decide +kernel
theorem d_S_sweep_12 : decode b_S_sweep 12 = .ok (.if_icmp .ge 34, 3) := by decide +kernel
theorem d_S_sweep_15 : decode b_S_sweep 15 = .ok (.aload_n 0, 1) := by decide +kernel
theorem d_S_sweep_16 : decode b_S_sweep 16 = .ok (.getfield 9, 3) := by decide +kernel
theorem d_S_sweep_19 : decode b_S_sweep 19 = .ok (.aload_n 0, 1) := by decide +kernel
theorem d_S_sweep_20 : decode b_S_sweep 20 = .ok (.getfield 34, 3) := by decide +kernel
theorem d_S_sweep_23 : decode b_S_sweep 23 = .ok (.iload_n 2, 1) := by decide +kernel
theorem d_S_sweep_24 : decode b_S_sweep 24 = .ok (.invokevirtual 97, 3) := by decide +kernel
theorem d_S_sweep_27 : decode b_S_sweep 27 = .ok (.ifCond .eq 13, 3) := by decide +kernel
theorem d_S_sweep_30 : decode b_S_sweep 30 = .ok (.aload_n 0, 1) := by decide +kernel
theorem d_S_sweep_31 : decode b_S_sweep 31 = .ok (.iload_n 2, 1) := by decide +kernel
theorem d_S_sweep_32 : decode b_S_sweep 32 = .ok (.invokevirtual 100, 3) := by decide +kernel
theorem d_S_sweep_35 : decode b_S_sweep 35 = .ok (.ifCond .eq 5, 3) := by decide +kernel
theorem d_S_sweep_38 : decode b_S_sweep 38 = .ok (.iconst 1, 1) := by decide +kernel
theorem d_S_sweep_39 : decode b_S_sweep 39 = .ok (.istore_n 1, 1) := by decide +kernel
theorem d_S_sweep_40 : decode b_S_sweep 40 = .ok (.iinc 2 1, 3) := by decide +kernel
theorem d_S_sweep_43 : decode b_S_sweep 43 = .ok (.goto (-39), 3) := by decide +kernel
theorem d_S_sweep_46 : decode b_S_sweep 46 = .ok (.iload_n 1, 1) := by decide +kernel
theorem d_S_sweep_47 : decode b_S_sweep 47 = .ok (.ireturn, 1) := by decide +kernel
theorem d_S_flow_0 : decode b_S_flow 0 = .ok (.aload_n 0, 1) := by decide +kernel
theorem d_S_flow_1 : decode b_S_flow 1 = .ok (.getfield 9, 3) := by decide +kernel
theorem d_S_flow_4 : decode b_S_flow 4 = .ok (.iload_n 1, 1) := by decide +kernel
theorem d_S_flow_5 : decode b_S_flow 5 = .ok (.invokevirtual 71, 3) := by decide +kernel
theorem d_S_flow_8 : decode b_S_flow 8 = .ok (.istore_n 2, 1) := by decide +kernel
theorem d_S_flow_9 : decode b_S_flow 9 = .ok (.aload_n 0, 1) := by decide +kernel
theorem d_S_flow_10 : decode b_S_flow 10 = .ok (.getfield 9, 3) := by decide +kernel
theorem d_S_flow_13 : decode b_S_flow 13 = .ok (.iload_n 1, 1) := by decide +kernel
theorem d_S_flow_14 : decode b_S_flow 14 = .ok (.iconst 0, 1) := by decide +kernel
theorem d_S_flow_15 : decode b_S_flow 15 = .ok (.invokevirtual 74, 3) := by decide +kernel
theorem d_S_flow_18 : decode b_S_flow 18 = .ok (.istore_n 3, 1) := by decide +kernel
theorem d_S_flow_19 : decode b_S_flow 19 = .ok (.aload_n 0, 1) := by decide +kernel
theorem d_S_flow_20 : decode b_S_flow 20 = .ok (.getfield 9, 3) := by decide +kernel
theorem d_S_flow_23 : decode b_S_flow 23 = .ok (.iload_n 1, 1) := by decide +kernel
theorem d_S_flow_24 : decode b_S_flow 24 = .ok (.iconst 1, 1) := by decide +kernel
theorem d_S_flow_25 : decode b_S_flow 25 = .ok (.invokevirtual 74, 3) := by decide +kernel
theorem d_S_flow_28 : decode b_S_flow 28 = .ok (.istore 4, 2) := by decide +kernel
theorem d_S_flow_30 : decode b_S_flow 30 = .ok (.aload_n 0, 1) := by decide +kernel
theorem d_S_flow_31 : decode b_S_flow 31 = .ok (.getfield 9, 3) := by decide +kernel
theorem d_S_flow_34 : decode b_S_flow 34 = .ok (.iload_n 1, 1) := by decide +kernel
theorem d_S_flow_35 : decode b_S_flow 35 = .ok (.iconst 2, 1) := by decide +kernel
theorem d_S_flow_36 : decode b_S_flow 36 = .ok (.invokevirtual 74, 3) := by decide +kernel
theorem d_S_flow_39 : decode b_S_flow 39 = .ok (.istore 5, 2) := by decide +kernel
theorem d_S_flow_41 : decode b_S_flow 41 = .ok (.aload_n 0, 1) := by decide +kernel
theorem d_S_flow_42 : decode b_S_flow 42 = .ok (.getfield 9, 3) := by decide +kernel
theorem d_S_flow_45 : decode b_S_flow 45 = .ok (.iload_n 1, 1) := by decide +kernel
theorem d_S_flow_46 : decode b_S_flow 46 = .ok (.invokevirtual 67, 3) := by decide +kernel
theorem d_S_flow_49 : decode b_S_flow 49 = .ok (.tableswitch 173 0 7 #[47, 64, 78, 98, 118, 134, 150, 158], 47) := by decide +kernel
theorem d_S_flow_96 : decode b_S_flow 96 = .ok (.aload_n 0, 1) := by decide +kernel
theorem d_S_flow_97 : decode b_S_flow 97 = .ok (.iload_n 2, 1) := by decide +kernel
theorem d_S_flow_98 : decode b_S_flow 98 = .ok (.iload_n 3, 1) := by decide +kernel
theorem d_S_flow_99 : decode b_S_flow 99 = .ok (.iconst 1, 1) := by decide +kernel
theorem d_S_flow_100 : decode b_S_flow 100 = .ok (.aload_n 0, 1) := by decide +kernel
theorem d_S_flow_101 : decode b_S_flow 101 = .ok (.getfield 9, 3) := by decide +kernel
theorem d_S_flow_104 : decode b_S_flow 104 = .ok (.iload_n 1, 1) := by decide +kernel
theorem d_S_flow_105 : decode b_S_flow 105 = .ok (.invokevirtual 104, 3) := by decide +kernel
theorem d_S_flow_108 : decode b_S_flow 108 = .ok (.ishl, 1) := by decide +kernel
theorem d_S_flow_109 : decode b_S_flow 109 = .ok (.invokevirtual 107, 3) := by decide +kernel
theorem d_S_flow_112 : decode b_S_flow 112 = .ok (.ireturn, 1) := by decide +kernel
theorem d_S_flow_113 : decode b_S_flow 113 = .ok (.aload_n 0, 1) := by decide +kernel
theorem d_S_flow_114 : decode b_S_flow 114 = .ok (.iload_n 2, 1) := by decide +kernel
theorem d_S_flow_115 : decode b_S_flow 115 = .ok (.iload_n 3, 1) := by decide +kernel
theorem d_S_flow_116 : decode b_S_flow 116 = .ok (.aload_n 0, 1) := by decide +kernel
theorem d_S_flow_117 : decode b_S_flow 117 = .ok (.iload_n 2, 1) := by decide +kernel
theorem d_S_flow_118 : decode b_S_flow 118 = .ok (.iload 4, 2) := by decide +kernel
theorem d_S_flow_120 : decode b_S_flow 120 = .ok (.invokevirtual 111, 3) := by decide +kernel
theorem d_S_flow_123 : decode b_S_flow 123 = .ok (.invokevirtual 107, 3) := by decide +kernel
theorem d_S_flow_126 : decode b_S_flow 126 = .ok (.ireturn, 1) := by decide +kernel
theorem d_S_flow_127 : decode b_S_flow 127 = .ok (.aload_n 0, 1) := by decide +kernel
theorem d_S_flow_128 : decode b_S_flow 128 = .ok (.iload_n 2, 1) := by decide +kernel
theorem d_S_flow_129 : decode b_S_flow 129 = .ok (.iload_n 3, 1) := by decide +kernel
theorem d_S_flow_130 : decode b_S_flow 130 = .ok (.aload_n 0, 1) := by decide +kernel
theorem d_S_flow_131 : decode b_S_flow 131 = .ok (.aload_n 0, 1) := by decide +kernel
theorem d_S_flow_132 : decode b_S_flow 132 = .ok (.iload_n 2, 1) := by decide +kernel
theorem d_S_flow_133 : decode b_S_flow 133 = .ok (.iload 4, 2) := by decide +kernel
theorem d_S_flow_135 : decode b_S_flow 135 = .ok (.invokevirtual 111, 3) := by decide +kernel
theorem d_S_flow_138 : decode b_S_flow 138 = .ok (.iload 5, 2) := by decide +kernel
theorem d_S_flow_140 : decode b_S_flow 140 = .ok (.invokevirtual 114, 3) := by decide +kernel
theorem d_S_flow_143 : decode b_S_flow 143 = .ok (.invokevirtual 107, 3) := by decide +kernel
theorem d_S_flow_146 : decode b_S_flow 146 = .ok (.ireturn, 1) := by decide +kernel
theorem d_S_flow_147 : decode b_S_flow 147 = .ok (.aload_n 0, 1) := by decide +kernel
theorem d_S_flow_148 : decode b_S_flow 148 = .ok (.aload_n 0, 1) := by decide +kernel
theorem d_S_flow_149 : decode b_S_flow 149 = .ok (.iload_n 2, 1) := by decide +kernel
theorem d_S_flow_150 : decode b_S_flow 150 = .ok (.iload_n 3, 1) := by decide +kernel
theorem d_S_flow_151 : decode b_S_flow 151 = .ok (.invokevirtual 111, 3) := by decide +kernel
theorem d_S_flow_154 : decode b_S_flow 154 = .ok (.iload 4, 2) := by decide +kernel
theorem d_S_flow_156 : decode b_S_flow 156 = .ok (.aload_n 0, 1) := by decide +kernel
theorem d_S_flow_157 : decode b_S_flow 157 = .ok (.iload_n 2, 1) := by decide +kernel
theorem d_S_flow_158 : decode b_S_flow 158 = .ok (.iload 5, 2) := by decide +kernel
theorem d_S_flow_160 : decode b_S_flow 160 = .ok (.invokevirtual 111, 3) := by decide +kernel
theorem d_S_flow_163 : decode b_S_flow 163 = .ok (.invokevirtual 117, 3) := by decide +kernel
theorem d_S_flow_166 : decode b_S_flow 166 = .ok (.ireturn, 1) := by decide +kernel
theorem d_S_flow_167 : decode b_S_flow 167 = .ok (.aload_n 0, 1) := by decide +kernel
theorem d_S_flow_168 : decode b_S_flow 168 = .ok (.iload_n 2, 1) := by decide +kernel
theorem d_S_flow_169 : decode b_S_flow 169 = .ok (.iload_n 3, 1) := by decide +kernel
theorem d_S_flow_170 : decode b_S_flow 170 = .ok (.aload_n 0, 1) := by decide +kernel
theorem d_S_flow_171 : decode b_S_flow 171 = .ok (.getfield 25, 3) := by decide +kernel
theorem d_S_flow_174 : decode b_S_flow 174 = .ok (.iload 4, 2) := by decide +kernel
theorem d_S_flow_176 : decode b_S_flow 176 = .ok (.invokestatic 93, 3) := by decide +kernel
theorem d_S_flow_179 : decode b_S_flow 179 = .ok (.invokevirtual 107, 3) := by decide +kernel
theorem d_S_flow_182 : decode b_S_flow 182 = .ok (.ireturn, 1) := by decide +kernel
theorem d_S_flow_183 : decode b_S_flow 183 = .ok (.aload_n 0, 1) := by decide +kernel
theorem d_S_flow_184 : decode b_S_flow 184 = .ok (.getfield 25, 3) := by decide +kernel
theorem d_S_flow_187 : decode b_S_flow 187 = .ok (.iload_n 3, 1) := by decide +kernel
theorem d_S_flow_188 : decode b_S_flow 188 = .ok (.aload_n 0, 1) := by decide +kernel
theorem d_S_flow_189 : decode b_S_flow 189 = .ok (.iload_n 2, 1) := by decide +kernel
theorem d_S_flow_190 : decode b_S_flow 190 = .ok (.iload 4, 2) := by decide +kernel
theorem d_S_flow_192 : decode b_S_flow 192 = .ok (.invokevirtual 111, 3) := by decide +kernel
theorem d_S_flow_195 : decode b_S_flow 195 = .ok (.invokestatic 78, 3) := by decide +kernel
theorem d_S_flow_198 : decode b_S_flow 198 = .ok (.ireturn, 1) := by decide +kernel
theorem d_S_flow_199 : decode b_S_flow 199 = .ok (.aload_n 0, 1) := by decide +kernel
theorem d_S_flow_200 : decode b_S_flow 200 = .ok (.iload_n 1, 1) := by decide +kernel
theorem d_S_flow_201 : decode b_S_flow 201 = .ok (.iload_n 2, 1) := by decide +kernel
theorem d_S_flow_202 : decode b_S_flow 202 = .ok (.iload_n 3, 1) := by decide +kernel
theorem d_S_flow_203 : decode b_S_flow 203 = .ok (.invokevirtual 120, 3) := by decide +kernel
theorem d_S_flow_206 : decode b_S_flow 206 = .ok (.ireturn, 1) := by decide +kernel
theorem d_S_flow_207 : decode b_S_flow 207 = .ok (.aload_n 0, 1) := by decide +kernel
theorem d_S_flow_208 : decode b_S_flow 208 = .ok (.getfield 28, 3) := by decide +kernel
theorem d_S_flow_211 : decode b_S_flow 211 = .ok (.iload_n 2, 1) := by decide +kernel
theorem d_S_flow_212 : decode b_S_flow 212 = .ok (.aload_n 0, 1) := by decide +kernel
theorem d_S_flow_213 : decode b_S_flow 213 = .ok (.iload_n 2, 1) := by decide +kernel
theorem d_S_flow_214 : decode b_S_flow 214 = .ok (.iload_n 3, 1) := by decide +kernel
theorem d_S_flow_215 : decode b_S_flow 215 = .ok (.invokevirtual 111, 3) := by decide +kernel
theorem d_S_flow_218 : decode b_S_flow 218 = .ok (.invokestatic 78, 3) := by decide +kernel
theorem d_S_flow_221 : decode b_S_flow 221 = .ok (.ireturn, 1) := by decide +kernel
theorem d_S_flow_222 : decode b_S_flow 222 = .ok (.iconst 0, 1) := by decide +kernel
theorem d_S_flow_223 : decode b_S_flow 223 = .ok (.ireturn, 1) := by decide +kernel
theorem d_S_flowCall_0 : decode b_S_flowCall 0 = .ok (.iconst 0, 1) := by decide +kernel
theorem d_S_flowCall_1 : decode b_S_flowCall 1 = .ok (.istore 4, 2) := by decide +kernel
theorem d_S_flowCall_3 : decode b_S_flowCall 3 = .ok (.iconst 0, 1) := by decide +kernel
theorem d_S_flowCall_4 : decode b_S_flowCall 4 = .ok (.istore 5, 2) := by decide +kernel
theorem d_S_flowCall_6 : decode b_S_flowCall 6 = .ok (.iload 5, 2) := by decide +kernel
theorem d_S_flowCall_8 : decode b_S_flowCall 8 = .ok (.iconst 3, 1) := by decide +kernel
theorem d_S_flowCall_9 : decode b_S_flowCall 9 = .ok (.if_icmp .ge 49, 3) := by decide +kernel
theorem d_S_flowCall_12 : decode b_S_flowCall 12 = .ok (.aload_n 0, 1) := by decide +kernel
theorem d_S_flowCall_13 : decode b_S_flowCall 13 = .ok (.getfield 9, 3) := by decide +kernel
theorem d_S_flowCall_16 : decode b_S_flowCall 16 = .ok (.iload_n 1, 1) := by decide +kernel
theorem d_S_flowCall_17 : decode b_S_flowCall 17 = .ok (.iconst 1, 1) := by decide +kernel
theorem d_S_flowCall_18 : decode b_S_flowCall 18 = .ok (.iload 5, 2) := by decide +kernel
theorem d_S_flowCall_20 : decode b_S_flowCall 20 = .ok (.iadd, 1) := by decide +kernel
theorem d_S_flowCall_21 : decode b_S_flowCall 21 = .ok (.invokevirtual 74, 3) := by decide +kernel
theorem d_S_flowCall_24 : decode b_S_flowCall 24 = .ok (.istore 6, 2) := by decide +kernel
theorem d_S_flowCall_26 : decode b_S_flowCall 26 = .ok (.iload 6, 2) := by decide +kernel
theorem d_S_flowCall_28 : decode b_S_flowCall 28 = .ok (.iconst (-1), 1) := by decide +kernel
theorem d_S_flowCall_29 : decode b_S_flowCall 29 = .ok (.if_icmp .eq 23, 3) := by decide +kernel
theorem d_S_flowCall_32 : decode b_S_flowCall 32 = .ok (.aload_n 0, 1) := by decide +kernel
theorem d_S_flowCall_33 : decode b_S_flowCall 33 = .ok (.iload_n 3, 1) := by decide +kernel
theorem d_S_flowCall_34 : decode b_S_flowCall 34 = .ok (.iload 5, 2) := by decide +kernel
theorem d_S_flowCall_36 : decode b_S_flowCall 36 = .ok (.aload_n 0, 1) := by decide +kernel
theorem d_S_flowCall_37 : decode b_S_flowCall 37 = .ok (.iload_n 2, 1) := by decide +kernel
theorem d_S_flowCall_38 : decode b_S_flowCall 38 = .ok (.iload 6, 2) := by decide +kernel
theorem d_S_flowCall_40 : decode b_S_flowCall 40 = .ok (.invokevirtual 111, 3) := by decide +kernel
theorem d_S_flowCall_43 : decode b_S_flowCall 43 = .ok (.invokevirtual 107, 3) := by decide +kernel
theorem d_S_flowCall_46 : decode b_S_flowCall 46 = .ok (.ifCond .eq 6, 3) := by decide +kernel
theorem d_S_flowCall_49 : decode b_S_flowCall 49 = .ok (.iconst 1, 1) := by decide +kernel
theorem d_S_flowCall_50 : decode b_S_flowCall 50 = .ok (.istore 4, 2) := by decide +kernel
theorem d_S_flowCall_52 : decode b_S_flowCall 52 = .ok (.iinc 5 1, 3) := by decide +kernel
theorem d_S_flowCall_55 : decode b_S_flowCall 55 = .ok (.goto (-49), 3) := by decide +kernel
theorem d_S_flowCall_58 : decode b_S_flowCall 58 = .ok (.aload_n 0, 1) := by decide +kernel
theorem d_S_flowCall_59 : decode b_S_flowCall 59 = .ok (.getfield 9, 3) := by decide +kernel
theorem d_S_flowCall_62 : decode b_S_flowCall 62 = .ok (.iload_n 1, 1) := by decide +kernel
theorem d_S_flowCall_63 : decode b_S_flowCall 63 = .ok (.iconst 4, 1) := by decide +kernel
theorem d_S_flowCall_64 : decode b_S_flowCall 64 = .ok (.invokevirtual 74, 3) := by decide +kernel
theorem d_S_flowCall_67 : decode b_S_flowCall 67 = .ok (.istore 5, 2) := by decide +kernel
theorem d_S_flowCall_69 : decode b_S_flowCall 69 = .ok (.iload 5, 2) := by decide +kernel
theorem d_S_flowCall_71 : decode b_S_flowCall 71 = .ok (.iconst (-1), 1) := by decide +kernel
theorem d_S_flowCall_72 : decode b_S_flowCall 72 = .ok (.if_icmp .eq 24, 3) := by decide +kernel
theorem d_S_flowCall_75 : decode b_S_flowCall 75 = .ok (.aload_n 0, 1) := by decide +kernel
theorem d_S_flowCall_76 : decode b_S_flowCall 76 = .ok (.iload_n 2, 1) := by decide +kernel
theorem d_S_flowCall_77 : decode b_S_flowCall 77 = .ok (.iload 5, 2) := by decide +kernel
theorem d_S_flowCall_79 : decode b_S_flowCall 79 = .ok (.aload_n 0, 1) := by decide +kernel
theorem d_S_flowCall_80 : decode b_S_flowCall 80 = .ok (.getfield 28, 3) := by decide +kernel
theorem d_S_flowCall_83 : decode b_S_flowCall 83 = .ok (.iload_n 3, 1) := by decide +kernel
theorem d_S_flowCall_84 : decode b_S_flowCall 84 = .ok (.invokestatic 93, 3) := by decide +kernel
theorem d_S_flowCall_87 : decode b_S_flowCall 87 = .ok (.invokevirtual 107, 3) := by decide +kernel
theorem d_S_flowCall_90 : decode b_S_flowCall 90 = .ok (.ifCond .eq 6, 3) := by decide +kernel
theorem d_S_flowCall_93 : decode b_S_flowCall 93 = .ok (.iconst 1, 1) := by decide +kernel
theorem d_S_flowCall_94 : decode b_S_flowCall 94 = .ok (.istore 4, 2) := by decide +kernel
theorem d_S_flowCall_96 : decode b_S_flowCall 96 = .ok (.iload 4, 2) := by decide +kernel
theorem d_S_flowCall_98 : decode b_S_flowCall 98 = .ok (.ireturn, 1) := by decide +kernel
theorem d_S_joinName_0 : decode b_S_joinName 0 = .ok (.aload_n 0, 1) := by decide +kernel
theorem d_S_joinName_1 : decode b_S_joinName 1 = .ok (.getfield 19, 3) := by decide +kernel
theorem d_S_joinName_4 : decode b_S_joinName 4 = .ok (.iload_n 1, 1) := by decide +kernel
theorem d_S_joinName_5 : decode b_S_joinName 5 = .ok (.bipush 8, 2) := by decide +kernel
theorem d_S_joinName_7 : decode b_S_joinName 7 = .ok (.imul, 1) := by decide +kernel
theorem d_S_joinName_8 : decode b_S_joinName 8 = .ok (.iload_n 2, 1) := by decide +kernel
theorem d_S_joinName_9 : decode b_S_joinName 9 = .ok (.iadd, 1) := by decide +kernel
theorem d_S_joinName_10 : decode b_S_joinName 10 = .ok (.iload_n 3, 1) := by decide +kernel
theorem d_S_joinName_11 : decode b_S_joinName 11 = .ok (.invokestatic 78, 3) := by decide +kernel
theorem d_S_joinName_14 : decode b_S_joinName 14 = .ok (.ireturn, 1) := by decide +kernel
theorem d_S_joinFields_0 : decode b_S_joinFields 0 = .ok (.iconst 0, 1) := by decide +kernel
theorem d_S_joinFields_1 : decode b_S_joinFields 1 = .ok (.istore 4, 2) := by decide +kernel
theorem d_S_joinFields_3 : decode b_S_joinFields 3 = .ok (.iconst 0, 1) := by decide +kernel
theorem d_S_joinFields_4 : decode b_S_joinFields 4 = .ok (.istore 5, 2) := by decide +kernel
theorem d_S_joinFields_6 : decode b_S_joinFields 6 = .ok (.iload 5, 2) := by decide +kernel
theorem d_S_joinFields_8 : decode b_S_joinFields 8 = .ok (.bipush 16, 2) := by decide +kernel
theorem d_S_joinFields_10 : decode b_S_joinFields 10 = .ok (.if_icmp .ge 38, 3) := by decide +kernel
theorem d_S_joinFields_13 : decode b_S_joinFields 13 = .ok (.iload_n 1, 1) := by decide +kernel
theorem d_S_joinFields_14 : decode b_S_joinFields 14 = .ok (.iload 5, 2) := by decide +kernel
theorem d_S_joinFields_16 : decode b_S_joinFields 16 = .ok (.invokestatic 85, 3) := by decide +kernel
theorem d_S_joinFields_19 : decode b_S_joinFields 19 = .ok (.ifCond .eq 23, 3) := by decide +kernel
theorem d_S_joinFields_22 : decode b_S_joinFields 22 = .ok (.aload_n 0, 1) := by decide +kernel
theorem d_S_joinFields_23 : decode b_S_joinFields 23 = .ok (.getfield 22, 3) := by decide +kernel
theorem d_S_joinFields_26 : decode b_S_joinFields 26 = .ok (.iload 5, 2) := by decide +kernel
theorem d_S_joinFields_28 : decode b_S_joinFields 28 = .ok (.iconst 4, 1) := by decide +kernel
theorem d_S_joinFields_29 : decode b_S_joinFields 29 = .ok (.imul, 1) := by decide +kernel
theorem d_S_joinFields_30 : decode b_S_joinFields 30 = .ok (.iload_n 2, 1) := by decide +kernel
theorem d_S_joinFields_31 : decode b_S_joinFields 31 = .ok (.iadd, 1) := by decide +kernel
theorem d_S_joinFields_32 : decode b_S_joinFields 32 = .ok (.iload_n 3, 1) := by decide +kernel
theorem d_S_joinFields_33 : decode b_S_joinFields 33 = .ok (.invokestatic 78, 3) := by decide +kernel
theorem d_S_joinFields_36 : decode b_S_joinFields 36 = .ok (.ifCond .eq 6, 3) := by decide +kernel
theorem d_S_joinFields_39 : decode b_S_joinFields 39 = .ok (.iconst 1, 1) := by decide +kernel
theorem d_S_joinFields_40 : decode b_S_joinFields 40 = .ok (.istore 4, 2) := by decide +kernel
theorem d_S_joinFields_42 : decode b_S_joinFields 42 = .ok (.iinc 5 1, 3) := by decide +kernel
theorem d_S_joinFields_45 : decode b_S_joinFields 45 = .ok (.goto (-39), 3) := by decide +kernel
theorem d_S_joinFields_48 : decode b_S_joinFields 48 = .ok (.iload 4, 2) := by decide +kernel
theorem d_S_joinFields_50 : decode b_S_joinFields 50 = .ok (.ireturn, 1) := by decide +kernel
theorem d_S_ofName_0 : decode b_S_ofName 0 = .ok (.aload_n 0, 1) := by decide +kernel
theorem d_S_ofName_1 : decode b_S_ofName 1 = .ok (.getfield 19, 3) := by decide +kernel
theorem d_S_ofName_4 : decode b_S_ofName 4 = .ok (.iload_n 1, 1) := by decide +kernel
theorem d_S_ofName_5 : decode b_S_ofName 5 = .ok (.bipush 8, 2) := by decide +kernel
theorem d_S_ofName_7 : decode b_S_ofName 7 = .ok (.imul, 1) := by decide +kernel
theorem d_S_ofName_8 : decode b_S_ofName 8 = .ok (.iload_n 2, 1) := by decide +kernel
theorem d_S_ofName_9 : decode b_S_ofName 9 = .ok (.iadd, 1) := by decide +kernel
theorem d_S_ofName_10 : decode b_S_ofName 10 = .ok (.invokestatic 93, 3) := by decide +kernel
theorem d_S_ofName_13 : decode b_S_ofName 13 = .ok (.ireturn, 1) := by decide +kernel
theorem d_S_ofField_0 : decode b_S_ofField 0 = .ok (.aload_n 0, 1) := by decide +kernel
theorem d_S_ofField_1 : decode b_S_ofField 1 = .ok (.getfield 22, 3) := by decide +kernel
theorem d_S_ofField_4 : decode b_S_ofField 4 = .ok (.iload_n 1, 1) := by decide +kernel
theorem d_S_ofField_5 : decode b_S_ofField 5 = .ok (.iconst 4, 1) := by decide +kernel
theorem d_S_ofField_6 : decode b_S_ofField 6 = .ok (.imul, 1) := by decide +kernel
theorem d_S_ofField_7 : decode b_S_ofField 7 = .ok (.iload_n 2, 1) := by decide +kernel
theorem d_S_ofField_8 : decode b_S_ofField 8 = .ok (.iadd, 1) := by decide +kernel
theorem d_S_ofField_9 : decode b_S_ofField 9 = .ok (.invokestatic 93, 3) := by decide +kernel
theorem d_S_ofField_12 : decode b_S_ofField 12 = .ok (.ireturn, 1) := by decide +kernel
theorem d_S_ofFieldOfAll_0 : decode b_S_ofFieldOfAll 0 = .ok (.iconst 0, 1) := by decide +kernel
theorem d_S_ofFieldOfAll_1 : decode b_S_ofFieldOfAll 1 = .ok (.istore_n 3, 1) := by decide +kernel
theorem d_S_ofFieldOfAll_2 : decode b_S_ofFieldOfAll 2 = .ok (.iconst 0, 1) := by decide +kernel
theorem d_S_ofFieldOfAll_3 : decode b_S_ofFieldOfAll 3 = .ok (.istore 4, 2) := by decide +kernel
theorem d_S_ofFieldOfAll_5 : decode b_S_ofFieldOfAll 5 = .ok (.iload 4, 2) := by decide +kernel
theorem d_S_ofFieldOfAll_7 : decode b_S_ofFieldOfAll 7 = .ok (.bipush 16, 2) := by decide +kernel
theorem d_S_ofFieldOfAll_9 : decode b_S_ofFieldOfAll 9 = .ok (.if_icmp .ge 28, 3) := by decide +kernel
theorem d_S_ofFieldOfAll_12 : decode b_S_ofFieldOfAll 12 = .ok (.iload_n 1, 1) := by decide +kernel
theorem d_S_ofFieldOfAll_13 : decode b_S_ofFieldOfAll 13 = .ok (.iload 4, 2) := by decide +kernel
theorem d_S_ofFieldOfAll_15 : decode b_S_ofFieldOfAll 15 = .ok (.invokestatic 85, 3) := by decide +kernel
theorem d_S_ofFieldOfAll_18 : decode b_S_ofFieldOfAll 18 = .ok (.ifCond .eq 13, 3) := by decide +kernel
theorem d_S_ofFieldOfAll_21 : decode b_S_ofFieldOfAll 21 = .ok (.iload_n 3, 1) := by decide +kernel
theorem d_S_ofFieldOfAll_22 : decode b_S_ofFieldOfAll 22 = .ok (.aload_n 0, 1) := by decide +kernel
theorem d_S_ofFieldOfAll_23 : decode b_S_ofFieldOfAll 23 = .ok (.iload 4, 2) := by decide +kernel
theorem d_S_ofFieldOfAll_25 : decode b_S_ofFieldOfAll 25 = .ok (.iload_n 2, 1) := by decide +kernel
theorem d_S_ofFieldOfAll_26 : decode b_S_ofFieldOfAll 26 = .ok (.invokevirtual 123, 3) := by decide +kernel
theorem d_S_ofFieldOfAll_29 : decode b_S_ofFieldOfAll 29 = .ok (.ior, 1) := by decide +kernel
theorem d_S_ofFieldOfAll_30 : decode b_S_ofFieldOfAll 30 = .ok (.istore_n 3, 1) := by decide +kernel
theorem d_S_ofFieldOfAll_31 : decode b_S_ofFieldOfAll 31 = .ok (.iinc 4 1, 3) := by decide +kernel
theorem d_S_ofFieldOfAll_34 : decode b_S_ofFieldOfAll 34 = .ok (.goto (-29), 3) := by decide +kernel
theorem d_S_ofFieldOfAll_37 : decode b_S_ofFieldOfAll 37 = .ok (.iload_n 3, 1) := by decide +kernel
theorem d_S_ofFieldOfAll_38 : decode b_S_ofFieldOfAll 38 = .ok (.ireturn, 1) := by decide +kernel
theorem d_S_ofParameters_0 : decode b_S_ofParameters 0 = .ok (.iconst 0, 1) := by decide +kernel
theorem d_S_ofParameters_1 : decode b_S_ofParameters 1 = .ok (.istore_n 2, 1) := by decide +kernel
theorem d_S_ofParameters_2 : decode b_S_ofParameters 2 = .ok (.iconst 0, 1) := by decide +kernel
theorem d_S_ofParameters_3 : decode b_S_ofParameters 3 = .ok (.istore_n 3, 1) := by decide +kernel
theorem d_S_ofParameters_4 : decode b_S_ofParameters 4 = .ok (.iload_n 3, 1) := by decide +kernel
theorem d_S_ofParameters_5 : decode b_S_ofParameters 5 = .ok (.iconst 3, 1) := by decide +kernel
theorem d_S_ofParameters_6 : decode b_S_ofParameters 6 = .ok (.if_icmp .ge 18, 3) := by decide +kernel
theorem d_S_ofParameters_9 : decode b_S_ofParameters 9 = .ok (.iload_n 2, 1) := by decide +kernel
theorem d_S_ofParameters_10 : decode b_S_ofParameters 10 = .ok (.aload_n 0, 1) := by decide +kernel
theorem d_S_ofParameters_11 : decode b_S_ofParameters 11 = .ok (.iload_n 1, 1) := by decide +kernel
theorem d_S_ofParameters_12 : decode b_S_ofParameters 12 = .ok (.iload_n 3, 1) := by decide +kernel
theorem d_S_ofParameters_13 : decode b_S_ofParameters 13 = .ok (.invokevirtual 111, 3) := by decide +kernel
theorem d_S_ofParameters_16 : decode b_S_ofParameters 16 = .ok (.ior, 1) := by decide +kernel
theorem d_S_ofParameters_17 : decode b_S_ofParameters 17 = .ok (.istore_n 2, 1) := by decide +kernel
theorem d_S_ofParameters_18 : decode b_S_ofParameters 18 = .ok (.iinc 3 1, 3) := by decide +kernel
theorem d_S_ofParameters_21 : decode b_S_ofParameters 21 = .ok (.goto (-17), 3) := by decide +kernel
theorem d_S_ofParameters_24 : decode b_S_ofParameters 24 = .ok (.iload_n 2, 1) := by decide +kernel
theorem d_S_ofParameters_25 : decode b_S_ofParameters 25 = .ok (.ireturn, 1) := by decide +kernel
theorem d_S_heldBy_0 : decode b_S_heldBy 0 = .ok (.iconst 0, 1) := by decide +kernel
theorem d_S_heldBy_1 : decode b_S_heldBy 1 = .ok (.istore_n 2, 1) := by decide +kernel
theorem d_S_heldBy_2 : decode b_S_heldBy 2 = .ok (.iconst 0, 1) := by decide +kernel
theorem d_S_heldBy_3 : decode b_S_heldBy 3 = .ok (.istore_n 3, 1) := by decide +kernel
theorem d_S_heldBy_4 : decode b_S_heldBy 4 = .ok (.iload_n 3, 1) := by decide +kernel
theorem d_S_heldBy_5 : decode b_S_heldBy 5 = .ok (.iconst 4, 1) := by decide +kernel
theorem d_S_heldBy_6 : decode b_S_heldBy 6 = .ok (.if_icmp .ge 18, 3) := by decide +kernel
theorem d_S_heldBy_9 : decode b_S_heldBy 9 = .ok (.iload_n 2, 1) := by decide +kernel
theorem d_S_heldBy_10 : decode b_S_heldBy 10 = .ok (.aload_n 0, 1) := by decide +kernel
theorem d_S_heldBy_11 : decode b_S_heldBy 11 = .ok (.iload_n 1, 1) := by decide +kernel
theorem d_S_heldBy_12 : decode b_S_heldBy 12 = .ok (.iload_n 3, 1) := by decide +kernel
theorem d_S_heldBy_13 : decode b_S_heldBy 13 = .ok (.invokevirtual 114, 3) := by decide +kernel
theorem d_S_heldBy_16 : decode b_S_heldBy 16 = .ok (.ior, 1) := by decide +kernel
theorem d_S_heldBy_17 : decode b_S_heldBy 17 = .ok (.istore_n 2, 1) := by decide +kernel
theorem d_S_heldBy_18 : decode b_S_heldBy 18 = .ok (.iinc 3 1, 3) := by decide +kernel
theorem d_S_heldBy_21 : decode b_S_heldBy 21 = .ok (.goto (-17), 3) := by decide +kernel
theorem d_S_heldBy_24 : decode b_S_heldBy 24 = .ok (.iload_n 2, 1) := by decide +kernel
theorem d_S_heldBy_25 : decode b_S_heldBy 25 = .ok (.ireturn, 1) := by decide +kernel
theorem d_S_reachedFrom_0 : decode b_S_reachedFrom 0 = .ok (.iload_n 1, 1) := by decide +kernel
theorem d_S_reachedFrom_1 : decode b_S_reachedFrom 1 = .ok (.istore_n 2, 1) := by decide +kernel
theorem d_S_reachedFrom_2 : decode b_S_reachedFrom 2 = .ok (.iload_n 1, 1) := by decide +kernel
theorem d_S_reachedFrom_3 : decode b_S_reachedFrom 3 = .ok (.istore_n 3, 1) := by decide +kernel
theorem d_S_reachedFrom_4 : decode b_S_reachedFrom 4 = .ok (.iconst 0, 1) := by decide +kernel
theorem d_S_reachedFrom_5 : decode b_S_reachedFrom 5 = .ok (.istore 4, 2) := by decide +kernel
theorem d_S_reachedFrom_7 : decode b_S_reachedFrom 7 = .ok (.iload_n 3, 1) := by decide +kernel
theorem d_S_reachedFrom_8 : decode b_S_reachedFrom 8 = .ok (.ifCond .eq 30, 3) := by decide +kernel
theorem d_S_reachedFrom_11 : decode b_S_reachedFrom 11 = .ok (.iload 4, 2) := by decide +kernel
theorem d_S_reachedFrom_13 : decode b_S_reachedFrom 13 = .ok (.bipush 16, 2) := by decide +kernel
theorem d_S_reachedFrom_15 : decode b_S_reachedFrom 15 = .ok (.if_icmp .ge 23, 3) := by decide +kernel
theorem d_S_reachedFrom_18 : decode b_S_reachedFrom 18 = .ok (.aload_n 0, 1) := by decide +kernel
theorem d_S_reachedFrom_19 : decode b_S_reachedFrom 19 = .ok (.iload_n 3, 1) := by decide +kernel
theorem d_S_reachedFrom_20 : decode b_S_reachedFrom 20 = .ok (.invokevirtual 126, 3) := by decide +kernel
theorem d_S_reachedFrom_23 : decode b_S_reachedFrom 23 = .ok (.iload_n 2, 1) := by decide +kernel
theorem d_S_reachedFrom_24 : decode b_S_reachedFrom 24 = .ok (.iconst (-1), 1) := by decide +kernel
theorem d_S_reachedFrom_25 : decode b_S_reachedFrom 25 = .ok (.ixor, 1) := by decide +kernel
theorem d_S_reachedFrom_26 : decode b_S_reachedFrom 26 = .ok (.iand, 1) := by decide +kernel
theorem d_S_reachedFrom_27 : decode b_S_reachedFrom 27 = .ok (.istore_n 3, 1) := by decide +kernel
theorem d_S_reachedFrom_28 : decode b_S_reachedFrom 28 = .ok (.iload_n 2, 1) := by decide +kernel
theorem d_S_reachedFrom_29 : decode b_S_reachedFrom 29 = .ok (.iload_n 3, 1) := by decide +kernel
theorem d_S_reachedFrom_30 : decode b_S_reachedFrom 30 = .ok (.ior, 1) := by decide +kernel
theorem d_S_reachedFrom_31 : decode b_S_reachedFrom 31 = .ok (.istore_n 2, 1) := by decide +kernel
theorem d_S_reachedFrom_32 : decode b_S_reachedFrom 32 = .ok (.iinc 4 1, 3) := by decide +kernel
theorem d_S_reachedFrom_35 : decode b_S_reachedFrom 35 = .ok (.goto (-28), 3) := by decide +kernel
theorem d_S_reachedFrom_38 : decode b_S_reachedFrom 38 = .ok (.iload_n 2, 1) := by decide +kernel
theorem d_S_reachedFrom_39 : decode b_S_reachedFrom 39 = .ok (.ireturn, 1) := by decide +kernel
theorem d_S_findShared_0 : decode b_S_findShared 0 = .ok (.aload_n 0, 1) := by decide +kernel
theorem d_S_findShared_1 : decode b_S_findShared 1 = .ok (.getfield 31, 3) := by decide +kernel
theorem d_S_findShared_4 : decode b_S_findShared 4 = .ok (.iconst (-1), 1) := by decide +kernel
theorem d_S_findShared_5 : decode b_S_findShared 5 = .ok (.invokestatic 48, 3) := by decide +kernel
theorem d_S_findShared_8 : decode b_S_findShared 8 = .ok (.aload_n 0, 1) := by decide +kernel
theorem d_S_findShared_9 : decode b_S_findShared 9 = .ok (.iconst 0, 1) := by decide +kernel
theorem d_S_findShared_10 : decode b_S_findShared 10 = .ok (.putfield 38, 3) := by decide +kernel
theorem d_S_findShared_13 : decode b_S_findShared 13 = .ok (.aload_n 0, 1) := by decide +kernel
theorem d_S_findShared_14 : decode b_S_findShared 14 = .ok (.iconst (-1), 1) := by decide +kernel
theorem d_S_findShared_15 : decode b_S_findShared 15 = .ok (.putfield 41, 3) := by decide +kernel
theorem d_S_findShared_18 : decode b_S_findShared 18 = .ok (.aload_n 0, 1) := by decide +kernel
theorem d_S_findShared_19 : decode b_S_findShared 19 = .ok (.invokevirtual 129, 3) := by decide +kernel
theorem d_S_findShared_22 : decode b_S_findShared 22 = .ok (.istore_n 1, 1) := by decide +kernel
theorem d_S_findShared_23 : decode b_S_findShared 23 = .ok (.iconst 0, 1) := by decide +kernel
theorem d_S_findShared_24 : decode b_S_findShared 24 = .ok (.istore_n 2, 1) := by decide +kernel
theorem d_S_findShared_25 : decode b_S_findShared 25 = .ok (.iload_n 1, 1) := by decide +kernel
theorem d_S_findShared_26 : decode b_S_findShared 26 = .ok (.ifCond .eq 49, 3) := by decide +kernel
theorem d_S_findShared_29 : decode b_S_findShared 29 = .ok (.iload_n 2, 1) := by decide +kernel
theorem d_S_findShared_30 : decode b_S_findShared 30 = .ok (.bipush 16, 2) := by decide +kernel
theorem d_S_findShared_32 : decode b_S_findShared 32 = .ok (.if_icmp .ge 43, 3) := by decide +kernel
theorem d_S_findShared_35 : decode b_S_findShared 35 = .ok (.aload_n 0, 1) := by decide +kernel
theorem d_S_findShared_36 : decode b_S_findShared 36 = .ok (.iload_n 1, 1) := by decide +kernel
theorem d_S_findShared_37 : decode b_S_findShared 37 = .ok (.iload_n 2, 1) := by decide +kernel
theorem d_S_findShared_38 : decode b_S_findShared 38 = .ok (.invokevirtual 133, 3) := by decide +kernel
theorem d_S_findShared_41 : decode b_S_findShared 41 = .ok (.aload_n 0, 1) := by decide +kernel
theorem d_S_findShared_42 : decode b_S_findShared 42 = .ok (.dup, 1) := by decide +kernel
theorem d_S_findShared_43 : decode b_S_findShared 43 = .ok (.getfield 38, 3) := by decide +kernel
theorem d_S_findShared_46 : decode b_S_findShared 46 = .ok (.iload_n 1, 1) := by decide +kernel
theorem d_S_findShared_47 : decode b_S_findShared 47 = .ok (.ior, 1) := by decide +kernel
theorem d_S_findShared_48 : decode b_S_findShared 48 = .ok (.putfield 38, 3) := by decide +kernel
theorem d_S_findShared_51 : decode b_S_findShared 51 = .ok (.aload_n 0, 1) := by decide +kernel
theorem d_S_findShared_52 : decode b_S_findShared 52 = .ok (.iload_n 2, 1) := by decide +kernel
theorem d_S_findShared_53 : decode b_S_findShared 53 = .ok (.putfield 41, 3) := by decide +kernel
theorem d_S_findShared_56 : decode b_S_findShared 56 = .ok (.aload_n 0, 1) := by decide +kernel
theorem d_S_findShared_57 : decode b_S_findShared 57 = .ok (.iload_n 1, 1) := by decide +kernel
theorem d_S_findShared_58 : decode b_S_findShared 58 = .ok (.invokevirtual 126, 3) := by decide +kernel
theorem d_S_findShared_61 : decode b_S_findShared 61 = .ok (.aload_n 0, 1) := by decide +kernel
theorem d_S_findShared_62 : decode b_S_findShared 62 = .ok (.getfield 38, 3) := by decide +kernel
theorem d_S_findShared_65 : decode b_S_findShared 65 = .ok (.iconst (-1), 1) := by decide +kernel
theorem d_S_findShared_66 : decode b_S_findShared 66 = .ok (.ixor, 1) := by decide +kernel
theorem d_S_findShared_67 : decode b_S_findShared 67 = .ok (.iand, 1) := by decide +kernel
theorem d_S_findShared_68 : decode b_S_findShared 68 = .ok (.istore_n 1, 1) := by decide +kernel
theorem d_S_findShared_69 : decode b_S_findShared 69 = .ok (.iinc 2 1, 3) := by decide +kernel
theorem d_S_findShared_72 : decode b_S_findShared 72 = .ok (.goto (-47), 3) := by decide +kernel
theorem d_S_findShared_75 : decode b_S_findShared 75 = .ok (.return_, 1) := by decide +kernel
theorem d_S_setLevel_0 : decode b_S_setLevel 0 = .ok (.iconst 0, 1) := by decide +kernel
theorem d_S_setLevel_1 : decode b_S_setLevel 1 = .ok (.istore_n 3, 1) := by decide +kernel
theorem d_S_setLevel_2 : decode b_S_setLevel 2 = .ok (.iload_n 3, 1) := by decide +kernel
theorem d_S_setLevel_3 : decode b_S_setLevel 3 = .ok (.bipush 16, 2) := by decide +kernel
theorem d_S_setLevel_5 : decode b_S_setLevel 5 = .ok (.if_icmp .ge 26, 3) := by decide +kernel
theorem d_S_setLevel_8 : decode b_S_setLevel 8 = .ok (.iload_n 1, 1) := by decide +kernel
theorem d_S_setLevel_9 : decode b_S_setLevel 9 = .ok (.iload_n 3, 1) := by decide +kernel
theorem d_S_setLevel_10 : decode b_S_setLevel 10 = .ok (.invokestatic 85, 3) := by decide +kernel
theorem d_S_setLevel_13 : decode b_S_setLevel 13 = .ok (.ifCond .eq 12, 3) := by decide +kernel
theorem d_S_setLevel_16 : decode b_S_setLevel 16 = .ok (.aload_n 0, 1) := by decide +kernel
theorem d_S_setLevel_17 : decode b_S_setLevel 17 = .ok (.getfield 31, 3) := by decide +kernel
theorem d_S_setLevel_20 : decode b_S_setLevel 20 = .ok (.iload_n 3, 1) := by decide +kernel
theorem d_S_setLevel_21 : decode b_S_setLevel 21 = .ok (.iload_n 2, 1) := by decide +kernel
theorem d_S_setLevel_22 : decode b_S_setLevel 22 = .ok (.invokestatic 89, 3) := by decide +kernel
theorem d_S_setLevel_25 : decode b_S_setLevel 25 = .ok (.iinc 3 1, 3) := by decide +kernel
theorem d_S_setLevel_28 : decode b_S_setLevel 28 = .ok (.goto (-26), 3) := by decide +kernel
theorem d_S_setLevel_31 : decode b_S_setLevel 31 = .ok (.return_, 1) := by decide +kernel
theorem d_S_ofPlaces_0 : decode b_S_ofPlaces 0 = .ok (.iconst 0, 1) := by decide +kernel
theorem d_S_ofPlaces_1 : decode b_S_ofPlaces 1 = .ok (.istore_n 1, 1) := by decide +kernel
theorem d_S_ofPlaces_2 : decode b_S_ofPlaces 2 = .ok (.iconst 0, 1) := by decide +kernel
theorem d_S_ofPlaces_3 : decode b_S_ofPlaces 3 = .ok (.istore_n 2, 1) := by decide +kernel
theorem d_S_ofPlaces_4 : decode b_S_ofPlaces 4 = .ok (.iload_n 2, 1) := by decide +kernel
theorem d_S_ofPlaces_5 : decode b_S_ofPlaces 5 = .ok (.iconst 4, 1) := by decide +kernel
theorem d_S_ofPlaces_6 : decode b_S_ofPlaces 6 = .ok (.if_icmp .ge 20, 3) := by decide +kernel
theorem d_S_ofPlaces_9 : decode b_S_ofPlaces 9 = .ok (.iload_n 1, 1) := by decide +kernel
theorem d_S_ofPlaces_10 : decode b_S_ofPlaces 10 = .ok (.aload_n 0, 1) := by decide +kernel
theorem d_S_ofPlaces_11 : decode b_S_ofPlaces 11 = .ok (.getfield 25, 3) := by decide +kernel
theorem d_S_ofPlaces_14 : decode b_S_ofPlaces 14 = .ok (.iload_n 2, 1) := by decide +kernel
theorem d_S_ofPlaces_15 : decode b_S_ofPlaces 15 = .ok (.invokestatic 93, 3) := by decide +kernel
theorem d_S_ofPlaces_18 : decode b_S_ofPlaces 18 = .ok (.ior, 1) := by decide +kernel
theorem d_S_ofPlaces_19 : decode b_S_ofPlaces 19 = .ok (.istore_n 1, 1) := by decide +kernel
theorem d_S_ofPlaces_20 : decode b_S_ofPlaces 20 = .ok (.iinc 2 1, 3) := by decide +kernel
theorem d_S_ofPlaces_23 : decode b_S_ofPlaces 23 = .ok (.goto (-19), 3) := by decide +kernel
theorem d_S_ofPlaces_26 : decode b_S_ofPlaces 26 = .ok (.iload_n 1, 1) := by decide +kernel
theorem d_S_ofPlaces_27 : decode b_S_ofPlaces 27 = .ok (.ireturn, 1) := by decide +kernel
theorem d_S_openToAll_0 : decode b_S_openToAll 0 = .ok (.aload_n 0, 1) := by decide +kernel
theorem d_S_openToAll_1 : decode b_S_openToAll 1 = .ok (.invokevirtual 137, 3) := by decide +kernel
theorem d_S_openToAll_4 : decode b_S_openToAll 4 = .ok (.istore_n 1, 1) := by decide +kernel
theorem d_S_openToAll_5 : decode b_S_openToAll 5 = .ok (.iconst 0, 1) := by decide +kernel
theorem d_S_openToAll_6 : decode b_S_openToAll 6 = .ok (.istore_n 2, 1) := by decide +kernel
theorem d_S_openToAll_7 : decode b_S_openToAll 7 = .ok (.iload_n 2, 1) := by decide +kernel
theorem d_S_openToAll_8 : decode b_S_openToAll 8 = .ok (.aload_n 0, 1) := by decide +kernel
theorem d_S_openToAll_9 : decode b_S_openToAll 9 = .ok (.getfield 9, 3) := by decide +kernel
theorem d_S_openToAll_12 : decode b_S_openToAll 12 = .ok (.getfield 62, 3) := by decide +kernel
theorem d_S_openToAll_15 : decode b_S_openToAll 15 = .ok (.if_icmp .ge 54, 3) := by decide +kernel
theorem d_S_openToAll_18 : decode b_S_openToAll 18 = .ok (.aload_n 0, 1) := by decide +kernel
theorem d_S_openToAll_19 : decode b_S_openToAll 19 = .ok (.getfield 9, 3) := by decide +kernel
theorem d_S_openToAll_22 : decode b_S_openToAll 22 = .ok (.iload_n 2, 1) := by decide +kernel
theorem d_S_openToAll_23 : decode b_S_openToAll 23 = .ok (.invokevirtual 67, 3) := by decide +kernel
theorem d_S_openToAll_26 : decode b_S_openToAll 26 = .ok (.istore_n 3, 1) := by decide +kernel
theorem d_S_openToAll_27 : decode b_S_openToAll 27 = .ok (.iload_n 3, 1) := by decide +kernel
theorem d_S_openToAll_28 : decode b_S_openToAll 28 = .ok (.bipush 8, 2) := by decide +kernel
theorem d_S_openToAll_30 : decode b_S_openToAll 30 = .ok (.if_icmp .eq 9, 3) := by decide +kernel
theorem d_S_openToAll_33 : decode b_S_openToAll 33 = .ok (.iload_n 3, 1) := by decide +kernel
theorem d_S_openToAll_34 : decode b_S_openToAll 34 = .ok (.bipush 9, 2) := by decide +kernel
theorem d_S_openToAll_36 : decode b_S_openToAll 36 = .ok (.if_icmp .ne 27, 3) := by decide +kernel
theorem d_S_openToAll_39 : decode b_S_openToAll 39 = .ok (.iload_n 1, 1) := by decide +kernel
theorem d_S_openToAll_40 : decode b_S_openToAll 40 = .ok (.aload_n 0, 1) := by decide +kernel
theorem d_S_openToAll_41 : decode b_S_openToAll 41 = .ok (.aload_n 0, 1) := by decide +kernel
theorem d_S_openToAll_42 : decode b_S_openToAll 42 = .ok (.getfield 9, 3) := by decide +kernel
theorem d_S_openToAll_45 : decode b_S_openToAll 45 = .ok (.iload_n 2, 1) := by decide +kernel
theorem d_S_openToAll_46 : decode b_S_openToAll 46 = .ok (.invokevirtual 71, 3) := by decide +kernel
theorem d_S_openToAll_49 : decode b_S_openToAll 49 = .ok (.aload_n 0, 1) := by decide +kernel
theorem d_S_openToAll_50 : decode b_S_openToAll 50 = .ok (.getfield 9, 3) := by decide +kernel
theorem d_S_openToAll_53 : decode b_S_openToAll 53 = .ok (.iload_n 2, 1) := by decide +kernel
theorem d_S_openToAll_54 : decode b_S_openToAll 54 = .ok (.iconst 0, 1) := by decide +kernel
theorem d_S_openToAll_55 : decode b_S_openToAll 55 = .ok (.invokevirtual 74, 3) := by decide +kernel
theorem d_S_openToAll_58 : decode b_S_openToAll 58 = .ok (.invokevirtual 111, 3) := by decide +kernel
theorem d_S_openToAll_61 : decode b_S_openToAll 61 = .ok (.ior, 1) := by decide +kernel
theorem d_S_openToAll_62 : decode b_S_openToAll 62 = .ok (.istore_n 1, 1) := by decide +kernel
theorem d_S_openToAll_63 : decode b_S_openToAll 63 = .ok (.iinc 2 1, 3) := by decide +kernel
theorem d_S_openToAll_66 : decode b_S_openToAll 66 = .ok (.goto (-59), 3) := by decide +kernel
theorem d_S_openToAll_69 : decode b_S_openToAll 69 = .ok (.iload_n 1, 1) := by decide +kernel
theorem d_S_openToAll_70 : decode b_S_openToAll 70 = .ok (.ireturn, 1) := by decide +kernel
theorem d_X_init_0 : decode b_X_init 0 = .ok (.aload_n 0, 1) := by decide +kernel
theorem d_X_init_1 : decode b_X_init 1 = .ok (.invokespecial 3, 3) := by decide +kernel
theorem d_X_init_4 : decode b_X_init 4 = .ok (.aload_n 0, 1) := by decide +kernel
theorem d_X_init_5 : decode b_X_init 5 = .ok (.aload_n 1, 1) := by decide +kernel
theorem d_X_init_6 : decode b_X_init 6 = .ok (.putfield 9, 3) := by decide +kernel
theorem d_X_init_9 : decode b_X_init 9 = .ok (.aload_n 0, 1) := by decide +kernel
theorem d_X_init_10 : decode b_X_init 10 = .ok (.aload_n 2, 1) := by decide +kernel
theorem d_X_init_11 : decode b_X_init 11 = .ok (.putfield 15, 3) := by decide +kernel
theorem d_X_init_14 : decode b_X_init 14 = .ok (.return_, 1) := by decide +kernel
theorem d_X_outSites_0 : decode b_X_outSites 0 = .ok (.aload_n 0, 1) := by decide +kernel
theorem d_X_outSites_1 : decode b_X_outSites 1 = .ok (.getfield 15, 3) := by decide +kernel
theorem d_X_outSites_4 : decode b_X_outSites 4 = .ok (.getfield 19, 3) := by decide +kernel
theorem d_X_outSites_7 : decode b_X_outSites 7 = .ok (.istore_n 1, 1) := by decide +kernel
theorem d_X_outSites_8 : decode b_X_outSites 8 = .ok (.iconst 0, 1) := by decide +kernel
theorem d_X_outSites_9 : decode b_X_outSites 9 = .ok (.istore_n 2, 1) := by decide +kernel
theorem d_X_outSites_10 : decode b_X_outSites 10 = .ok (.iload_n 2, 1) := by decide +kernel
theorem d_X_outSites_11 : decode b_X_outSites 11 = .ok (.bipush 8, 2) := by decide +kernel
theorem d_X_outSites_13 : decode b_X_outSites 13 = .ok (.if_icmp .ge 52, 3) := by decide +kernel
theorem d_X_outSites_16 : decode b_X_outSites 16 = .ok (.aload_n 0, 1) := by decide +kernel
theorem d_X_outSites_17 : decode b_X_outSites 17 = .ok (.getfield 15, 3) := by decide +kernel
theorem d_X_outSites_20 : decode b_X_outSites 20 = .ok (.iload_n 2, 1) := by decide +kernel
theorem d_X_outSites_21 : decode b_X_outSites 21 = .ok (.invokevirtual 25, 3) := by decide +kernel
theorem d_X_outSites_24 : decode b_X_outSites 24 = .ok (.aload_n 0, 1) := by decide +kernel
theorem d_X_outSites_25 : decode b_X_outSites 25 = .ok (.getfield 15, 3) := by decide +kernel
theorem d_X_outSites_28 : decode b_X_outSites 28 = .ok (.getfield 29, 3) := by decide +kernel
theorem d_X_outSites_31 : decode b_X_outSites 31 = .ok (.iload_n 2, 1) := by decide +kernel
theorem d_X_outSites_32 : decode b_X_outSites 32 = .ok (.invokestatic 33, 3) := by decide +kernel
theorem d_X_outSites_35 : decode b_X_outSites 35 = .ok (.ior, 1) := by decide +kernel
theorem d_X_outSites_36 : decode b_X_outSites 36 = .ok (.istore_n 3, 1) := by decide +kernel
theorem d_X_outSites_37 : decode b_X_outSites 37 = .ok (.iload_n 1, 1) := by decide +kernel
theorem d_X_outSites_38 : decode b_X_outSites 38 = .ok (.aload_n 0, 1) := by decide +kernel
theorem d_X_outSites_39 : decode b_X_outSites 39 = .ok (.getfield 15, 3) := by decide +kernel
theorem d_X_outSites_42 : decode b_X_outSites 42 = .ok (.iload_n 3, 1) := by decide +kernel
theorem d_X_outSites_43 : decode b_X_outSites 43 = .ok (.invokevirtual 37, 3) := by decide +kernel
theorem d_X_outSites_46 : decode b_X_outSites 46 = .ok (.aload_n 0, 1) := by decide +kernel
theorem d_X_outSites_47 : decode b_X_outSites 47 = .ok (.getfield 9, 3) := by decide +kernel
theorem d_X_outSites_50 : decode b_X_outSites 50 = .ok (.iconst 1, 1) := by decide +kernel
theorem d_X_outSites_51 : decode b_X_outSites 51 = .ok (.iload_n 2, 1) := by decide +kernel
theorem d_X_outSites_52 : decode b_X_outSites 52 = .ok (.ishl, 1) := by decide +kernel
theorem d_X_outSites_53 : decode b_X_outSites 53 = .ok (.invokevirtual 40, 3) := by decide +kernel
theorem d_X_outSites_56 : decode b_X_outSites 56 = .ok (.iand, 1) := by decide +kernel
theorem d_X_outSites_57 : decode b_X_outSites 57 = .ok (.ior, 1) := by decide +kernel
theorem d_X_outSites_58 : decode b_X_outSites 58 = .ok (.istore_n 1, 1) := by decide +kernel
theorem d_X_outSites_59 : decode b_X_outSites 59 = .ok (.iinc 2 1, 3) := by decide +kernel
theorem d_X_outSites_62 : decode b_X_outSites 62 = .ok (.goto (-52), 3) := by decide +kernel
theorem d_X_outSites_65 : decode b_X_outSites 65 = .ok (.iload_n 1, 1) := by decide +kernel
theorem d_X_outSites_66 : decode b_X_outSites 66 = .ok (.ireturn, 1) := by decide +kernel
theorem d_X_countHolders_0 : decode b_X_countHolders 0 = .ok (.iconst 0, 1) := by decide +kernel
theorem d_X_countHolders_1 : decode b_X_countHolders 1 = .ok (.istore_n 2, 1) := by decide +kernel
theorem d_X_countHolders_2 : decode b_X_countHolders 2 = .ok (.iconst 0, 1) := by decide +kernel
theorem d_X_countHolders_3 : decode b_X_countHolders 3 = .ok (.istore_n 3, 1) := by decide +kernel
theorem d_X_countHolders_4 : decode b_X_countHolders 4 = .ok (.iload_n 3, 1) := by decide +kernel
theorem d_X_countHolders_5 : decode b_X_countHolders 5 = .ok (.bipush 16, 2) := by decide +kernel
theorem d_X_countHolders_7 : decode b_X_countHolders 7 = .ok (.if_icmp .ge 44, 3) := by decide +kernel
theorem d_X_countHolders_10 : decode b_X_countHolders 10 = .ok (.iconst 0, 1) := by decide +kernel
theorem d_X_countHolders_11 : decode b_X_countHolders 11 = .ok (.istore 4, 2) := by decide +kernel
theorem d_X_countHolders_13 : decode b_X_countHolders 13 = .ok (.iload 4, 2) := by decide +kernel
theorem d_X_countHolders_15 : decode b_X_countHolders 15 = .ok (.iconst 4, 1) := by decide +kernel
theorem d_X_countHolders_16 : decode b_X_countHolders 16 = .ok (.if_icmp .ge 29, 3) := by decide +kernel
theorem d_X_countHolders_19 : decode b_X_countHolders 19 = .ok (.aload_n 0, 1) := by decide +kernel
theorem d_X_countHolders_20 : decode b_X_countHolders 20 = .ok (.getfield 15, 3) := by decide +kernel
theorem d_X_countHolders_23 : decode b_X_countHolders 23 = .ok (.iload_n 3, 1) := by decide +kernel
theorem d_X_countHolders_24 : decode b_X_countHolders 24 = .ok (.iload 4, 2) := by decide +kernel
theorem d_X_countHolders_26 : decode b_X_countHolders 26 = .ok (.invokevirtual 45, 3) := by decide +kernel
theorem d_X_countHolders_29 : decode b_X_countHolders 29 = .ok (.iload_n 1, 1) := by decide +kernel
theorem d_X_countHolders_30 : decode b_X_countHolders 30 = .ok (.invokestatic 49, 3) := by decide +kernel
theorem d_X_countHolders_33 : decode b_X_countHolders 33 = .ok (.ifCond .eq 6, 3) := by decide +kernel
theorem d_X_countHolders_36 : decode b_X_countHolders 36 = .ok (.iinc 2 1, 3) := by decide +kernel
theorem d_X_countHolders_39 : decode b_X_countHolders 39 = .ok (.iinc 4 1, 3) := by decide +kernel
theorem d_X_countHolders_42 : decode b_X_countHolders 42 = .ok (.goto (-29), 3) := by decide +kernel
theorem d_X_countHolders_45 : decode b_X_countHolders 45 = .ok (.iinc 3 1, 3) := by decide +kernel
theorem d_X_countHolders_48 : decode b_X_countHolders 48 = .ok (.goto (-44), 3) := by decide +kernel
theorem d_X_countHolders_51 : decode b_X_countHolders 51 = .ok (.iload_n 2, 1) := by decide +kernel
theorem d_X_countHolders_52 : decode b_X_countHolders 52 = .ok (.ireturn, 1) := by decide +kernel
theorem d_X_holdingSites_0 : decode b_X_holdingSites 0 = .ok (.iconst 0, 1) := by decide +kernel
theorem d_X_holdingSites_1 : decode b_X_holdingSites 1 = .ok (.istore_n 2, 1) := by decide +kernel
theorem d_X_holdingSites_2 : decode b_X_holdingSites 2 = .ok (.iconst 0, 1) := by decide +kernel
theorem d_X_holdingSites_3 : decode b_X_holdingSites 3 = .ok (.istore_n 3, 1) := by decide +kernel
theorem d_X_holdingSites_4 : decode b_X_holdingSites 4 = .ok (.iload_n 3, 1) := by decide +kernel
theorem d_X_holdingSites_5 : decode b_X_holdingSites 5 = .ok (.bipush 16, 2) := by decide +kernel
theorem d_X_holdingSites_7 : decode b_X_holdingSites 7 = .ok (.if_icmp .ge 32, 3) := by decide +kernel
theorem d_X_holdingSites_10 : decode b_X_holdingSites 10 = .ok (.aload_n 0, 1) := by decide +kernel
theorem d_X_holdingSites_11 : decode b_X_holdingSites 11 = .ok (.getfield 15, 3) := by decide +kernel
theorem d_X_holdingSites_14 : decode b_X_holdingSites 14 = .ok (.iconst 1, 1) := by decide +kernel
theorem d_X_holdingSites_15 : decode b_X_holdingSites 15 = .ok (.iload_n 3, 1) := by decide +kernel
theorem d_X_holdingSites_16 : decode b_X_holdingSites 16 = .ok (.ishl, 1) := by decide +kernel
theorem d_X_holdingSites_17 : decode b_X_holdingSites 17 = .ok (.invokevirtual 53, 3) := by decide +kernel
theorem d_X_holdingSites_20 : decode b_X_holdingSites 20 = .ok (.iload_n 1, 1) := by decide +kernel
theorem d_X_holdingSites_21 : decode b_X_holdingSites 21 = .ok (.invokestatic 49, 3) := by decide +kernel
theorem d_X_holdingSites_24 : decode b_X_holdingSites 24 = .ok (.ifCond .eq 9, 3) := by decide +kernel
theorem d_X_holdingSites_27 : decode b_X_holdingSites 27 = .ok (.iload_n 2, 1) := by decide +kernel
theorem d_X_holdingSites_28 : decode b_X_holdingSites 28 = .ok (.iconst 1, 1) := by decide +kernel
theorem d_X_holdingSites_29 : decode b_X_holdingSites 29 = .ok (.iload_n 3, 1) := by decide +kernel
theorem d_X_holdingSites_30 : decode b_X_holdingSites 30 = .ok (.ishl, 1) := by decide +kernel
theorem d_X_holdingSites_31 : decode b_X_holdingSites 31 = .ok (.ior, 1) := by decide +kernel
theorem d_X_holdingSites_32 : decode b_X_holdingSites 32 = .ok (.istore_n 2, 1) := by decide +kernel
theorem d_X_holdingSites_33 : decode b_X_holdingSites 33 = .ok (.iinc 3 1, 3) := by decide +kernel
theorem d_X_holdingSites_36 : decode b_X_holdingSites 36 = .ok (.goto (-32), 3) := by decide +kernel
theorem d_X_holdingSites_39 : decode b_X_holdingSites 39 = .ok (.iload_n 2, 1) := by decide +kernel
theorem d_X_holdingSites_40 : decode b_X_holdingSites 40 = .ok (.ireturn, 1) := by decide +kernel
theorem d_X_ownedSites_0 : decode b_X_ownedSites 0 = .ok (.aload_n 0, 1) := by decide +kernel
theorem d_X_ownedSites_1 : decode b_X_ownedSites 1 = .ok (.getfield 15, 3) := by decide +kernel
theorem d_X_ownedSites_4 : decode b_X_ownedSites 4 = .ok (.invokevirtual 56, 3) := by decide +kernel
theorem d_X_ownedSites_7 : decode b_X_ownedSites 7 = .ok (.istore_n 1, 1) := by decide +kernel
theorem d_X_ownedSites_8 : decode b_X_ownedSites 8 = .ok (.iconst 0, 1) := by decide +kernel
theorem d_X_ownedSites_9 : decode b_X_ownedSites 9 = .ok (.istore_n 2, 1) := by decide +kernel
theorem d_X_ownedSites_10 : decode b_X_ownedSites 10 = .ok (.iconst 0, 1) := by decide +kernel
theorem d_X_ownedSites_11 : decode b_X_ownedSites 11 = .ok (.istore_n 3, 1) := by decide +kernel
theorem d_X_ownedSites_12 : decode b_X_ownedSites 12 = .ok (.iload_n 3, 1) := by decide +kernel
theorem d_X_ownedSites_13 : decode b_X_ownedSites 13 = .ok (.aload_n 0, 1) := by decide +kernel
theorem d_X_ownedSites_14 : decode b_X_ownedSites 14 = .ok (.getfield 9, 3) := by decide +kernel
theorem d_X_ownedSites_17 : decode b_X_ownedSites 17 = .ok (.getfield 60, 3) := by decide +kernel
theorem d_X_ownedSites_20 : decode b_X_ownedSites 20 = .ok (.if_icmp .ge 32, 3) := by decide +kernel
theorem d_X_ownedSites_23 : decode b_X_ownedSites 23 = .ok (.iload_n 1, 1) := by decide +kernel
theorem d_X_ownedSites_24 : decode b_X_ownedSites 24 = .ok (.iload_n 3, 1) := by decide +kernel
theorem d_X_ownedSites_25 : decode b_X_ownedSites 25 = .ok (.invokestatic 49, 3) := by decide +kernel
theorem d_X_ownedSites_28 : decode b_X_ownedSites 28 = .ok (.ifCond .ne 18, 3) := by decide +kernel
theorem d_X_ownedSites_31 : decode b_X_ownedSites 31 = .ok (.aload_n 0, 1) := by decide +kernel
theorem d_X_ownedSites_32 : decode b_X_ownedSites 32 = .ok (.iload_n 3, 1) := by decide +kernel
theorem d_X_ownedSites_33 : decode b_X_ownedSites 33 = .ok (.invokevirtual 63, 3) := by decide +kernel
theorem d_X_ownedSites_36 : decode b_X_ownedSites 36 = .ok (.iconst 1, 1) := by decide +kernel
theorem d_X_ownedSites_37 : decode b_X_ownedSites 37 = .ok (.if_icmp .ne 9, 3) := by decide +kernel
theorem d_X_ownedSites_40 : decode b_X_ownedSites 40 = .ok (.iload_n 2, 1) := by decide +kernel
theorem d_X_ownedSites_41 : decode b_X_ownedSites 41 = .ok (.iconst 1, 1) := by decide +kernel
theorem d_X_ownedSites_42 : decode b_X_ownedSites 42 = .ok (.iload_n 3, 1) := by decide +kernel
theorem d_X_ownedSites_43 : decode b_X_ownedSites 43 = .ok (.ishl, 1) := by decide +kernel
theorem d_X_ownedSites_44 : decode b_X_ownedSites 44 = .ok (.ior, 1) := by decide +kernel
theorem d_X_ownedSites_45 : decode b_X_ownedSites 45 = .ok (.istore_n 2, 1) := by decide +kernel
theorem d_X_ownedSites_46 : decode b_X_ownedSites 46 = .ok (.iinc 3 1, 3) := by decide +kernel
theorem d_X_ownedSites_49 : decode b_X_ownedSites 49 = .ok (.goto (-37), 3) := by decide +kernel
theorem d_X_ownedSites_52 : decode b_X_ownedSites 52 = .ok (.iload_n 2, 1) := by decide +kernel
theorem d_X_ownedSites_53 : decode b_X_ownedSites 53 = .ok (.ireturn, 1) := by decide +kernel
theorem d_X_pointingMethods_0 : decode b_X_pointingMethods 0 = .ok (.iconst 0, 1) := by decide +kernel
theorem d_X_pointingMethods_1 : decode b_X_pointingMethods 1 = .ok (.istore_n 2, 1) := by decide +kernel
theorem d_X_pointingMethods_2 : decode b_X_pointingMethods 2 = .ok (.iconst 0, 1) := by decide +kernel
theorem d_X_pointingMethods_3 : decode b_X_pointingMethods 3 = .ok (.istore_n 3, 1) := by decide +kernel
theorem d_X_pointingMethods_4 : decode b_X_pointingMethods 4 = .ok (.iload_n 3, 1) := by decide +kernel
theorem d_X_pointingMethods_5 : decode b_X_pointingMethods 5 = .ok (.bipush 8, 2) := by decide +kernel
theorem d_X_pointingMethods_7 : decode b_X_pointingMethods 7 = .ok (.if_icmp .ge 48, 3) := by decide +kernel
theorem d_X_pointingMethods_10 : decode b_X_pointingMethods 10 = .ok (.iconst 0, 1) := by decide +kernel
theorem d_X_pointingMethods_11 : decode b_X_pointingMethods 11 = .ok (.istore 4, 2) := by decide +kernel
theorem d_X_pointingMethods_13 : decode b_X_pointingMethods 13 = .ok (.iload 4, 2) := by decide +kernel
theorem d_X_pointingMethods_15 : decode b_X_pointingMethods 15 = .ok (.bipush 8, 2) := by decide +kernel
theorem d_X_pointingMethods_17 : decode b_X_pointingMethods 17 = .ok (.if_icmp .ge 32, 3) := by decide +kernel
theorem d_X_pointingMethods_20 : decode b_X_pointingMethods 20 = .ok (.aload_n 0, 1) := by decide +kernel
theorem d_X_pointingMethods_21 : decode b_X_pointingMethods 21 = .ok (.getfield 15, 3) := by decide +kernel
theorem d_X_pointingMethods_24 : decode b_X_pointingMethods 24 = .ok (.iload_n 3, 1) := by decide +kernel
theorem d_X_pointingMethods_25 : decode b_X_pointingMethods 25 = .ok (.iload 4, 2) := by decide +kernel
theorem d_X_pointingMethods_27 : decode b_X_pointingMethods 27 = .ok (.invokevirtual 66, 3) := by decide +kernel
theorem d_X_pointingMethods_30 : decode b_X_pointingMethods 30 = .ok (.iload_n 1, 1) := by decide +kernel
theorem d_X_pointingMethods_31 : decode b_X_pointingMethods 31 = .ok (.invokestatic 49, 3) := by decide +kernel
theorem d_X_pointingMethods_34 : decode b_X_pointingMethods 34 = .ok (.ifCond .eq 9, 3) := by decide +kernel
theorem d_X_pointingMethods_37 : decode b_X_pointingMethods 37 = .ok (.iload_n 2, 1) := by decide +kernel
theorem d_X_pointingMethods_38 : decode b_X_pointingMethods 38 = .ok (.iconst 1, 1) := by decide +kernel
theorem d_X_pointingMethods_39 : decode b_X_pointingMethods 39 = .ok (.iload_n 3, 1) := by decide +kernel
theorem d_X_pointingMethods_40 : decode b_X_pointingMethods 40 = .ok (.ishl, 1) := by decide +kernel
theorem d_X_pointingMethods_41 : decode b_X_pointingMethods 41 = .ok (.ior, 1) := by decide +kernel
theorem d_X_pointingMethods_42 : decode b_X_pointingMethods 42 = .ok (.istore_n 2, 1) := by decide +kernel
theorem d_X_pointingMethods_43 : decode b_X_pointingMethods 43 = .ok (.iinc 4 1, 3) := by decide +kernel
theorem d_X_pointingMethods_46 : decode b_X_pointingMethods 46 = .ok (.goto (-33), 3) := by decide +kernel
theorem d_X_pointingMethods_49 : decode b_X_pointingMethods 49 = .ok (.iinc 3 1, 3) := by decide +kernel
theorem d_X_pointingMethods_52 : decode b_X_pointingMethods 52 = .ok (.goto (-48), 3) := by decide +kernel
theorem d_X_pointingMethods_55 : decode b_X_pointingMethods 55 = .ok (.iload_n 2, 1) := by decide +kernel
theorem d_X_pointingMethods_56 : decode b_X_pointingMethods 56 = .ok (.ireturn, 1) := by decide +kernel
theorem d_X_storingMethods_0 : decode b_X_storingMethods 0 = .ok (.iconst 0, 1) := by decide +kernel
theorem d_X_storingMethods_1 : decode b_X_storingMethods 1 = .ok (.istore_n 2, 1) := by decide +kernel
theorem d_X_storingMethods_2 : decode b_X_storingMethods 2 = .ok (.iconst 0, 1) := by decide +kernel
theorem d_X_storingMethods_3 : decode b_X_storingMethods 3 = .ok (.istore_n 3, 1) := by decide +kernel
theorem d_X_storingMethods_4 : decode b_X_storingMethods 4 = .ok (.iload_n 3, 1) := by decide +kernel
theorem d_X_storingMethods_5 : decode b_X_storingMethods 5 = .ok (.aload_n 0, 1) := by decide +kernel
theorem d_X_storingMethods_6 : decode b_X_storingMethods 6 = .ok (.getfield 9, 3) := by decide +kernel
theorem d_X_storingMethods_9 : decode b_X_storingMethods 9 = .ok (.getfield 69, 3) := by decide +kernel
theorem d_X_storingMethods_12 : decode b_X_storingMethods 12 = .ok (.if_icmp .ge 46, 3) := by decide +kernel
theorem d_X_storingMethods_15 : decode b_X_storingMethods 15 = .ok (.aload_n 0, 1) := by decide +kernel
theorem d_X_storingMethods_16 : decode b_X_storingMethods 16 = .ok (.getfield 9, 3) := by decide +kernel
theorem d_X_storingMethods_19 : decode b_X_storingMethods 19 = .ok (.iload_n 3, 1) := by decide +kernel
theorem d_X_storingMethods_20 : decode b_X_storingMethods 20 = .ok (.invokevirtual 72, 3) := by decide +kernel
theorem d_X_storingMethods_23 : decode b_X_storingMethods 23 = .ok (.iconst 3, 1) := by decide +kernel
theorem d_X_storingMethods_24 : decode b_X_storingMethods 24 = .ok (.if_icmp .ne 28, 3) := by decide +kernel
theorem d_X_storingMethods_27 : decode b_X_storingMethods 27 = .ok (.aload_n 0, 1) := by decide +kernel
theorem d_X_storingMethods_28 : decode b_X_storingMethods 28 = .ok (.iload_n 3, 1) := by decide +kernel
theorem d_X_storingMethods_29 : decode b_X_storingMethods 29 = .ok (.invokevirtual 75, 3) := by decide +kernel
theorem d_X_storingMethods_32 : decode b_X_storingMethods 32 = .ok (.iload_n 1, 1) := by decide +kernel
theorem d_X_storingMethods_33 : decode b_X_storingMethods 33 = .ok (.invokestatic 49, 3) := by decide +kernel
theorem d_X_storingMethods_36 : decode b_X_storingMethods 36 = .ok (.ifCond .eq 16, 3) := by decide +kernel
theorem d_X_storingMethods_39 : decode b_X_storingMethods 39 = .ok (.iload_n 2, 1) := by decide +kernel
theorem d_X_storingMethods_40 : decode b_X_storingMethods 40 = .ok (.iconst 1, 1) := by decide +kernel
theorem d_X_storingMethods_41 : decode b_X_storingMethods 41 = .ok (.aload_n 0, 1) := by decide +kernel
theorem d_X_storingMethods_42 : decode b_X_storingMethods 42 = .ok (.getfield 9, 3) := by decide +kernel
theorem d_X_storingMethods_45 : decode b_X_storingMethods 45 = .ok (.iload_n 3, 1) := by decide +kernel
theorem d_X_storingMethods_46 : decode b_X_storingMethods 46 = .ok (.invokevirtual 78, 3) := by decide +kernel
theorem d_X_storingMethods_49 : decode b_X_storingMethods 49 = .ok (.ishl, 1) := by decide +kernel
theorem d_X_storingMethods_50 : decode b_X_storingMethods 50 = .ok (.ior, 1) := by decide +kernel
theorem d_X_storingMethods_51 : decode b_X_storingMethods 51 = .ok (.istore_n 2, 1) := by decide +kernel
theorem d_X_storingMethods_52 : decode b_X_storingMethods 52 = .ok (.iinc 3 1, 3) := by decide +kernel
theorem d_X_storingMethods_55 : decode b_X_storingMethods 55 = .ok (.goto (-51), 3) := by decide +kernel
theorem d_X_storingMethods_58 : decode b_X_storingMethods 58 = .ok (.iload_n 2, 1) := by decide +kernel
theorem d_X_storingMethods_59 : decode b_X_storingMethods 59 = .ok (.ireturn, 1) := by decide +kernel
theorem d_X_storedTo_0 : decode b_X_storedTo 0 = .ok (.aload_n 0, 1) := by decide +kernel
theorem d_X_storedTo_1 : decode b_X_storedTo 1 = .ok (.getfield 15, 3) := by decide +kernel
theorem d_X_storedTo_4 : decode b_X_storedTo 4 = .ok (.aload_n 0, 1) := by decide +kernel
theorem d_X_storedTo_5 : decode b_X_storedTo 5 = .ok (.getfield 9, 3) := by decide +kernel
theorem d_X_storedTo_8 : decode b_X_storedTo 8 = .ok (.iload_n 1, 1) := by decide +kernel
theorem d_X_storedTo_9 : decode b_X_storedTo 9 = .ok (.invokevirtual 78, 3) := by decide +kernel
theorem d_X_storedTo_12 : decode b_X_storedTo 12 = .ok (.aload_n 0, 1) := by decide +kernel
theorem d_X_storedTo_13 : decode b_X_storedTo 13 = .ok (.getfield 9, 3) := by decide +kernel
theorem d_X_storedTo_16 : decode b_X_storedTo 16 = .ok (.iload_n 1, 1) := by decide +kernel
theorem d_X_storedTo_17 : decode b_X_storedTo 17 = .ok (.iconst 0, 1) := by decide +kernel
theorem d_X_storedTo_18 : decode b_X_storedTo 18 = .ok (.invokevirtual 81, 3) := by decide +kernel
theorem d_X_storedTo_21 : decode b_X_storedTo 21 = .ok (.invokevirtual 66, 3) := by decide +kernel
theorem d_X_storedTo_24 : decode b_X_storedTo 24 = .ok (.ireturn, 1) := by decide +kernel
theorem d_X_fixedSites_0 : decode b_X_fixedSites 0 = .ok (.aload_n 0, 1) := by decide +kernel
theorem d_X_fixedSites_1 : decode b_X_fixedSites 1 = .ok (.getfield 9, 3) := by decide +kernel
theorem d_X_fixedSites_4 : decode b_X_fixedSites 4 = .ok (.aload_n 0, 1) := by decide +kernel
theorem d_X_fixedSites_5 : decode b_X_fixedSites 5 = .ok (.getfield 15, 3) := by decide +kernel
theorem d_X_fixedSites_8 : decode b_X_fixedSites 8 = .ok (.getfield 84, 3) := by decide +kernel
theorem d_X_fixedSites_11 : decode b_X_fixedSites 11 = .ok (.invokevirtual 40, 3) := by decide +kernel
theorem d_X_fixedSites_14 : decode b_X_fixedSites 14 = .ok (.istore_n 1, 1) := by decide +kernel
theorem d_X_fixedSites_15 : decode b_X_fixedSites 15 = .ok (.iconst 0, 1) := by decide +kernel
theorem d_X_fixedSites_16 : decode b_X_fixedSites 16 = .ok (.istore_n 2, 1) := by decide +kernel
theorem d_X_fixedSites_17 : decode b_X_fixedSites 17 = .ok (.iconst 0, 1) := by decide +kernel
theorem d_X_fixedSites_18 : decode b_X_fixedSites 18 = .ok (.istore_n 3, 1) := by decide +kernel
theorem d_X_fixedSites_19 : decode b_X_fixedSites 19 = .ok (.iload_n 3, 1) := by decide +kernel
theorem d_X_fixedSites_20 : decode b_X_fixedSites 20 = .ok (.aload_n 0, 1) := by decide +kernel
theorem d_X_fixedSites_21 : decode b_X_fixedSites 21 = .ok (.getfield 9, 3) := by decide +kernel
theorem d_X_fixedSites_24 : decode b_X_fixedSites 24 = .ok (.getfield 60, 3) := by decide +kernel
theorem d_X_fixedSites_27 : decode b_X_fixedSites 27 = .ok (.if_icmp .ge 48, 3) := by decide +kernel
theorem d_X_fixedSites_30 : decode b_X_fixedSites 30 = .ok (.aload_n 0, 1) := by decide +kernel
theorem d_X_fixedSites_31 : decode b_X_fixedSites 31 = .ok (.iload_n 3, 1) := by decide +kernel
theorem d_X_fixedSites_32 : decode b_X_fixedSites 32 = .ok (.invokevirtual 87, 3) := by decide +kernel
theorem d_X_fixedSites_35 : decode b_X_fixedSites 35 = .ok (.iconst 1, 1) := by decide +kernel
theorem d_X_fixedSites_36 : decode b_X_fixedSites 36 = .ok (.aload_n 0, 1) := by decide +kernel
theorem d_X_fixedSites_37 : decode b_X_fixedSites 37 = .ok (.getfield 9, 3) := by decide +kernel
theorem d_X_fixedSites_40 : decode b_X_fixedSites 40 = .ok (.iload_n 3, 1) := by decide +kernel
theorem d_X_fixedSites_41 : decode b_X_fixedSites 41 = .ok (.invokevirtual 90, 3) := by decide +kernel
theorem d_X_fixedSites_44 : decode b_X_fixedSites 44 = .ok (.ishl, 1) := by decide +kernel
theorem d_X_fixedSites_45 : decode b_X_fixedSites 45 = .ok (.iconst (-1), 1) := by decide +kernel
theorem d_X_fixedSites_46 : decode b_X_fixedSites 46 = .ok (.ixor, 1) := by decide +kernel
theorem d_X_fixedSites_47 : decode b_X_fixedSites 47 = .ok (.iand, 1) := by decide +kernel
theorem d_X_fixedSites_48 : decode b_X_fixedSites 48 = .ok (.istore 4, 2) := by decide +kernel
theorem d_X_fixedSites_50 : decode b_X_fixedSites 50 = .ok (.iload_n 1, 1) := by decide +kernel
theorem d_X_fixedSites_51 : decode b_X_fixedSites 51 = .ok (.iload_n 3, 1) := by decide +kernel
theorem d_X_fixedSites_52 : decode b_X_fixedSites 52 = .ok (.invokestatic 49, 3) := by decide +kernel
theorem d_X_fixedSites_55 : decode b_X_fixedSites 55 = .ok (.ifCond .eq 14, 3) := by decide +kernel
theorem d_X_fixedSites_58 : decode b_X_fixedSites 58 = .ok (.iload 4, 2) := by decide +kernel
theorem d_X_fixedSites_60 : decode b_X_fixedSites 60 = .ok (.ifCond .ne 9, 3) := by decide +kernel
theorem d_X_fixedSites_63 : decode b_X_fixedSites 63 = .ok (.iload_n 2, 1) := by decide +kernel
theorem d_X_fixedSites_64 : decode b_X_fixedSites 64 = .ok (.iconst 1, 1) := by decide +kernel
theorem d_X_fixedSites_65 : decode b_X_fixedSites 65 = .ok (.iload_n 3, 1) := by decide +kernel
theorem d_X_fixedSites_66 : decode b_X_fixedSites 66 = .ok (.ishl, 1) := by decide +kernel
theorem d_X_fixedSites_67 : decode b_X_fixedSites 67 = .ok (.ior, 1) := by decide +kernel
theorem d_X_fixedSites_68 : decode b_X_fixedSites 68 = .ok (.istore_n 2, 1) := by decide +kernel
theorem d_X_fixedSites_69 : decode b_X_fixedSites 69 = .ok (.iinc 3 1, 3) := by decide +kernel
theorem d_X_fixedSites_72 : decode b_X_fixedSites 72 = .ok (.goto (-53), 3) := by decide +kernel
theorem d_X_fixedSites_75 : decode b_X_fixedSites 75 = .ok (.iload_n 2, 1) := by decide +kernel
theorem d_X_fixedSites_76 : decode b_X_fixedSites 76 = .ok (.ireturn, 1) := by decide +kernel
theorem d_X_pureMethods_0 : decode b_X_pureMethods 0 = .ok (.iconst 0, 1) := by decide +kernel
theorem d_X_pureMethods_1 : decode b_X_pureMethods 1 = .ok (.istore_n 1, 1) := by decide +kernel
theorem d_X_pureMethods_2 : decode b_X_pureMethods 2 = .ok (.iconst 0, 1) := by decide +kernel
theorem d_X_pureMethods_3 : decode b_X_pureMethods 3 = .ok (.istore_n 2, 1) := by decide +kernel
theorem d_X_pureMethods_4 : decode b_X_pureMethods 4 = .ok (.iload_n 2, 1) := by decide +kernel
theorem d_X_pureMethods_5 : decode b_X_pureMethods 5 = .ok (.bipush 8, 2) := by decide +kernel
theorem d_X_pureMethods_7 : decode b_X_pureMethods 7 = .ok (.if_icmp .ge 46, 3) := by decide +kernel
theorem d_X_pureMethods_10 : decode b_X_pureMethods 10 = .ok (.aload_n 0, 1) := by decide +kernel
theorem d_X_pureMethods_11 : decode b_X_pureMethods 11 = .ok (.getfield 15, 3) := by decide +kernel
theorem d_X_pureMethods_14 : decode b_X_pureMethods 14 = .ok (.getfield 84, 3) := by decide +kernel
theorem d_X_pureMethods_17 : decode b_X_pureMethods 17 = .ok (.iload_n 2, 1) := by decide +kernel
theorem d_X_pureMethods_18 : decode b_X_pureMethods 18 = .ok (.invokestatic 49, 3) := by decide +kernel
theorem d_X_pureMethods_21 : decode b_X_pureMethods 21 = .ok (.ifCond .eq 26, 3) := by decide +kernel
theorem d_X_pureMethods_24 : decode b_X_pureMethods 24 = .ok (.aload_n 0, 1) := by decide +kernel
theorem d_X_pureMethods_25 : decode b_X_pureMethods 25 = .ok (.aload_n 0, 1) := by decide +kernel
theorem d_X_pureMethods_26 : decode b_X_pureMethods 26 = .ok (.getfield 15, 3) := by decide +kernel
theorem d_X_pureMethods_29 : decode b_X_pureMethods 29 = .ok (.iconst 1, 1) := by decide +kernel
theorem d_X_pureMethods_30 : decode b_X_pureMethods 30 = .ok (.iload_n 2, 1) := by decide +kernel
theorem d_X_pureMethods_31 : decode b_X_pureMethods 31 = .ok (.ishl, 1) := by decide +kernel
theorem d_X_pureMethods_32 : decode b_X_pureMethods 32 = .ok (.invokevirtual 93, 3) := by decide +kernel
theorem d_X_pureMethods_35 : decode b_X_pureMethods 35 = .ok (.invokevirtual 96, 3) := by decide +kernel
theorem d_X_pureMethods_38 : decode b_X_pureMethods 38 = .ok (.ifCond .eq 9, 3) := by decide +kernel
theorem d_X_pureMethods_41 : decode b_X_pureMethods 41 = .ok (.iload_n 1, 1) := by decide +kernel
theorem d_X_pureMethods_42 : decode b_X_pureMethods 42 = .ok (.iconst 1, 1) := by decide +kernel
theorem d_X_pureMethods_43 : decode b_X_pureMethods 43 = .ok (.iload_n 2, 1) := by decide +kernel
theorem d_X_pureMethods_44 : decode b_X_pureMethods 44 = .ok (.ishl, 1) := by decide +kernel
theorem d_X_pureMethods_45 : decode b_X_pureMethods 45 = .ok (.ior, 1) := by decide +kernel
theorem d_X_pureMethods_46 : decode b_X_pureMethods 46 = .ok (.istore_n 1, 1) := by decide +kernel
theorem d_X_pureMethods_47 : decode b_X_pureMethods 47 = .ok (.iinc 2 1, 3) := by decide +kernel
theorem d_X_pureMethods_50 : decode b_X_pureMethods 50 = .ok (.goto (-46), 3) := by decide +kernel
theorem d_X_pureMethods_53 : decode b_X_pureMethods 53 = .ok (.iload_n 1, 1) := by decide +kernel
theorem d_X_pureMethods_54 : decode b_X_pureMethods 54 = .ok (.ireturn, 1) := by decide +kernel
theorem d_X_areHarmless_0 : decode b_X_areHarmless 0 = .ok (.aload_n 0, 1) := by decide +kernel
theorem d_X_areHarmless_1 : decode b_X_areHarmless 1 = .ok (.getfield 9, 3) := by decide +kernel
theorem d_X_areHarmless_4 : decode b_X_areHarmless 4 = .ok (.iload_n 1, 1) := by decide +kernel
theorem d_X_areHarmless_5 : decode b_X_areHarmless 5 = .ok (.invokevirtual 40, 3) := by decide +kernel
theorem d_X_areHarmless_8 : decode b_X_areHarmless 8 = .ok (.iconst (-1), 1) := by decide +kernel
theorem d_X_areHarmless_9 : decode b_X_areHarmless 9 = .ok (.ixor, 1) := by decide +kernel
theorem d_X_areHarmless_10 : decode b_X_areHarmless 10 = .ok (.istore_n 2, 1) := by decide +kernel
theorem d_X_areHarmless_11 : decode b_X_areHarmless 11 = .ok (.iconst 0, 1) := by decide +kernel
theorem d_X_areHarmless_12 : decode b_X_areHarmless 12 = .ok (.istore_n 3, 1) := by decide +kernel
theorem d_X_areHarmless_13 : decode b_X_areHarmless 13 = .ok (.iload_n 3, 1) := by decide +kernel
theorem d_X_areHarmless_14 : decode b_X_areHarmless 14 = .ok (.aload_n 0, 1) := by decide +kernel
theorem d_X_areHarmless_15 : decode b_X_areHarmless 15 = .ok (.getfield 9, 3) := by decide +kernel
theorem d_X_areHarmless_18 : decode b_X_areHarmless 18 = .ok (.getfield 69, 3) := by decide +kernel
theorem d_X_areHarmless_21 : decode b_X_areHarmless 21 = .ok (.if_icmp .ge 32, 3) := by decide +kernel
theorem d_X_areHarmless_24 : decode b_X_areHarmless 24 = .ok (.aload_n 0, 1) := by decide +kernel
theorem d_X_areHarmless_25 : decode b_X_areHarmless 25 = .ok (.getfield 9, 3) := by decide +kernel
theorem d_X_areHarmless_28 : decode b_X_areHarmless 28 = .ok (.iload_n 1, 1) := by decide +kernel
theorem d_X_areHarmless_29 : decode b_X_areHarmless 29 = .ok (.iload_n 3, 1) := by decide +kernel
theorem d_X_areHarmless_30 : decode b_X_areHarmless 30 = .ok (.invokevirtual 100, 3) := by decide +kernel
theorem d_X_areHarmless_33 : decode b_X_areHarmless 33 = .ok (.ifCond .eq 14, 3) := by decide +kernel
theorem d_X_areHarmless_36 : decode b_X_areHarmless 36 = .ok (.aload_n 0, 1) := by decide +kernel
theorem d_X_areHarmless_37 : decode b_X_areHarmless 37 = .ok (.iload_n 3, 1) := by decide +kernel
theorem d_X_areHarmless_38 : decode b_X_areHarmless 38 = .ok (.iload_n 2, 1) := by decide +kernel
theorem d_X_areHarmless_39 : decode b_X_areHarmless 39 = .ok (.invokevirtual 103, 3) := by decide +kernel
theorem d_X_areHarmless_42 : decode b_X_areHarmless 42 = .ok (.ifCond .eq 5, 3) := by decide +kernel
theorem d_X_areHarmless_45 : decode b_X_areHarmless 45 = .ok (.iconst 0, 1) := by decide +kernel
theorem d_X_areHarmless_46 : decode b_X_areHarmless 46 = .ok (.ireturn, 1) := by decide +kernel
theorem d_X_areHarmless_47 : decode b_X_areHarmless 47 = .ok (.iinc 3 1, 3) := by decide +kernel
theorem d_X_areHarmless_50 : decode b_X_areHarmless 50 = .ok (.goto (-37), 3) := by decide +kernel
theorem d_X_areHarmless_53 : decode b_X_areHarmless 53 = .ok (.iconst 1, 1) := by decide +kernel
theorem d_X_areHarmless_54 : decode b_X_areHarmless 54 = .ok (.ireturn, 1) := by decide +kernel
theorem d_X_isHarm_0 : decode b_X_isHarm 0 = .ok (.aload_n 0, 1) := by decide +kernel
theorem d_X_isHarm_1 : decode b_X_isHarm 1 = .ok (.getfield 9, 3) := by decide +kernel
theorem d_X_isHarm_4 : decode b_X_isHarm 4 = .ok (.iload_n 1, 1) := by decide +kernel
theorem d_X_isHarm_5 : decode b_X_isHarm 5 = .ok (.invokevirtual 72, 3) := by decide +kernel
theorem d_X_isHarm_8 : decode b_X_isHarm 8 = .ok (.tableswitch 62 3 9 #[46, 62, 44, 62, 62, 44, 44], 44) := by decide +kernel
theorem d_X_isHarm_52 : decode b_X_isHarm 52 = .ok (.iconst 1, 1) := by decide +kernel
theorem d_X_isHarm_53 : decode b_X_isHarm 53 = .ok (.ireturn, 1) := by decide +kernel
theorem d_X_isHarm_54 : decode b_X_isHarm 54 = .ok (.aload_n 0, 1) := by decide +kernel
theorem d_X_isHarm_55 : decode b_X_isHarm 55 = .ok (.iload_n 1, 1) := by decide +kernel
theorem d_X_isHarm_56 : decode b_X_isHarm 56 = .ok (.invokevirtual 75, 3) := by decide +kernel
theorem d_X_isHarm_59 : decode b_X_isHarm 59 = .ok (.iload_n 2, 1) := by decide +kernel
theorem d_X_isHarm_60 : decode b_X_isHarm 60 = .ok (.iand, 1) := by decide +kernel
theorem d_X_isHarm_61 : decode b_X_isHarm 61 = .ok (.ifCond .eq 7, 3) := by decide +kernel
theorem d_X_isHarm_64 : decode b_X_isHarm 64 = .ok (.iconst 1, 1) := by decide +kernel
theorem d_X_isHarm_65 : decode b_X_isHarm 65 = .ok (.goto 4, 3) := by decide +kernel
theorem d_X_isHarm_68 : decode b_X_isHarm 68 = .ok (.iconst 0, 1) := by decide +kernel
theorem d_X_isHarm_69 : decode b_X_isHarm 69 = .ok (.ireturn, 1) := by decide +kernel
theorem d_X_isHarm_70 : decode b_X_isHarm 70 = .ok (.iconst 0, 1) := by decide +kernel
theorem d_X_isHarm_71 : decode b_X_isHarm 71 = .ok (.ireturn, 1) := by decide +kernel
theorem d_X_freshMethods_0 : decode b_X_freshMethods 0 = .ok (.iconst 0, 1) := by decide +kernel
theorem d_X_freshMethods_1 : decode b_X_freshMethods 1 = .ok (.istore_n 1, 1) := by decide +kernel
theorem d_X_freshMethods_2 : decode b_X_freshMethods 2 = .ok (.iconst 0, 1) := by decide +kernel
theorem d_X_freshMethods_3 : decode b_X_freshMethods 3 = .ok (.istore_n 2, 1) := by decide +kernel
theorem d_X_freshMethods_4 : decode b_X_freshMethods 4 = .ok (.iload_n 2, 1) := by decide +kernel
theorem d_X_freshMethods_5 : decode b_X_freshMethods 5 = .ok (.bipush 8, 2) := by decide +kernel
theorem d_X_freshMethods_7 : decode b_X_freshMethods 7 = .ok (.if_icmp .ge 23, 3) := by decide +kernel
theorem d_X_freshMethods_10 : decode b_X_freshMethods 10 = .ok (.aload_n 0, 1) := by decide +kernel
theorem d_X_freshMethods_11 : decode b_X_freshMethods 11 = .ok (.iload_n 2, 1) := by decide +kernel
theorem d_X_freshMethods_12 : decode b_X_freshMethods 12 = .ok (.invokevirtual 106, 3) := by decide +kernel
theorem d_X_freshMethods_15 : decode b_X_freshMethods 15 = .ok (.ifCond .eq 9, 3) := by decide +kernel
theorem d_X_freshMethods_18 : decode b_X_freshMethods 18 = .ok (.iload_n 1, 1) := by decide +kernel
theorem d_X_freshMethods_19 : decode b_X_freshMethods 19 = .ok (.iconst 1, 1) := by decide +kernel
theorem d_X_freshMethods_20 : decode b_X_freshMethods 20 = .ok (.iload_n 2, 1) := by decide +kernel
theorem d_X_freshMethods_21 : decode b_X_freshMethods 21 = .ok (.ishl, 1) := by decide +kernel
theorem d_X_freshMethods_22 : decode b_X_freshMethods 22 = .ok (.ior, 1) := by decide +kernel
theorem d_X_freshMethods_23 : decode b_X_freshMethods 23 = .ok (.istore_n 1, 1) := by decide +kernel
theorem d_X_freshMethods_24 : decode b_X_freshMethods 24 = .ok (.iinc 2 1, 3) := by decide +kernel
theorem d_X_freshMethods_27 : decode b_X_freshMethods 27 = .ok (.goto (-23), 3) := by decide +kernel
theorem d_X_freshMethods_30 : decode b_X_freshMethods 30 = .ok (.iload_n 1, 1) := by decide +kernel
theorem d_X_freshMethods_31 : decode b_X_freshMethods 31 = .ok (.ireturn, 1) := by decide +kernel
theorem d_X_isFresh_0 : decode b_X_isFresh 0 = .ok (.aload_n 0, 1) := by decide +kernel
theorem d_X_isFresh_1 : decode b_X_isFresh 1 = .ok (.getfield 15, 3) := by decide +kernel
theorem d_X_isFresh_4 : decode b_X_isFresh 4 = .ok (.getfield 29, 3) := by decide +kernel
theorem d_X_isFresh_7 : decode b_X_isFresh 7 = .ok (.iload_n 1, 1) := by decide +kernel
theorem d_X_isFresh_8 : decode b_X_isFresh 8 = .ok (.invokestatic 33, 3) := by decide +kernel
theorem d_X_isFresh_11 : decode b_X_isFresh 11 = .ok (.istore_n 2, 1) := by decide +kernel
theorem d_X_isFresh_12 : decode b_X_isFresh 12 = .ok (.aload_n 0, 1) := by decide +kernel
theorem d_X_isFresh_13 : decode b_X_isFresh 13 = .ok (.getfield 9, 3) := by decide +kernel
theorem d_X_isFresh_16 : decode b_X_isFresh 16 = .ok (.iconst 1, 1) := by decide +kernel
theorem d_X_isFresh_17 : decode b_X_isFresh 17 = .ok (.iload_n 1, 1) := by decide +kernel
theorem d_X_isFresh_18 : decode b_X_isFresh 18 = .ok (.ishl, 1) := by decide +kernel
theorem d_X_isFresh_19 : decode b_X_isFresh 19 = .ok (.invokevirtual 40, 3) := by decide +kernel
theorem d_X_isFresh_22 : decode b_X_isFresh 22 = .ok (.iconst (-1), 1) := by decide +kernel
theorem d_X_isFresh_23 : decode b_X_isFresh 23 = .ok (.ixor, 1) := by decide +kernel
theorem d_X_isFresh_24 : decode b_X_isFresh 24 = .ok (.aload_n 0, 1) := by decide +kernel
theorem d_X_isFresh_25 : decode b_X_isFresh 25 = .ok (.getfield 15, 3) := by decide +kernel
theorem d_X_isFresh_28 : decode b_X_isFresh 28 = .ok (.getfield 19, 3) := by decide +kernel
theorem d_X_isFresh_31 : decode b_X_isFresh 31 = .ok (.ior, 1) := by decide +kernel
theorem d_X_isFresh_32 : decode b_X_isFresh 32 = .ok (.aload_n 0, 1) := by decide +kernel
theorem d_X_isFresh_33 : decode b_X_isFresh 33 = .ok (.getfield 15, 3) := by decide +kernel
theorem d_X_isFresh_36 : decode b_X_isFresh 36 = .ok (.iload_n 1, 1) := by decide +kernel
theorem d_X_isFresh_37 : decode b_X_isFresh 37 = .ok (.invokevirtual 25, 3) := by decide +kernel
theorem d_X_isFresh_40 : decode b_X_isFresh 40 = .ok (.ior, 1) := by decide +kernel
theorem d_X_isFresh_41 : decode b_X_isFresh 41 = .ok (.aload_n 0, 1) := by decide +kernel
theorem d_X_isFresh_42 : decode b_X_isFresh 42 = .ok (.getfield 15, 3) := by decide +kernel
theorem d_X_isFresh_45 : decode b_X_isFresh 45 = .ok (.aload_n 0, 1) := by decide +kernel
theorem d_X_isFresh_46 : decode b_X_isFresh 46 = .ok (.getfield 9, 3) := by decide +kernel
theorem d_X_isFresh_49 : decode b_X_isFresh 49 = .ok (.aload_n 0, 1) := by decide +kernel
theorem d_X_isFresh_50 : decode b_X_isFresh 50 = .ok (.getfield 15, 3) := by decide +kernel
theorem d_X_isFresh_53 : decode b_X_isFresh 53 = .ok (.getfield 84, 3) := by decide +kernel
theorem d_X_isFresh_56 : decode b_X_isFresh 56 = .ok (.invokevirtual 40, 3) := by decide +kernel
theorem d_X_isFresh_59 : decode b_X_isFresh 59 = .ok (.invokevirtual 53, 3) := by decide +kernel
theorem d_X_isFresh_62 : decode b_X_isFresh 62 = .ok (.ior, 1) := by decide +kernel
theorem d_X_isFresh_63 : decode b_X_isFresh 63 = .ok (.istore_n 3, 1) := by decide +kernel
theorem d_X_isFresh_64 : decode b_X_isFresh 64 = .ok (.iload_n 2, 1) := by decide +kernel
theorem d_X_isFresh_65 : decode b_X_isFresh 65 = .ok (.ifCond .eq 13, 3) := by decide +kernel
theorem d_X_isFresh_68 : decode b_X_isFresh 68 = .ok (.iload_n 2, 1) := by decide +kernel
theorem d_X_isFresh_69 : decode b_X_isFresh 69 = .ok (.iload_n 3, 1) := by decide +kernel
theorem d_X_isFresh_70 : decode b_X_isFresh 70 = .ok (.iand, 1) := by decide +kernel
theorem d_X_isFresh_71 : decode b_X_isFresh 71 = .ok (.ifCond .ne 7, 3) := by decide +kernel
theorem d_X_isFresh_74 : decode b_X_isFresh 74 = .ok (.iconst 1, 1) := by decide +kernel
theorem d_X_isFresh_75 : decode b_X_isFresh 75 = .ok (.goto 4, 3) := by decide +kernel
theorem d_X_isFresh_78 : decode b_X_isFresh 78 = .ok (.iconst 0, 1) := by decide +kernel
theorem d_X_isFresh_79 : decode b_X_isFresh 79 = .ok (.ireturn, 1) := by decide +kernel
theorem d_X_countIdle_0 : decode b_X_countIdle 0 = .ok (.iconst 0, 1) := by decide +kernel
theorem d_X_countIdle_1 : decode b_X_countIdle 1 = .ok (.istore_n 1, 1) := by decide +kernel
theorem d_X_countIdle_2 : decode b_X_countIdle 2 = .ok (.iconst 0, 1) := by decide +kernel
theorem d_X_countIdle_3 : decode b_X_countIdle 3 = .ok (.istore_n 2, 1) := by decide +kernel
theorem d_X_countIdle_4 : decode b_X_countIdle 4 = .ok (.iload_n 2, 1) := by decide +kernel
theorem d_X_countIdle_5 : decode b_X_countIdle 5 = .ok (.aload_n 0, 1) := by decide +kernel
theorem d_X_countIdle_6 : decode b_X_countIdle 6 = .ok (.getfield 9, 3) := by decide +kernel
theorem d_X_countIdle_9 : decode b_X_countIdle 9 = .ok (.getfield 69, 3) := by decide +kernel
theorem d_X_countIdle_12 : decode b_X_countIdle 12 = .ok (.if_icmp .ge 33, 3) := by decide +kernel
theorem d_X_countIdle_15 : decode b_X_countIdle 15 = .ok (.aload_n 0, 1) := by decide +kernel
theorem d_X_countIdle_16 : decode b_X_countIdle 16 = .ok (.getfield 9, 3) := by decide +kernel
theorem d_X_countIdle_19 : decode b_X_countIdle 19 = .ok (.iload_n 2, 1) := by decide +kernel
theorem d_X_countIdle_20 : decode b_X_countIdle 20 = .ok (.invokevirtual 72, 3) := by decide +kernel
theorem d_X_countIdle_23 : decode b_X_countIdle 23 = .ok (.bipush 10, 2) := by decide +kernel
theorem d_X_countIdle_25 : decode b_X_countIdle 25 = .ok (.if_icmp .ne 14, 3) := by decide +kernel
theorem d_X_countIdle_28 : decode b_X_countIdle 28 = .ok (.aload_n 0, 1) := by decide +kernel
theorem d_X_countIdle_29 : decode b_X_countIdle 29 = .ok (.iload_n 2, 1) := by decide +kernel
theorem d_X_countIdle_30 : decode b_X_countIdle 30 = .ok (.invokevirtual 109, 3) := by decide +kernel
theorem d_X_countIdle_33 : decode b_X_countIdle 33 = .ok (.ifCond .eq 6, 3) := by decide +kernel
theorem d_X_countIdle_36 : decode b_X_countIdle 36 = .ok (.iinc 1 1, 3) := by decide +kernel
theorem d_X_countIdle_39 : decode b_X_countIdle 39 = .ok (.iinc 2 1, 3) := by decide +kernel
theorem d_X_countIdle_42 : decode b_X_countIdle 42 = .ok (.goto (-38), 3) := by decide +kernel
theorem d_X_countIdle_45 : decode b_X_countIdle 45 = .ok (.iload_n 1, 1) := by decide +kernel
theorem d_X_countIdle_46 : decode b_X_countIdle 46 = .ok (.ireturn, 1) := by decide +kernel
theorem d_X_isIdle_0 : decode b_X_isIdle 0 = .ok (.aload_n 0, 1) := by decide +kernel
theorem d_X_isIdle_1 : decode b_X_isIdle 1 = .ok (.getfield 15, 3) := by decide +kernel
theorem d_X_isIdle_4 : decode b_X_isIdle 4 = .ok (.aload_n 0, 1) := by decide +kernel
theorem d_X_isIdle_5 : decode b_X_isIdle 5 = .ok (.getfield 9, 3) := by decide +kernel
theorem d_X_isIdle_8 : decode b_X_isIdle 8 = .ok (.iload_n 1, 1) := by decide +kernel
theorem d_X_isIdle_9 : decode b_X_isIdle 9 = .ok (.invokevirtual 78, 3) := by decide +kernel
theorem d_X_isIdle_12 : decode b_X_isIdle 12 = .ok (.aload_n 0, 1) := by decide +kernel
theorem d_X_isIdle_13 : decode b_X_isIdle 13 = .ok (.getfield 9, 3) := by decide +kernel
theorem d_X_isIdle_16 : decode b_X_isIdle 16 = .ok (.iload_n 1, 1) := by decide +kernel
theorem d_X_isIdle_17 : decode b_X_isIdle 17 = .ok (.iconst 0, 1) := by decide +kernel
theorem d_X_isIdle_18 : decode b_X_isIdle 18 = .ok (.invokevirtual 81, 3) := by decide +kernel
theorem d_X_isIdle_21 : decode b_X_isIdle 21 = .ok (.invokevirtual 66, 3) := by decide +kernel
theorem d_X_isIdle_24 : decode b_X_isIdle 24 = .ok (.istore_n 2, 1) := by decide +kernel
theorem d_X_isIdle_25 : decode b_X_isIdle 25 = .ok (.iload_n 2, 1) := by decide +kernel
theorem d_X_isIdle_26 : decode b_X_isIdle 26 = .ok (.ifCond .eq 19, 3) := by decide +kernel
theorem d_X_isIdle_29 : decode b_X_isIdle 29 = .ok (.iload_n 2, 1) := by decide +kernel
theorem d_X_isIdle_30 : decode b_X_isIdle 30 = .ok (.aload_n 0, 1) := by decide +kernel
theorem d_X_isIdle_31 : decode b_X_isIdle 31 = .ok (.getfield 15, 3) := by decide +kernel
theorem d_X_isIdle_34 : decode b_X_isIdle 34 = .ok (.getfield 19, 3) := by decide +kernel
theorem d_X_isIdle_37 : decode b_X_isIdle 37 = .ok (.iand, 1) := by decide +kernel
theorem d_X_isIdle_38 : decode b_X_isIdle 38 = .ok (.ifCond .ne 7, 3) := by decide +kernel
theorem d_X_isIdle_41 : decode b_X_isIdle 41 = .ok (.iconst 1, 1) := by decide +kernel
theorem d_X_isIdle_42 : decode b_X_isIdle 42 = .ok (.goto 4, 3) := by decide +kernel
theorem d_X_isIdle_45 : decode b_X_isIdle 45 = .ok (.iconst 0, 1) := by decide +kernel
theorem d_X_isIdle_46 : decode b_X_isIdle 46 = .ok (.ireturn, 1) := by decide +kernel
theorem d_K_init_0 : decode b_K_init 0 = .ok (.aload_n 0, 1) := by decide +kernel
theorem d_K_init_1 : decode b_K_init 1 = .ok (.invokespecial 3, 3) := by decide +kernel
theorem d_K_init_4 : decode b_K_init 4 = .ok (.aload_n 0, 1) := by decide +kernel
theorem d_K_init_5 : decode b_K_init 5 = .ok (.aload_n 1, 1) := by decide +kernel
theorem d_K_init_6 : decode b_K_init 6 = .ok (.putfield 9, 3) := by decide +kernel
theorem d_K_init_9 : decode b_K_init 9 = .ok (.aload_n 0, 1) := by decide +kernel
theorem d_K_init_10 : decode b_K_init 10 = .ok (.bipush 8, 2) := by decide +kernel
theorem d_K_init_12 : decode b_K_init 12 = .ok (.newarray .int, 2) := by decide +kernel
theorem d_K_init_14 : decode b_K_init 14 = .ok (.putfield 15, 3) := by decide +kernel
theorem d_K_init_17 : decode b_K_init 17 = .ok (.aload_n 0, 1) := by decide +kernel
theorem d_K_init_18 : decode b_K_init 18 = .ok (.iconst 0, 1) := by decide +kernel
theorem d_K_init_19 : decode b_K_init 19 = .ok (.putfield 19, 3) := by decide +kernel
theorem d_K_init_22 : decode b_K_init 22 = .ok (.aload_n 0, 1) := by decide +kernel
theorem d_K_init_23 : decode b_K_init 23 = .ok (.iconst 0, 1) := by decide +kernel
theorem d_K_init_24 : decode b_K_init 24 = .ok (.putfield 23, 3) := by decide +kernel
theorem d_K_init_27 : decode b_K_init 27 = .ok (.return_, 1) := by decide +kernel
theorem d_K_spreadFrom_0 : decode b_K_spreadFrom 0 = .ok (.aload_n 0, 1) := by decide +kernel
theorem d_K_spreadFrom_1 : decode b_K_spreadFrom 1 = .ok (.iload_n 3, 1) := by decide +kernel
theorem d_K_spreadFrom_2 : decode b_K_spreadFrom 2 = .ok (.putfield 23, 3) := by decide +kernel
theorem d_K_spreadFrom_5 : decode b_K_spreadFrom 5 = .ok (.aload_n 0, 1) := by decide +kernel
theorem d_K_spreadFrom_6 : decode b_K_spreadFrom 6 = .ok (.iconst 0, 1) := by decide +kernel
theorem d_K_spreadFrom_7 : decode b_K_spreadFrom 7 = .ok (.putfield 19, 3) := by decide +kernel
theorem d_K_spreadFrom_10 : decode b_K_spreadFrom 10 = .ok (.aload_n 0, 1) := by decide +kernel
theorem d_K_spreadFrom_11 : decode b_K_spreadFrom 11 = .ok (.getfield 15, 3) := by decide +kernel
theorem d_K_spreadFrom_14 : decode b_K_spreadFrom 14 = .ok (.iconst 0, 1) := by decide +kernel
theorem d_K_spreadFrom_15 : decode b_K_spreadFrom 15 = .ok (.invokestatic 26, 3) := by decide +kernel
theorem d_K_spreadFrom_18 : decode b_K_spreadFrom 18 = .ok (.aload_n 0, 1) := by decide +kernel
theorem d_K_spreadFrom_19 : decode b_K_spreadFrom 19 = .ok (.iload_n 1, 1) := by decide +kernel
theorem d_K_spreadFrom_20 : decode b_K_spreadFrom 20 = .ok (.iload_n 2, 1) := by decide +kernel
theorem d_K_spreadFrom_21 : decode b_K_spreadFrom 21 = .ok (.invokevirtual 30, 3) := by decide +kernel
theorem d_K_spreadFrom_24 : decode b_K_spreadFrom 24 = .ok (.pop, 1) := by decide +kernel
theorem d_K_spreadFrom_25 : decode b_K_spreadFrom 25 = .ok (.iconst 1, 1) := by decide +kernel
theorem d_K_spreadFrom_26 : decode b_K_spreadFrom 26 = .ok (.istore 4, 2) := by decide +kernel
theorem d_K_spreadFrom_28 : decode b_K_spreadFrom 28 = .ok (.iconst 0, 1) := by decide +kernel
theorem d_K_spreadFrom_29 : decode b_K_spreadFrom 29 = .ok (.istore 5, 2) := by decide +kernel
theorem d_K_spreadFrom_31 : decode b_K_spreadFrom 31 = .ok (.iload 4, 2) := by decide +kernel
theorem d_K_spreadFrom_33 : decode b_K_spreadFrom 33 = .ok (.ifCond .eq 22, 3) := by decide +kernel
theorem d_K_spreadFrom_36 : decode b_K_spreadFrom 36 = .ok (.iload 5, 2) := by decide +kernel
theorem d_K_spreadFrom_38 : decode b_K_spreadFrom 38 = .ok (.bipush 72, 2) := by decide +kernel
theorem d_K_spreadFrom_40 : decode b_K_spreadFrom 40 = .ok (.if_icmp .gt 15, 3) := by decide +kernel
theorem d_K_spreadFrom_43 : decode b_K_spreadFrom 43 = .ok (.aload_n 0, 1) := by decide +kernel
theorem d_K_spreadFrom_44 : decode b_K_spreadFrom 44 = .ok (.invokevirtual 34, 3) := by decide +kernel
theorem d_K_spreadFrom_47 : decode b_K_spreadFrom 47 = .ok (.istore 4, 2) := by decide +kernel
theorem d_K_spreadFrom_49 : decode b_K_spreadFrom 49 = .ok (.iinc 5 1, 3) := by decide +kernel
theorem d_K_spreadFrom_52 : decode b_K_spreadFrom 52 = .ok (.goto (-21), 3) := by decide +kernel
theorem d_K_spreadFrom_55 : decode b_K_spreadFrom 55 = .ok (.return_, 1) := by decide +kernel
theorem d_K_sweepMarks_0 : decode b_K_sweepMarks 0 = .ok (.iconst 0, 1) := by decide +kernel
theorem d_K_sweepMarks_1 : decode b_K_sweepMarks 1 = .ok (.istore_n 1, 1) := by decide +kernel
theorem d_K_sweepMarks_2 : decode b_K_sweepMarks 2 = .ok (.iconst 0, 1) := by decide +kernel
theorem d_K_sweepMarks_3 : decode b_K_sweepMarks 3 = .ok (.istore_n 2, 1) := by decide +kernel
theorem d_K_sweepMarks_4 : decode b_K_sweepMarks 4 = .ok (.iload_n 2, 1) := by decide +kernel
theorem d_K_sweepMarks_5 : decode b_K_sweepMarks 5 = .ok (.aload_n 0, 1) := by decide +kernel
theorem d_K_sweepMarks_6 : decode b_K_sweepMarks 6 = .ok (.getfield 9, 3) := by decide +kernel
theorem d_K_sweepMarks_9 : decode b_K_sweepMarks 9 = .ok (.getfield 38, 3) := by decide +kernel
theorem d_K_sweepMarks_12 : decode b_K_sweepMarks 12 = .ok (.if_icmp .ge 34, 3) := by decide +kernel
theorem d_K_sweepMarks_15 : decode b_K_sweepMarks 15 = .ok (.aload_n 0, 1) := by decide +kernel
theorem d_K_sweepMarks_16 : decode b_K_sweepMarks 16 = .ok (.getfield 9, 3) := by decide +kernel
theorem d_K_sweepMarks_19 : decode b_K_sweepMarks 19 = .ok (.aload_n 0, 1) := by decide +kernel
theorem d_K_sweepMarks_20 : decode b_K_sweepMarks 20 = .ok (.getfield 23, 3) := by decide +kernel
theorem d_K_sweepMarks_23 : decode b_K_sweepMarks 23 = .ok (.iload_n 2, 1) := by decide +kernel
theorem d_K_sweepMarks_24 : decode b_K_sweepMarks 24 = .ok (.invokevirtual 43, 3) := by decide +kernel
theorem d_K_sweepMarks_27 : decode b_K_sweepMarks 27 = .ok (.ifCond .eq 13, 3) := by decide +kernel
theorem d_K_sweepMarks_30 : decode b_K_sweepMarks 30 = .ok (.aload_n 0, 1) := by decide +kernel
theorem d_K_sweepMarks_31 : decode b_K_sweepMarks 31 = .ok (.iload_n 2, 1) := by decide +kernel
theorem d_K_sweepMarks_32 : decode b_K_sweepMarks 32 = .ok (.invokevirtual 46, 3) := by decide +kernel
theorem d_K_sweepMarks_35 : decode b_K_sweepMarks 35 = .ok (.ifCond .eq 5, 3) := by decide +kernel
theorem d_K_sweepMarks_38 : decode b_K_sweepMarks 38 = .ok (.iconst 1, 1) := by decide +kernel
theorem d_K_sweepMarks_39 : decode b_K_sweepMarks 39 = .ok (.istore_n 1, 1) := by decide +kernel
theorem d_K_sweepMarks_40 : decode b_K_sweepMarks 40 = .ok (.iinc 2 1, 3) := by decide +kernel
theorem d_K_sweepMarks_43 : decode b_K_sweepMarks 43 = .ok (.goto (-39), 3) := by decide +kernel
theorem d_K_sweepMarks_46 : decode b_K_sweepMarks 46 = .ok (.iload_n 1, 1) := by decide +kernel
theorem d_K_sweepMarks_47 : decode b_K_sweepMarks 47 = .ok (.ireturn, 1) := by decide +kernel
theorem d_K_spread_0 : decode b_K_spread 0 = .ok (.aload_n 0, 1) := by decide +kernel
theorem d_K_spread_1 : decode b_K_spread 1 = .ok (.getfield 9, 3) := by decide +kernel
theorem d_K_spread_4 : decode b_K_spread 4 = .ok (.iload_n 1, 1) := by decide +kernel
theorem d_K_spread_5 : decode b_K_spread 5 = .ok (.invokevirtual 50, 3) := by decide +kernel
theorem d_K_spread_8 : decode b_K_spread 8 = .ok (.istore_n 2, 1) := by decide +kernel
theorem d_K_spread_9 : decode b_K_spread 9 = .ok (.aload_n 0, 1) := by decide +kernel
theorem d_K_spread_10 : decode b_K_spread 10 = .ok (.getfield 9, 3) := by decide +kernel
theorem d_K_spread_13 : decode b_K_spread 13 = .ok (.iload_n 1, 1) := by decide +kernel
theorem d_K_spread_14 : decode b_K_spread 14 = .ok (.invokevirtual 54, 3) := by decide +kernel
theorem d_K_spread_17 : decode b_K_spread 17 = .ok (.lookupswitch 122 #[(1, 35), (6, 75), (7, 91)], 35) := by decide +kernel
theorem d_K_spread_52 : decode b_K_spread 52 = .ok (.aload_n 0, 1) := by decide +kernel
theorem d_K_spread_53 : decode b_K_spread 53 = .ok (.iload_n 2, 1) := by decide +kernel
theorem d_K_spread_54 : decode b_K_spread 54 = .ok (.aload_n 0, 1) := by decide +kernel
theorem d_K_spread_55 : decode b_K_spread 55 = .ok (.getfield 9, 3) := by decide +kernel
theorem d_K_spread_58 : decode b_K_spread 58 = .ok (.iload_n 1, 1) := by decide +kernel
theorem d_K_spread_59 : decode b_K_spread 59 = .ok (.iconst 1, 1) := by decide +kernel
theorem d_K_spread_60 : decode b_K_spread 60 = .ok (.invokevirtual 57, 3) := by decide +kernel
theorem d_K_spread_63 : decode b_K_spread 63 = .ok (.invokevirtual 61, 3) := by decide +kernel
theorem d_K_spread_66 : decode b_K_spread 66 = .ok (.ifCond .eq 24, 3) := by decide +kernel
theorem d_K_spread_69 : decode b_K_spread 69 = .ok (.aload_n 0, 1) := by decide +kernel
theorem d_K_spread_70 : decode b_K_spread 70 = .ok (.iload_n 2, 1) := by decide +kernel
theorem d_K_spread_71 : decode b_K_spread 71 = .ok (.aload_n 0, 1) := by decide +kernel
theorem d_K_spread_72 : decode b_K_spread 72 = .ok (.getfield 9, 3) := by decide +kernel
theorem d_K_spread_75 : decode b_K_spread 75 = .ok (.iload_n 1, 1) := by decide +kernel
theorem d_K_spread_76 : decode b_K_spread 76 = .ok (.iconst 0, 1) := by decide +kernel
theorem d_K_spread_77 : decode b_K_spread 77 = .ok (.invokevirtual 57, 3) := by decide +kernel
theorem d_K_spread_80 : decode b_K_spread 80 = .ok (.invokevirtual 30, 3) := by decide +kernel
theorem d_K_spread_83 : decode b_K_spread 83 = .ok (.ifCond .eq 7, 3) := by decide +kernel
theorem d_K_spread_86 : decode b_K_spread 86 = .ok (.iconst 1, 1) := by decide +kernel
theorem d_K_spread_87 : decode b_K_spread 87 = .ok (.goto 4, 3) := by decide +kernel
theorem d_K_spread_90 : decode b_K_spread 90 = .ok (.iconst 0, 1) := by decide +kernel
theorem d_K_spread_91 : decode b_K_spread 91 = .ok (.ireturn, 1) := by decide +kernel
theorem d_K_spread_92 : decode b_K_spread 92 = .ok (.aload_n 0, 1) := by decide +kernel
theorem d_K_spread_93 : decode b_K_spread 93 = .ok (.iload_n 1, 1) := by decide +kernel
theorem d_K_spread_94 : decode b_K_spread 94 = .ok (.iload_n 2, 1) := by decide +kernel
theorem d_K_spread_95 : decode b_K_spread 95 = .ok (.aload_n 0, 1) := by decide +kernel
theorem d_K_spread_96 : decode b_K_spread 96 = .ok (.getfield 9, 3) := by decide +kernel
theorem d_K_spread_99 : decode b_K_spread 99 = .ok (.iload_n 1, 1) := by decide +kernel
theorem d_K_spread_100 : decode b_K_spread 100 = .ok (.iconst 0, 1) := by decide +kernel
theorem d_K_spread_101 : decode b_K_spread 101 = .ok (.invokevirtual 57, 3) := by decide +kernel
theorem d_K_spread_104 : decode b_K_spread 104 = .ok (.invokevirtual 64, 3) := by decide +kernel
theorem d_K_spread_107 : decode b_K_spread 107 = .ok (.ireturn, 1) := by decide +kernel
theorem d_K_spread_108 : decode b_K_spread 108 = .ok (.aload_n 0, 1) := by decide +kernel
theorem d_K_spread_109 : decode b_K_spread 109 = .ok (.iload_n 2, 1) := by decide +kernel
theorem d_K_spread_110 : decode b_K_spread 110 = .ok (.aload_n 0, 1) := by decide +kernel
theorem d_K_spread_111 : decode b_K_spread 111 = .ok (.getfield 9, 3) := by decide +kernel
theorem d_K_spread_114 : decode b_K_spread 114 = .ok (.iload_n 1, 1) := by decide +kernel
theorem d_K_spread_115 : decode b_K_spread 115 = .ok (.iconst 0, 1) := by decide +kernel
theorem d_K_spread_116 : decode b_K_spread 116 = .ok (.invokevirtual 57, 3) := by decide +kernel
theorem d_K_spread_119 : decode b_K_spread 119 = .ok (.invokevirtual 61, 3) := by decide +kernel
theorem d_K_spread_122 : decode b_K_spread 122 = .ok (.ifCond .eq 15, 3) := by decide +kernel
theorem d_K_spread_125 : decode b_K_spread 125 = .ok (.aload_n 0, 1) := by decide +kernel
theorem d_K_spread_126 : decode b_K_spread 126 = .ok (.iload_n 2, 1) := by decide +kernel
theorem d_K_spread_127 : decode b_K_spread 127 = .ok (.invokevirtual 68, 3) := by decide +kernel
theorem d_K_spread_130 : decode b_K_spread 130 = .ok (.ifCond .eq 7, 3) := by decide +kernel
theorem d_K_spread_133 : decode b_K_spread 133 = .ok (.iconst 1, 1) := by decide +kernel
theorem d_K_spread_134 : decode b_K_spread 134 = .ok (.goto 4, 3) := by decide +kernel
theorem d_K_spread_137 : decode b_K_spread 137 = .ok (.iconst 0, 1) := by decide +kernel
theorem d_K_spread_138 : decode b_K_spread 138 = .ok (.ireturn, 1) := by decide +kernel
theorem d_K_spread_139 : decode b_K_spread 139 = .ok (.iconst 0, 1) := by decide +kernel
theorem d_K_spread_140 : decode b_K_spread 140 = .ok (.ireturn, 1) := by decide +kernel
theorem d_K_spreadCall_0 : decode b_K_spreadCall 0 = .ok (.iconst 0, 1) := by decide +kernel
theorem d_K_spreadCall_1 : decode b_K_spreadCall 1 = .ok (.istore 4, 2) := by decide +kernel
theorem d_K_spreadCall_3 : decode b_K_spreadCall 3 = .ok (.iconst 0, 1) := by decide +kernel
theorem d_K_spreadCall_4 : decode b_K_spreadCall 4 = .ok (.istore 5, 2) := by decide +kernel
theorem d_K_spreadCall_6 : decode b_K_spreadCall 6 = .ok (.iload 5, 2) := by decide +kernel
theorem d_K_spreadCall_8 : decode b_K_spreadCall 8 = .ok (.iconst 3, 1) := by decide +kernel
theorem d_K_spreadCall_9 : decode b_K_spreadCall 9 = .ok (.if_icmp .ge 42, 3) := by decide +kernel
theorem d_K_spreadCall_12 : decode b_K_spreadCall 12 = .ok (.aload_n 0, 1) := by decide +kernel
theorem d_K_spreadCall_13 : decode b_K_spreadCall 13 = .ok (.iload_n 2, 1) := by decide +kernel
theorem d_K_spreadCall_14 : decode b_K_spreadCall 14 = .ok (.aload_n 0, 1) := by decide +kernel
theorem d_K_spreadCall_15 : decode b_K_spreadCall 15 = .ok (.getfield 9, 3) := by decide +kernel
theorem d_K_spreadCall_18 : decode b_K_spreadCall 18 = .ok (.iload_n 1, 1) := by decide +kernel
theorem d_K_spreadCall_19 : decode b_K_spreadCall 19 = .ok (.iconst 1, 1) := by decide +kernel
theorem d_K_spreadCall_20 : decode b_K_spreadCall 20 = .ok (.iload 5, 2) := by decide +kernel
theorem d_K_spreadCall_22 : decode b_K_spreadCall 22 = .ok (.iadd, 1) := by decide +kernel
theorem d_K_spreadCall_23 : decode b_K_spreadCall 23 = .ok (.invokevirtual 57, 3) := by decide +kernel
theorem d_K_spreadCall_26 : decode b_K_spreadCall 26 = .ok (.invokevirtual 61, 3) := by decide +kernel
theorem d_K_spreadCall_29 : decode b_K_spreadCall 29 = .ok (.ifCond .eq 16, 3) := by decide +kernel
theorem d_K_spreadCall_32 : decode b_K_spreadCall 32 = .ok (.aload_n 0, 1) := by decide +kernel
theorem d_K_spreadCall_33 : decode b_K_spreadCall 33 = .ok (.iload_n 3, 1) := by decide +kernel
theorem d_K_spreadCall_34 : decode b_K_spreadCall 34 = .ok (.iload 5, 2) := by decide +kernel
theorem d_K_spreadCall_36 : decode b_K_spreadCall 36 = .ok (.invokevirtual 30, 3) := by decide +kernel
theorem d_K_spreadCall_39 : decode b_K_spreadCall 39 = .ok (.ifCond .eq 6, 3) := by decide +kernel
theorem d_K_spreadCall_42 : decode b_K_spreadCall 42 = .ok (.iconst 1, 1) := by decide +kernel
theorem d_K_spreadCall_43 : decode b_K_spreadCall 43 = .ok (.istore 4, 2) := by decide +kernel
theorem d_K_spreadCall_45 : decode b_K_spreadCall 45 = .ok (.iinc 5 1, 3) := by decide +kernel
theorem d_K_spreadCall_48 : decode b_K_spreadCall 48 = .ok (.goto (-42), 3) := by decide +kernel
theorem d_K_spreadCall_51 : decode b_K_spreadCall 51 = .ok (.aload_n 0, 1) := by decide +kernel
theorem d_K_spreadCall_52 : decode b_K_spreadCall 52 = .ok (.getfield 9, 3) := by decide +kernel
theorem d_K_spreadCall_55 : decode b_K_spreadCall 55 = .ok (.iload_n 1, 1) := by decide +kernel
theorem d_K_spreadCall_56 : decode b_K_spreadCall 56 = .ok (.iconst 4, 1) := by decide +kernel
theorem d_K_spreadCall_57 : decode b_K_spreadCall 57 = .ok (.invokevirtual 57, 3) := by decide +kernel
theorem d_K_spreadCall_60 : decode b_K_spreadCall 60 = .ok (.istore 5, 2) := by decide +kernel
theorem d_K_spreadCall_62 : decode b_K_spreadCall 62 = .ok (.iload 5, 2) := by decide +kernel
theorem d_K_spreadCall_64 : decode b_K_spreadCall 64 = .ok (.iconst (-1), 1) := by decide +kernel
theorem d_K_spreadCall_65 : decode b_K_spreadCall 65 = .ok (.if_icmp .eq 27, 3) := by decide +kernel
theorem d_K_spreadCall_68 : decode b_K_spreadCall 68 = .ok (.aload_n 0, 1) := by decide +kernel
theorem d_K_spreadCall_69 : decode b_K_spreadCall 69 = .ok (.getfield 19, 3) := by decide +kernel
theorem d_K_spreadCall_72 : decode b_K_spreadCall 72 = .ok (.iload_n 3, 1) := by decide +kernel
theorem d_K_spreadCall_73 : decode b_K_spreadCall 73 = .ok (.invokestatic 71, 3) := by decide +kernel
theorem d_K_spreadCall_76 : decode b_K_spreadCall 76 = .ok (.ifCond .eq 16, 3) := by decide +kernel
theorem d_K_spreadCall_79 : decode b_K_spreadCall 79 = .ok (.aload_n 0, 1) := by decide +kernel
theorem d_K_spreadCall_80 : decode b_K_spreadCall 80 = .ok (.iload_n 2, 1) := by decide +kernel
theorem d_K_spreadCall_81 : decode b_K_spreadCall 81 = .ok (.iload 5, 2) := by decide +kernel
theorem d_K_spreadCall_83 : decode b_K_spreadCall 83 = .ok (.invokevirtual 30, 3) := by decide +kernel
theorem d_K_spreadCall_86 : decode b_K_spreadCall 86 = .ok (.ifCond .eq 6, 3) := by decide +kernel
theorem d_K_spreadCall_89 : decode b_K_spreadCall 89 = .ok (.iconst 1, 1) := by decide +kernel
theorem d_K_spreadCall_90 : decode b_K_spreadCall 90 = .ok (.istore 4, 2) := by decide +kernel
theorem d_K_spreadCall_92 : decode b_K_spreadCall 92 = .ok (.iload 4, 2) := by decide +kernel
theorem d_K_spreadCall_94 : decode b_K_spreadCall 94 = .ok (.ireturn, 1) := by decide +kernel
theorem d_K_mark_0 : decode b_K_mark 0 = .ok (.aload_n 0, 1) := by decide +kernel
theorem d_K_mark_1 : decode b_K_mark 1 = .ok (.getfield 15, 3) := by decide +kernel
theorem d_K_mark_4 : decode b_K_mark 4 = .ok (.iload_n 1, 1) := by decide +kernel
theorem d_K_mark_5 : decode b_K_mark 5 = .ok (.iconst 1, 1) := by decide +kernel
theorem d_K_mark_6 : decode b_K_mark 6 = .ok (.iload_n 2, 1) := by decide +kernel
theorem d_K_mark_7 : decode b_K_mark 7 = .ok (.ishl, 1) := by decide +kernel
theorem d_K_mark_8 : decode b_K_mark 8 = .ok (.invokestatic 74, 3) := by decide +kernel
theorem d_K_mark_11 : decode b_K_mark 11 = .ok (.ireturn, 1) := by decide +kernel
theorem d_K_isMarked_0 : decode b_K_isMarked 0 = .ok (.aload_n 0, 1) := by decide +kernel
theorem d_K_isMarked_1 : decode b_K_isMarked 1 = .ok (.getfield 15, 3) := by decide +kernel
theorem d_K_isMarked_4 : decode b_K_isMarked 4 = .ok (.iload_n 1, 1) := by decide +kernel
theorem d_K_isMarked_5 : decode b_K_isMarked 5 = .ok (.invokestatic 78, 3) := by decide +kernel
theorem d_K_isMarked_8 : decode b_K_isMarked 8 = .ok (.iload_n 2, 1) := by decide +kernel
theorem d_K_isMarked_9 : decode b_K_isMarked 9 = .ok (.invokestatic 71, 3) := by decide +kernel
theorem d_K_isMarked_12 : decode b_K_isMarked 12 = .ok (.ireturn, 1) := by decide +kernel
theorem d_K_addGiver_0 : decode b_K_addGiver 0 = .ok (.aload_n 0, 1) := by decide +kernel
theorem d_K_addGiver_1 : decode b_K_addGiver 1 = .ok (.getfield 19, 3) := by decide +kernel
theorem d_K_addGiver_4 : decode b_K_addGiver 4 = .ok (.istore_n 2, 1) := by decide +kernel
theorem d_K_addGiver_5 : decode b_K_addGiver 5 = .ok (.aload_n 0, 1) := by decide +kernel
theorem d_K_addGiver_6 : decode b_K_addGiver 6 = .ok (.dup, 1) := by decide +kernel
theorem d_K_addGiver_7 : decode b_K_addGiver 7 = .ok (.getfield 19, 3) := by decide +kernel
theorem d_K_addGiver_10 : decode b_K_addGiver 10 = .ok (.iconst 1, 1) := by decide +kernel
theorem d_K_addGiver_11 : decode b_K_addGiver 11 = .ok (.iload_n 1, 1) := by decide +kernel
theorem d_K_addGiver_12 : decode b_K_addGiver 12 = .ok (.ishl, 1) := by decide +kernel
theorem d_K_addGiver_13 : decode b_K_addGiver 13 = .ok (.ior, 1) := by decide +kernel
theorem d_K_addGiver_14 : decode b_K_addGiver 14 = .ok (.putfield 19, 3) := by decide +kernel
theorem d_K_addGiver_17 : decode b_K_addGiver 17 = .ok (.aload_n 0, 1) := by decide +kernel
theorem d_K_addGiver_18 : decode b_K_addGiver 18 = .ok (.getfield 19, 3) := by decide +kernel
theorem d_K_addGiver_21 : decode b_K_addGiver 21 = .ok (.iload_n 2, 1) := by decide +kernel
theorem d_K_addGiver_22 : decode b_K_addGiver 22 = .ok (.if_icmp .eq 7, 3) := by decide +kernel
theorem d_K_addGiver_25 : decode b_K_addGiver 25 = .ok (.iconst 1, 1) := by decide +kernel
theorem d_K_addGiver_26 : decode b_K_addGiver 26 = .ok (.goto 4, 3) := by decide +kernel
theorem d_K_addGiver_29 : decode b_K_addGiver 29 = .ok (.iconst 0, 1) := by decide +kernel
theorem d_K_addGiver_30 : decode b_K_addGiver 30 = .ok (.ireturn, 1) := by decide +kernel
theorem d_K_isKept_0 : decode b_K_isKept 0 = .ok (.iconst 0, 1) := by decide +kernel
theorem d_K_isKept_1 : decode b_K_isKept 1 = .ok (.istore_n 1, 1) := by decide +kernel
theorem d_K_isKept_2 : decode b_K_isKept 2 = .ok (.iload_n 1, 1) := by decide +kernel
theorem d_K_isKept_3 : decode b_K_isKept 3 = .ok (.aload_n 0, 1) := by decide +kernel
theorem d_K_isKept_4 : decode b_K_isKept 4 = .ok (.getfield 9, 3) := by decide +kernel
theorem d_K_isKept_7 : decode b_K_isKept 7 = .ok (.getfield 38, 3) := by decide +kernel
theorem d_K_isKept_10 : decode b_K_isKept 10 = .ok (.if_icmp .ge 46, 3) := by decide +kernel
theorem d_K_isKept_13 : decode b_K_isKept 13 = .ok (.aload_n 0, 1) := by decide +kernel
theorem d_K_isKept_14 : decode b_K_isKept 14 = .ok (.getfield 9, 3) := by decide +kernel
theorem d_K_isKept_17 : decode b_K_isKept 17 = .ok (.aload_n 0, 1) := by decide +kernel
theorem d_K_isKept_18 : decode b_K_isKept 18 = .ok (.getfield 23, 3) := by decide +kernel
theorem d_K_isKept_21 : decode b_K_isKept 21 = .ok (.iload_n 1, 1) := by decide +kernel
theorem d_K_isKept_22 : decode b_K_isKept 22 = .ok (.invokevirtual 43, 3) := by decide +kernel
theorem d_K_isKept_25 : decode b_K_isKept 25 = .ok (.ifCond .eq 25, 3) := by decide +kernel
theorem d_K_isKept_28 : decode b_K_isKept 28 = .ok (.aload_n 0, 1) := by decide +kernel
theorem d_K_isKept_29 : decode b_K_isKept 29 = .ok (.aload_n 0, 1) := by decide +kernel
theorem d_K_isKept_30 : decode b_K_isKept 30 = .ok (.getfield 9, 3) := by decide +kernel
theorem d_K_isKept_33 : decode b_K_isKept 33 = .ok (.iload_n 1, 1) := by decide +kernel
theorem d_K_isKept_34 : decode b_K_isKept 34 = .ok (.invokevirtual 50, 3) := by decide +kernel
theorem d_K_isKept_37 : decode b_K_isKept 37 = .ok (.aload_n 0, 1) := by decide +kernel
theorem d_K_isKept_38 : decode b_K_isKept 38 = .ok (.iload_n 1, 1) := by decide +kernel
theorem d_K_isKept_39 : decode b_K_isKept 39 = .ok (.invokevirtual 82, 3) := by decide +kernel
theorem d_K_isKept_42 : decode b_K_isKept 42 = .ok (.invokevirtual 61, 3) := by decide +kernel
theorem d_K_isKept_45 : decode b_K_isKept 45 = .ok (.ifCond .eq 5, 3) := by decide +kernel
theorem d_K_isKept_48 : decode b_K_isKept 48 = .ok (.iconst 1, 1) := by decide +kernel
theorem d_K_isKept_49 : decode b_K_isKept 49 = .ok (.ireturn, 1) := by decide +kernel
theorem d_K_isKept_50 : decode b_K_isKept 50 = .ok (.iinc 1 1, 3) := by decide +kernel
theorem d_K_isKept_53 : decode b_K_isKept 53 = .ok (.goto (-51), 3) := by decide +kernel
theorem d_K_isKept_56 : decode b_K_isKept 56 = .ok (.iconst 0, 1) := by decide +kernel
theorem d_K_isKept_57 : decode b_K_isKept 57 = .ok (.ireturn, 1) := by decide +kernel
theorem d_K_keptName_0 : decode b_K_keptName 0 = .ok (.aload_n 0, 1) := by decide +kernel
theorem d_K_keptName_1 : decode b_K_keptName 1 = .ok (.getfield 9, 3) := by decide +kernel
theorem d_K_keptName_4 : decode b_K_keptName 4 = .ok (.iload_n 1, 1) := by decide +kernel
theorem d_K_keptName_5 : decode b_K_keptName 5 = .ok (.invokevirtual 54, 3) := by decide +kernel
theorem d_K_keptName_8 : decode b_K_keptName 8 = .ok (.tableswitch 74 3 9 #[44, 74, 54, 74, 74, 64, 64], 44) := by decide +kernel
theorem d_K_keptName_52 : decode b_K_keptName 52 = .ok (.aload_n 0, 1) := by decide +kernel
theorem d_K_keptName_53 : decode b_K_keptName 53 = .ok (.getfield 9, 3) := by decide +kernel
theorem d_K_keptName_56 : decode b_K_keptName 56 = .ok (.iload_n 1, 1) := by decide +kernel
theorem d_K_keptName_57 : decode b_K_keptName 57 = .ok (.iconst 2, 1) := by decide +kernel
theorem d_K_keptName_58 : decode b_K_keptName 58 = .ok (.invokevirtual 57, 3) := by decide +kernel
theorem d_K_keptName_61 : decode b_K_keptName 61 = .ok (.ireturn, 1) := by decide +kernel
theorem d_K_keptName_62 : decode b_K_keptName 62 = .ok (.aload_n 0, 1) := by decide +kernel
theorem d_K_keptName_63 : decode b_K_keptName 63 = .ok (.getfield 9, 3) := by decide +kernel
theorem d_K_keptName_66 : decode b_K_keptName 66 = .ok (.iload_n 1, 1) := by decide +kernel
theorem d_K_keptName_67 : decode b_K_keptName 67 = .ok (.iconst 1, 1) := by decide +kernel
theorem d_K_keptName_68 : decode b_K_keptName 68 = .ok (.invokevirtual 57, 3) := by decide +kernel
theorem d_K_keptName_71 : decode b_K_keptName 71 = .ok (.ireturn, 1) := by decide +kernel
theorem d_K_keptName_72 : decode b_K_keptName 72 = .ok (.aload_n 0, 1) := by decide +kernel
theorem d_K_keptName_73 : decode b_K_keptName 73 = .ok (.getfield 9, 3) := by decide +kernel
theorem d_K_keptName_76 : decode b_K_keptName 76 = .ok (.iload_n 1, 1) := by decide +kernel
theorem d_K_keptName_77 : decode b_K_keptName 77 = .ok (.iconst 0, 1) := by decide +kernel
theorem d_K_keptName_78 : decode b_K_keptName 78 = .ok (.invokevirtual 57, 3) := by decide +kernel
theorem d_K_keptName_81 : decode b_K_keptName 81 = .ok (.ireturn, 1) := by decide +kernel
theorem d_K_keptName_82 : decode b_K_keptName 82 = .ok (.iconst (-1), 1) := by decide +kernel
theorem d_K_keptName_83 : decode b_K_keptName 83 = .ok (.ireturn, 1) := by decide +kernel
theorem d_K_countNames_0 : decode b_K_countNames 0 = .ok (.iconst 0, 1) := by decide +kernel
theorem d_K_countNames_1 : decode b_K_countNames 1 = .ok (.istore_n 1, 1) := by decide +kernel
theorem d_K_countNames_2 : decode b_K_countNames 2 = .ok (.iconst 0, 1) := by decide +kernel
theorem d_K_countNames_3 : decode b_K_countNames 3 = .ok (.istore_n 2, 1) := by decide +kernel
theorem d_K_countNames_4 : decode b_K_countNames 4 = .ok (.iload_n 2, 1) := by decide +kernel
theorem d_K_countNames_5 : decode b_K_countNames 5 = .ok (.bipush 8, 2) := by decide +kernel
theorem d_K_countNames_7 : decode b_K_countNames 7 = .ok (.if_icmp .ge 23, 3) := by decide +kernel
theorem d_K_countNames_10 : decode b_K_countNames 10 = .ok (.iload_n 1, 1) := by decide +kernel
theorem d_K_countNames_11 : decode b_K_countNames 11 = .ok (.aload_n 0, 1) := by decide +kernel
theorem d_K_countNames_12 : decode b_K_countNames 12 = .ok (.getfield 15, 3) := by decide +kernel
theorem d_K_countNames_15 : decode b_K_countNames 15 = .ok (.iload_n 2, 1) := by decide +kernel
theorem d_K_countNames_16 : decode b_K_countNames 16 = .ok (.invokestatic 78, 3) := by decide +kernel
theorem d_K_countNames_19 : decode b_K_countNames 19 = .ok (.invokestatic 85, 3) := by decide +kernel
theorem d_K_countNames_22 : decode b_K_countNames 22 = .ok (.iadd, 1) := by decide +kernel
theorem d_K_countNames_23 : decode b_K_countNames 23 = .ok (.istore_n 1, 1) := by decide +kernel
theorem d_K_countNames_24 : decode b_K_countNames 24 = .ok (.iinc 2 1, 3) := by decide +kernel
theorem d_K_countNames_27 : decode b_K_countNames 27 = .ok (.goto (-23), 3) := by decide +kernel
theorem d_K_countNames_30 : decode b_K_countNames 30 = .ok (.iload_n 1, 1) := by decide +kernel
theorem d_K_countNames_31 : decode b_K_countNames 31 = .ok (.ireturn, 1) := by decide +kernel
