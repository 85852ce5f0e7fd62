theorem d_M_init_0 : decode b_M_init 0 = .ok (.aload_n 0, 1) := by decide +kernel
theorem d_M_init_1 : decode b_M_init 1 = .ok (.invokespecial 1, 3) := by decide +kernel
theorem d_M_init_4 : decode b_M_init 4 = .ok (.aload_n 0, 1) := by decide +kernel
theorem d_M_init_5 : decode b_M_init 5 = .ok (.iconst 1, 1) := by decide +kernel
theorem d_M_init_6 : decode b_M_init 6 = .ok (.putfield 7, 3) := by decide +kernel
theorem d_M_init_9 : decode b_M_init 9 = .ok (.aload_n 0, 1) := by decide +kernel
theorem d_M_init_10 : decode b_M_init 10 = .ok (.bipush 64, 2) := by decide +kernel
theorem d_M_init_12 : decode b_M_init 12 = .ok (.newarray .int, 2) := by decide +kernel
theorem d_M_init_14 : decode b_M_init 14 = .ok (.putfield 13, 3) := by decide +kernel
theorem d_M_init_17 : decode b_M_init 17 = .ok (.aload_n 0, 1) := by decide +kernel
theorem d_M_init_18 : decode b_M_init 18 = .ok (.bipush 64, 2) := by decide +kernel
theorem d_M_init_20 : decode b_M_init 20 = .ok (.newarray .int, 2) := by decide +kernel
theorem d_M_init_22 : decode b_M_init 22 = .ok (.putfield 17, 3) := by decide +kernel
theorem d_M_init_25 : decode b_M_init 25 = .ok (.aload_n 0, 1) := by decide +kernel
theorem d_M_init_26 : decode b_M_init 26 = .ok (.bipush 64, 2) := by decide +kernel
theorem d_M_init_28 : decode b_M_init 28 = .ok (.newarray .int, 2) := by decide +kernel
theorem d_M_init_30 : decode b_M_init 30 = .ok (.putfield 20, 3) := by decide +kernel
theorem d_M_init_33 : decode b_M_init 33 = .ok (.aload_n 0, 1) := by decide +kernel
theorem d_M_init_34 : decode b_M_init 34 = .ok (.sipush 320, 3) := by decide +kernel
theorem d_M_init_37 : decode b_M_init 37 = .ok (.newarray .int, 2) := by decide +kernel
theorem d_M_init_39 : decode b_M_init 39 = .ok (.putfield 23, 3) := by decide +kernel
theorem d_M_init_42 : decode b_M_init 42 = .ok (.aload_n 0, 1) := by decide +kernel
theorem d_M_init_43 : decode b_M_init 43 = .ok (.bipush 16, 2) := by decide +kernel
theorem d_M_init_45 : decode b_M_init 45 = .ok (.newarray .int, 2) := by decide +kernel
theorem d_M_init_47 : decode b_M_init 47 = .ok (.putfield 26, 3) := by decide +kernel
theorem d_M_init_50 : decode b_M_init 50 = .ok (.aload_n 0, 1) := by decide +kernel
theorem d_M_init_51 : decode b_M_init 51 = .ok (.bipush 64, 2) := by decide +kernel
theorem d_M_init_53 : decode b_M_init 53 = .ok (.newarray .int, 2) := by decide +kernel
theorem d_M_init_55 : decode b_M_init 55 = .ok (.putfield 29, 3) := by decide +kernel
theorem d_M_init_58 : decode b_M_init 58 = .ok (.aload_n 0, 1) := by decide +kernel
theorem d_M_init_59 : decode b_M_init 59 = .ok (.bipush 64, 2) := by decide +kernel
theorem d_M_init_61 : decode b_M_init 61 = .ok (.newarray .int, 2) := by decide +kernel
theorem d_M_init_63 : decode b_M_init 63 = .ok (.putfield 32, 3) := by decide +kernel
theorem d_M_init_66 : decode b_M_init 66 = .ok (.aload_n 0, 1) := by decide +kernel
theorem d_M_init_67 : decode b_M_init 67 = .ok (.iconst 4, 1) := by decide +kernel
theorem d_M_init_68 : decode b_M_init 68 = .ok (.newarray .int, 2) := by decide +kernel
theorem d_M_init_70 : decode b_M_init 70 = .ok (.putfield 35, 3) := by decide +kernel
theorem d_M_init_73 : decode b_M_init 73 = .ok (.aload_n 0, 1) := by decide +kernel
theorem d_M_init_74 : decode b_M_init 74 = .ok (.bipush 8, 2) := by decide +kernel
theorem d_M_init_76 : decode b_M_init 76 = .ok (.newarray .int, 2) := by decide +kernel
theorem d_M_init_78 : decode b_M_init 78 = .ok (.putfield 38, 3) := by decide +kernel
theorem d_M_init_81 : decode b_M_init 81 = .ok (.aload_n 0, 1) := by decide +kernel
theorem d_M_init_82 : decode b_M_init 82 = .ok (.bipush 64, 2) := by decide +kernel
theorem d_M_init_84 : decode b_M_init 84 = .ok (.newarray .boolean, 2) := by decide +kernel
theorem d_M_init_86 : decode b_M_init 86 = .ok (.putfield 41, 3) := by decide +kernel
theorem d_M_init_89 : decode b_M_init 89 = .ok (.aload_n 0, 1) := by decide +kernel
theorem d_M_init_90 : decode b_M_init 90 = .ok (.iconst 1, 1) := by decide +kernel
theorem d_M_init_91 : decode b_M_init 91 = .ok (.putfield 45, 3) := by decide +kernel
theorem d_M_init_94 : decode b_M_init 94 = .ok (.return_, 1) := by decide +kernel
theorem d_M_isIn_0 : decode b_M_isIn 0 = .ok (.iload_n 0, 1) := by decide +kernel
theorem d_M_isIn_1 : decode b_M_isIn 1 = .ok (.iload_n 1, 1) := by decide +kernel
theorem d_M_isIn_2 : decode b_M_isIn 2 = .ok (.if_icmp .lt 12, 3) := by decide +kernel
theorem d_M_isIn_5 : decode b_M_isIn 5 = .ok (.iload_n 0, 1) := by decide +kernel
theorem d_M_isIn_6 : decode b_M_isIn 6 = .ok (.iload_n 2, 1) := by decide +kernel
theorem d_M_isIn_7 : decode b_M_isIn 7 = .ok (.if_icmp .gt 7, 3) := by decide +kernel
theorem d_M_isIn_10 : decode b_M_isIn 10 = .ok (.iconst 1, 1) := by decide +kernel
theorem d_M_isIn_11 : decode b_M_isIn 11 = .ok (.goto 4, 3) := by decide +kernel
theorem d_M_isIn_14 : decode b_M_isIn 14 = .ok (.iconst 0, 1) := by decide +kernel
theorem d_M_isIn_15 : decode b_M_isIn 15 = .ok (.ireturn, 1) := by decide +kernel
theorem d_M_has_0 : decode b_M_has 0 = .ok (.iload_n 0, 1) := by decide +kernel
theorem d_M_has_1 : decode b_M_has 1 = .ok (.iload_n 1, 1) := by decide +kernel
theorem d_M_has_2 : decode b_M_has 2 = .ok (.ishr, 1) := by decide +kernel
theorem d_M_has_3 : decode b_M_has 3 = .ok (.iconst 1, 1) := by decide +kernel
theorem d_M_has_4 : decode b_M_has 4 = .ok (.iand, 1) := by decide +kernel
theorem d_M_has_5 : decode b_M_has 5 = .ok (.iconst 1, 1) := by decide +kernel
theorem d_M_has_6 : decode b_M_has 6 = .ok (.if_icmp .ne 7, 3) := by decide +kernel
theorem d_M_has_9 : decode b_M_has 9 = .ok (.iconst 1, 1) := by decide +kernel
theorem d_M_has_10 : decode b_M_has 10 = .ok (.goto 4, 3) := by decide +kernel
theorem d_M_has_13 : decode b_M_has 13 = .ok (.iconst 0, 1) := by decide +kernel
theorem d_M_has_14 : decode b_M_has 14 = .ok (.ireturn, 1) := by decide +kernel
theorem d_M_clear_0 : decode b_M_clear 0 = .ok (.aload_n 0, 1) := by decide +kernel
theorem d_M_clear_1 : decode b_M_clear 1 = .ok (.getfield 49, 3) := by decide +kernel
theorem d_M_clear_4 : decode b_M_clear 4 = .ok (.istore_n 1, 1) := by decide +kernel
theorem d_M_clear_5 : decode b_M_clear 5 = .ok (.aload_n 0, 1) := by decide +kernel
theorem d_M_clear_6 : decode b_M_clear 6 = .ok (.iconst 0, 1) := by decide +kernel
theorem d_M_clear_7 : decode b_M_clear 7 = .ok (.putfield 49, 3) := by decide +kernel
theorem d_M_clear_10 : decode b_M_clear 10 = .ok (.aload_n 0, 1) := by decide +kernel
theorem d_M_clear_11 : decode b_M_clear 11 = .ok (.iconst 0, 1) := by decide +kernel
theorem d_M_clear_12 : decode b_M_clear 12 = .ok (.putfield 52, 3) := by decide +kernel
theorem d_M_clear_15 : decode b_M_clear 15 = .ok (.aload_n 0, 1) := by decide +kernel
theorem d_M_clear_16 : decode b_M_clear 16 = .ok (.iconst 1, 1) := by decide +kernel
theorem d_M_clear_17 : decode b_M_clear 17 = .ok (.putfield 7, 3) := by decide +kernel
theorem d_M_clear_20 : decode b_M_clear 20 = .ok (.aload_n 0, 1) := by decide +kernel
theorem d_M_clear_21 : decode b_M_clear 21 = .ok (.iconst 1, 1) := by decide +kernel
theorem d_M_clear_22 : decode b_M_clear 22 = .ok (.putfield 45, 3) := by decide +kernel
theorem d_M_clear_25 : decode b_M_clear 25 = .ok (.iload_n 1, 1) := by decide +kernel
theorem d_M_clear_26 : decode b_M_clear 26 = .ok (.ireturn, 1) := by decide +kernel
theorem d_M_method_0 : decode b_M_method 0 = .ok (.aload_n 0, 1) := by decide +kernel
theorem d_M_method_1 : decode b_M_method 1 = .ok (.getfield 7, 3) := by decide +kernel
theorem d_M_method_4 : decode b_M_method 4 = .ok (.bipush 8, 2) := by decide +kernel
theorem d_M_method_6 : decode b_M_method 6 = .ok (.if_icmp .ne 6, 3) := by decide +kernel
theorem d_M_method_9 : decode b_M_method 9 = .ok (.bipush (-3), 2) := by decide +kernel
theorem d_M_method_11 : decode b_M_method 11 = .ok (.ireturn, 1) := by decide +kernel
theorem d_M_method_12 : decode b_M_method 12 = .ok (.aload_n 0, 1) := by decide +kernel
theorem d_M_method_13 : decode b_M_method 13 = .ok (.dup, 1) := by decide +kernel
theorem d_M_method_14 : decode b_M_method 14 = .ok (.getfield 7, 3) := by decide +kernel
theorem d_M_method_17 : decode b_M_method 17 = .ok (.iconst 1, 1) := by decide +kernel
theorem d_M_method_18 : decode b_M_method 18 = .ok (.iadd, 1) := by decide +kernel
theorem d_M_method_19 : decode b_M_method 19 = .ok (.putfield 7, 3) := by decide +kernel
theorem d_M_method_22 : decode b_M_method 22 = .ok (.aload_n 0, 1) := by decide +kernel
theorem d_M_method_23 : decode b_M_method 23 = .ok (.iconst 1, 1) := by decide +kernel
theorem d_M_method_24 : decode b_M_method 24 = .ok (.putfield 45, 3) := by decide +kernel
theorem d_M_method_27 : decode b_M_method 27 = .ok (.aload_n 0, 1) := by decide +kernel
theorem d_M_method_28 : decode b_M_method 28 = .ok (.getfield 7, 3) := by decide +kernel
theorem d_M_method_31 : decode b_M_method 31 = .ok (.iconst 1, 1) := by decide +kernel
theorem d_M_method_32 : decode b_M_method 32 = .ok (.isub, 1) := by decide +kernel
theorem d_M_method_33 : decode b_M_method 33 = .ok (.ireturn, 1) := by decide +kernel
theorem d_M_isMethod_0 : decode b_M_isMethod 0 = .ok (.iload_n 1, 1) := by decide +kernel
theorem d_M_isMethod_1 : decode b_M_isMethod 1 = .ok (.iconst 0, 1) := by decide +kernel
theorem d_M_isMethod_2 : decode b_M_isMethod 2 = .ok (.aload_n 0, 1) := by decide +kernel
theorem d_M_isMethod_3 : decode b_M_isMethod 3 = .ok (.getfield 7, 3) := by decide +kernel
theorem d_M_isMethod_6 : decode b_M_isMethod 6 = .ok (.iconst 1, 1) := by decide +kernel
theorem d_M_isMethod_7 : decode b_M_isMethod 7 = .ok (.isub, 1) := by decide +kernel
theorem d_M_isMethod_8 : decode b_M_isMethod 8 = .ok (.invokestatic 55, 3) := by decide +kernel
theorem d_M_isMethod_11 : decode b_M_isMethod 11 = .ok (.ireturn, 1) := by decide +kernel
theorem d_M_isName_0 : decode b_M_isName 0 = .ok (.iload_n 0, 1) := by decide +kernel
theorem d_M_isName_1 : decode b_M_isName 1 = .ok (.iconst 0, 1) := by decide +kernel
theorem d_M_isName_2 : decode b_M_isName 2 = .ok (.bipush 7, 2) := by decide +kernel
theorem d_M_isName_4 : decode b_M_isName 4 = .ok (.invokestatic 55, 3) := by decide +kernel
theorem d_M_isName_7 : decode b_M_isName 7 = .ok (.ireturn, 1) := by decide +kernel
theorem d_M_needs_0 : decode b_M_needs 0 = .ok (.iload_n 0, 1) := by decide +kernel
theorem d_M_needs_1 : decode b_M_needs 1 = .ok (.tableswitch 65 0 10 #[59, 65, 61, 61, 65, 65, 63, 59, 59, 59, 59], 59) := by decide +kernel
theorem d_M_needs_60 : decode b_M_needs 60 = .ok (.iconst 1, 1) := by decide +kernel
theorem d_M_needs_61 : decode b_M_needs 61 = .ok (.ireturn, 1) := by decide +kernel
theorem d_M_needs_62 : decode b_M_needs 62 = .ok (.iconst 3, 1) := by decide +kernel
theorem d_M_needs_63 : decode b_M_needs 63 = .ok (.ireturn, 1) := by decide +kernel
theorem d_M_needs_64 : decode b_M_needs 64 = .ok (.iconst 5, 1) := by decide +kernel
theorem d_M_needs_65 : decode b_M_needs 65 = .ok (.ireturn, 1) := by decide +kernel
theorem d_M_needs_66 : decode b_M_needs 66 = .ok (.iconst 2, 1) := by decide +kernel
theorem d_M_needs_67 : decode b_M_needs 67 = .ok (.ireturn, 1) := by decide +kernel
theorem d_M_isNeed_0 : decode b_M_isNeed 0 = .ok (.iload_n 0, 1) := by decide +kernel
theorem d_M_isNeed_1 : decode b_M_isNeed 1 = .ok (.iconst 2, 1) := by decide +kernel
theorem d_M_isNeed_2 : decode b_M_isNeed 2 = .ok (.if_icmp .ne 8, 3) := by decide +kernel
theorem d_M_isNeed_5 : decode b_M_isNeed 5 = .ok (.iload_n 1, 1) := by decide +kernel
theorem d_M_isNeed_6 : decode b_M_isNeed 6 = .ok (.iconst 2, 1) := by decide +kernel
theorem d_M_isNeed_7 : decode b_M_isNeed 7 = .ok (.if_icmp .eq 32, 3) := by decide +kernel
theorem d_M_isNeed_10 : decode b_M_isNeed 10 = .ok (.iload_n 0, 1) := by decide +kernel
theorem d_M_isNeed_11 : decode b_M_isNeed 11 = .ok (.iconst 3, 1) := by decide +kernel
theorem d_M_isNeed_12 : decode b_M_isNeed 12 = .ok (.if_icmp .ne 8, 3) := by decide +kernel
theorem d_M_isNeed_15 : decode b_M_isNeed 15 = .ok (.iload_n 1, 1) := by decide +kernel
theorem d_M_isNeed_16 : decode b_M_isNeed 16 = .ok (.iconst 1, 1) := by decide +kernel
theorem d_M_isNeed_17 : decode b_M_isNeed 17 = .ok (.if_icmp .eq 22, 3) := by decide +kernel
theorem d_M_isNeed_20 : decode b_M_isNeed 20 = .ok (.iload_n 0, 1) := by decide +kernel
theorem d_M_isNeed_21 : decode b_M_isNeed 21 = .ok (.iconst 4, 1) := by decide +kernel
theorem d_M_isNeed_22 : decode b_M_isNeed 22 = .ok (.if_icmp .ne 8, 3) := by decide +kernel
theorem d_M_isNeed_25 : decode b_M_isNeed 25 = .ok (.iload_n 1, 1) := by decide +kernel
theorem d_M_isNeed_26 : decode b_M_isNeed 26 = .ok (.iconst 1, 1) := by decide +kernel
theorem d_M_isNeed_27 : decode b_M_isNeed 27 = .ok (.if_icmp .eq 12, 3) := by decide +kernel
theorem d_M_isNeed_30 : decode b_M_isNeed 30 = .ok (.iload_n 0, 1) := by decide +kernel
theorem d_M_isNeed_31 : decode b_M_isNeed 31 = .ok (.iconst 5, 1) := by decide +kernel
theorem d_M_isNeed_32 : decode b_M_isNeed 32 = .ok (.if_icmp .ne 11, 3) := by decide +kernel
theorem d_M_isNeed_35 : decode b_M_isNeed 35 = .ok (.iload_n 1, 1) := by decide +kernel
theorem d_M_isNeed_36 : decode b_M_isNeed 36 = .ok (.ifCond .ne 7, 3) := by decide +kernel
theorem d_M_isNeed_39 : decode b_M_isNeed 39 = .ok (.iconst 1, 1) := by decide +kernel
theorem d_M_isNeed_40 : decode b_M_isNeed 40 = .ok (.goto 4, 3) := by decide +kernel
theorem d_M_isNeed_43 : decode b_M_isNeed 43 = .ok (.iconst 0, 1) := by decide +kernel
theorem d_M_isNeed_44 : decode b_M_isNeed 44 = .ok (.istore_n 3, 1) := by decide +kernel
theorem d_M_isNeed_45 : decode b_M_isNeed 45 = .ok (.iload_n 3, 1) := by decide +kernel
theorem d_M_isNeed_46 : decode b_M_isNeed 46 = .ok (.ifCond .eq 12, 3) := by decide +kernel
theorem d_M_isNeed_49 : decode b_M_isNeed 49 = .ok (.iload_n 2, 1) := by decide +kernel
theorem d_M_isNeed_50 : decode b_M_isNeed 50 = .ok (.iconst 0, 1) := by decide +kernel
theorem d_M_isNeed_51 : decode b_M_isNeed 51 = .ok (.iconst 3, 1) := by decide +kernel
theorem d_M_isNeed_52 : decode b_M_isNeed 52 = .ok (.invokestatic 55, 3) := by decide +kernel
theorem d_M_isNeed_55 : decode b_M_isNeed 55 = .ok (.goto 7, 3) := by decide +kernel
theorem d_M_isNeed_58 : decode b_M_isNeed 58 = .ok (.iload_n 2, 1) := by decide +kernel
theorem d_M_isNeed_59 : decode b_M_isNeed 59 = .ok (.invokestatic 59, 3) := by decide +kernel
theorem d_M_isNeed_62 : decode b_M_isNeed 62 = .ok (.ireturn, 1) := by decide +kernel
theorem d_M_add_0 : decode b_M_add 0 = .ok (.aload_n 0, 1) := by decide +kernel
theorem d_M_add_1 : decode b_M_add 1 = .ok (.getfield 13, 3) := by decide +kernel
theorem d_M_add_4 : decode b_M_add 4 = .ok (.aload_n 0, 1) := by decide +kernel
theorem d_M_add_5 : decode b_M_add 5 = .ok (.getfield 49, 3) := by decide +kernel
theorem d_M_add_8 : decode b_M_add 8 = .ok (.iload_n 1, 1) := by decide +kernel
theorem d_M_add_9 : decode b_M_add 9 = .ok (.iastore, 1) := by decide +kernel
theorem d_M_add_10 : decode b_M_add 10 = .ok (.aload_n 0, 1) := by decide +kernel
theorem d_M_add_11 : decode b_M_add 11 = .ok (.getfield 17, 3) := by decide +kernel
theorem d_M_add_14 : decode b_M_add 14 = .ok (.aload_n 0, 1) := by decide +kernel
theorem d_M_add_15 : decode b_M_add 15 = .ok (.getfield 49, 3) := by decide +kernel
theorem d_M_add_18 : decode b_M_add 18 = .ok (.iload_n 2, 1) := by decide +kernel
theorem d_M_add_19 : decode b_M_add 19 = .ok (.iastore, 1) := by decide +kernel
theorem d_M_add_20 : decode b_M_add 20 = .ok (.aload_n 0, 1) := by decide +kernel
theorem d_M_add_21 : decode b_M_add 21 = .ok (.getfield 20, 3) := by decide +kernel
theorem d_M_add_24 : decode b_M_add 24 = .ok (.aload_n 0, 1) := by decide +kernel
theorem d_M_add_25 : decode b_M_add 25 = .ok (.getfield 49, 3) := by decide +kernel
theorem d_M_add_28 : decode b_M_add 28 = .ok (.iconst (-1), 1) := by decide +kernel
theorem d_M_add_29 : decode b_M_add 29 = .ok (.iastore, 1) := by decide +kernel
theorem d_M_add_30 : decode b_M_add 30 = .ok (.iload_n 2, 1) := by decide +kernel
theorem d_M_add_31 : decode b_M_add 31 = .ok (.ifCond .ne 39, 3) := by decide +kernel
theorem d_M_add_34 : decode b_M_add 34 = .ok (.aload_n 0, 1) := by decide +kernel
theorem d_M_add_35 : decode b_M_add 35 = .ok (.getfield 20, 3) := by decide +kernel
theorem d_M_add_38 : decode b_M_add 38 = .ok (.aload_n 0, 1) := by decide +kernel
theorem d_M_add_39 : decode b_M_add 39 = .ok (.getfield 49, 3) := by decide +kernel
theorem d_M_add_42 : decode b_M_add 42 = .ok (.aload_n 0, 1) := by decide +kernel
theorem d_M_add_43 : decode b_M_add 43 = .ok (.getfield 52, 3) := by decide +kernel
theorem d_M_add_46 : decode b_M_add 46 = .ok (.iastore, 1) := by decide +kernel
theorem d_M_add_47 : decode b_M_add 47 = .ok (.aload_n 0, 1) := by decide +kernel
theorem d_M_add_48 : decode b_M_add 48 = .ok (.getfield 26, 3) := by decide +kernel
theorem d_M_add_51 : decode b_M_add 51 = .ok (.aload_n 0, 1) := by decide +kernel
theorem d_M_add_52 : decode b_M_add 52 = .ok (.getfield 52, 3) := by decide +kernel
theorem d_M_add_55 : decode b_M_add 55 = .ok (.aload_n 0, 1) := by decide +kernel
theorem d_M_add_56 : decode b_M_add 56 = .ok (.getfield 49, 3) := by decide +kernel
theorem d_M_add_59 : decode b_M_add 59 = .ok (.iastore, 1) := by decide +kernel
theorem d_M_add_60 : decode b_M_add 60 = .ok (.aload_n 0, 1) := by decide +kernel
theorem d_M_add_61 : decode b_M_add 61 = .ok (.dup, 1) := by decide +kernel
theorem d_M_add_62 : decode b_M_add 62 = .ok (.getfield 52, 3) := by decide +kernel
theorem d_M_add_65 : decode b_M_add 65 = .ok (.iconst 1, 1) := by decide +kernel
theorem d_M_add_66 : decode b_M_add 66 = .ok (.iadd, 1) := by decide +kernel
theorem d_M_add_67 : decode b_M_add 67 = .ok (.putfield 52, 3) := by decide +kernel
theorem d_M_add_70 : decode b_M_add 70 = .ok (.aload_n 0, 1) := by decide +kernel
theorem d_M_add_71 : decode b_M_add 71 = .ok (.iconst 1, 1) := by decide +kernel
theorem d_M_add_72 : decode b_M_add 72 = .ok (.putfield 45, 3) := by decide +kernel
theorem d_M_add_75 : decode b_M_add 75 = .ok (.aload_n 0, 1) := by decide +kernel
theorem d_M_add_76 : decode b_M_add 76 = .ok (.dup, 1) := by decide +kernel
theorem d_M_add_77 : decode b_M_add 77 = .ok (.getfield 49, 3) := by decide +kernel
theorem d_M_add_80 : decode b_M_add 80 = .ok (.iconst 1, 1) := by decide +kernel
theorem d_M_add_81 : decode b_M_add 81 = .ok (.iadd, 1) := by decide +kernel
theorem d_M_add_82 : decode b_M_add 82 = .ok (.putfield 49, 3) := by decide +kernel
theorem d_M_add_85 : decode b_M_add 85 = .ok (.aload_n 0, 1) := by decide +kernel
theorem d_M_add_86 : decode b_M_add 86 = .ok (.getfield 49, 3) := by decide +kernel
theorem d_M_add_89 : decode b_M_add 89 = .ok (.iconst 1, 1) := by decide +kernel
theorem d_M_add_90 : decode b_M_add 90 = .ok (.isub, 1) := by decide +kernel
theorem d_M_add_91 : decode b_M_add 91 = .ok (.ireturn, 1) := by decide +kernel
theorem d_M_step_0 : decode b_M_step 0 = .ok (.aload_n 0, 1) := by decide +kernel
theorem d_M_step_1 : decode b_M_step 1 = .ok (.iload_n 1, 1) := by decide +kernel
theorem d_M_step_2 : decode b_M_step 2 = .ok (.invokevirtual 63, 3) := by decide +kernel
theorem d_M_step_5 : decode b_M_step 5 = .ok (.ifCond .eq 19, 3) := by decide +kernel
theorem d_M_step_8 : decode b_M_step 8 = .ok (.iload_n 2, 1) := by decide +kernel
theorem d_M_step_9 : decode b_M_step 9 = .ok (.iconst 0, 1) := by decide +kernel
theorem d_M_step_10 : decode b_M_step 10 = .ok (.bipush 10, 2) := by decide +kernel
theorem d_M_step_12 : decode b_M_step 12 = .ok (.invokestatic 55, 3) := by decide +kernel
theorem d_M_step_15 : decode b_M_step 15 = .ok (.ifCond .eq 9, 3) := by decide +kernel
theorem d_M_step_18 : decode b_M_step 18 = .ok (.iload_n 2, 1) := by decide +kernel
theorem d_M_step_19 : decode b_M_step 19 = .ok (.bipush 6, 2) := by decide +kernel
theorem d_M_step_21 : decode b_M_step 21 = .ok (.if_icmp .ne 6, 3) := by decide +kernel
theorem d_M_step_24 : decode b_M_step 24 = .ok (.bipush (-2), 2) := by decide +kernel
theorem d_M_step_26 : decode b_M_step 26 = .ok (.ireturn, 1) := by decide +kernel
theorem d_M_step_27 : decode b_M_step 27 = .ok (.iload_n 2, 1) := by decide +kernel
theorem d_M_step_28 : decode b_M_step 28 = .ok (.invokestatic 66, 3) := by decide +kernel
theorem d_M_step_31 : decode b_M_step 31 = .ok (.istore 6, 2) := by decide +kernel
theorem d_M_step_33 : decode b_M_step 33 = .ok (.iload_n 2, 1) := by decide +kernel
theorem d_M_step_34 : decode b_M_step 34 = .ok (.iconst 0, 1) := by decide +kernel
theorem d_M_step_35 : decode b_M_step 35 = .ok (.iload_n 3, 1) := by decide +kernel
theorem d_M_step_36 : decode b_M_step 36 = .ok (.invokestatic 70, 3) := by decide +kernel
theorem d_M_step_39 : decode b_M_step 39 = .ok (.ifCond .eq 35, 3) := by decide +kernel
theorem d_M_step_42 : decode b_M_step 42 = .ok (.iload 6, 2) := by decide +kernel
theorem d_M_step_44 : decode b_M_step 44 = .ok (.iconst 1, 1) := by decide +kernel
theorem d_M_step_45 : decode b_M_step 45 = .ok (.if_icmp .le 13, 3) := by decide +kernel
theorem d_M_step_48 : decode b_M_step 48 = .ok (.iload_n 2, 1) := by decide +kernel
theorem d_M_step_49 : decode b_M_step 49 = .ok (.iconst 1, 1) := by decide +kernel
theorem d_M_step_50 : decode b_M_step 50 = .ok (.iload 4, 2) := by decide +kernel
theorem d_M_step_52 : decode b_M_step 52 = .ok (.invokestatic 70, 3) := by decide +kernel
theorem d_M_step_55 : decode b_M_step 55 = .ok (.ifCond .eq 19, 3) := by decide +kernel
theorem d_M_step_58 : decode b_M_step 58 = .ok (.iload 6, 2) := by decide +kernel
theorem d_M_step_60 : decode b_M_step 60 = .ok (.iconst 2, 1) := by decide +kernel
theorem d_M_step_61 : decode b_M_step 61 = .ok (.if_icmp .le 16, 3) := by decide +kernel
theorem d_M_step_64 : decode b_M_step 64 = .ok (.iload_n 2, 1) := by decide +kernel
theorem d_M_step_65 : decode b_M_step 65 = .ok (.iconst 2, 1) := by decide +kernel
theorem d_M_step_66 : decode b_M_step 66 = .ok (.iload 5, 2) := by decide +kernel
theorem d_M_step_68 : decode b_M_step 68 = .ok (.invokestatic 70, 3) := by decide +kernel
theorem d_M_step_71 : decode b_M_step 71 = .ok (.ifCond .ne 6, 3) := by decide +kernel
theorem d_M_step_74 : decode b_M_step 74 = .ok (.bipush (-2), 2) := by decide +kernel
theorem d_M_step_76 : decode b_M_step 76 = .ok (.ireturn, 1) := by decide +kernel
theorem d_M_step_77 : decode b_M_step 77 = .ok (.aload_n 0, 1) := by decide +kernel
theorem d_M_step_78 : decode b_M_step 78 = .ok (.getfield 49, 3) := by decide +kernel
theorem d_M_step_81 : decode b_M_step 81 = .ok (.bipush 64, 2) := by decide +kernel
theorem d_M_step_83 : decode b_M_step 83 = .ok (.if_icmp .eq 16, 3) := by decide +kernel
theorem d_M_step_86 : decode b_M_step 86 = .ok (.iload_n 2, 1) := by decide +kernel
theorem d_M_step_87 : decode b_M_step 87 = .ok (.ifCond .ne 15, 3) := by decide +kernel
theorem d_M_step_90 : decode b_M_step 90 = .ok (.aload_n 0, 1) := by decide +kernel
theorem d_M_step_91 : decode b_M_step 91 = .ok (.getfield 52, 3) := by decide +kernel
theorem d_M_step_94 : decode b_M_step 94 = .ok (.bipush 16, 2) := by decide +kernel
theorem d_M_step_96 : decode b_M_step 96 = .ok (.if_icmp .ne 6, 3) := by decide +kernel
theorem d_M_step_99 : decode b_M_step 99 = .ok (.bipush (-3), 2) := by decide +kernel
theorem d_M_step_101 : decode b_M_step 101 = .ok (.ireturn, 1) := by decide +kernel
theorem d_M_step_102 : decode b_M_step 102 = .ok (.aload_n 0, 1) := by decide +kernel
theorem d_M_step_103 : decode b_M_step 103 = .ok (.getfield 23, 3) := by decide +kernel
theorem d_M_step_106 : decode b_M_step 106 = .ok (.iconst 5, 1) := by decide +kernel
theorem d_M_step_107 : decode b_M_step 107 = .ok (.aload_n 0, 1) := by decide +kernel
theorem d_M_step_108 : decode b_M_step 108 = .ok (.getfield 49, 3) := by decide +kernel
theorem d_M_step_111 : decode b_M_step 111 = .ok (.imul, 1) := by decide +kernel
theorem d_M_step_112 : decode b_M_step 112 = .ok (.iload_n 3, 1) := by decide +kernel
theorem d_M_step_113 : decode b_M_step 113 = .ok (.iastore, 1) := by decide +kernel
theorem d_M_step_114 : decode b_M_step 114 = .ok (.aload_n 0, 1) := by decide +kernel
theorem d_M_step_115 : decode b_M_step 115 = .ok (.getfield 23, 3) := by decide +kernel
theorem d_M_step_118 : decode b_M_step 118 = .ok (.iconst 5, 1) := by decide +kernel
theorem d_M_step_119 : decode b_M_step 119 = .ok (.aload_n 0, 1) := by decide +kernel
theorem d_M_step_120 : decode b_M_step 120 = .ok (.getfield 49, 3) := by decide +kernel
theorem d_M_step_123 : decode b_M_step 123 = .ok (.imul, 1) := by decide +kernel
theorem d_M_step_124 : decode b_M_step 124 = .ok (.iconst 1, 1) := by decide +kernel
theorem d_M_step_125 : decode b_M_step 125 = .ok (.iadd, 1) := by decide +kernel
theorem d_M_step_126 : decode b_M_step 126 = .ok (.iload 4, 2) := by decide +kernel
theorem d_M_step_128 : decode b_M_step 128 = .ok (.iastore, 1) := by decide +kernel
theorem d_M_step_129 : decode b_M_step 129 = .ok (.aload_n 0, 1) := by decide +kernel
theorem d_M_step_130 : decode b_M_step 130 = .ok (.getfield 23, 3) := by decide +kernel
theorem d_M_step_133 : decode b_M_step 133 = .ok (.iconst 5, 1) := by decide +kernel
theorem d_M_step_134 : decode b_M_step 134 = .ok (.aload_n 0, 1) := by decide +kernel
theorem d_M_step_135 : decode b_M_step 135 = .ok (.getfield 49, 3) := by decide +kernel
theorem d_M_step_138 : decode b_M_step 138 = .ok (.imul, 1) := by decide +kernel
theorem d_M_step_139 : decode b_M_step 139 = .ok (.iconst 2, 1) := by decide +kernel
theorem d_M_step_140 : decode b_M_step 140 = .ok (.iadd, 1) := by decide +kernel
theorem d_M_step_141 : decode b_M_step 141 = .ok (.iload 5, 2) := by decide +kernel
theorem d_M_step_143 : decode b_M_step 143 = .ok (.iastore, 1) := by decide +kernel
theorem d_M_step_144 : decode b_M_step 144 = .ok (.aload_n 0, 1) := by decide +kernel
theorem d_M_step_145 : decode b_M_step 145 = .ok (.iload_n 1, 1) := by decide +kernel
theorem d_M_step_146 : decode b_M_step 146 = .ok (.iload_n 2, 1) := by decide +kernel
theorem d_M_step_147 : decode b_M_step 147 = .ok (.invokevirtual 73, 3) := by decide +kernel
theorem d_M_step_150 : decode b_M_step 150 = .ok (.ireturn, 1) := by decide +kernel
theorem d_M_isNameOrNone_0 : decode b_M_isNameOrNone 0 = .ok (.iload_n 0, 1) := by decide +kernel
theorem d_M_isNameOrNone_1 : decode b_M_isNameOrNone 1 = .ok (.iconst (-1), 1) := by decide +kernel
theorem d_M_isNameOrNone_2 : decode b_M_isNameOrNone 2 = .ok (.if_icmp .eq 10, 3) := by decide +kernel
theorem d_M_isNameOrNone_5 : decode b_M_isNameOrNone 5 = .ok (.iload_n 0, 1) := by decide +kernel
theorem d_M_isNameOrNone_6 : decode b_M_isNameOrNone 6 = .ok (.invokestatic 59, 3) := by decide +kernel
theorem d_M_isNameOrNone_9 : decode b_M_isNameOrNone 9 = .ok (.ifCond .eq 7, 3) := by decide +kernel
theorem d_M_isNameOrNone_12 : decode b_M_isNameOrNone 12 = .ok (.iconst 1, 1) := by decide +kernel
theorem d_M_isNameOrNone_13 : decode b_M_isNameOrNone 13 = .ok (.goto 4, 3) := by decide +kernel
theorem d_M_isNameOrNone_16 : decode b_M_isNameOrNone 16 = .ok (.iconst 0, 1) := by decide +kernel
theorem d_M_isNameOrNone_17 : decode b_M_isNameOrNone 17 = .ok (.ireturn, 1) := by decide +kernel
theorem d_M_call_0 : decode b_M_call 0 = .ok (.aload_n 0, 1) := by decide +kernel
theorem d_M_call_1 : decode b_M_call 1 = .ok (.iload_n 1, 1) := by decide +kernel
theorem d_M_call_2 : decode b_M_call 2 = .ok (.invokevirtual 63, 3) := by decide +kernel
theorem d_M_call_5 : decode b_M_call 5 = .ok (.ifCond .eq 42, 3) := by decide +kernel
theorem d_M_call_8 : decode b_M_call 8 = .ok (.aload_n 0, 1) := by decide +kernel
theorem d_M_call_9 : decode b_M_call 9 = .ok (.iload_n 2, 1) := by decide +kernel
theorem d_M_call_10 : decode b_M_call 10 = .ok (.invokevirtual 63, 3) := by decide +kernel
theorem d_M_call_13 : decode b_M_call 13 = .ok (.ifCond .eq 34, 3) := by decide +kernel
theorem d_M_call_16 : decode b_M_call 16 = .ok (.iload_n 3, 1) := by decide +kernel
theorem d_M_call_17 : decode b_M_call 17 = .ok (.invokestatic 77, 3) := by decide +kernel
theorem d_M_call_20 : decode b_M_call 20 = .ok (.ifCond .eq 27, 3) := by decide +kernel
theorem d_M_call_23 : decode b_M_call 23 = .ok (.iload 4, 2) := by decide +kernel
theorem d_M_call_25 : decode b_M_call 25 = .ok (.invokestatic 77, 3) := by decide +kernel
theorem d_M_call_28 : decode b_M_call 28 = .ok (.ifCond .eq 19, 3) := by decide +kernel
theorem d_M_call_31 : decode b_M_call 31 = .ok (.iload 5, 2) := by decide +kernel
theorem d_M_call_33 : decode b_M_call 33 = .ok (.invokestatic 77, 3) := by decide +kernel
theorem d_M_call_36 : decode b_M_call 36 = .ok (.ifCond .eq 11, 3) := by decide +kernel
theorem d_M_call_39 : decode b_M_call 39 = .ok (.iload 6, 2) := by decide +kernel
theorem d_M_call_41 : decode b_M_call 41 = .ok (.invokestatic 77, 3) := by decide +kernel
theorem d_M_call_44 : decode b_M_call 44 = .ok (.ifCond .ne 6, 3) := by decide +kernel
theorem d_M_call_47 : decode b_M_call 47 = .ok (.bipush (-2), 2) := by decide +kernel
theorem d_M_call_49 : decode b_M_call 49 = .ok (.ireturn, 1) := by decide +kernel
theorem d_M_call_50 : decode b_M_call 50 = .ok (.aload_n 0, 1) := by decide +kernel
theorem d_M_call_51 : decode b_M_call 51 = .ok (.getfield 49, 3) := by decide +kernel
theorem d_M_call_54 : decode b_M_call 54 = .ok (.bipush 64, 2) := by decide +kernel
theorem d_M_call_56 : decode b_M_call 56 = .ok (.if_icmp .ne 6, 3) := by decide +kernel
theorem d_M_call_59 : decode b_M_call 59 = .ok (.bipush (-3), 2) := by decide +kernel
theorem d_M_call_61 : decode b_M_call 61 = .ok (.ireturn, 1) := by decide +kernel
theorem d_M_call_62 : decode b_M_call 62 = .ok (.aload_n 0, 1) := by decide +kernel
theorem d_M_call_63 : decode b_M_call 63 = .ok (.getfield 23, 3) := by decide +kernel
theorem d_M_call_66 : decode b_M_call 66 = .ok (.iconst 5, 1) := by decide +kernel
theorem d_M_call_67 : decode b_M_call 67 = .ok (.aload_n 0, 1) := by decide +kernel
theorem d_M_call_68 : decode b_M_call 68 = .ok (.getfield 49, 3) := by decide +kernel
theorem d_M_call_71 : decode b_M_call 71 = .ok (.imul, 1) := by decide +kernel
theorem d_M_call_72 : decode b_M_call 72 = .ok (.iload_n 2, 1) := by decide +kernel
theorem d_M_call_73 : decode b_M_call 73 = .ok (.iastore, 1) := by decide +kernel
theorem d_M_call_74 : decode b_M_call 74 = .ok (.aload_n 0, 1) := by decide +kernel
theorem d_M_call_75 : decode b_M_call 75 = .ok (.getfield 23, 3) := by decide +kernel
theorem d_M_call_78 : decode b_M_call 78 = .ok (.iconst 5, 1) := by decide +kernel
theorem d_M_call_79 : decode b_M_call 79 = .ok (.aload_n 0, 1) := by decide +kernel
theorem d_M_call_80 : decode b_M_call 80 = .ok (.getfield 49, 3) := by decide +kernel
theorem d_M_call_83 : decode b_M_call 83 = .ok (.imul, 1) := by decide +kernel
theorem d_M_call_84 : decode b_M_call 84 = .ok (.iconst 1, 1) := by decide +kernel
theorem d_M_call_85 : decode b_M_call 85 = .ok (.iadd, 1) := by decide +kernel
theorem d_M_call_86 : decode b_M_call 86 = .ok (.iload_n 3, 1) := by decide +kernel
theorem d_M_call_87 : decode b_M_call 87 = .ok (.iastore, 1) := by decide +kernel
theorem d_M_call_88 : decode b_M_call 88 = .ok (.aload_n 0, 1) := by decide +kernel
theorem d_M_call_89 : decode b_M_call 89 = .ok (.getfield 23, 3) := by decide +kernel
theorem d_M_call_92 : decode b_M_call 92 = .ok (.iconst 5, 1) := by decide +kernel
theorem d_M_call_93 : decode b_M_call 93 = .ok (.aload_n 0, 1) := by decide +kernel
theorem d_M_call_94 : decode b_M_call 94 = .ok (.getfield 49, 3) := by decide +kernel
theorem d_M_call_97 : decode b_M_call 97 = .ok (.imul, 1) := by decide +kernel
theorem d_M_call_98 : decode b_M_call 98 = .ok (.iconst 2, 1) := by decide +kernel
theorem d_M_call_99 : decode b_M_call 99 = .ok (.iadd, 1) := by decide +kernel
theorem d_M_call_100 : decode b_M_call 100 = .ok (.iload 4, 2) := by decide +kernel
theorem d_M_call_102 : decode b_M_call 102 = .ok (.iastore, 1) := by decide +kernel
theorem d_M_call_103 : decode b_M_call 103 = .ok (.aload_n 0, 1) := by decide +kernel
theorem d_M_call_104 : decode b_M_call 104 = .ok (.getfield 23, 3) := by decide +kernel
theorem d_M_call_107 : decode b_M_call 107 = .ok (.iconst 5, 1) := by decide +kernel
theorem d_M_call_108 : decode b_M_call 108 = .ok (.aload_n 0, 1) := by decide +kernel
theorem d_M_call_109 : decode b_M_call 109 = .ok (.getfield 49, 3) := by decide +kernel
theorem d_M_call_112 : decode b_M_call 112 = .ok (.imul, 1) := by decide +kernel
theorem d_M_call_113 : decode b_M_call 113 = .ok (.iconst 3, 1) := by decide +kernel
theorem d_M_call_114 : decode b_M_call 114 = .ok (.iadd, 1) := by decide +kernel
theorem d_M_call_115 : decode b_M_call 115 = .ok (.iload 5, 2) := by decide +kernel
theorem d_M_call_117 : decode b_M_call 117 = .ok (.iastore, 1) := by decide +kernel
theorem d_M_call_118 : decode b_M_call 118 = .ok (.aload_n 0, 1) := by decide +kernel
theorem d_M_call_119 : decode b_M_call 119 = .ok (.getfield 23, 3) := by decide +kernel
theorem d_M_call_122 : decode b_M_call 122 = .ok (.iconst 5, 1) := by decide +kernel
theorem d_M_call_123 : decode b_M_call 123 = .ok (.aload_n 0, 1) := by decide +kernel
theorem d_M_call_124 : decode b_M_call 124 = .ok (.getfield 49, 3) := by decide +kernel
theorem d_M_call_127 : decode b_M_call 127 = .ok (.imul, 1) := by decide +kernel
theorem d_M_call_128 : decode b_M_call 128 = .ok (.iconst 4, 1) := by decide +kernel
theorem d_M_call_129 : decode b_M_call 129 = .ok (.iadd, 1) := by decide +kernel
theorem d_M_call_130 : decode b_M_call 130 = .ok (.iload 6, 2) := by decide +kernel
theorem d_M_call_132 : decode b_M_call 132 = .ok (.iastore, 1) := by decide +kernel
theorem d_M_call_133 : decode b_M_call 133 = .ok (.aload_n 0, 1) := by decide +kernel
theorem d_M_call_134 : decode b_M_call 134 = .ok (.iload_n 1, 1) := by decide +kernel
theorem d_M_call_135 : decode b_M_call 135 = .ok (.bipush 6, 2) := by decide +kernel
theorem d_M_call_137 : decode b_M_call 137 = .ok (.invokevirtual 73, 3) := by decide +kernel
theorem d_M_call_140 : decode b_M_call 140 = .ok (.ireturn, 1) := by decide +kernel
theorem d_M_undo_0 : decode b_M_undo 0 = .ok (.aload_n 0, 1) := by decide +kernel
theorem d_M_undo_1 : decode b_M_undo 1 = .ok (.getfield 49, 3) := by decide +kernel
theorem d_M_undo_4 : decode b_M_undo 4 = .ok (.ifCond .ne 5, 3) := by decide +kernel
theorem d_M_undo_7 : decode b_M_undo 7 = .ok (.iconst (-1), 1) := by decide +kernel
theorem d_M_undo_8 : decode b_M_undo 8 = .ok (.ireturn, 1) := by decide +kernel
theorem d_M_undo_9 : decode b_M_undo 9 = .ok (.aload_n 0, 1) := by decide +kernel
theorem d_M_undo_10 : decode b_M_undo 10 = .ok (.dup, 1) := by decide +kernel
theorem d_M_undo_11 : decode b_M_undo 11 = .ok (.getfield 49, 3) := by decide +kernel
theorem d_M_undo_14 : decode b_M_undo 14 = .ok (.iconst 1, 1) := by decide +kernel
theorem d_M_undo_15 : decode b_M_undo 15 = .ok (.isub, 1) := by decide +kernel
theorem d_M_undo_16 : decode b_M_undo 16 = .ok (.putfield 49, 3) := by decide +kernel
theorem d_M_undo_19 : decode b_M_undo 19 = .ok (.aload_n 0, 1) := by decide +kernel
theorem d_M_undo_20 : decode b_M_undo 20 = .ok (.aload_n 0, 1) := by decide +kernel
theorem d_M_undo_21 : decode b_M_undo 21 = .ok (.getfield 17, 3) := by decide +kernel
theorem d_M_undo_24 : decode b_M_undo 24 = .ok (.aload_n 0, 1) := by decide +kernel
theorem d_M_undo_25 : decode b_M_undo 25 = .ok (.getfield 49, 3) := by decide +kernel
theorem d_M_undo_28 : decode b_M_undo 28 = .ok (.iaload, 1) := by decide +kernel
theorem d_M_undo_29 : decode b_M_undo 29 = .ok (.ifCond .ne 12, 3) := by decide +kernel
theorem d_M_undo_32 : decode b_M_undo 32 = .ok (.aload_n 0, 1) := by decide +kernel
theorem d_M_undo_33 : decode b_M_undo 33 = .ok (.getfield 52, 3) := by decide +kernel
theorem d_M_undo_36 : decode b_M_undo 36 = .ok (.iconst 1, 1) := by decide +kernel
theorem d_M_undo_37 : decode b_M_undo 37 = .ok (.isub, 1) := by decide +kernel
theorem d_M_undo_38 : decode b_M_undo 38 = .ok (.goto 7, 3) := by decide +kernel
theorem d_M_undo_41 : decode b_M_undo 41 = .ok (.aload_n 0, 1) := by decide +kernel
theorem d_M_undo_42 : decode b_M_undo 42 = .ok (.getfield 52, 3) := by decide +kernel
theorem d_M_undo_45 : decode b_M_undo 45 = .ok (.putfield 52, 3) := by decide +kernel
theorem d_M_undo_48 : decode b_M_undo 48 = .ok (.aload_n 0, 1) := by decide +kernel
theorem d_M_undo_49 : decode b_M_undo 49 = .ok (.iconst 1, 1) := by decide +kernel
theorem d_M_undo_50 : decode b_M_undo 50 = .ok (.putfield 45, 3) := by decide +kernel
theorem d_M_undo_53 : decode b_M_undo 53 = .ok (.aload_n 0, 1) := by decide +kernel
theorem d_M_undo_54 : decode b_M_undo 54 = .ok (.getfield 49, 3) := by decide +kernel
theorem d_M_undo_57 : decode b_M_undo 57 = .ok (.ireturn, 1) := by decide +kernel
theorem d_M_told_0 : decode b_M_told 0 = .ok (.iload_n 1, 1) := by decide +kernel
theorem d_M_told_1 : decode b_M_told 1 = .ok (.iconst 0, 1) := by decide +kernel
theorem d_M_told_2 : decode b_M_told 2 = .ok (.aload_n 0, 1) := by decide +kernel
theorem d_M_told_3 : decode b_M_told 3 = .ok (.getfield 49, 3) := by decide +kernel
theorem d_M_told_6 : decode b_M_told 6 = .ok (.iconst 1, 1) := by decide +kernel
theorem d_M_told_7 : decode b_M_told 7 = .ok (.isub, 1) := by decide +kernel
theorem d_M_told_8 : decode b_M_told 8 = .ok (.invokestatic 55, 3) := by decide +kernel
theorem d_M_told_11 : decode b_M_told 11 = .ok (.ifCond .eq 13, 3) := by decide +kernel
theorem d_M_told_14 : decode b_M_told 14 = .ok (.iload_n 2, 1) := by decide +kernel
theorem d_M_told_15 : decode b_M_told 15 = .ok (.iconst 0, 1) := by decide +kernel
theorem d_M_told_16 : decode b_M_told 16 = .ok (.bipush 7, 2) := by decide +kernel
theorem d_M_told_18 : decode b_M_told 18 = .ok (.invokestatic 55, 3) := by decide +kernel
theorem d_M_told_21 : decode b_M_told 21 = .ok (.ifCond .ne 6, 3) := by decide +kernel
theorem d_M_told_24 : decode b_M_told 24 = .ok (.bipush (-2), 2) := by decide +kernel
theorem d_M_told_26 : decode b_M_told 26 = .ok (.ireturn, 1) := by decide +kernel
theorem d_M_told_27 : decode b_M_told 27 = .ok (.iload_n 2, 1) := by decide +kernel
theorem d_M_told_28 : decode b_M_told 28 = .ok (.tableswitch 49 0 2 #[28, 35, 42], 28) := by decide +kernel
theorem d_M_told_56 : decode b_M_told 56 = .ok (.aload_n 0, 1) := by decide +kernel
theorem d_M_told_57 : decode b_M_told 57 = .ok (.getfield 13, 3) := by decide +kernel
theorem d_M_told_60 : decode b_M_told 60 = .ok (.iload_n 1, 1) := by decide +kernel
theorem d_M_told_61 : decode b_M_told 61 = .ok (.iaload, 1) := by decide +kernel
theorem d_M_told_62 : decode b_M_told 62 = .ok (.ireturn, 1) := by decide +kernel
theorem d_M_told_63 : decode b_M_told 63 = .ok (.aload_n 0, 1) := by decide +kernel
theorem d_M_told_64 : decode b_M_told 64 = .ok (.getfield 17, 3) := by decide +kernel
theorem d_M_told_67 : decode b_M_told 67 = .ok (.iload_n 1, 1) := by decide +kernel
theorem d_M_told_68 : decode b_M_told 68 = .ok (.iaload, 1) := by decide +kernel
theorem d_M_told_69 : decode b_M_told 69 = .ok (.ireturn, 1) := by decide +kernel
theorem d_M_told_70 : decode b_M_told 70 = .ok (.aload_n 0, 1) := by decide +kernel
theorem d_M_told_71 : decode b_M_told 71 = .ok (.getfield 20, 3) := by decide +kernel
theorem d_M_told_74 : decode b_M_told 74 = .ok (.iload_n 1, 1) := by decide +kernel
theorem d_M_told_75 : decode b_M_told 75 = .ok (.iaload, 1) := by decide +kernel
theorem d_M_told_76 : decode b_M_told 76 = .ok (.ireturn, 1) := by decide +kernel
theorem d_M_told_77 : decode b_M_told 77 = .ok (.iload_n 2, 1) := by decide +kernel
theorem d_M_told_78 : decode b_M_told 78 = .ok (.iconst 3, 1) := by decide +kernel
theorem d_M_told_79 : decode b_M_told 79 = .ok (.isub, 1) := by decide +kernel
theorem d_M_told_80 : decode b_M_told 80 = .ok (.aload_n 0, 1) := by decide +kernel
theorem d_M_told_81 : decode b_M_told 81 = .ok (.getfield 17, 3) := by decide +kernel
theorem d_M_told_84 : decode b_M_told 84 = .ok (.iload_n 1, 1) := by decide +kernel
theorem d_M_told_85 : decode b_M_told 85 = .ok (.iaload, 1) := by decide +kernel
theorem d_M_told_86 : decode b_M_told 86 = .ok (.invokestatic 66, 3) := by decide +kernel
theorem d_M_told_89 : decode b_M_told 89 = .ok (.if_icmp .ge 18, 3) := by decide +kernel
theorem d_M_told_92 : decode b_M_told 92 = .ok (.aload_n 0, 1) := by decide +kernel
theorem d_M_told_93 : decode b_M_told 93 = .ok (.getfield 23, 3) := by decide +kernel
theorem d_M_told_96 : decode b_M_told 96 = .ok (.iconst 5, 1) := by decide +kernel
theorem d_M_told_97 : decode b_M_told 97 = .ok (.iload_n 1, 1) := by decide +kernel
theorem d_M_told_98 : decode b_M_told 98 = .ok (.imul, 1) := by decide +kernel
theorem d_M_told_99 : decode b_M_told 99 = .ok (.iload_n 2, 1) := by decide +kernel
theorem d_M_told_100 : decode b_M_told 100 = .ok (.iadd, 1) := by decide +kernel
theorem d_M_told_101 : decode b_M_told 101 = .ok (.iconst 3, 1) := by decide +kernel
theorem d_M_told_102 : decode b_M_told 102 = .ok (.isub, 1) := by decide +kernel
theorem d_M_told_103 : decode b_M_told 103 = .ok (.iaload, 1) := by decide +kernel
theorem d_M_told_104 : decode b_M_told 104 = .ok (.goto 4, 3) := by decide +kernel
theorem d_M_told_107 : decode b_M_told 107 = .ok (.iconst (-1), 1) := by decide +kernel
theorem d_M_told_108 : decode b_M_told 108 = .ok (.ireturn, 1) := by decide +kernel
theorem d_M_calledBy_0 : decode b_M_calledBy 0 = .ok (.iconst 0, 1) := by decide +kernel
theorem d_M_calledBy_1 : decode b_M_calledBy 1 = .ok (.istore_n 2, 1) := by decide +kernel
theorem d_M_calledBy_2 : decode b_M_calledBy 2 = .ok (.iconst 0, 1) := by decide +kernel
theorem d_M_calledBy_3 : decode b_M_calledBy 3 = .ok (.istore_n 3, 1) := by decide +kernel
theorem d_M_calledBy_4 : decode b_M_calledBy 4 = .ok (.iload_n 3, 1) := by decide +kernel
theorem d_M_calledBy_5 : decode b_M_calledBy 5 = .ok (.aload_n 0, 1) := by decide +kernel
theorem d_M_calledBy_6 : decode b_M_calledBy 6 = .ok (.getfield 49, 3) := by decide +kernel
theorem d_M_calledBy_9 : decode b_M_calledBy 9 = .ok (.if_icmp .ge 47, 3) := by decide +kernel
theorem d_M_calledBy_12 : decode b_M_calledBy 12 = .ok (.aload_n 0, 1) := by decide +kernel
theorem d_M_calledBy_13 : decode b_M_calledBy 13 = .ok (.getfield 17, 3) := by decide +kernel
theorem d_M_calledBy_16 : decode b_M_calledBy 16 = .ok (.iload_n 3, 1) := by decide +kernel
theorem d_M_calledBy_17 : decode b_M_calledBy 17 = .ok (.iaload, 1) := by decide +kernel
theorem d_M_calledBy_18 : decode b_M_calledBy 18 = .ok (.bipush 6, 2) := by decide +kernel
theorem d_M_calledBy_20 : decode b_M_calledBy 20 = .ok (.if_icmp .ne 28, 3) := by decide +kernel
theorem d_M_calledBy_23 : decode b_M_calledBy 23 = .ok (.aload_n 0, 1) := by decide +kernel
theorem d_M_calledBy_24 : decode b_M_calledBy 24 = .ok (.getfield 13, 3) := by decide +kernel
theorem d_M_calledBy_27 : decode b_M_calledBy 27 = .ok (.iload_n 3, 1) := by decide +kernel
theorem d_M_calledBy_28 : decode b_M_calledBy 28 = .ok (.iaload, 1) := by decide +kernel
theorem d_M_calledBy_29 : decode b_M_calledBy 29 = .ok (.iload_n 1, 1) := by decide +kernel
theorem d_M_calledBy_30 : decode b_M_calledBy 30 = .ok (.if_icmp .ne 18, 3) := by decide +kernel
theorem d_M_calledBy_33 : decode b_M_calledBy 33 = .ok (.iload_n 2, 1) := by decide +kernel
theorem d_M_calledBy_34 : decode b_M_calledBy 34 = .ok (.iconst 1, 1) := by decide +kernel
theorem d_M_calledBy_35 : decode b_M_calledBy 35 = .ok (.aload_n 0, 1) := by decide +kernel
theorem d_M_calledBy_36 : decode b_M_calledBy 36 = .ok (.getfield 23, 3) := by decide +kernel
theorem d_M_calledBy_39 : decode b_M_calledBy 39 = .ok (.iconst 5, 1) := by decide +kernel
theorem d_M_calledBy_40 : decode b_M_calledBy 40 = .ok (.iload_n 3, 1) := by decide +kernel
theorem d_M_calledBy_41 : decode b_M_calledBy 41 = .ok (.imul, 1) := by decide +kernel
theorem d_M_calledBy_42 : decode b_M_calledBy 42 = .ok (.iaload, 1) := by decide +kernel
theorem d_M_calledBy_43 : decode b_M_calledBy 43 = .ok (.ishl, 1) := by decide +kernel
theorem d_M_calledBy_44 : decode b_M_calledBy 44 = .ok (.ior, 1) := by decide +kernel
theorem d_M_calledBy_45 : decode b_M_calledBy 45 = .ok (.goto 4, 3) := by decide +kernel
theorem d_M_calledBy_48 : decode b_M_calledBy 48 = .ok (.iload_n 2, 1) := by decide +kernel
theorem d_M_calledBy_49 : decode b_M_calledBy 49 = .ok (.istore_n 2, 1) := by decide +kernel
theorem d_M_calledBy_50 : decode b_M_calledBy 50 = .ok (.iinc 3 1, 3) := by decide +kernel
theorem d_M_calledBy_53 : decode b_M_calledBy 53 = .ok (.goto (-49), 3) := by decide +kernel
theorem d_M_calledBy_56 : decode b_M_calledBy 56 = .ok (.iload_n 2, 1) := by decide +kernel
theorem d_M_calledBy_57 : decode b_M_calledBy 57 = .ok (.ireturn, 1) := by decide +kernel
theorem d_M_allCalled_0 : decode b_M_allCalled 0 = .ok (.iload_n 1, 1) := by decide +kernel
theorem d_M_allCalled_1 : decode b_M_allCalled 1 = .ok (.istore_n 2, 1) := by decide +kernel
theorem d_M_allCalled_2 : decode b_M_allCalled 2 = .ok (.iconst 0, 1) := by decide +kernel
theorem d_M_allCalled_3 : decode b_M_allCalled 3 = .ok (.istore_n 3, 1) := by decide +kernel
theorem d_M_allCalled_4 : decode b_M_allCalled 4 = .ok (.iload_n 2, 1) := by decide +kernel
theorem d_M_allCalled_5 : decode b_M_allCalled 5 = .ok (.iload_n 3, 1) := by decide +kernel
theorem d_M_allCalled_6 : decode b_M_allCalled 6 = .ok (.if_icmp .eq 48, 3) := by decide +kernel
theorem d_M_allCalled_9 : decode b_M_allCalled 9 = .ok (.iload_n 2, 1) := by decide +kernel
theorem d_M_allCalled_10 : decode b_M_allCalled 10 = .ok (.istore_n 3, 1) := by decide +kernel
theorem d_M_allCalled_11 : decode b_M_allCalled 11 = .ok (.iconst 0, 1) := by decide +kernel
theorem d_M_allCalled_12 : decode b_M_allCalled 12 = .ok (.istore 4, 2) := by decide +kernel
theorem d_M_allCalled_14 : decode b_M_allCalled 14 = .ok (.iload 4, 2) := by decide +kernel
theorem d_M_allCalled_16 : decode b_M_allCalled 16 = .ok (.aload_n 0, 1) := by decide +kernel
theorem d_M_allCalled_17 : decode b_M_allCalled 17 = .ok (.getfield 7, 3) := by decide +kernel
theorem d_M_allCalled_20 : decode b_M_allCalled 20 = .ok (.if_icmp .ge 31, 3) := by decide +kernel
theorem d_M_allCalled_23 : decode b_M_allCalled 23 = .ok (.iload_n 3, 1) := by decide +kernel
theorem d_M_allCalled_24 : decode b_M_allCalled 24 = .ok (.iload 4, 2) := by decide +kernel
theorem d_M_allCalled_26 : decode b_M_allCalled 26 = .ok (.invokestatic 80, 3) := by decide +kernel
theorem d_M_allCalled_29 : decode b_M_allCalled 29 = .ok (.ifCond .eq 14, 3) := by decide +kernel
theorem d_M_allCalled_32 : decode b_M_allCalled 32 = .ok (.iload_n 2, 1) := by decide +kernel
theorem d_M_allCalled_33 : decode b_M_allCalled 33 = .ok (.aload_n 0, 1) := by decide +kernel
theorem d_M_allCalled_34 : decode b_M_allCalled 34 = .ok (.iload 4, 2) := by decide +kernel
theorem d_M_allCalled_36 : decode b_M_allCalled 36 = .ok (.invokevirtual 84, 3) := by decide +kernel
theorem d_M_allCalled_39 : decode b_M_allCalled 39 = .ok (.ior, 1) := by decide +kernel
theorem d_M_allCalled_40 : decode b_M_allCalled 40 = .ok (.goto 4, 3) := by decide +kernel
theorem d_M_allCalled_43 : decode b_M_allCalled 43 = .ok (.iload_n 2, 1) := by decide +kernel
theorem d_M_allCalled_44 : decode b_M_allCalled 44 = .ok (.istore_n 2, 1) := by decide +kernel
theorem d_M_allCalled_45 : decode b_M_allCalled 45 = .ok (.iinc 4 1, 3) := by decide +kernel
theorem d_M_allCalled_48 : decode b_M_allCalled 48 = .ok (.goto (-34), 3) := by decide +kernel
theorem d_M_allCalled_51 : decode b_M_allCalled 51 = .ok (.goto (-47), 3) := by decide +kernel
theorem d_M_allCalled_54 : decode b_M_allCalled 54 = .ok (.iload_n 2, 1) := by decide +kernel
theorem d_M_allCalled_55 : decode b_M_allCalled 55 = .ok (.ireturn, 1) := by decide +kernel
theorem d_M_callers_0 : decode b_M_callers 0 = .ok (.iconst 0, 1) := by decide +kernel
theorem d_M_callers_1 : decode b_M_callers 1 = .ok (.istore_n 2, 1) := by decide +kernel
theorem d_M_callers_2 : decode b_M_callers 2 = .ok (.iconst 0, 1) := by decide +kernel
theorem d_M_callers_3 : decode b_M_callers 3 = .ok (.istore_n 3, 1) := by decide +kernel
theorem d_M_callers_4 : decode b_M_callers 4 = .ok (.iload_n 3, 1) := by decide +kernel
theorem d_M_callers_5 : decode b_M_callers 5 = .ok (.aload_n 0, 1) := by decide +kernel
theorem d_M_callers_6 : decode b_M_callers 6 = .ok (.getfield 49, 3) := by decide +kernel
theorem d_M_callers_9 : decode b_M_callers 9 = .ok (.if_icmp .ge 47, 3) := by decide +kernel
theorem d_M_callers_12 : decode b_M_callers 12 = .ok (.aload_n 0, 1) := by decide +kernel
theorem d_M_callers_13 : decode b_M_callers 13 = .ok (.getfield 17, 3) := by decide +kernel
theorem d_M_callers_16 : decode b_M_callers 16 = .ok (.iload_n 3, 1) := by decide +kernel
theorem d_M_callers_17 : decode b_M_callers 17 = .ok (.iaload, 1) := by decide +kernel
theorem d_M_callers_18 : decode b_M_callers 18 = .ok (.bipush 6, 2) := by decide +kernel
theorem d_M_callers_20 : decode b_M_callers 20 = .ok (.if_icmp .ne 28, 3) := by decide +kernel
theorem d_M_callers_23 : decode b_M_callers 23 = .ok (.aload_n 0, 1) := by decide +kernel
theorem d_M_callers_24 : decode b_M_callers 24 = .ok (.getfield 23, 3) := by decide +kernel
theorem d_M_callers_27 : decode b_M_callers 27 = .ok (.iconst 5, 1) := by decide +kernel
theorem d_M_callers_28 : decode b_M_callers 28 = .ok (.iload_n 3, 1) := by decide +kernel
theorem d_M_callers_29 : decode b_M_callers 29 = .ok (.imul, 1) := by decide +kernel
theorem d_M_callers_30 : decode b_M_callers 30 = .ok (.iaload, 1) := by decide +kernel
theorem d_M_callers_31 : decode b_M_callers 31 = .ok (.iload_n 1, 1) := by decide +kernel
theorem d_M_callers_32 : decode b_M_callers 32 = .ok (.if_icmp .ne 16, 3) := by decide +kernel
theorem d_M_callers_35 : decode b_M_callers 35 = .ok (.iload_n 2, 1) := by decide +kernel
theorem d_M_callers_36 : decode b_M_callers 36 = .ok (.iconst 1, 1) := by decide +kernel
theorem d_M_callers_37 : decode b_M_callers 37 = .ok (.aload_n 0, 1) := by decide +kernel
theorem d_M_callers_38 : decode b_M_callers 38 = .ok (.getfield 13, 3) := by decide +kernel
theorem d_M_callers_41 : decode b_M_callers 41 = .ok (.iload_n 3, 1) := by decide +kernel
theorem d_M_callers_42 : decode b_M_callers 42 = .ok (.iaload, 1) := by decide +kernel
theorem d_M_callers_43 : decode b_M_callers 43 = .ok (.ishl, 1) := by decide +kernel
theorem d_M_callers_44 : decode b_M_callers 44 = .ok (.ior, 1) := by decide +kernel
theorem d_M_callers_45 : decode b_M_callers 45 = .ok (.goto 4, 3) := by decide +kernel
theorem d_M_callers_48 : decode b_M_callers 48 = .ok (.iload_n 2, 1) := by decide +kernel
theorem d_M_callers_49 : decode b_M_callers 49 = .ok (.istore_n 2, 1) := by decide +kernel
theorem d_M_callers_50 : decode b_M_callers 50 = .ok (.iinc 3 1, 3) := by decide +kernel
theorem d_M_callers_53 : decode b_M_callers 53 = .ok (.goto (-49), 3) := by decide +kernel
theorem d_M_callers_56 : decode b_M_callers 56 = .ok (.iload_n 2, 1) := by decide +kernel
theorem d_M_callers_57 : decode b_M_callers 57 = .ok (.ireturn, 1) := by decide +kernel
theorem d_M_calls_0 : decode b_M_calls 0 = .ok (.aload_n 0, 1) := by decide +kernel
theorem d_M_calls_1 : decode b_M_calls 1 = .ok (.iload_n 1, 1) := by decide +kernel
theorem d_M_calls_2 : decode b_M_calls 2 = .ok (.invokevirtual 63, 3) := by decide +kernel
theorem d_M_calls_5 : decode b_M_calls 5 = .ok (.ifCond .eq 12, 3) := by decide +kernel
theorem d_M_calls_8 : decode b_M_calls 8 = .ok (.iload_n 2, 1) := by decide +kernel
theorem d_M_calls_9 : decode b_M_calls 9 = .ok (.iconst 0, 1) := by decide +kernel
theorem d_M_calls_10 : decode b_M_calls 10 = .ok (.iconst 2, 1) := by decide +kernel
theorem d_M_calls_11 : decode b_M_calls 11 = .ok (.invokestatic 55, 3) := by decide +kernel
theorem d_M_calls_14 : decode b_M_calls 14 = .ok (.ifCond .ne 6, 3) := by decide +kernel
theorem d_M_calls_17 : decode b_M_calls 17 = .ok (.bipush (-2), 2) := by decide +kernel
theorem d_M_calls_19 : decode b_M_calls 19 = .ok (.ireturn, 1) := by decide +kernel
theorem d_M_calls_20 : decode b_M_calls 20 = .ok (.aload_n 0, 1) := by decide +kernel
theorem d_M_calls_21 : decode b_M_calls 21 = .ok (.invokevirtual 87, 3) := by decide +kernel
theorem d_M_calls_24 : decode b_M_calls 24 = .ok (.aload_n 0, 1) := by decide +kernel
theorem d_M_calls_25 : decode b_M_calls 25 = .ok (.getfield 90, 3) := by decide +kernel
theorem d_M_calls_28 : decode b_M_calls 28 = .ok (.iload_n 1, 1) := by decide +kernel
theorem d_M_calls_29 : decode b_M_calls 29 = .ok (.invokestatic 80, 3) := by decide +kernel
theorem d_M_calls_32 : decode b_M_calls 32 = .ok (.ifCond .ne 5, 3) := by decide +kernel
theorem d_M_calls_35 : decode b_M_calls 35 = .ok (.iconst 0, 1) := by decide +kernel
theorem d_M_calls_36 : decode b_M_calls 36 = .ok (.ireturn, 1) := by decide +kernel
theorem d_M_calls_37 : decode b_M_calls 37 = .ok (.iload_n 2, 1) := by decide +kernel
theorem d_M_calls_38 : decode b_M_calls 38 = .ok (.ifCond .ne 11, 3) := by decide +kernel
theorem d_M_calls_41 : decode b_M_calls 41 = .ok (.aload_n 0, 1) := by decide +kernel
theorem d_M_calls_42 : decode b_M_calls 42 = .ok (.iload_n 1, 1) := by decide +kernel
theorem d_M_calls_43 : decode b_M_calls 43 = .ok (.invokevirtual 84, 3) := by decide +kernel
theorem d_M_calls_46 : decode b_M_calls 46 = .ok (.goto 30, 3) := by decide +kernel
theorem d_M_calls_49 : decode b_M_calls 49 = .ok (.iload_n 2, 1) := by decide +kernel
theorem d_M_calls_50 : decode b_M_calls 50 = .ok (.iconst 1, 1) := by decide +kernel
theorem d_M_calls_51 : decode b_M_calls 51 = .ok (.if_icmp .ne 15, 3) := by decide +kernel
theorem d_M_calls_54 : decode b_M_calls 54 = .ok (.aload_n 0, 1) := by decide +kernel
theorem d_M_calls_55 : decode b_M_calls 55 = .ok (.aload_n 0, 1) := by decide +kernel
theorem d_M_calls_56 : decode b_M_calls 56 = .ok (.iload_n 1, 1) := by decide +kernel
theorem d_M_calls_57 : decode b_M_calls 57 = .ok (.invokevirtual 84, 3) := by decide +kernel
theorem d_M_calls_60 : decode b_M_calls 60 = .ok (.invokevirtual 93, 3) := by decide +kernel
theorem d_M_calls_63 : decode b_M_calls 63 = .ok (.goto 13, 3) := by decide +kernel
theorem d_M_calls_66 : decode b_M_calls 66 = .ok (.aload_n 0, 1) := by decide +kernel
theorem d_M_calls_67 : decode b_M_calls 67 = .ok (.iload_n 1, 1) := by decide +kernel
theorem d_M_calls_68 : decode b_M_calls 68 = .ok (.invokevirtual 96, 3) := by decide +kernel
theorem d_M_calls_71 : decode b_M_calls 71 = .ok (.aload_n 0, 1) := by decide +kernel
theorem d_M_calls_72 : decode b_M_calls 72 = .ok (.getfield 90, 3) := by decide +kernel
theorem d_M_calls_75 : decode b_M_calls 75 = .ok (.iand, 1) := by decide +kernel
theorem d_M_calls_76 : decode b_M_calls 76 = .ok (.ireturn, 1) := by decide +kernel
theorem d_M_toName_0 : decode b_M_toName 0 = .ok (.aload_n 0, 1) := by decide +kernel
theorem d_M_toName_1 : decode b_M_toName 1 = .ok (.getfield 29, 3) := by decide +kernel
theorem d_M_toName_4 : decode b_M_toName 4 = .ok (.bipush 8, 2) := by decide +kernel
theorem d_M_toName_6 : decode b_M_toName 6 = .ok (.iload_n 1, 1) := by decide +kernel
theorem d_M_toName_7 : decode b_M_toName 7 = .ok (.imul, 1) := by decide +kernel
theorem d_M_toName_8 : decode b_M_toName 8 = .ok (.iload_n 2, 1) := by decide +kernel
theorem d_M_toName_9 : decode b_M_toName 9 = .ok (.iadd, 1) := by decide +kernel
theorem d_M_toName_10 : decode b_M_toName 10 = .ok (.iaload, 1) := by decide +kernel
theorem d_M_toName_11 : decode b_M_toName 11 = .ok (.iload_n 3, 1) := by decide +kernel
theorem d_M_toName_12 : decode b_M_toName 12 = .ok (.ior, 1) := by decide +kernel
theorem d_M_toName_13 : decode b_M_toName 13 = .ok (.istore 4, 2) := by decide +kernel
theorem d_M_toName_15 : decode b_M_toName 15 = .ok (.aload_n 0, 1) := by decide +kernel
theorem d_M_toName_16 : decode b_M_toName 16 = .ok (.aload_n 0, 1) := by decide +kernel
theorem d_M_toName_17 : decode b_M_toName 17 = .ok (.getfield 99, 3) := by decide +kernel
theorem d_M_toName_20 : decode b_M_toName 20 = .ok (.ifCond .ne 19, 3) := by decide +kernel
theorem d_M_toName_23 : decode b_M_toName 23 = .ok (.iload 4, 2) := by decide +kernel
theorem d_M_toName_25 : decode b_M_toName 25 = .ok (.aload_n 0, 1) := by decide +kernel
theorem d_M_toName_26 : decode b_M_toName 26 = .ok (.getfield 29, 3) := by decide +kernel
theorem d_M_toName_29 : decode b_M_toName 29 = .ok (.bipush 8, 2) := by decide +kernel
theorem d_M_toName_31 : decode b_M_toName 31 = .ok (.iload_n 1, 1) := by decide +kernel
theorem d_M_toName_32 : decode b_M_toName 32 = .ok (.imul, 1) := by decide +kernel
theorem d_M_toName_33 : decode b_M_toName 33 = .ok (.iload_n 2, 1) := by decide +kernel
theorem d_M_toName_34 : decode b_M_toName 34 = .ok (.iadd, 1) := by decide +kernel
theorem d_M_toName_35 : decode b_M_toName 35 = .ok (.iaload, 1) := by decide +kernel
theorem d_M_toName_36 : decode b_M_toName 36 = .ok (.if_icmp .eq 7, 3) := by decide +kernel
theorem d_M_toName_39 : decode b_M_toName 39 = .ok (.iconst 1, 1) := by decide +kernel
theorem d_M_toName_40 : decode b_M_toName 40 = .ok (.goto 4, 3) := by decide +kernel
theorem d_M_toName_43 : decode b_M_toName 43 = .ok (.iconst 0, 1) := by decide +kernel
theorem d_M_toName_44 : decode b_M_toName 44 = .ok (.putfield 99, 3) := by decide +kernel
theorem d_M_toName_47 : decode b_M_toName 47 = .ok (.aload_n 0, 1) := by decide +kernel
theorem d_M_toName_48 : decode b_M_toName 48 = .ok (.getfield 29, 3) := by decide +kernel
theorem d_M_toName_51 : decode b_M_toName 51 = .ok (.bipush 8, 2) := by decide +kernel
theorem d_M_toName_53 : decode b_M_toName 53 = .ok (.iload_n 1, 1) := by decide +kernel
theorem d_M_toName_54 : decode b_M_toName 54 = .ok (.imul, 1) := by decide +kernel
theorem d_M_toName_55 : decode b_M_toName 55 = .ok (.iload_n 2, 1) := by decide +kernel
theorem d_M_toName_56 : decode b_M_toName 56 = .ok (.iadd, 1) := by decide +kernel
theorem d_M_toName_57 : decode b_M_toName 57 = .ok (.iload 4, 2) := by decide +kernel
theorem d_M_toName_59 : decode b_M_toName 59 = .ok (.iastore, 1) := by decide +kernel
theorem d_M_toName_60 : decode b_M_toName 60 = .ok (.return_, 1) := by decide +kernel
theorem d_M_name_0 : decode b_M_name 0 = .ok (.aload_n 0, 1) := by decide +kernel
theorem d_M_name_1 : decode b_M_name 1 = .ok (.getfield 29, 3) := by decide +kernel
theorem d_M_name_4 : decode b_M_name 4 = .ok (.bipush 8, 2) := by decide +kernel
theorem d_M_name_6 : decode b_M_name 6 = .ok (.iload_n 1, 1) := by decide +kernel
theorem d_M_name_7 : decode b_M_name 7 = .ok (.imul, 1) := by decide +kernel
theorem d_M_name_8 : decode b_M_name 8 = .ok (.iload_n 2, 1) := by decide +kernel
theorem d_M_name_9 : decode b_M_name 9 = .ok (.iadd, 1) := by decide +kernel
theorem d_M_name_10 : decode b_M_name 10 = .ok (.iaload, 1) := by decide +kernel
theorem d_M_name_11 : decode b_M_name 11 = .ok (.ireturn, 1) := by decide +kernel
theorem d_M_toField_0 : decode b_M_toField 0 = .ok (.iconst 0, 1) := by decide +kernel
theorem d_M_toField_1 : decode b_M_toField 1 = .ok (.istore 4, 2) := by decide +kernel
theorem d_M_toField_3 : decode b_M_toField 3 = .ok (.iload 4, 2) := by decide +kernel
theorem d_M_toField_5 : decode b_M_toField 5 = .ok (.aload_n 0, 1) := by decide +kernel
theorem d_M_toField_6 : decode b_M_toField 6 = .ok (.getfield 52, 3) := by decide +kernel
theorem d_M_toField_9 : decode b_M_toField 9 = .ok (.if_icmp .ge 92, 3) := by decide +kernel
theorem d_M_toField_12 : decode b_M_toField 12 = .ok (.iload_n 1, 1) := by decide +kernel
theorem d_M_toField_13 : decode b_M_toField 13 = .ok (.iload 4, 2) := by decide +kernel
theorem d_M_toField_15 : decode b_M_toField 15 = .ok (.invokestatic 80, 3) := by decide +kernel
theorem d_M_toField_18 : decode b_M_toField 18 = .ok (.ifCond .eq 19, 3) := by decide +kernel
theorem d_M_toField_21 : decode b_M_toField 21 = .ok (.aload_n 0, 1) := by decide +kernel
theorem d_M_toField_22 : decode b_M_toField 22 = .ok (.getfield 32, 3) := by decide +kernel
theorem d_M_toField_25 : decode b_M_toField 25 = .ok (.iconst 4, 1) := by decide +kernel
theorem d_M_toField_26 : decode b_M_toField 26 = .ok (.iload 4, 2) := by decide +kernel
theorem d_M_toField_28 : decode b_M_toField 28 = .ok (.imul, 1) := by decide +kernel
theorem d_M_toField_29 : decode b_M_toField 29 = .ok (.iload_n 2, 1) := by decide +kernel
theorem d_M_toField_30 : decode b_M_toField 30 = .ok (.iadd, 1) := by decide +kernel
theorem d_M_toField_31 : decode b_M_toField 31 = .ok (.iaload, 1) := by decide +kernel
theorem d_M_toField_32 : decode b_M_toField 32 = .ok (.iload_n 3, 1) := by decide +kernel
theorem d_M_toField_33 : decode b_M_toField 33 = .ok (.ior, 1) := by decide +kernel
theorem d_M_toField_34 : decode b_M_toField 34 = .ok (.goto 14, 3) := by decide +kernel
theorem d_M_toField_37 : decode b_M_toField 37 = .ok (.aload_n 0, 1) := by decide +kernel
theorem d_M_toField_38 : decode b_M_toField 38 = .ok (.getfield 32, 3) := by decide +kernel
theorem d_M_toField_41 : decode b_M_toField 41 = .ok (.iconst 4, 1) := by decide +kernel
theorem d_M_toField_42 : decode b_M_toField 42 = .ok (.iload 4, 2) := by decide +kernel
theorem d_M_toField_44 : decode b_M_toField 44 = .ok (.imul, 1) := by decide +kernel
theorem d_M_toField_45 : decode b_M_toField 45 = .ok (.iload_n 2, 1) := by decide +kernel
theorem d_M_toField_46 : decode b_M_toField 46 = .ok (.iadd, 1) := by decide +kernel
theorem d_M_toField_47 : decode b_M_toField 47 = .ok (.iaload, 1) := by decide +kernel
theorem d_M_toField_48 : decode b_M_toField 48 = .ok (.istore 5, 2) := by decide +kernel
theorem d_M_toField_50 : decode b_M_toField 50 = .ok (.aload_n 0, 1) := by decide +kernel
theorem d_M_toField_51 : decode b_M_toField 51 = .ok (.aload_n 0, 1) := by decide +kernel
theorem d_M_toField_52 : decode b_M_toField 52 = .ok (.getfield 99, 3) := by decide +kernel
theorem d_M_toField_55 : decode b_M_toField 55 = .ok (.ifCond .ne 19, 3) := by decide +kernel
theorem d_M_toField_58 : decode b_M_toField 58 = .ok (.iload 5, 2) := by decide +kernel
theorem d_M_toField_60 : decode b_M_toField 60 = .ok (.aload_n 0, 1) := by decide +kernel
theorem d_M_toField_61 : decode b_M_toField 61 = .ok (.getfield 32, 3) := by decide +kernel
theorem d_M_toField_64 : decode b_M_toField 64 = .ok (.iconst 4, 1) := by decide +kernel
theorem d_M_toField_65 : decode b_M_toField 65 = .ok (.iload 4, 2) := by decide +kernel
theorem d_M_toField_67 : decode b_M_toField 67 = .ok (.imul, 1) := by decide +kernel
theorem d_M_toField_68 : decode b_M_toField 68 = .ok (.iload_n 2, 1) := by decide +kernel
theorem d_M_toField_69 : decode b_M_toField 69 = .ok (.iadd, 1) := by decide +kernel
theorem d_M_toField_70 : decode b_M_toField 70 = .ok (.iaload, 1) := by decide +kernel
theorem d_M_toField_71 : decode b_M_toField 71 = .ok (.if_icmp .eq 7, 3) := by decide +kernel
theorem d_M_toField_74 : decode b_M_toField 74 = .ok (.iconst 1, 1) := by decide +kernel
theorem d_M_toField_75 : decode b_M_toField 75 = .ok (.goto 4, 3) := by decide +kernel
theorem d_M_toField_78 : decode b_M_toField 78 = .ok (.iconst 0, 1) := by decide +kernel
theorem d_M_toField_79 : decode b_M_toField 79 = .ok (.putfield 99, 3) := by decide +kernel
theorem d_M_toField_82 : decode b_M_toField 82 = .ok (.aload_n 0, 1) := by decide +kernel
theorem d_M_toField_83 : decode b_M_toField 83 = .ok (.getfield 32, 3) := by decide +kernel
theorem d_M_toField_86 : decode b_M_toField 86 = .ok (.iconst 4, 1) := by decide +kernel
theorem d_M_toField_87 : decode b_M_toField 87 = .ok (.iload 4, 2) := by decide +kernel
theorem d_M_toField_89 : decode b_M_toField 89 = .ok (.imul, 1) := by decide +kernel
theorem d_M_toField_90 : decode b_M_toField 90 = .ok (.iload_n 2, 1) := by decide +kernel
theorem d_M_toField_91 : decode b_M_toField 91 = .ok (.iadd, 1) := by decide +kernel
theorem d_M_toField_92 : decode b_M_toField 92 = .ok (.iload 5, 2) := by decide +kernel
theorem d_M_toField_94 : decode b_M_toField 94 = .ok (.iastore, 1) := by decide +kernel
theorem d_M_toField_95 : decode b_M_toField 95 = .ok (.iinc 4 1, 3) := by decide +kernel
theorem d_M_toField_98 : decode b_M_toField 98 = .ok (.goto (-95), 3) := by decide +kernel
theorem d_M_toField_101 : decode b_M_toField 101 = .ok (.return_, 1) := by decide +kernel
theorem d_M_fromField_0 : decode b_M_fromField 0 = .ok (.iconst 0, 1) := by decide +kernel
theorem d_M_fromField_1 : decode b_M_fromField 1 = .ok (.istore_n 3, 1) := by decide +kernel
theorem d_M_fromField_2 : decode b_M_fromField 2 = .ok (.iconst 0, 1) := by decide +kernel
theorem d_M_fromField_3 : decode b_M_fromField 3 = .ok (.istore 4, 2) := by decide +kernel
theorem d_M_fromField_5 : decode b_M_fromField 5 = .ok (.iload 4, 2) := by decide +kernel
theorem d_M_fromField_7 : decode b_M_fromField 7 = .ok (.aload_n 0, 1) := by decide +kernel
theorem d_M_fromField_8 : decode b_M_fromField 8 = .ok (.getfield 52, 3) := by decide +kernel
theorem d_M_fromField_11 : decode b_M_fromField 11 = .ok (.if_icmp .ge 36, 3) := by decide +kernel
theorem d_M_fromField_14 : decode b_M_fromField 14 = .ok (.iload_n 1, 1) := by decide +kernel
theorem d_M_fromField_15 : decode b_M_fromField 15 = .ok (.iload 4, 2) := by decide +kernel
theorem d_M_fromField_17 : decode b_M_fromField 17 = .ok (.invokestatic 80, 3) := by decide +kernel
theorem d_M_fromField_20 : decode b_M_fromField 20 = .ok (.ifCond .eq 19, 3) := by decide +kernel
theorem d_M_fromField_23 : decode b_M_fromField 23 = .ok (.iload_n 3, 1) := by decide +kernel
theorem d_M_fromField_24 : decode b_M_fromField 24 = .ok (.aload_n 0, 1) := by decide +kernel
theorem d_M_fromField_25 : decode b_M_fromField 25 = .ok (.getfield 32, 3) := by decide +kernel
theorem d_M_fromField_28 : decode b_M_fromField 28 = .ok (.iconst 4, 1) := by decide +kernel
theorem d_M_fromField_29 : decode b_M_fromField 29 = .ok (.iload 4, 2) := by decide +kernel
theorem d_M_fromField_31 : decode b_M_fromField 31 = .ok (.imul, 1) := by decide +kernel
theorem d_M_fromField_32 : decode b_M_fromField 32 = .ok (.iload_n 2, 1) := by decide +kernel
theorem d_M_fromField_33 : decode b_M_fromField 33 = .ok (.iadd, 1) := by decide +kernel
theorem d_M_fromField_34 : decode b_M_fromField 34 = .ok (.iaload, 1) := by decide +kernel
theorem d_M_fromField_35 : decode b_M_fromField 35 = .ok (.ior, 1) := by decide +kernel
theorem d_M_fromField_36 : decode b_M_fromField 36 = .ok (.goto 4, 3) := by decide +kernel
theorem d_M_fromField_39 : decode b_M_fromField 39 = .ok (.iload_n 3, 1) := by decide +kernel
theorem d_M_fromField_40 : decode b_M_fromField 40 = .ok (.istore_n 3, 1) := by decide +kernel
theorem d_M_fromField_41 : decode b_M_fromField 41 = .ok (.iinc 4 1, 3) := by decide +kernel
theorem d_M_fromField_44 : decode b_M_fromField 44 = .ok (.goto (-39), 3) := by decide +kernel
theorem d_M_fromField_47 : decode b_M_fromField 47 = .ok (.iload_n 3, 1) := by decide +kernel
theorem d_M_fromField_48 : decode b_M_fromField 48 = .ok (.ireturn, 1) := by decide +kernel
theorem d_M_toPlace_0 : decode b_M_toPlace 0 = .ok (.aload_n 0, 1) := by decide +kernel
theorem d_M_toPlace_1 : decode b_M_toPlace 1 = .ok (.getfield 35, 3) := by decide +kernel
theorem d_M_toPlace_4 : decode b_M_toPlace 4 = .ok (.iload_n 1, 1) := by decide +kernel
theorem d_M_toPlace_5 : decode b_M_toPlace 5 = .ok (.iaload, 1) := by decide +kernel
theorem d_M_toPlace_6 : decode b_M_toPlace 6 = .ok (.iload_n 2, 1) := by decide +kernel
theorem d_M_toPlace_7 : decode b_M_toPlace 7 = .ok (.ior, 1) := by decide +kernel
theorem d_M_toPlace_8 : decode b_M_toPlace 8 = .ok (.istore_n 3, 1) := by decide +kernel
theorem d_M_toPlace_9 : decode b_M_toPlace 9 = .ok (.aload_n 0, 1) := by decide +kernel
theorem d_M_toPlace_10 : decode b_M_toPlace 10 = .ok (.aload_n 0, 1) := by decide +kernel
theorem d_M_toPlace_11 : decode b_M_toPlace 11 = .ok (.getfield 99, 3) := by decide +kernel
theorem d_M_toPlace_14 : decode b_M_toPlace 14 = .ok (.ifCond .ne 13, 3) := by decide +kernel
theorem d_M_toPlace_17 : decode b_M_toPlace 17 = .ok (.iload_n 3, 1) := by decide +kernel
theorem d_M_toPlace_18 : decode b_M_toPlace 18 = .ok (.aload_n 0, 1) := by decide +kernel
theorem d_M_toPlace_19 : decode b_M_toPlace 19 = .ok (.getfield 35, 3) := by decide +kernel
theorem d_M_toPlace_22 : decode b_M_toPlace 22 = .ok (.iload_n 1, 1) := by decide +kernel
theorem d_M_toPlace_23 : decode b_M_toPlace 23 = .ok (.iaload, 1) := by decide +kernel
theorem d_M_toPlace_24 : decode b_M_toPlace 24 = .ok (.if_icmp .eq 7, 3) := by decide +kernel
theorem d_M_toPlace_27 : decode b_M_toPlace 27 = .ok (.iconst 1, 1) := by decide +kernel
theorem d_M_toPlace_28 : decode b_M_toPlace 28 = .ok (.goto 4, 3) := by decide +kernel
theorem d_M_toPlace_31 : decode b_M_toPlace 31 = .ok (.iconst 0, 1) := by decide +kernel
theorem d_M_toPlace_32 : decode b_M_toPlace 32 = .ok (.putfield 99, 3) := by decide +kernel
theorem d_M_toPlace_35 : decode b_M_toPlace 35 = .ok (.aload_n 0, 1) := by decide +kernel
theorem d_M_toPlace_36 : decode b_M_toPlace 36 = .ok (.getfield 35, 3) := by decide +kernel
theorem d_M_toPlace_39 : decode b_M_toPlace 39 = .ok (.iload_n 1, 1) := by decide +kernel
theorem d_M_toPlace_40 : decode b_M_toPlace 40 = .ok (.iload_n 3, 1) := by decide +kernel
theorem d_M_toPlace_41 : decode b_M_toPlace 41 = .ok (.iastore, 1) := by decide +kernel
theorem d_M_toPlace_42 : decode b_M_toPlace 42 = .ok (.return_, 1) := by decide +kernel
theorem d_M_toResult_0 : decode b_M_toResult 0 = .ok (.aload_n 0, 1) := by decide +kernel
theorem d_M_toResult_1 : decode b_M_toResult 1 = .ok (.getfield 38, 3) := by decide +kernel
theorem d_M_toResult_4 : decode b_M_toResult 4 = .ok (.iload_n 1, 1) := by decide +kernel
theorem d_M_toResult_5 : decode b_M_toResult 5 = .ok (.iaload, 1) := by decide +kernel
theorem d_M_toResult_6 : decode b_M_toResult 6 = .ok (.iload_n 2, 1) := by decide +kernel
theorem d_M_toResult_7 : decode b_M_toResult 7 = .ok (.ior, 1) := by decide +kernel
theorem d_M_toResult_8 : decode b_M_toResult 8 = .ok (.istore_n 3, 1) := by decide +kernel
theorem d_M_toResult_9 : decode b_M_toResult 9 = .ok (.aload_n 0, 1) := by decide +kernel
theorem d_M_toResult_10 : decode b_M_toResult 10 = .ok (.aload_n 0, 1) := by decide +kernel
theorem d_M_toResult_11 : decode b_M_toResult 11 = .ok (.getfield 99, 3) := by decide +kernel
theorem d_M_toResult_14 : decode b_M_toResult 14 = .ok (.ifCond .ne 13, 3) := by decide +kernel
theorem d_M_toResult_17 : decode b_M_toResult 17 = .ok (.iload_n 3, 1) := by decide +kernel
theorem d_M_toResult_18 : decode b_M_toResult 18 = .ok (.aload_n 0, 1) := by decide +kernel
theorem d_M_toResult_19 : decode b_M_toResult 19 = .ok (.getfield 38, 3) := by decide +kernel
theorem d_M_toResult_22 : decode b_M_toResult 22 = .ok (.iload_n 1, 1) := by decide +kernel
theorem d_M_toResult_23 : decode b_M_toResult 23 = .ok (.iaload, 1) := by decide +kernel
theorem d_M_toResult_24 : decode b_M_toResult 24 = .ok (.if_icmp .eq 7, 3) := by decide +kernel
theorem d_M_toResult_27 : decode b_M_toResult 27 = .ok (.iconst 1, 1) := by decide +kernel
theorem d_M_toResult_28 : decode b_M_toResult 28 = .ok (.goto 4, 3) := by decide +kernel
theorem d_M_toResult_31 : decode b_M_toResult 31 = .ok (.iconst 0, 1) := by decide +kernel
theorem d_M_toResult_32 : decode b_M_toResult 32 = .ok (.putfield 99, 3) := by decide +kernel
theorem d_M_toResult_35 : decode b_M_toResult 35 = .ok (.aload_n 0, 1) := by decide +kernel
theorem d_M_toResult_36 : decode b_M_toResult 36 = .ok (.getfield 38, 3) := by decide +kernel
theorem d_M_toResult_39 : decode b_M_toResult 39 = .ok (.iload_n 1, 1) := by decide +kernel
theorem d_M_toResult_40 : decode b_M_toResult 40 = .ok (.iload_n 3, 1) := by decide +kernel
theorem d_M_toResult_41 : decode b_M_toResult 41 = .ok (.iastore, 1) := by decide +kernel
theorem d_M_toResult_42 : decode b_M_toResult 42 = .ok (.return_, 1) := by decide +kernel
theorem d_M_doStep_0 : decode b_M_doStep 0 = .ok (.aload_n 0, 1) := by decide +kernel
theorem d_M_doStep_1 : decode b_M_doStep 1 = .ok (.getfield 13, 3) := by decide +kernel
theorem d_M_doStep_4 : decode b_M_doStep 4 = .ok (.iload_n 1, 1) := by decide +kernel
theorem d_M_doStep_5 : decode b_M_doStep 5 = .ok (.iaload, 1) := by decide +kernel
theorem d_M_doStep_6 : decode b_M_doStep 6 = .ok (.istore_n 2, 1) := by decide +kernel
theorem d_M_doStep_7 : decode b_M_doStep 7 = .ok (.aload_n 0, 1) := by decide +kernel
theorem d_M_doStep_8 : decode b_M_doStep 8 = .ok (.getfield 23, 3) := by decide +kernel
theorem d_M_doStep_11 : decode b_M_doStep 11 = .ok (.iconst 5, 1) := by decide +kernel
theorem d_M_doStep_12 : decode b_M_doStep 12 = .ok (.iload_n 1, 1) := by decide +kernel
theorem d_M_doStep_13 : decode b_M_doStep 13 = .ok (.imul, 1) := by decide +kernel
theorem d_M_doStep_14 : decode b_M_doStep 14 = .ok (.iaload, 1) := by decide +kernel
theorem d_M_doStep_15 : decode b_M_doStep 15 = .ok (.istore_n 3, 1) := by decide +kernel
theorem d_M_doStep_16 : decode b_M_doStep 16 = .ok (.aload_n 0, 1) := by decide +kernel
theorem d_M_doStep_17 : decode b_M_doStep 17 = .ok (.getfield 23, 3) := by decide +kernel
theorem d_M_doStep_20 : decode b_M_doStep 20 = .ok (.iconst 5, 1) := by decide +kernel
theorem d_M_doStep_21 : decode b_M_doStep 21 = .ok (.iload_n 1, 1) := by decide +kernel
theorem d_M_doStep_22 : decode b_M_doStep 22 = .ok (.imul, 1) := by decide +kernel
theorem d_M_doStep_23 : decode b_M_doStep 23 = .ok (.iconst 1, 1) := by decide +kernel
theorem d_M_doStep_24 : decode b_M_doStep 24 = .ok (.iadd, 1) := by decide +kernel
theorem d_M_doStep_25 : decode b_M_doStep 25 = .ok (.iaload, 1) := by decide +kernel
theorem d_M_doStep_26 : decode b_M_doStep 26 = .ok (.istore 4, 2) := by decide +kernel
theorem d_M_doStep_28 : decode b_M_doStep 28 = .ok (.aload_n 0, 1) := by decide +kernel
theorem d_M_doStep_29 : decode b_M_doStep 29 = .ok (.getfield 23, 3) := by decide +kernel
theorem d_M_doStep_32 : decode b_M_doStep 32 = .ok (.iconst 5, 1) := by decide +kernel
theorem d_M_doStep_33 : decode b_M_doStep 33 = .ok (.iload_n 1, 1) := by decide +kernel
theorem d_M_doStep_34 : decode b_M_doStep 34 = .ok (.imul, 1) := by decide +kernel
theorem d_M_doStep_35 : decode b_M_doStep 35 = .ok (.iconst 2, 1) := by decide +kernel
theorem d_M_doStep_36 : decode b_M_doStep 36 = .ok (.iadd, 1) := by decide +kernel
theorem d_M_doStep_37 : decode b_M_doStep 37 = .ok (.iaload, 1) := by decide +kernel
theorem d_M_doStep_38 : decode b_M_doStep 38 = .ok (.istore 5, 2) := by decide +kernel
theorem d_M_doStep_40 : decode b_M_doStep 40 = .ok (.aload_n 0, 1) := by decide +kernel
theorem d_M_doStep_41 : decode b_M_doStep 41 = .ok (.getfield 17, 3) := by decide +kernel
theorem d_M_doStep_44 : decode b_M_doStep 44 = .ok (.iload_n 1, 1) := by decide +kernel
theorem d_M_doStep_45 : decode b_M_doStep 45 = .ok (.iaload, 1) := by decide +kernel
theorem d_M_doStep_46 : decode b_M_doStep 46 = .ok (.tableswitch 256 0 7 #[46, 63, 79, 101, 123, 139, 154, 242], 46) := by decide +kernel
theorem d_M_doStep_92 : decode b_M_doStep 92 = .ok (.aload_n 0, 1) := by decide +kernel
theorem d_M_doStep_93 : decode b_M_doStep 93 = .ok (.iload_n 2, 1) := by decide +kernel
theorem d_M_doStep_94 : decode b_M_doStep 94 = .ok (.iload_n 3, 1) := by decide +kernel
theorem d_M_doStep_95 : decode b_M_doStep 95 = .ok (.iconst 1, 1) := by decide +kernel
theorem d_M_doStep_96 : decode b_M_doStep 96 = .ok (.aload_n 0, 1) := by decide +kernel
theorem d_M_doStep_97 : decode b_M_doStep 97 = .ok (.getfield 20, 3) := by decide +kernel
theorem d_M_doStep_100 : decode b_M_doStep 100 = .ok (.iload_n 1, 1) := by decide +kernel
theorem d_M_doStep_101 : decode b_M_doStep 101 = .ok (.iaload, 1) := by decide +kernel
theorem d_M_doStep_102 : decode b_M_doStep 102 = .ok (.ishl, 1) := by decide +kernel
theorem d_M_doStep_103 : decode b_M_doStep 103 = .ok (.invokevirtual 102, 3) := by decide +kernel
theorem d_M_doStep_106 : decode b_M_doStep 106 = .ok (.goto 196, 3) := by decide +kernel
theorem d_M_doStep_109 : decode b_M_doStep 109 = .ok (.aload_n 0, 1) := by decide +kernel
theorem d_M_doStep_110 : decode b_M_doStep 110 = .ok (.iload_n 2, 1) := by decide +kernel
theorem d_M_doStep_111 : decode b_M_doStep 111 = .ok (.iload_n 3, 1) := by decide +kernel
theorem d_M_doStep_112 : decode b_M_doStep 112 = .ok (.aload_n 0, 1) := by decide +kernel
theorem d_M_doStep_113 : decode b_M_doStep 113 = .ok (.iload_n 2, 1) := by decide +kernel
theorem d_M_doStep_114 : decode b_M_doStep 114 = .ok (.iload 4, 2) := by decide +kernel
theorem d_M_doStep_116 : decode b_M_doStep 116 = .ok (.invokevirtual 106, 3) := by decide +kernel
theorem d_M_doStep_119 : decode b_M_doStep 119 = .ok (.invokevirtual 102, 3) := by decide +kernel
theorem d_M_doStep_122 : decode b_M_doStep 122 = .ok (.goto 180, 3) := by decide +kernel
theorem d_M_doStep_125 : decode b_M_doStep 125 = .ok (.aload_n 0, 1) := by decide +kernel
theorem d_M_doStep_126 : decode b_M_doStep 126 = .ok (.iload_n 2, 1) := by decide +kernel
theorem d_M_doStep_127 : decode b_M_doStep 127 = .ok (.iload_n 3, 1) := by decide +kernel
theorem d_M_doStep_128 : decode b_M_doStep 128 = .ok (.aload_n 0, 1) := by decide +kernel
theorem d_M_doStep_129 : decode b_M_doStep 129 = .ok (.aload_n 0, 1) := by decide +kernel
theorem d_M_doStep_130 : decode b_M_doStep 130 = .ok (.iload_n 2, 1) := by decide +kernel
theorem d_M_doStep_131 : decode b_M_doStep 131 = .ok (.iload 4, 2) := by decide +kernel
theorem d_M_doStep_133 : decode b_M_doStep 133 = .ok (.invokevirtual 106, 3) := by decide +kernel
theorem d_M_doStep_136 : decode b_M_doStep 136 = .ok (.iload 5, 2) := by decide +kernel
theorem d_M_doStep_138 : decode b_M_doStep 138 = .ok (.invokevirtual 109, 3) := by decide +kernel
theorem d_M_doStep_141 : decode b_M_doStep 141 = .ok (.invokevirtual 102, 3) := by decide +kernel
theorem d_M_doStep_144 : decode b_M_doStep 144 = .ok (.goto 158, 3) := by decide +kernel
theorem d_M_doStep_147 : decode b_M_doStep 147 = .ok (.aload_n 0, 1) := by decide +kernel
theorem d_M_doStep_148 : decode b_M_doStep 148 = .ok (.aload_n 0, 1) := by decide +kernel
theorem d_M_doStep_149 : decode b_M_doStep 149 = .ok (.iload_n 2, 1) := by decide +kernel
theorem d_M_doStep_150 : decode b_M_doStep 150 = .ok (.iload_n 3, 1) := by decide +kernel
theorem d_M_doStep_151 : decode b_M_doStep 151 = .ok (.invokevirtual 106, 3) := by decide +kernel
theorem d_M_doStep_154 : decode b_M_doStep 154 = .ok (.iload 4, 2) := by decide +kernel
theorem d_M_doStep_156 : decode b_M_doStep 156 = .ok (.aload_n 0, 1) := by decide +kernel
theorem d_M_doStep_157 : decode b_M_doStep 157 = .ok (.iload_n 2, 1) := by decide +kernel
theorem d_M_doStep_158 : decode b_M_doStep 158 = .ok (.iload 5, 2) := by decide +kernel
theorem d_M_doStep_160 : decode b_M_doStep 160 = .ok (.invokevirtual 106, 3) := by decide +kernel
theorem d_M_doStep_163 : decode b_M_doStep 163 = .ok (.invokevirtual 112, 3) := by decide +kernel
theorem d_M_doStep_166 : decode b_M_doStep 166 = .ok (.goto 136, 3) := by decide +kernel
theorem d_M_doStep_169 : decode b_M_doStep 169 = .ok (.aload_n 0, 1) := by decide +kernel
theorem d_M_doStep_170 : decode b_M_doStep 170 = .ok (.iload_n 2, 1) := by decide +kernel
theorem d_M_doStep_171 : decode b_M_doStep 171 = .ok (.iload_n 3, 1) := by decide +kernel
theorem d_M_doStep_172 : decode b_M_doStep 172 = .ok (.aload_n 0, 1) := by decide +kernel
theorem d_M_doStep_173 : decode b_M_doStep 173 = .ok (.getfield 35, 3) := by decide +kernel
theorem d_M_doStep_176 : decode b_M_doStep 176 = .ok (.iload 4, 2) := by decide +kernel
theorem d_M_doStep_178 : decode b_M_doStep 178 = .ok (.iaload, 1) := by decide +kernel
theorem d_M_doStep_179 : decode b_M_doStep 179 = .ok (.invokevirtual 102, 3) := by decide +kernel
theorem d_M_doStep_182 : decode b_M_doStep 182 = .ok (.goto 120, 3) := by decide +kernel
theorem d_M_doStep_185 : decode b_M_doStep 185 = .ok (.aload_n 0, 1) := by decide +kernel
theorem d_M_doStep_186 : decode b_M_doStep 186 = .ok (.iload_n 3, 1) := by decide +kernel
theorem d_M_doStep_187 : decode b_M_doStep 187 = .ok (.aload_n 0, 1) := by decide +kernel
theorem d_M_doStep_188 : decode b_M_doStep 188 = .ok (.iload_n 2, 1) := by decide +kernel
theorem d_M_doStep_189 : decode b_M_doStep 189 = .ok (.iload 4, 2) := by decide +kernel
theorem d_M_doStep_191 : decode b_M_doStep 191 = .ok (.invokevirtual 106, 3) := by decide +kernel
theorem d_M_doStep_194 : decode b_M_doStep 194 = .ok (.invokevirtual 115, 3) := by decide +kernel
theorem d_M_doStep_197 : decode b_M_doStep 197 = .ok (.goto 105, 3) := by decide +kernel
theorem d_M_doStep_200 : decode b_M_doStep 200 = .ok (.iconst 0, 1) := by decide +kernel
theorem d_M_doStep_201 : decode b_M_doStep 201 = .ok (.istore 6, 2) := by decide +kernel
theorem d_M_doStep_203 : decode b_M_doStep 203 = .ok (.iload 6, 2) := by decide +kernel
theorem d_M_doStep_205 : decode b_M_doStep 205 = .ok (.iconst 3, 1) := by decide +kernel
theorem d_M_doStep_206 : decode b_M_doStep 206 = .ok (.if_icmp .ge 44, 3) := by decide +kernel
theorem d_M_doStep_209 : decode b_M_doStep 209 = .ok (.aload_n 0, 1) := by decide +kernel
theorem d_M_doStep_210 : decode b_M_doStep 210 = .ok (.getfield 23, 3) := by decide +kernel
theorem d_M_doStep_213 : decode b_M_doStep 213 = .ok (.iconst 5, 1) := by decide +kernel
theorem d_M_doStep_214 : decode b_M_doStep 214 = .ok (.iload_n 1, 1) := by decide +kernel
theorem d_M_doStep_215 : decode b_M_doStep 215 = .ok (.imul, 1) := by decide +kernel
theorem d_M_doStep_216 : decode b_M_doStep 216 = .ok (.iconst 1, 1) := by decide +kernel
theorem d_M_doStep_217 : decode b_M_doStep 217 = .ok (.iadd, 1) := by decide +kernel
theorem d_M_doStep_218 : decode b_M_doStep 218 = .ok (.iload 6, 2) := by decide +kernel
theorem d_M_doStep_220 : decode b_M_doStep 220 = .ok (.iadd, 1) := by decide +kernel
theorem d_M_doStep_221 : decode b_M_doStep 221 = .ok (.iaload, 1) := by decide +kernel
theorem d_M_doStep_222 : decode b_M_doStep 222 = .ok (.istore 7, 2) := by decide +kernel
theorem d_M_doStep_224 : decode b_M_doStep 224 = .ok (.iload 7, 2) := by decide +kernel
theorem d_M_doStep_226 : decode b_M_doStep 226 = .ok (.iconst (-1), 1) := by decide +kernel
theorem d_M_doStep_227 : decode b_M_doStep 227 = .ok (.if_icmp .eq 17, 3) := by decide +kernel
theorem d_M_doStep_230 : decode b_M_doStep 230 = .ok (.aload_n 0, 1) := by decide +kernel
theorem d_M_doStep_231 : decode b_M_doStep 231 = .ok (.iload_n 3, 1) := by decide +kernel
theorem d_M_doStep_232 : decode b_M_doStep 232 = .ok (.iload 6, 2) := by decide +kernel
theorem d_M_doStep_234 : decode b_M_doStep 234 = .ok (.aload_n 0, 1) := by decide +kernel
theorem d_M_doStep_235 : decode b_M_doStep 235 = .ok (.iload_n 2, 1) := by decide +kernel
theorem d_M_doStep_236 : decode b_M_doStep 236 = .ok (.iload 7, 2) := by decide +kernel
theorem d_M_doStep_238 : decode b_M_doStep 238 = .ok (.invokevirtual 106, 3) := by decide +kernel
theorem d_M_doStep_241 : decode b_M_doStep 241 = .ok (.invokevirtual 102, 3) := by decide +kernel
theorem d_M_doStep_244 : decode b_M_doStep 244 = .ok (.iinc 6 1, 3) := by decide +kernel
theorem d_M_doStep_247 : decode b_M_doStep 247 = .ok (.goto (-44), 3) := by decide +kernel
theorem d_M_doStep_250 : decode b_M_doStep 250 = .ok (.aload_n 0, 1) := by decide +kernel
theorem d_M_doStep_251 : decode b_M_doStep 251 = .ok (.getfield 23, 3) := by decide +kernel
theorem d_M_doStep_254 : decode b_M_doStep 254 = .ok (.iconst 5, 1) := by decide +kernel
theorem d_M_doStep_255 : decode b_M_doStep 255 = .ok (.iload_n 1, 1) := by decide +kernel
theorem d_M_doStep_256 : decode b_M_doStep 256 = .ok (.imul, 1) := by decide +kernel
theorem d_M_doStep_257 : decode b_M_doStep 257 = .ok (.iconst 4, 1) := by decide +kernel
theorem d_M_doStep_258 : decode b_M_doStep 258 = .ok (.iadd, 1) := by decide +kernel
theorem d_M_doStep_259 : decode b_M_doStep 259 = .ok (.iaload, 1) := by decide +kernel
theorem d_M_doStep_260 : decode b_M_doStep 260 = .ok (.iconst (-1), 1) := by decide +kernel
theorem d_M_doStep_261 : decode b_M_doStep 261 = .ok (.if_icmp .eq 41, 3) := by decide +kernel
theorem d_M_doStep_264 : decode b_M_doStep 264 = .ok (.aload_n 0, 1) := by decide +kernel
theorem d_M_doStep_265 : decode b_M_doStep 265 = .ok (.iload_n 2, 1) := by decide +kernel
theorem d_M_doStep_266 : decode b_M_doStep 266 = .ok (.aload_n 0, 1) := by decide +kernel
theorem d_M_doStep_267 : decode b_M_doStep 267 = .ok (.getfield 23, 3) := by decide +kernel
theorem d_M_doStep_270 : decode b_M_doStep 270 = .ok (.iconst 5, 1) := by decide +kernel
theorem d_M_doStep_271 : decode b_M_doStep 271 = .ok (.iload_n 1, 1) := by decide +kernel
theorem d_M_doStep_272 : decode b_M_doStep 272 = .ok (.imul, 1) := by decide +kernel
theorem d_M_doStep_273 : decode b_M_doStep 273 = .ok (.iconst 4, 1) := by decide +kernel
theorem d_M_doStep_274 : decode b_M_doStep 274 = .ok (.iadd, 1) := by decide +kernel
theorem d_M_doStep_275 : decode b_M_doStep 275 = .ok (.iaload, 1) := by decide +kernel
theorem d_M_doStep_276 : decode b_M_doStep 276 = .ok (.aload_n 0, 1) := by decide +kernel
theorem d_M_doStep_277 : decode b_M_doStep 277 = .ok (.getfield 38, 3) := by decide +kernel
theorem d_M_doStep_280 : decode b_M_doStep 280 = .ok (.iload_n 3, 1) := by decide +kernel
theorem d_M_doStep_281 : decode b_M_doStep 281 = .ok (.iaload, 1) := by decide +kernel
theorem d_M_doStep_282 : decode b_M_doStep 282 = .ok (.invokevirtual 102, 3) := by decide +kernel
theorem d_M_doStep_285 : decode b_M_doStep 285 = .ok (.goto 17, 3) := by decide +kernel
theorem d_M_doStep_288 : decode b_M_doStep 288 = .ok (.aload_n 0, 1) := by decide +kernel
theorem d_M_doStep_289 : decode b_M_doStep 289 = .ok (.iload_n 2, 1) := by decide +kernel
theorem d_M_doStep_290 : decode b_M_doStep 290 = .ok (.aload_n 0, 1) := by decide +kernel
theorem d_M_doStep_291 : decode b_M_doStep 291 = .ok (.iload_n 2, 1) := by decide +kernel
theorem d_M_doStep_292 : decode b_M_doStep 292 = .ok (.iload_n 3, 1) := by decide +kernel
theorem d_M_doStep_293 : decode b_M_doStep 293 = .ok (.invokevirtual 106, 3) := by decide +kernel
theorem d_M_doStep_296 : decode b_M_doStep 296 = .ok (.invokevirtual 119, 3) := by decide +kernel
theorem d_M_doStep_299 : decode b_M_doStep 299 = .ok (.goto 3, 3) := by decide +kernel
theorem d_M_doStep_302 : decode b_M_doStep 302 = .ok (.return_, 1) := by decide +kernel
theorem d_M_isLive_0 : decode b_M_isLive 0 = .ok (.aload_n 0, 1) := by decide +kernel
theorem d_M_isLive_1 : decode b_M_isLive 1 = .ok (.getfield 90, 3) := by decide +kernel
theorem d_M_isLive_4 : decode b_M_isLive 4 = .ok (.aload_n 0, 1) := by decide +kernel
theorem d_M_isLive_5 : decode b_M_isLive 5 = .ok (.getfield 13, 3) := by decide +kernel
theorem d_M_isLive_8 : decode b_M_isLive 8 = .ok (.iload_n 1, 1) := by decide +kernel
theorem d_M_isLive_9 : decode b_M_isLive 9 = .ok (.iaload, 1) := by decide +kernel
theorem d_M_isLive_10 : decode b_M_isLive 10 = .ok (.invokestatic 80, 3) := by decide +kernel
theorem d_M_isLive_13 : decode b_M_isLive 13 = .ok (.ireturn, 1) := by decide +kernel
theorem d_M_solve_0 : decode b_M_solve 0 = .ok (.aload_n 0, 1) := by decide +kernel
theorem d_M_solve_1 : decode b_M_solve 1 = .ok (.getfield 45, 3) := by decide +kernel
theorem d_M_solve_4 : decode b_M_solve 4 = .ok (.ifCond .ne 4, 3) := by decide +kernel
theorem d_M_solve_7 : decode b_M_solve 7 = .ok (.return_, 1) := by decide +kernel
theorem d_M_solve_8 : decode b_M_solve 8 = .ok (.aload_n 0, 1) := by decide +kernel
theorem d_M_solve_9 : decode b_M_solve 9 = .ok (.iconst 0, 1) := by decide +kernel
theorem d_M_solve_10 : decode b_M_solve 10 = .ok (.putfield 45, 3) := by decide +kernel
theorem d_M_solve_13 : decode b_M_solve 13 = .ok (.iconst 0, 1) := by decide +kernel
theorem d_M_solve_14 : decode b_M_solve 14 = .ok (.istore_n 1, 1) := by decide +kernel
theorem d_M_solve_15 : decode b_M_solve 15 = .ok (.iload_n 1, 1) := by decide +kernel
theorem d_M_solve_16 : decode b_M_solve 16 = .ok (.bipush 64, 2) := by decide +kernel
theorem d_M_solve_18 : decode b_M_solve 18 = .ok (.if_icmp .ge 23, 3) := by decide +kernel
theorem d_M_solve_21 : decode b_M_solve 21 = .ok (.aload_n 0, 1) := by decide +kernel
theorem d_M_solve_22 : decode b_M_solve 22 = .ok (.getfield 29, 3) := by decide +kernel
theorem d_M_solve_25 : decode b_M_solve 25 = .ok (.iload_n 1, 1) := by decide +kernel
theorem d_M_solve_26 : decode b_M_solve 26 = .ok (.iconst 0, 1) := by decide +kernel
theorem d_M_solve_27 : decode b_M_solve 27 = .ok (.iastore, 1) := by decide +kernel
theorem d_M_solve_28 : decode b_M_solve 28 = .ok (.aload_n 0, 1) := by decide +kernel
theorem d_M_solve_29 : decode b_M_solve 29 = .ok (.getfield 32, 3) := by decide +kernel
theorem d_M_solve_32 : decode b_M_solve 32 = .ok (.iload_n 1, 1) := by decide +kernel
theorem d_M_solve_33 : decode b_M_solve 33 = .ok (.iconst 0, 1) := by decide +kernel
theorem d_M_solve_34 : decode b_M_solve 34 = .ok (.iastore, 1) := by decide +kernel
theorem d_M_solve_35 : decode b_M_solve 35 = .ok (.iinc 1 1, 3) := by decide +kernel
theorem d_M_solve_38 : decode b_M_solve 38 = .ok (.goto (-23), 3) := by decide +kernel
theorem d_M_solve_41 : decode b_M_solve 41 = .ok (.iconst 0, 1) := by decide +kernel
theorem d_M_solve_42 : decode b_M_solve 42 = .ok (.istore_n 1, 1) := by decide +kernel
theorem d_M_solve_43 : decode b_M_solve 43 = .ok (.iload_n 1, 1) := by decide +kernel
theorem d_M_solve_44 : decode b_M_solve 44 = .ok (.bipush 8, 2) := by decide +kernel
theorem d_M_solve_46 : decode b_M_solve 46 = .ok (.if_icmp .ge 16, 3) := by decide +kernel
theorem d_M_solve_49 : decode b_M_solve 49 = .ok (.aload_n 0, 1) := by decide +kernel
theorem d_M_solve_50 : decode b_M_solve 50 = .ok (.getfield 38, 3) := by decide +kernel
theorem d_M_solve_53 : decode b_M_solve 53 = .ok (.iload_n 1, 1) := by decide +kernel
theorem d_M_solve_54 : decode b_M_solve 54 = .ok (.iconst 0, 1) := by decide +kernel
theorem d_M_solve_55 : decode b_M_solve 55 = .ok (.iastore, 1) := by decide +kernel
theorem d_M_solve_56 : decode b_M_solve 56 = .ok (.iinc 1 1, 3) := by decide +kernel
theorem d_M_solve_59 : decode b_M_solve 59 = .ok (.goto (-16), 3) := by decide +kernel
theorem d_M_solve_62 : decode b_M_solve 62 = .ok (.iconst 0, 1) := by decide +kernel
theorem d_M_solve_63 : decode b_M_solve 63 = .ok (.istore_n 1, 1) := by decide +kernel
theorem d_M_solve_64 : decode b_M_solve 64 = .ok (.iload_n 1, 1) := by decide +kernel
theorem d_M_solve_65 : decode b_M_solve 65 = .ok (.iconst 4, 1) := by decide +kernel
theorem d_M_solve_66 : decode b_M_solve 66 = .ok (.if_icmp .ge 16, 3) := by decide +kernel
theorem d_M_solve_69 : decode b_M_solve 69 = .ok (.aload_n 0, 1) := by decide +kernel
theorem d_M_solve_70 : decode b_M_solve 70 = .ok (.getfield 35, 3) := by decide +kernel
theorem d_M_solve_73 : decode b_M_solve 73 = .ok (.iload_n 1, 1) := by decide +kernel
theorem d_M_solve_74 : decode b_M_solve 74 = .ok (.iconst 0, 1) := by decide +kernel
theorem d_M_solve_75 : decode b_M_solve 75 = .ok (.iastore, 1) := by decide +kernel
theorem d_M_solve_76 : decode b_M_solve 76 = .ok (.iinc 1 1, 3) := by decide +kernel
theorem d_M_solve_79 : decode b_M_solve 79 = .ok (.goto (-15), 3) := by decide +kernel
theorem d_M_solve_82 : decode b_M_solve 82 = .ok (.aload_n 0, 1) := by decide +kernel
theorem d_M_solve_83 : decode b_M_solve 83 = .ok (.aload_n 0, 1) := by decide +kernel
theorem d_M_solve_84 : decode b_M_solve 84 = .ok (.iconst 1, 1) := by decide +kernel
theorem d_M_solve_85 : decode b_M_solve 85 = .ok (.invokevirtual 93, 3) := by decide +kernel
theorem d_M_solve_88 : decode b_M_solve 88 = .ok (.putfield 90, 3) := by decide +kernel
theorem d_M_solve_91 : decode b_M_solve 91 = .ok (.aload_n 0, 1) := by decide +kernel
theorem d_M_solve_92 : decode b_M_solve 92 = .ok (.iconst 1, 1) := by decide +kernel
theorem d_M_solve_93 : decode b_M_solve 93 = .ok (.putfield 99, 3) := by decide +kernel
theorem d_M_solve_96 : decode b_M_solve 96 = .ok (.aload_n 0, 1) := by decide +kernel
theorem d_M_solve_97 : decode b_M_solve 97 = .ok (.getfield 99, 3) := by decide +kernel
theorem d_M_solve_100 : decode b_M_solve 100 = .ok (.ifCond .eq 40, 3) := by decide +kernel
theorem d_M_solve_103 : decode b_M_solve 103 = .ok (.aload_n 0, 1) := by decide +kernel
theorem d_M_solve_104 : decode b_M_solve 104 = .ok (.iconst 0, 1) := by decide +kernel
theorem d_M_solve_105 : decode b_M_solve 105 = .ok (.putfield 99, 3) := by decide +kernel
theorem d_M_solve_108 : decode b_M_solve 108 = .ok (.iconst 0, 1) := by decide +kernel
theorem d_M_solve_109 : decode b_M_solve 109 = .ok (.istore_n 1, 1) := by decide +kernel
theorem d_M_solve_110 : decode b_M_solve 110 = .ok (.iload_n 1, 1) := by decide +kernel
theorem d_M_solve_111 : decode b_M_solve 111 = .ok (.aload_n 0, 1) := by decide +kernel
theorem d_M_solve_112 : decode b_M_solve 112 = .ok (.getfield 49, 3) := by decide +kernel
theorem d_M_solve_115 : decode b_M_solve 115 = .ok (.if_icmp .ge 22, 3) := by decide +kernel
theorem d_M_solve_118 : decode b_M_solve 118 = .ok (.aload_n 0, 1) := by decide +kernel
theorem d_M_solve_119 : decode b_M_solve 119 = .ok (.iload_n 1, 1) := by decide +kernel
theorem d_M_solve_120 : decode b_M_solve 120 = .ok (.invokevirtual 122, 3) := by decide +kernel
theorem d_M_solve_123 : decode b_M_solve 123 = .ok (.ifCond .eq 8, 3) := by decide +kernel
theorem d_M_solve_126 : decode b_M_solve 126 = .ok (.aload_n 0, 1) := by decide +kernel
theorem d_M_solve_127 : decode b_M_solve 127 = .ok (.iload_n 1, 1) := by decide +kernel
theorem d_M_solve_128 : decode b_M_solve 128 = .ok (.invokevirtual 125, 3) := by decide +kernel
theorem d_M_solve_131 : decode b_M_solve 131 = .ok (.iinc 1 1, 3) := by decide +kernel
theorem d_M_solve_134 : decode b_M_solve 134 = .ok (.goto (-24), 3) := by decide +kernel
theorem d_M_solve_137 : decode b_M_solve 137 = .ok (.goto (-41), 3) := by decide +kernel
theorem d_M_solve_140 : decode b_M_solve 140 = .ok (.return_, 1) := by decide +kernel
theorem d_M_points_0 : decode b_M_points 0 = .ok (.aload_n 0, 1) := by decide +kernel
theorem d_M_points_1 : decode b_M_points 1 = .ok (.iload_n 1, 1) := by decide +kernel
theorem d_M_points_2 : decode b_M_points 2 = .ok (.invokevirtual 63, 3) := by decide +kernel
theorem d_M_points_5 : decode b_M_points 5 = .ok (.ifCond .eq 10, 3) := by decide +kernel
theorem d_M_points_8 : decode b_M_points 8 = .ok (.iload_n 2, 1) := by decide +kernel
theorem d_M_points_9 : decode b_M_points 9 = .ok (.invokestatic 59, 3) := by decide +kernel
theorem d_M_points_12 : decode b_M_points 12 = .ok (.ifCond .ne 6, 3) := by decide +kernel
theorem d_M_points_15 : decode b_M_points 15 = .ok (.bipush (-2), 2) := by decide +kernel
theorem d_M_points_17 : decode b_M_points 17 = .ok (.ireturn, 1) := by decide +kernel
theorem d_M_points_18 : decode b_M_points 18 = .ok (.aload_n 0, 1) := by decide +kernel
theorem d_M_points_19 : decode b_M_points 19 = .ok (.invokevirtual 87, 3) := by decide +kernel
theorem d_M_points_22 : decode b_M_points 22 = .ok (.aload_n 0, 1) := by decide +kernel
theorem d_M_points_23 : decode b_M_points 23 = .ok (.iload_n 1, 1) := by decide +kernel
theorem d_M_points_24 : decode b_M_points 24 = .ok (.iload_n 2, 1) := by decide +kernel
theorem d_M_points_25 : decode b_M_points 25 = .ok (.invokevirtual 106, 3) := by decide +kernel
theorem d_M_points_28 : decode b_M_points 28 = .ok (.ireturn, 1) := by decide +kernel
theorem d_M_isSite_0 : decode b_M_isSite 0 = .ok (.iload_n 1, 1) := by decide +kernel
theorem d_M_isSite_1 : decode b_M_isSite 1 = .ok (.iconst 0, 1) := by decide +kernel
theorem d_M_isSite_2 : decode b_M_isSite 2 = .ok (.aload_n 0, 1) := by decide +kernel
theorem d_M_isSite_3 : decode b_M_isSite 3 = .ok (.getfield 52, 3) := by decide +kernel
theorem d_M_isSite_6 : decode b_M_isSite 6 = .ok (.iconst 1, 1) := by decide +kernel
theorem d_M_isSite_7 : decode b_M_isSite 7 = .ok (.isub, 1) := by decide +kernel
theorem d_M_isSite_8 : decode b_M_isSite 8 = .ok (.invokestatic 55, 3) := by decide +kernel
theorem d_M_isSite_11 : decode b_M_isSite 11 = .ok (.ireturn, 1) := by decide +kernel
theorem d_M_field_0 : decode b_M_field 0 = .ok (.aload_n 0, 1) := by decide +kernel
theorem d_M_field_1 : decode b_M_field 1 = .ok (.iload_n 1, 1) := by decide +kernel
theorem d_M_field_2 : decode b_M_field 2 = .ok (.invokevirtual 129, 3) := by decide +kernel
theorem d_M_field_5 : decode b_M_field 5 = .ok (.ifCond .eq 12, 3) := by decide +kernel
theorem d_M_field_8 : decode b_M_field 8 = .ok (.iload_n 2, 1) := by decide +kernel
theorem d_M_field_9 : decode b_M_field 9 = .ok (.iconst 0, 1) := by decide +kernel
theorem d_M_field_10 : decode b_M_field 10 = .ok (.iconst 3, 1) := by decide +kernel
theorem d_M_field_11 : decode b_M_field 11 = .ok (.invokestatic 55, 3) := by decide +kernel
theorem d_M_field_14 : decode b_M_field 14 = .ok (.ifCond .ne 6, 3) := by decide +kernel
theorem d_M_field_17 : decode b_M_field 17 = .ok (.bipush (-2), 2) := by decide +kernel
theorem d_M_field_19 : decode b_M_field 19 = .ok (.ireturn, 1) := by decide +kernel
theorem d_M_field_20 : decode b_M_field 20 = .ok (.aload_n 0, 1) := by decide +kernel
theorem d_M_field_21 : decode b_M_field 21 = .ok (.invokevirtual 87, 3) := by decide +kernel
theorem d_M_field_24 : decode b_M_field 24 = .ok (.aload_n 0, 1) := by decide +kernel
theorem d_M_field_25 : decode b_M_field 25 = .ok (.getfield 32, 3) := by decide +kernel
theorem d_M_field_28 : decode b_M_field 28 = .ok (.iconst 4, 1) := by decide +kernel
theorem d_M_field_29 : decode b_M_field 29 = .ok (.iload_n 1, 1) := by decide +kernel
theorem d_M_field_30 : decode b_M_field 30 = .ok (.imul, 1) := by decide +kernel
theorem d_M_field_31 : decode b_M_field 31 = .ok (.iload_n 2, 1) := by decide +kernel
theorem d_M_field_32 : decode b_M_field 32 = .ok (.iadd, 1) := by decide +kernel
theorem d_M_field_33 : decode b_M_field 33 = .ok (.iaload, 1) := by decide +kernel
theorem d_M_field_34 : decode b_M_field 34 = .ok (.ireturn, 1) := by decide +kernel
theorem d_M_place_0 : decode b_M_place 0 = .ok (.iload_n 1, 1) := by decide +kernel
theorem d_M_place_1 : decode b_M_place 1 = .ok (.iconst 0, 1) := by decide +kernel
theorem d_M_place_2 : decode b_M_place 2 = .ok (.iconst 3, 1) := by decide +kernel
theorem d_M_place_3 : decode b_M_place 3 = .ok (.invokestatic 55, 3) := by decide +kernel
theorem d_M_place_6 : decode b_M_place 6 = .ok (.ifCond .ne 6, 3) := by decide +kernel
theorem d_M_place_9 : decode b_M_place 9 = .ok (.bipush (-2), 2) := by decide +kernel
theorem d_M_place_11 : decode b_M_place 11 = .ok (.ireturn, 1) := by decide +kernel
theorem d_M_place_12 : decode b_M_place 12 = .ok (.aload_n 0, 1) := by decide +kernel
theorem d_M_place_13 : decode b_M_place 13 = .ok (.invokevirtual 87, 3) := by decide +kernel
theorem d_M_place_16 : decode b_M_place 16 = .ok (.aload_n 0, 1) := by decide +kernel
theorem d_M_place_17 : decode b_M_place 17 = .ok (.getfield 35, 3) := by decide +kernel
theorem d_M_place_20 : decode b_M_place 20 = .ok (.iload_n 1, 1) := by decide +kernel
theorem d_M_place_21 : decode b_M_place 21 = .ok (.iaload, 1) := by decide +kernel
theorem d_M_place_22 : decode b_M_place 22 = .ok (.ireturn, 1) := by decide +kernel
theorem d_M_result_0 : decode b_M_result 0 = .ok (.aload_n 0, 1) := by decide +kernel
theorem d_M_result_1 : decode b_M_result 1 = .ok (.iload_n 1, 1) := by decide +kernel
theorem d_M_result_2 : decode b_M_result 2 = .ok (.invokevirtual 63, 3) := by decide +kernel
theorem d_M_result_5 : decode b_M_result 5 = .ok (.ifCond .ne 6, 3) := by decide +kernel
theorem d_M_result_8 : decode b_M_result 8 = .ok (.bipush (-2), 2) := by decide +kernel
theorem d_M_result_10 : decode b_M_result 10 = .ok (.ireturn, 1) := by decide +kernel
theorem d_M_result_11 : decode b_M_result 11 = .ok (.aload_n 0, 1) := by decide +kernel
theorem d_M_result_12 : decode b_M_result 12 = .ok (.invokevirtual 87, 3) := by decide +kernel
theorem d_M_result_15 : decode b_M_result 15 = .ok (.aload_n 0, 1) := by decide +kernel
theorem d_M_result_16 : decode b_M_result 16 = .ok (.getfield 38, 3) := by decide +kernel
theorem d_M_result_19 : decode b_M_result 19 = .ok (.iload_n 1, 1) := by decide +kernel
theorem d_M_result_20 : decode b_M_result 20 = .ok (.iaload, 1) := by decide +kernel
theorem d_M_result_21 : decode b_M_result 21 = .ok (.ireturn, 1) := by decide +kernel
theorem d_M_allFields_0 : decode b_M_allFields 0 = .ok (.iconst 0, 1) := by decide +kernel
theorem d_M_allFields_1 : decode b_M_allFields 1 = .ok (.istore_n 2, 1) := by decide +kernel
theorem d_M_allFields_2 : decode b_M_allFields 2 = .ok (.iconst 0, 1) := by decide +kernel
theorem d_M_allFields_3 : decode b_M_allFields 3 = .ok (.istore_n 3, 1) := by decide +kernel
theorem d_M_allFields_4 : decode b_M_allFields 4 = .ok (.iload_n 3, 1) := by decide +kernel
theorem d_M_allFields_5 : decode b_M_allFields 5 = .ok (.iconst 4, 1) := by decide +kernel
theorem d_M_allFields_6 : decode b_M_allFields 6 = .ok (.if_icmp .ge 18, 3) := by decide +kernel
theorem d_M_allFields_9 : decode b_M_allFields 9 = .ok (.iload_n 2, 1) := by decide +kernel
theorem d_M_allFields_10 : decode b_M_allFields 10 = .ok (.aload_n 0, 1) := by decide +kernel
theorem d_M_allFields_11 : decode b_M_allFields 11 = .ok (.iload_n 1, 1) := by decide +kernel
theorem d_M_allFields_12 : decode b_M_allFields 12 = .ok (.iload_n 3, 1) := by decide +kernel
theorem d_M_allFields_13 : decode b_M_allFields 13 = .ok (.invokevirtual 109, 3) := by decide +kernel
theorem d_M_allFields_16 : decode b_M_allFields 16 = .ok (.ior, 1) := by decide +kernel
theorem d_M_allFields_17 : decode b_M_allFields 17 = .ok (.istore_n 2, 1) := by decide +kernel
theorem d_M_allFields_18 : decode b_M_allFields 18 = .ok (.iinc 3 1, 3) := by decide +kernel
theorem d_M_allFields_21 : decode b_M_allFields 21 = .ok (.goto (-17), 3) := by decide +kernel
theorem d_M_allFields_24 : decode b_M_allFields 24 = .ok (.iload_n 2, 1) := by decide +kernel
theorem d_M_allFields_25 : decode b_M_allFields 25 = .ok (.ireturn, 1) := by decide +kernel
theorem d_M_closed_0 : decode b_M_closed 0 = .ok (.iload_n 1, 1) := by decide +kernel
theorem d_M_closed_1 : decode b_M_closed 1 = .ok (.istore_n 2, 1) := by decide +kernel
theorem d_M_closed_2 : decode b_M_closed 2 = .ok (.iconst 0, 1) := by decide +kernel
theorem d_M_closed_3 : decode b_M_closed 3 = .ok (.istore_n 3, 1) := by decide +kernel
theorem d_M_closed_4 : decode b_M_closed 4 = .ok (.iload_n 2, 1) := by decide +kernel
theorem d_M_closed_5 : decode b_M_closed 5 = .ok (.iload_n 3, 1) := by decide +kernel
theorem d_M_closed_6 : decode b_M_closed 6 = .ok (.if_icmp .eq 16, 3) := by decide +kernel
theorem d_M_closed_9 : decode b_M_closed 9 = .ok (.iload_n 2, 1) := by decide +kernel
theorem d_M_closed_10 : decode b_M_closed 10 = .ok (.istore_n 3, 1) := by decide +kernel
theorem d_M_closed_11 : decode b_M_closed 11 = .ok (.iload_n 2, 1) := by decide +kernel
theorem d_M_closed_12 : decode b_M_closed 12 = .ok (.aload_n 0, 1) := by decide +kernel
theorem d_M_closed_13 : decode b_M_closed 13 = .ok (.iload_n 2, 1) := by decide +kernel
theorem d_M_closed_14 : decode b_M_closed 14 = .ok (.invokevirtual 132, 3) := by decide +kernel
theorem d_M_closed_17 : decode b_M_closed 17 = .ok (.ior, 1) := by decide +kernel
theorem d_M_closed_18 : decode b_M_closed 18 = .ok (.istore_n 2, 1) := by decide +kernel
theorem d_M_closed_19 : decode b_M_closed 19 = .ok (.goto (-15), 3) := by decide +kernel
theorem d_M_closed_22 : decode b_M_closed 22 = .ok (.iload_n 2, 1) := by decide +kernel
theorem d_M_closed_23 : decode b_M_closed 23 = .ok (.ireturn, 1) := by decide +kernel
theorem d_M_placed_0 : decode b_M_placed 0 = .ok (.aload_n 0, 1) := by decide +kernel
theorem d_M_placed_1 : decode b_M_placed 1 = .ok (.getfield 35, 3) := by decide +kernel
theorem d_M_placed_4 : decode b_M_placed 4 = .ok (.iconst 0, 1) := by decide +kernel
theorem d_M_placed_5 : decode b_M_placed 5 = .ok (.iaload, 1) := by decide +kernel
theorem d_M_placed_6 : decode b_M_placed 6 = .ok (.aload_n 0, 1) := by decide +kernel
theorem d_M_placed_7 : decode b_M_placed 7 = .ok (.getfield 35, 3) := by decide +kernel
theorem d_M_placed_10 : decode b_M_placed 10 = .ok (.iconst 1, 1) := by decide +kernel
theorem d_M_placed_11 : decode b_M_placed 11 = .ok (.iaload, 1) := by decide +kernel
theorem d_M_placed_12 : decode b_M_placed 12 = .ok (.ior, 1) := by decide +kernel
theorem d_M_placed_13 : decode b_M_placed 13 = .ok (.aload_n 0, 1) := by decide +kernel
theorem d_M_placed_14 : decode b_M_placed 14 = .ok (.getfield 35, 3) := by decide +kernel
theorem d_M_placed_17 : decode b_M_placed 17 = .ok (.iconst 2, 1) := by decide +kernel
theorem d_M_placed_18 : decode b_M_placed 18 = .ok (.iaload, 1) := by decide +kernel
theorem d_M_placed_19 : decode b_M_placed 19 = .ok (.ior, 1) := by decide +kernel
theorem d_M_placed_20 : decode b_M_placed 20 = .ok (.aload_n 0, 1) := by decide +kernel
theorem d_M_placed_21 : decode b_M_placed 21 = .ok (.getfield 35, 3) := by decide +kernel
theorem d_M_placed_24 : decode b_M_placed 24 = .ok (.iconst 3, 1) := by decide +kernel
theorem d_M_placed_25 : decode b_M_placed 25 = .ok (.iaload, 1) := by decide +kernel
theorem d_M_placed_26 : decode b_M_placed 26 = .ok (.ior, 1) := by decide +kernel
theorem d_M_placed_27 : decode b_M_placed 27 = .ok (.ireturn, 1) := by decide +kernel
theorem d_M_firstShared_0 : decode b_M_firstShared 0 = .ok (.aload_n 0, 1) := by decide +kernel
theorem d_M_firstShared_1 : decode b_M_firstShared 1 = .ok (.invokevirtual 135, 3) := by decide +kernel
theorem d_M_firstShared_4 : decode b_M_firstShared 4 = .ok (.istore_n 1, 1) := by decide +kernel
theorem d_M_firstShared_5 : decode b_M_firstShared 5 = .ok (.iconst 0, 1) := by decide +kernel
theorem d_M_firstShared_6 : decode b_M_firstShared 6 = .ok (.istore_n 2, 1) := by decide +kernel
theorem d_M_firstShared_7 : decode b_M_firstShared 7 = .ok (.iload_n 2, 1) := by decide +kernel
theorem d_M_firstShared_8 : decode b_M_firstShared 8 = .ok (.aload_n 0, 1) := by decide +kernel
theorem d_M_firstShared_9 : decode b_M_firstShared 9 = .ok (.getfield 49, 3) := by decide +kernel
theorem d_M_firstShared_12 : decode b_M_firstShared 12 = .ok (.if_icmp .ge 74, 3) := by decide +kernel
theorem d_M_firstShared_15 : decode b_M_firstShared 15 = .ok (.aload_n 0, 1) := by decide +kernel
theorem d_M_firstShared_16 : decode b_M_firstShared 16 = .ok (.iload_n 2, 1) := by decide +kernel
theorem d_M_firstShared_17 : decode b_M_firstShared 17 = .ok (.invokevirtual 122, 3) := by decide +kernel
theorem d_M_firstShared_20 : decode b_M_firstShared 20 = .ok (.ifCond .eq 29, 3) := by decide +kernel
theorem d_M_firstShared_23 : decode b_M_firstShared 23 = .ok (.aload_n 0, 1) := by decide +kernel
theorem d_M_firstShared_24 : decode b_M_firstShared 24 = .ok (.getfield 17, 3) := by decide +kernel
theorem d_M_firstShared_27 : decode b_M_firstShared 27 = .ok (.iload_n 2, 1) := by decide +kernel
theorem d_M_firstShared_28 : decode b_M_firstShared 28 = .ok (.iaload, 1) := by decide +kernel
theorem d_M_firstShared_29 : decode b_M_firstShared 29 = .ok (.bipush 8, 2) := by decide +kernel
theorem d_M_firstShared_31 : decode b_M_firstShared 31 = .ok (.if_icmp .eq 14, 3) := by decide +kernel
theorem d_M_firstShared_34 : decode b_M_firstShared 34 = .ok (.aload_n 0, 1) := by decide +kernel
theorem d_M_firstShared_35 : decode b_M_firstShared 35 = .ok (.getfield 17, 3) := by decide +kernel
theorem d_M_firstShared_38 : decode b_M_firstShared 38 = .ok (.iload_n 2, 1) := by decide +kernel
theorem d_M_firstShared_39 : decode b_M_firstShared 39 = .ok (.iaload, 1) := by decide +kernel
theorem d_M_firstShared_40 : decode b_M_firstShared 40 = .ok (.bipush 9, 2) := by decide +kernel
theorem d_M_firstShared_42 : decode b_M_firstShared 42 = .ok (.if_icmp .ne 7, 3) := by decide +kernel
theorem d_M_firstShared_45 : decode b_M_firstShared 45 = .ok (.iconst 1, 1) := by decide +kernel
theorem d_M_firstShared_46 : decode b_M_firstShared 46 = .ok (.goto 4, 3) := by decide +kernel
theorem d_M_firstShared_49 : decode b_M_firstShared 49 = .ok (.iconst 0, 1) := by decide +kernel
theorem d_M_firstShared_50 : decode b_M_firstShared 50 = .ok (.istore_n 3, 1) := by decide +kernel
theorem d_M_firstShared_51 : decode b_M_firstShared 51 = .ok (.iload_n 3, 1) := by decide +kernel
theorem d_M_firstShared_52 : decode b_M_firstShared 52 = .ok (.ifCond .eq 26, 3) := by decide +kernel
theorem d_M_firstShared_55 : decode b_M_firstShared 55 = .ok (.iload_n 1, 1) := by decide +kernel
theorem d_M_firstShared_56 : decode b_M_firstShared 56 = .ok (.aload_n 0, 1) := by decide +kernel
theorem d_M_firstShared_57 : decode b_M_firstShared 57 = .ok (.aload_n 0, 1) := by decide +kernel
theorem d_M_firstShared_58 : decode b_M_firstShared 58 = .ok (.getfield 13, 3) := by decide +kernel
theorem d_M_firstShared_61 : decode b_M_firstShared 61 = .ok (.iload_n 2, 1) := by decide +kernel
theorem d_M_firstShared_62 : decode b_M_firstShared 62 = .ok (.iaload, 1) := by decide +kernel
theorem d_M_firstShared_63 : decode b_M_firstShared 63 = .ok (.aload_n 0, 1) := by decide +kernel
theorem d_M_firstShared_64 : decode b_M_firstShared 64 = .ok (.getfield 23, 3) := by decide +kernel
theorem d_M_firstShared_67 : decode b_M_firstShared 67 = .ok (.iconst 5, 1) := by decide +kernel
theorem d_M_firstShared_68 : decode b_M_firstShared 68 = .ok (.iload_n 2, 1) := by decide +kernel
theorem d_M_firstShared_69 : decode b_M_firstShared 69 = .ok (.imul, 1) := by decide +kernel
theorem d_M_firstShared_70 : decode b_M_firstShared 70 = .ok (.iaload, 1) := by decide +kernel
theorem d_M_firstShared_71 : decode b_M_firstShared 71 = .ok (.invokevirtual 106, 3) := by decide +kernel
theorem d_M_firstShared_74 : decode b_M_firstShared 74 = .ok (.ior, 1) := by decide +kernel
theorem d_M_firstShared_75 : decode b_M_firstShared 75 = .ok (.goto 4, 3) := by decide +kernel
theorem d_M_firstShared_78 : decode b_M_firstShared 78 = .ok (.iload_n 1, 1) := by decide +kernel
theorem d_M_firstShared_79 : decode b_M_firstShared 79 = .ok (.istore_n 1, 1) := by decide +kernel
theorem d_M_firstShared_80 : decode b_M_firstShared 80 = .ok (.iinc 2 1, 3) := by decide +kernel
theorem d_M_firstShared_83 : decode b_M_firstShared 83 = .ok (.goto (-76), 3) := by decide +kernel
theorem d_M_firstShared_86 : decode b_M_firstShared 86 = .ok (.iload_n 1, 1) := by decide +kernel
theorem d_M_firstShared_87 : decode b_M_firstShared 87 = .ok (.ireturn, 1) := by decide +kernel
theorem d_M_shared_0 : decode b_M_shared 0 = .ok (.aload_n 0, 1) := by decide +kernel
theorem d_M_shared_1 : decode b_M_shared 1 = .ok (.aload_n 0, 1) := by decide +kernel
theorem d_M_shared_2 : decode b_M_shared 2 = .ok (.invokevirtual 139, 3) := by decide +kernel
theorem d_M_shared_5 : decode b_M_shared 5 = .ok (.invokevirtual 142, 3) := by decide +kernel
theorem d_M_shared_8 : decode b_M_shared 8 = .ok (.ireturn, 1) := by decide +kernel
theorem d_M_levelOf_0 : decode b_M_levelOf 0 = .ok (.aload_n 0, 1) := by decide +kernel
theorem d_M_levelOf_1 : decode b_M_levelOf 1 = .ok (.invokevirtual 139, 3) := by decide +kernel
theorem d_M_levelOf_4 : decode b_M_levelOf 4 = .ok (.istore_n 2, 1) := by decide +kernel
theorem d_M_levelOf_5 : decode b_M_levelOf 5 = .ok (.iconst 0, 1) := by decide +kernel
theorem d_M_levelOf_6 : decode b_M_levelOf 6 = .ok (.istore_n 3, 1) := by decide +kernel
theorem d_M_levelOf_7 : decode b_M_levelOf 7 = .ok (.iconst 0, 1) := by decide +kernel
theorem d_M_levelOf_8 : decode b_M_levelOf 8 = .ok (.istore 4, 2) := by decide +kernel
theorem d_M_levelOf_10 : decode b_M_levelOf 10 = .ok (.iload_n 2, 1) := by decide +kernel
theorem d_M_levelOf_11 : decode b_M_levelOf 11 = .ok (.iload_n 1, 1) := by decide +kernel
theorem d_M_levelOf_12 : decode b_M_levelOf 12 = .ok (.invokestatic 80, 3) := by decide +kernel
theorem d_M_levelOf_15 : decode b_M_levelOf 15 = .ok (.ifCond .ne 26, 3) := by decide +kernel
theorem d_M_levelOf_18 : decode b_M_levelOf 18 = .ok (.iload_n 2, 1) := by decide +kernel
theorem d_M_levelOf_19 : decode b_M_levelOf 19 = .ok (.iload 4, 2) := by decide +kernel
theorem d_M_levelOf_21 : decode b_M_levelOf 21 = .ok (.if_icmp .eq 20, 3) := by decide +kernel
theorem d_M_levelOf_24 : decode b_M_levelOf 24 = .ok (.iload_n 2, 1) := by decide +kernel
theorem d_M_levelOf_25 : decode b_M_levelOf 25 = .ok (.istore 4, 2) := by decide +kernel
theorem d_M_levelOf_27 : decode b_M_levelOf 27 = .ok (.iload_n 2, 1) := by decide +kernel
theorem d_M_levelOf_28 : decode b_M_levelOf 28 = .ok (.aload_n 0, 1) := by decide +kernel
theorem d_M_levelOf_29 : decode b_M_levelOf 29 = .ok (.iload_n 2, 1) := by decide +kernel
theorem d_M_levelOf_30 : decode b_M_levelOf 30 = .ok (.invokevirtual 132, 3) := by decide +kernel
theorem d_M_levelOf_33 : decode b_M_levelOf 33 = .ok (.ior, 1) := by decide +kernel
theorem d_M_levelOf_34 : decode b_M_levelOf 34 = .ok (.istore_n 2, 1) := by decide +kernel
theorem d_M_levelOf_35 : decode b_M_levelOf 35 = .ok (.iinc 3 1, 3) := by decide +kernel
theorem d_M_levelOf_38 : decode b_M_levelOf 38 = .ok (.goto (-28), 3) := by decide +kernel
theorem d_M_levelOf_41 : decode b_M_levelOf 41 = .ok (.iload_n 2, 1) := by decide +kernel
theorem d_M_levelOf_42 : decode b_M_levelOf 42 = .ok (.iload_n 1, 1) := by decide +kernel
theorem d_M_levelOf_43 : decode b_M_levelOf 43 = .ok (.invokestatic 80, 3) := by decide +kernel
theorem d_M_levelOf_46 : decode b_M_levelOf 46 = .ok (.ifCond .eq 7, 3) := by decide +kernel
theorem d_M_levelOf_49 : decode b_M_levelOf 49 = .ok (.iload_n 3, 1) := by decide +kernel
theorem d_M_levelOf_50 : decode b_M_levelOf 50 = .ok (.goto 4, 3) := by decide +kernel
theorem d_M_levelOf_53 : decode b_M_levelOf 53 = .ok (.iconst (-1), 1) := by decide +kernel
theorem d_M_levelOf_54 : decode b_M_levelOf 54 = .ok (.ireturn, 1) := by decide +kernel
theorem d_M_owner_0 : decode b_M_owner 0 = .ok (.aload_n 0, 1) := by decide +kernel
theorem d_M_owner_1 : decode b_M_owner 1 = .ok (.getfield 13, 3) := by decide +kernel
theorem d_M_owner_4 : decode b_M_owner 4 = .ok (.aload_n 0, 1) := by decide +kernel
theorem d_M_owner_5 : decode b_M_owner 5 = .ok (.getfield 26, 3) := by decide +kernel
theorem d_M_owner_8 : decode b_M_owner 8 = .ok (.iload_n 1, 1) := by decide +kernel
theorem d_M_owner_9 : decode b_M_owner 9 = .ok (.iaload, 1) := by decide +kernel
theorem d_M_owner_10 : decode b_M_owner 10 = .ok (.iaload, 1) := by decide +kernel
theorem d_M_owner_11 : decode b_M_owner 11 = .ok (.ireturn, 1) := by decide +kernel
theorem d_M_parametersOf_0 : decode b_M_parametersOf 0 = .ok (.aload_n 0, 1) := by decide +kernel
theorem d_M_parametersOf_1 : decode b_M_parametersOf 1 = .ok (.iload_n 1, 1) := by decide +kernel
theorem d_M_parametersOf_2 : decode b_M_parametersOf 2 = .ok (.iconst 0, 1) := by decide +kernel
theorem d_M_parametersOf_3 : decode b_M_parametersOf 3 = .ok (.invokevirtual 106, 3) := by decide +kernel
theorem d_M_parametersOf_6 : decode b_M_parametersOf 6 = .ok (.aload_n 0, 1) := by decide +kernel
theorem d_M_parametersOf_7 : decode b_M_parametersOf 7 = .ok (.iload_n 1, 1) := by decide +kernel
theorem d_M_parametersOf_8 : decode b_M_parametersOf 8 = .ok (.iconst 1, 1) := by decide +kernel
theorem d_M_parametersOf_9 : decode b_M_parametersOf 9 = .ok (.invokevirtual 106, 3) := by decide +kernel
theorem d_M_parametersOf_12 : decode b_M_parametersOf 12 = .ok (.ior, 1) := by decide +kernel
theorem d_M_parametersOf_13 : decode b_M_parametersOf 13 = .ok (.aload_n 0, 1) := by decide +kernel
theorem d_M_parametersOf_14 : decode b_M_parametersOf 14 = .ok (.iload_n 1, 1) := by decide +kernel
theorem d_M_parametersOf_15 : decode b_M_parametersOf 15 = .ok (.iconst 2, 1) := by decide +kernel
theorem d_M_parametersOf_16 : decode b_M_parametersOf 16 = .ok (.invokevirtual 106, 3) := by decide +kernel
theorem d_M_parametersOf_19 : decode b_M_parametersOf 19 = .ok (.ior, 1) := by decide +kernel
theorem d_M_parametersOf_20 : decode b_M_parametersOf 20 = .ok (.ireturn, 1) := by decide +kernel
theorem d_M_isOut_0 : decode b_M_isOut 0 = .ok (.aload_n 0, 1) := by decide +kernel
theorem d_M_isOut_1 : decode b_M_isOut 1 = .ok (.iload_n 1, 1) := by decide +kernel
theorem d_M_isOut_2 : decode b_M_isOut 2 = .ok (.invokevirtual 145, 3) := by decide +kernel
theorem d_M_isOut_5 : decode b_M_isOut 5 = .ok (.istore_n 2, 1) := by decide +kernel
theorem d_M_isOut_6 : decode b_M_isOut 6 = .ok (.aload_n 0, 1) := by decide +kernel
theorem d_M_isOut_7 : decode b_M_isOut 7 = .ok (.invokevirtual 148, 3) := by decide +kernel
theorem d_M_isOut_10 : decode b_M_isOut 10 = .ok (.iload_n 1, 1) := by decide +kernel
theorem d_M_isOut_11 : decode b_M_isOut 11 = .ok (.invokestatic 80, 3) := by decide +kernel
theorem d_M_isOut_14 : decode b_M_isOut 14 = .ok (.ifCond .ne 26, 3) := by decide +kernel
theorem d_M_isOut_17 : decode b_M_isOut 17 = .ok (.aload_n 0, 1) := by decide +kernel
theorem d_M_isOut_18 : decode b_M_isOut 18 = .ok (.aload_n 0, 1) := by decide +kernel
theorem d_M_isOut_19 : decode b_M_isOut 19 = .ok (.getfield 38, 3) := by decide +kernel
theorem d_M_isOut_22 : decode b_M_isOut 22 = .ok (.iload_n 2, 1) := by decide +kernel
theorem d_M_isOut_23 : decode b_M_isOut 23 = .ok (.iaload, 1) := by decide +kernel
theorem d_M_isOut_24 : decode b_M_isOut 24 = .ok (.aload_n 0, 1) := by decide +kernel
theorem d_M_isOut_25 : decode b_M_isOut 25 = .ok (.iload_n 2, 1) := by decide +kernel
theorem d_M_isOut_26 : decode b_M_isOut 26 = .ok (.invokevirtual 151, 3) := by decide +kernel
theorem d_M_isOut_29 : decode b_M_isOut 29 = .ok (.ior, 1) := by decide +kernel
theorem d_M_isOut_30 : decode b_M_isOut 30 = .ok (.invokevirtual 142, 3) := by decide +kernel
theorem d_M_isOut_33 : decode b_M_isOut 33 = .ok (.iload_n 1, 1) := by decide +kernel
theorem d_M_isOut_34 : decode b_M_isOut 34 = .ok (.invokestatic 80, 3) := by decide +kernel
theorem d_M_isOut_37 : decode b_M_isOut 37 = .ok (.ifCond .eq 7, 3) := by decide +kernel
theorem d_M_isOut_40 : decode b_M_isOut 40 = .ok (.iconst 1, 1) := by decide +kernel
theorem d_M_isOut_41 : decode b_M_isOut 41 = .ok (.goto 4, 3) := by decide +kernel
theorem d_M_isOut_44 : decode b_M_isOut 44 = .ok (.iconst 0, 1) := by decide +kernel
theorem d_M_isOut_45 : decode b_M_isOut 45 = .ok (.ireturn, 1) := by decide +kernel
theorem d_M_holders_0 : decode b_M_holders 0 = .ok (.iconst 0, 1) := by decide +kernel
theorem d_M_holders_1 : decode b_M_holders 1 = .ok (.istore_n 2, 1) := by decide +kernel
theorem d_M_holders_2 : decode b_M_holders 2 = .ok (.iconst 0, 1) := by decide +kernel
theorem d_M_holders_3 : decode b_M_holders 3 = .ok (.istore_n 3, 1) := by decide +kernel
theorem d_M_holders_4 : decode b_M_holders 4 = .ok (.iload_n 3, 1) := by decide +kernel
theorem d_M_holders_5 : decode b_M_holders 5 = .ok (.iconst 4, 1) := by decide +kernel
theorem d_M_holders_6 : decode b_M_holders 6 = .ok (.aload_n 0, 1) := by decide +kernel
theorem d_M_holders_7 : decode b_M_holders 7 = .ok (.getfield 52, 3) := by decide +kernel
theorem d_M_holders_10 : decode b_M_holders 10 = .ok (.imul, 1) := by decide +kernel
theorem d_M_holders_11 : decode b_M_holders 11 = .ok (.if_icmp .ge 30, 3) := by decide +kernel
theorem d_M_holders_14 : decode b_M_holders 14 = .ok (.aload_n 0, 1) := by decide +kernel
theorem d_M_holders_15 : decode b_M_holders 15 = .ok (.getfield 32, 3) := by decide +kernel
theorem d_M_holders_18 : decode b_M_holders 18 = .ok (.iload_n 3, 1) := by decide +kernel
theorem d_M_holders_19 : decode b_M_holders 19 = .ok (.iaload, 1) := by decide +kernel
theorem d_M_holders_20 : decode b_M_holders 20 = .ok (.iload_n 1, 1) := by decide +kernel
theorem d_M_holders_21 : decode b_M_holders 21 = .ok (.invokestatic 80, 3) := by decide +kernel
theorem d_M_holders_24 : decode b_M_holders 24 = .ok (.ifCond .eq 9, 3) := by decide +kernel
theorem d_M_holders_27 : decode b_M_holders 27 = .ok (.iload_n 2, 1) := by decide +kernel
theorem d_M_holders_28 : decode b_M_holders 28 = .ok (.iconst 1, 1) := by decide +kernel
theorem d_M_holders_29 : decode b_M_holders 29 = .ok (.iadd, 1) := by decide +kernel
theorem d_M_holders_30 : decode b_M_holders 30 = .ok (.goto 4, 3) := by decide +kernel
theorem d_M_holders_33 : decode b_M_holders 33 = .ok (.iload_n 2, 1) := by decide +kernel
theorem d_M_holders_34 : decode b_M_holders 34 = .ok (.istore_n 2, 1) := by decide +kernel
theorem d_M_holders_35 : decode b_M_holders 35 = .ok (.iinc 3 1, 3) := by decide +kernel
theorem d_M_holders_38 : decode b_M_holders 38 = .ok (.goto (-34), 3) := by decide +kernel
theorem d_M_holders_41 : decode b_M_holders 41 = .ok (.iload_n 2, 1) := by decide +kernel
theorem d_M_holders_42 : decode b_M_holders 42 = .ok (.ireturn, 1) := by decide +kernel
theorem d_M_holderSites_0 : decode b_M_holderSites 0 = .ok (.iconst 0, 1) := by decide +kernel
theorem d_M_holderSites_1 : decode b_M_holderSites 1 = .ok (.istore_n 2, 1) := by decide +kernel
theorem d_M_holderSites_2 : decode b_M_holderSites 2 = .ok (.iconst 0, 1) := by decide +kernel
theorem d_M_holderSites_3 : decode b_M_holderSites 3 = .ok (.istore_n 3, 1) := by decide +kernel
theorem d_M_holderSites_4 : decode b_M_holderSites 4 = .ok (.iload_n 3, 1) := by decide +kernel
theorem d_M_holderSites_5 : decode b_M_holderSites 5 = .ok (.iconst 4, 1) := by decide +kernel
theorem d_M_holderSites_6 : decode b_M_holderSites 6 = .ok (.aload_n 0, 1) := by decide +kernel
theorem d_M_holderSites_7 : decode b_M_holderSites 7 = .ok (.getfield 52, 3) := by decide +kernel
theorem d_M_holderSites_10 : decode b_M_holderSites 10 = .ok (.imul, 1) := by decide +kernel
theorem d_M_holderSites_11 : decode b_M_holderSites 11 = .ok (.if_icmp .ge 34, 3) := by decide +kernel
theorem d_M_holderSites_14 : decode b_M_holderSites 14 = .ok (.aload_n 0, 1) := by decide +kernel
theorem d_M_holderSites_15 : decode b_M_holderSites 15 = .ok (.getfield 32, 3) := by decide +kernel
theorem d_M_holderSites_18 : decode b_M_holderSites 18 = .ok (.iload_n 3, 1) := by decide +kernel
theorem d_M_holderSites_19 : decode b_M_holderSites 19 = .ok (.iaload, 1) := by decide +kernel
theorem d_M_holderSites_20 : decode b_M_holderSites 20 = .ok (.iload_n 1, 1) := by decide +kernel
theorem d_M_holderSites_21 : decode b_M_holderSites 21 = .ok (.invokestatic 80, 3) := by decide +kernel
theorem d_M_holderSites_24 : decode b_M_holderSites 24 = .ok (.ifCond .eq 13, 3) := by decide +kernel
theorem d_M_holderSites_27 : decode b_M_holderSites 27 = .ok (.iload_n 2, 1) := by decide +kernel
theorem d_M_holderSites_28 : decode b_M_holderSites 28 = .ok (.iconst 1, 1) := by decide +kernel
theorem d_M_holderSites_29 : decode b_M_holderSites 29 = .ok (.iload_n 3, 1) := by decide +kernel
theorem d_M_holderSites_30 : decode b_M_holderSites 30 = .ok (.iconst 4, 1) := by decide +kernel
theorem d_M_holderSites_31 : decode b_M_holderSites 31 = .ok (.idiv, 1) := by decide +kernel
theorem d_M_holderSites_32 : decode b_M_holderSites 32 = .ok (.ishl, 1) := by decide +kernel
theorem d_M_holderSites_33 : decode b_M_holderSites 33 = .ok (.ior, 1) := by decide +kernel
theorem d_M_holderSites_34 : decode b_M_holderSites 34 = .ok (.goto 4, 3) := by decide +kernel
theorem d_M_holderSites_37 : decode b_M_holderSites 37 = .ok (.iload_n 2, 1) := by decide +kernel
theorem d_M_holderSites_38 : decode b_M_holderSites 38 = .ok (.istore_n 2, 1) := by decide +kernel
theorem d_M_holderSites_39 : decode b_M_holderSites 39 = .ok (.iinc 3 1, 3) := by decide +kernel
theorem d_M_holderSites_42 : decode b_M_holderSites 42 = .ok (.goto (-38), 3) := by decide +kernel
theorem d_M_holderSites_45 : decode b_M_holderSites 45 = .ok (.iload_n 2, 1) := by decide +kernel
theorem d_M_holderSites_46 : decode b_M_holderSites 46 = .ok (.ireturn, 1) := by decide +kernel
theorem d_M_storers_0 : decode b_M_storers 0 = .ok (.iconst 0, 1) := by decide +kernel
theorem d_M_storers_1 : decode b_M_storers 1 = .ok (.istore_n 2, 1) := by decide +kernel
theorem d_M_storers_2 : decode b_M_storers 2 = .ok (.iconst 0, 1) := by decide +kernel
theorem d_M_storers_3 : decode b_M_storers 3 = .ok (.istore_n 3, 1) := by decide +kernel
theorem d_M_storers_4 : decode b_M_storers 4 = .ok (.iload_n 3, 1) := by decide +kernel
theorem d_M_storers_5 : decode b_M_storers 5 = .ok (.aload_n 0, 1) := by decide +kernel
theorem d_M_storers_6 : decode b_M_storers 6 = .ok (.getfield 49, 3) := by decide +kernel
theorem d_M_storers_9 : decode b_M_storers 9 = .ok (.if_icmp .ge 79, 3) := by decide +kernel
theorem d_M_storers_12 : decode b_M_storers 12 = .ok (.aload_n 0, 1) := by decide +kernel
theorem d_M_storers_13 : decode b_M_storers 13 = .ok (.iload_n 3, 1) := by decide +kernel
theorem d_M_storers_14 : decode b_M_storers 14 = .ok (.invokevirtual 122, 3) := by decide +kernel
theorem d_M_storers_17 : decode b_M_storers 17 = .ok (.ifCond .eq 42, 3) := by decide +kernel
theorem d_M_storers_20 : decode b_M_storers 20 = .ok (.aload_n 0, 1) := by decide +kernel
theorem d_M_storers_21 : decode b_M_storers 21 = .ok (.getfield 17, 3) := by decide +kernel
theorem d_M_storers_24 : decode b_M_storers 24 = .ok (.iload_n 3, 1) := by decide +kernel
theorem d_M_storers_25 : decode b_M_storers 25 = .ok (.iaload, 1) := by decide +kernel
theorem d_M_storers_26 : decode b_M_storers 26 = .ok (.iconst 3, 1) := by decide +kernel
theorem d_M_storers_27 : decode b_M_storers 27 = .ok (.if_icmp .ne 32, 3) := by decide +kernel
theorem d_M_storers_30 : decode b_M_storers 30 = .ok (.aload_n 0, 1) := by decide +kernel
theorem d_M_storers_31 : decode b_M_storers 31 = .ok (.aload_n 0, 1) := by decide +kernel
theorem d_M_storers_32 : decode b_M_storers 32 = .ok (.getfield 13, 3) := by decide +kernel
theorem d_M_storers_35 : decode b_M_storers 35 = .ok (.iload_n 3, 1) := by decide +kernel
theorem d_M_storers_36 : decode b_M_storers 36 = .ok (.iaload, 1) := by decide +kernel
theorem d_M_storers_37 : decode b_M_storers 37 = .ok (.aload_n 0, 1) := by decide +kernel
theorem d_M_storers_38 : decode b_M_storers 38 = .ok (.getfield 23, 3) := by decide +kernel
theorem d_M_storers_41 : decode b_M_storers 41 = .ok (.iconst 5, 1) := by decide +kernel
theorem d_M_storers_42 : decode b_M_storers 42 = .ok (.iload_n 3, 1) := by decide +kernel
theorem d_M_storers_43 : decode b_M_storers 43 = .ok (.imul, 1) := by decide +kernel
theorem d_M_storers_44 : decode b_M_storers 44 = .ok (.iaload, 1) := by decide +kernel
theorem d_M_storers_45 : decode b_M_storers 45 = .ok (.invokevirtual 106, 3) := by decide +kernel
theorem d_M_storers_48 : decode b_M_storers 48 = .ok (.iload_n 1, 1) := by decide +kernel
theorem d_M_storers_49 : decode b_M_storers 49 = .ok (.invokestatic 80, 3) := by decide +kernel
theorem d_M_storers_52 : decode b_M_storers 52 = .ok (.ifCond .eq 7, 3) := by decide +kernel
theorem d_M_storers_55 : decode b_M_storers 55 = .ok (.iconst 1, 1) := by decide +kernel
theorem d_M_storers_56 : decode b_M_storers 56 = .ok (.goto 4, 3) := by decide +kernel
theorem d_M_storers_59 : decode b_M_storers 59 = .ok (.iconst 0, 1) := by decide +kernel
theorem d_M_storers_60 : decode b_M_storers 60 = .ok (.istore 4, 2) := by decide +kernel
theorem d_M_storers_62 : decode b_M_storers 62 = .ok (.iload 4, 2) := by decide +kernel
theorem d_M_storers_64 : decode b_M_storers 64 = .ok (.ifCond .eq 16, 3) := by decide +kernel
theorem d_M_storers_67 : decode b_M_storers 67 = .ok (.iload_n 2, 1) := by decide +kernel
theorem d_M_storers_68 : decode b_M_storers 68 = .ok (.iconst 1, 1) := by decide +kernel
theorem d_M_storers_69 : decode b_M_storers 69 = .ok (.aload_n 0, 1) := by decide +kernel
theorem d_M_storers_70 : decode b_M_storers 70 = .ok (.getfield 13, 3) := by decide +kernel
theorem d_M_storers_73 : decode b_M_storers 73 = .ok (.iload_n 3, 1) := by decide +kernel
theorem d_M_storers_74 : decode b_M_storers 74 = .ok (.iaload, 1) := by decide +kernel
theorem d_M_storers_75 : decode b_M_storers 75 = .ok (.ishl, 1) := by decide +kernel
theorem d_M_storers_76 : decode b_M_storers 76 = .ok (.ior, 1) := by decide +kernel
theorem d_M_storers_77 : decode b_M_storers 77 = .ok (.goto 4, 3) := by decide +kernel
theorem d_M_storers_80 : decode b_M_storers 80 = .ok (.iload_n 2, 1) := by decide +kernel
theorem d_M_storers_81 : decode b_M_storers 81 = .ok (.istore_n 2, 1) := by decide +kernel
theorem d_M_storers_82 : decode b_M_storers 82 = .ok (.iinc 3 1, 3) := by decide +kernel
theorem d_M_storers_85 : decode b_M_storers 85 = .ok (.goto (-81), 3) := by decide +kernel
theorem d_M_storers_88 : decode b_M_storers 88 = .ok (.iload_n 2, 1) := by decide +kernel
theorem d_M_storers_89 : decode b_M_storers 89 = .ok (.ireturn, 1) := by decide +kernel
theorem d_M_namers_0 : decode b_M_namers 0 = .ok (.iconst 0, 1) := by decide +kernel
theorem d_M_namers_1 : decode b_M_namers 1 = .ok (.istore_n 2, 1) := by decide +kernel
theorem d_M_namers_2 : decode b_M_namers 2 = .ok (.iconst 0, 1) := by decide +kernel
theorem d_M_namers_3 : decode b_M_namers 3 = .ok (.istore_n 3, 1) := by decide +kernel
theorem d_M_namers_4 : decode b_M_namers 4 = .ok (.iload_n 3, 1) := by decide +kernel
theorem d_M_namers_5 : decode b_M_namers 5 = .ok (.bipush 64, 2) := by decide +kernel
theorem d_M_namers_7 : decode b_M_namers 7 = .ok (.if_icmp .ge 35, 3) := by decide +kernel
theorem d_M_namers_10 : decode b_M_namers 10 = .ok (.aload_n 0, 1) := by decide +kernel
theorem d_M_namers_11 : decode b_M_namers 11 = .ok (.getfield 29, 3) := by decide +kernel
theorem d_M_namers_14 : decode b_M_namers 14 = .ok (.iload_n 3, 1) := by decide +kernel
theorem d_M_namers_15 : decode b_M_namers 15 = .ok (.iaload, 1) := by decide +kernel
theorem d_M_namers_16 : decode b_M_namers 16 = .ok (.iload_n 1, 1) := by decide +kernel
theorem d_M_namers_17 : decode b_M_namers 17 = .ok (.invokestatic 80, 3) := by decide +kernel
theorem d_M_namers_20 : decode b_M_namers 20 = .ok (.ifCond .eq 14, 3) := by decide +kernel
theorem d_M_namers_23 : decode b_M_namers 23 = .ok (.iload_n 2, 1) := by decide +kernel
theorem d_M_namers_24 : decode b_M_namers 24 = .ok (.iconst 1, 1) := by decide +kernel
theorem d_M_namers_25 : decode b_M_namers 25 = .ok (.iload_n 3, 1) := by decide +kernel
theorem d_M_namers_26 : decode b_M_namers 26 = .ok (.bipush 8, 2) := by decide +kernel
theorem d_M_namers_28 : decode b_M_namers 28 = .ok (.idiv, 1) := by decide +kernel
theorem d_M_namers_29 : decode b_M_namers 29 = .ok (.ishl, 1) := by decide +kernel
theorem d_M_namers_30 : decode b_M_namers 30 = .ok (.ior, 1) := by decide +kernel
theorem d_M_namers_31 : decode b_M_namers 31 = .ok (.goto 4, 3) := by decide +kernel
theorem d_M_namers_34 : decode b_M_namers 34 = .ok (.iload_n 2, 1) := by decide +kernel
theorem d_M_namers_35 : decode b_M_namers 35 = .ok (.istore_n 2, 1) := by decide +kernel
theorem d_M_namers_36 : decode b_M_namers 36 = .ok (.iinc 3 1, 3) := by decide +kernel
theorem d_M_namers_39 : decode b_M_namers 39 = .ok (.goto (-35), 3) := by decide +kernel
theorem d_M_namers_42 : decode b_M_namers 42 = .ok (.iload_n 2, 1) := by decide +kernel
theorem d_M_namers_43 : decode b_M_namers 43 = .ok (.ireturn, 1) := by decide +kernel
theorem d_M_isLiveSite_0 : decode b_M_isLiveSite 0 = .ok (.aload_n 0, 1) := by decide +kernel
theorem d_M_isLiveSite_1 : decode b_M_isLiveSite 1 = .ok (.getfield 90, 3) := by decide +kernel
theorem d_M_isLiveSite_4 : decode b_M_isLiveSite 4 = .ok (.aload_n 0, 1) := by decide +kernel
theorem d_M_isLiveSite_5 : decode b_M_isLiveSite 5 = .ok (.iload_n 1, 1) := by decide +kernel
theorem d_M_isLiveSite_6 : decode b_M_isLiveSite 6 = .ok (.invokevirtual 145, 3) := by decide +kernel
theorem d_M_isLiveSite_9 : decode b_M_isLiveSite 9 = .ok (.invokestatic 80, 3) := by decide +kernel
theorem d_M_isLiveSite_12 : decode b_M_isLiveSite 12 = .ok (.ireturn, 1) := by decide +kernel
theorem d_M_of_0 : decode b_M_of 0 = .ok (.aload_n 0, 1) := by decide +kernel
theorem d_M_of_1 : decode b_M_of 1 = .ok (.iload_n 1, 1) := by decide +kernel
theorem d_M_of_2 : decode b_M_of 2 = .ok (.invokevirtual 129, 3) := by decide +kernel
theorem d_M_of_5 : decode b_M_of 5 = .ok (.ifCond .eq 13, 3) := by decide +kernel
theorem d_M_of_8 : decode b_M_of 8 = .ok (.iload_n 2, 1) := by decide +kernel
theorem d_M_of_9 : decode b_M_of 9 = .ok (.iconst 0, 1) := by decide +kernel
theorem d_M_of_10 : decode b_M_of 10 = .ok (.bipush 6, 2) := by decide +kernel
theorem d_M_of_12 : decode b_M_of 12 = .ok (.invokestatic 55, 3) := by decide +kernel
theorem d_M_of_15 : decode b_M_of 15 = .ok (.ifCond .ne 6, 3) := by decide +kernel
theorem d_M_of_18 : decode b_M_of 18 = .ok (.bipush (-2), 2) := by decide +kernel
theorem d_M_of_20 : decode b_M_of 20 = .ok (.ireturn, 1) := by decide +kernel
theorem d_M_of_21 : decode b_M_of 21 = .ok (.aload_n 0, 1) := by decide +kernel
theorem d_M_of_22 : decode b_M_of 22 = .ok (.invokevirtual 87, 3) := by decide +kernel
theorem d_M_of_25 : decode b_M_of 25 = .ok (.iload_n 2, 1) := by decide +kernel
theorem d_M_of_26 : decode b_M_of 26 = .ok (.tableswitch 75 0 5 #[38, 44, 51, 57, 63, 69], 38) := by decide +kernel
theorem d_M_of_64 : decode b_M_of 64 = .ok (.aload_n 0, 1) := by decide +kernel
theorem d_M_of_65 : decode b_M_of 65 = .ok (.iload_n 1, 1) := by decide +kernel
theorem d_M_of_66 : decode b_M_of 66 = .ok (.invokevirtual 145, 3) := by decide +kernel
theorem d_M_of_69 : decode b_M_of 69 = .ok (.ireturn, 1) := by decide +kernel
theorem d_M_of_70 : decode b_M_of 70 = .ok (.aload_n 0, 1) := by decide +kernel
theorem d_M_of_71 : decode b_M_of 71 = .ok (.getfield 26, 3) := by decide +kernel
theorem d_M_of_74 : decode b_M_of 74 = .ok (.iload_n 1, 1) := by decide +kernel
theorem d_M_of_75 : decode b_M_of 75 = .ok (.iaload, 1) := by decide +kernel
theorem d_M_of_76 : decode b_M_of 76 = .ok (.ireturn, 1) := by decide +kernel
theorem d_M_of_77 : decode b_M_of 77 = .ok (.aload_n 0, 1) := by decide +kernel
theorem d_M_of_78 : decode b_M_of 78 = .ok (.iload_n 1, 1) := by decide +kernel
theorem d_M_of_79 : decode b_M_of 79 = .ok (.invokevirtual 154, 3) := by decide +kernel
theorem d_M_of_82 : decode b_M_of 82 = .ok (.ireturn, 1) := by decide +kernel
theorem d_M_of_83 : decode b_M_of 83 = .ok (.aload_n 0, 1) := by decide +kernel
theorem d_M_of_84 : decode b_M_of 84 = .ok (.iload_n 1, 1) := by decide +kernel
theorem d_M_of_85 : decode b_M_of 85 = .ok (.invokevirtual 157, 3) := by decide +kernel
theorem d_M_of_88 : decode b_M_of 88 = .ok (.ireturn, 1) := by decide +kernel
theorem d_M_of_89 : decode b_M_of 89 = .ok (.aload_n 0, 1) := by decide +kernel
theorem d_M_of_90 : decode b_M_of 90 = .ok (.iload_n 1, 1) := by decide +kernel
theorem d_M_of_91 : decode b_M_of 91 = .ok (.invokevirtual 160, 3) := by decide +kernel
theorem d_M_of_94 : decode b_M_of 94 = .ok (.ireturn, 1) := by decide +kernel
theorem d_M_of_95 : decode b_M_of 95 = .ok (.aload_n 0, 1) := by decide +kernel
theorem d_M_of_96 : decode b_M_of 96 = .ok (.iload_n 1, 1) := by decide +kernel
theorem d_M_of_97 : decode b_M_of 97 = .ok (.invokevirtual 163, 3) := by decide +kernel
theorem d_M_of_100 : decode b_M_of 100 = .ok (.ireturn, 1) := by decide +kernel
theorem d_M_of_101 : decode b_M_of 101 = .ok (.aload_n 0, 1) := by decide +kernel
theorem d_M_of_102 : decode b_M_of 102 = .ok (.iload_n 1, 1) := by decide +kernel
theorem d_M_of_103 : decode b_M_of 103 = .ok (.invokevirtual 166, 3) := by decide +kernel
theorem d_M_of_106 : decode b_M_of 106 = .ok (.ireturn, 1) := by decide +kernel
theorem d_M_isKind_0 : decode b_M_isKind 0 = .ok (.iload_n 1, 1) := by decide +kernel
theorem d_M_isKind_1 : decode b_M_isKind 1 = .ok (.tableswitch 74 4 7 #[31, 33, 42, 48], 31) := by decide +kernel
theorem d_M_isKind_32 : decode b_M_isKind 32 = .ok (.iconst 1, 1) := by decide +kernel
theorem d_M_isKind_33 : decode b_M_isKind 33 = .ok (.ireturn, 1) := by decide +kernel
theorem d_M_isKind_34 : decode b_M_isKind 34 = .ok (.aload_n 0, 1) := by decide +kernel
theorem d_M_isKind_35 : decode b_M_isKind 35 = .ok (.invokevirtual 148, 3) := by decide +kernel
theorem d_M_isKind_38 : decode b_M_isKind 38 = .ok (.iload_n 2, 1) := by decide +kernel
theorem d_M_isKind_39 : decode b_M_isKind 39 = .ok (.invokestatic 80, 3) := by decide +kernel
theorem d_M_isKind_42 : decode b_M_isKind 42 = .ok (.ireturn, 1) := by decide +kernel
theorem d_M_isKind_43 : decode b_M_isKind 43 = .ok (.aload_n 0, 1) := by decide +kernel
theorem d_M_isKind_44 : decode b_M_isKind 44 = .ok (.iload_n 2, 1) := by decide +kernel
theorem d_M_isKind_45 : decode b_M_isKind 45 = .ok (.invokevirtual 169, 3) := by decide +kernel
theorem d_M_isKind_48 : decode b_M_isKind 48 = .ok (.ireturn, 1) := by decide +kernel
theorem d_M_isKind_49 : decode b_M_isKind 49 = .ok (.aload_n 0, 1) := by decide +kernel
theorem d_M_isKind_50 : decode b_M_isKind 50 = .ok (.iload_n 2, 1) := by decide +kernel
theorem d_M_isKind_51 : decode b_M_isKind 51 = .ok (.invokevirtual 157, 3) := by decide +kernel
theorem d_M_isKind_54 : decode b_M_isKind 54 = .ok (.iconst 1, 1) := by decide +kernel
theorem d_M_isKind_55 : decode b_M_isKind 55 = .ok (.if_icmp .ne 18, 3) := by decide +kernel
theorem d_M_isKind_58 : decode b_M_isKind 58 = .ok (.aload_n 0, 1) := by decide +kernel
theorem d_M_isKind_59 : decode b_M_isKind 59 = .ok (.invokevirtual 135, 3) := by decide +kernel
theorem d_M_isKind_62 : decode b_M_isKind 62 = .ok (.iload_n 2, 1) := by decide +kernel
theorem d_M_isKind_63 : decode b_M_isKind 63 = .ok (.invokestatic 80, 3) := by decide +kernel
theorem d_M_isKind_66 : decode b_M_isKind 66 = .ok (.ifCond .ne 7, 3) := by decide +kernel
theorem d_M_isKind_69 : decode b_M_isKind 69 = .ok (.iconst 1, 1) := by decide +kernel
theorem d_M_isKind_70 : decode b_M_isKind 70 = .ok (.goto 4, 3) := by decide +kernel
theorem d_M_isKind_73 : decode b_M_isKind 73 = .ok (.iconst 0, 1) := by decide +kernel
theorem d_M_isKind_74 : decode b_M_isKind 74 = .ok (.ireturn, 1) := by decide +kernel
theorem d_M_isKind_75 : decode b_M_isKind 75 = .ok (.aload_n 0, 1) := by decide +kernel
theorem d_M_isKind_76 : decode b_M_isKind 76 = .ok (.iload_n 2, 1) := by decide +kernel
theorem d_M_isKind_77 : decode b_M_isKind 77 = .ok (.invokevirtual 166, 3) := by decide +kernel
theorem d_M_isKind_80 : decode b_M_isKind 80 = .ok (.iconst 1, 1) := by decide +kernel
theorem d_M_isKind_81 : decode b_M_isKind 81 = .ok (.aload_n 0, 1) := by decide +kernel
theorem d_M_isKind_82 : decode b_M_isKind 82 = .ok (.iload_n 2, 1) := by decide +kernel
theorem d_M_isKind_83 : decode b_M_isKind 83 = .ok (.invokevirtual 145, 3) := by decide +kernel
theorem d_M_isKind_86 : decode b_M_isKind 86 = .ok (.ishl, 1) := by decide +kernel
theorem d_M_isKind_87 : decode b_M_isKind 87 = .ok (.iconst (-1), 1) := by decide +kernel
theorem d_M_isKind_88 : decode b_M_isKind 88 = .ok (.ixor, 1) := by decide +kernel
theorem d_M_isKind_89 : decode b_M_isKind 89 = .ok (.iand, 1) := by decide +kernel
theorem d_M_isKind_90 : decode b_M_isKind 90 = .ok (.ifCond .ne 7, 3) := by decide +kernel
theorem d_M_isKind_93 : decode b_M_isKind 93 = .ok (.iconst 1, 1) := by decide +kernel
theorem d_M_isKind_94 : decode b_M_isKind 94 = .ok (.goto 4, 3) := by decide +kernel
theorem d_M_isKind_97 : decode b_M_isKind 97 = .ok (.iconst 0, 1) := by decide +kernel
theorem d_M_isKind_98 : decode b_M_isKind 98 = .ok (.ireturn, 1) := by decide +kernel
theorem d_M_sitesOf_0 : decode b_M_sitesOf 0 = .ok (.iconst 0, 1) := by decide +kernel
theorem d_M_sitesOf_1 : decode b_M_sitesOf 1 = .ok (.istore_n 2, 1) := by decide +kernel
theorem d_M_sitesOf_2 : decode b_M_sitesOf 2 = .ok (.iconst 0, 1) := by decide +kernel
theorem d_M_sitesOf_3 : decode b_M_sitesOf 3 = .ok (.istore_n 3, 1) := by decide +kernel
theorem d_M_sitesOf_4 : decode b_M_sitesOf 4 = .ok (.iload_n 3, 1) := by decide +kernel
theorem d_M_sitesOf_5 : decode b_M_sitesOf 5 = .ok (.aload_n 0, 1) := by decide +kernel
theorem d_M_sitesOf_6 : decode b_M_sitesOf 6 = .ok (.getfield 52, 3) := by decide +kernel
theorem d_M_sitesOf_9 : decode b_M_sitesOf 9 = .ok (.if_icmp .ge 36, 3) := by decide +kernel
theorem d_M_sitesOf_12 : decode b_M_sitesOf 12 = .ok (.aload_n 0, 1) := by decide +kernel
theorem d_M_sitesOf_13 : decode b_M_sitesOf 13 = .ok (.iload_n 3, 1) := by decide +kernel
theorem d_M_sitesOf_14 : decode b_M_sitesOf 14 = .ok (.invokevirtual 172, 3) := by decide +kernel
theorem d_M_sitesOf_17 : decode b_M_sitesOf 17 = .ok (.ifCond .eq 20, 3) := by decide +kernel
theorem d_M_sitesOf_20 : decode b_M_sitesOf 20 = .ok (.aload_n 0, 1) := by decide +kernel
theorem d_M_sitesOf_21 : decode b_M_sitesOf 21 = .ok (.iload_n 1, 1) := by decide +kernel
theorem d_M_sitesOf_22 : decode b_M_sitesOf 22 = .ok (.iload_n 3, 1) := by decide +kernel
theorem d_M_sitesOf_23 : decode b_M_sitesOf 23 = .ok (.invokevirtual 175, 3) := by decide +kernel
theorem d_M_sitesOf_26 : decode b_M_sitesOf 26 = .ok (.ifCond .eq 11, 3) := by decide +kernel
theorem d_M_sitesOf_29 : decode b_M_sitesOf 29 = .ok (.iload_n 2, 1) := by decide +kernel
theorem d_M_sitesOf_30 : decode b_M_sitesOf 30 = .ok (.iconst 1, 1) := by decide +kernel
theorem d_M_sitesOf_31 : decode b_M_sitesOf 31 = .ok (.iload_n 3, 1) := by decide +kernel
theorem d_M_sitesOf_32 : decode b_M_sitesOf 32 = .ok (.ishl, 1) := by decide +kernel
theorem d_M_sitesOf_33 : decode b_M_sitesOf 33 = .ok (.ior, 1) := by decide +kernel
theorem d_M_sitesOf_34 : decode b_M_sitesOf 34 = .ok (.goto 4, 3) := by decide +kernel
theorem d_M_sitesOf_37 : decode b_M_sitesOf 37 = .ok (.iload_n 2, 1) := by decide +kernel
theorem d_M_sitesOf_38 : decode b_M_sitesOf 38 = .ok (.istore_n 2, 1) := by decide +kernel
theorem d_M_sitesOf_39 : decode b_M_sitesOf 39 = .ok (.iinc 3 1, 3) := by decide +kernel
theorem d_M_sitesOf_42 : decode b_M_sitesOf 42 = .ok (.goto (-38), 3) := by decide +kernel
theorem d_M_sitesOf_45 : decode b_M_sitesOf 45 = .ok (.iload_n 2, 1) := by decide +kernel
theorem d_M_sitesOf_46 : decode b_M_sitesOf 46 = .ok (.ireturn, 1) := by decide +kernel
theorem d_M_isFresh_0 : decode b_M_isFresh 0 = .ok (.aload_n 0, 1) := by decide +kernel
theorem d_M_isFresh_1 : decode b_M_isFresh 1 = .ok (.getfield 38, 3) := by decide +kernel
theorem d_M_isFresh_4 : decode b_M_isFresh 4 = .ok (.iload_n 1, 1) := by decide +kernel
theorem d_M_isFresh_5 : decode b_M_isFresh 5 = .ok (.iaload, 1) := by decide +kernel
theorem d_M_isFresh_6 : decode b_M_isFresh 6 = .ok (.istore_n 2, 1) := by decide +kernel
theorem d_M_isFresh_7 : decode b_M_isFresh 7 = .ok (.iload_n 2, 1) := by decide +kernel
theorem d_M_isFresh_8 : decode b_M_isFresh 8 = .ok (.ifCond .eq 22, 3) := by decide +kernel
theorem d_M_isFresh_11 : decode b_M_isFresh 11 = .ok (.iload_n 2, 1) := by decide +kernel
theorem d_M_isFresh_12 : decode b_M_isFresh 12 = .ok (.aload_n 0, 1) := by decide +kernel
theorem d_M_isFresh_13 : decode b_M_isFresh 13 = .ok (.invokevirtual 148, 3) := by decide +kernel
theorem d_M_isFresh_16 : decode b_M_isFresh 16 = .ok (.aload_n 0, 1) := by decide +kernel
theorem d_M_isFresh_17 : decode b_M_isFresh 17 = .ok (.iload_n 1, 1) := by decide +kernel
theorem d_M_isFresh_18 : decode b_M_isFresh 18 = .ok (.invokevirtual 151, 3) := by decide +kernel
theorem d_M_isFresh_21 : decode b_M_isFresh 21 = .ok (.ior, 1) := by decide +kernel
theorem d_M_isFresh_22 : decode b_M_isFresh 22 = .ok (.iand, 1) := by decide +kernel
theorem d_M_isFresh_23 : decode b_M_isFresh 23 = .ok (.ifCond .ne 7, 3) := by decide +kernel
theorem d_M_isFresh_26 : decode b_M_isFresh 26 = .ok (.iconst 1, 1) := by decide +kernel
theorem d_M_isFresh_27 : decode b_M_isFresh 27 = .ok (.goto 4, 3) := by decide +kernel
theorem d_M_isFresh_30 : decode b_M_isFresh 30 = .ok (.iconst 0, 1) := by decide +kernel
theorem d_M_isFresh_31 : decode b_M_isFresh 31 = .ok (.istore_n 3, 1) := by decide +kernel
theorem d_M_isFresh_32 : decode b_M_isFresh 32 = .ok (.iconst 0, 1) := by decide +kernel
theorem d_M_isFresh_33 : decode b_M_isFresh 33 = .ok (.istore 4, 2) := by decide +kernel
theorem d_M_isFresh_35 : decode b_M_isFresh 35 = .ok (.iload 4, 2) := by decide +kernel
theorem d_M_isFresh_37 : decode b_M_isFresh 37 = .ok (.aload_n 0, 1) := by decide +kernel
theorem d_M_isFresh_38 : decode b_M_isFresh 38 = .ok (.getfield 52, 3) := by decide +kernel
theorem d_M_isFresh_41 : decode b_M_isFresh 41 = .ok (.if_icmp .ge 47, 3) := by decide +kernel
theorem d_M_isFresh_44 : decode b_M_isFresh 44 = .ok (.iload_n 3, 1) := by decide +kernel
theorem d_M_isFresh_45 : decode b_M_isFresh 45 = .ok (.ifCond .eq 35, 3) := by decide +kernel
theorem d_M_isFresh_48 : decode b_M_isFresh 48 = .ok (.iload_n 2, 1) := by decide +kernel
theorem d_M_isFresh_49 : decode b_M_isFresh 49 = .ok (.iload 4, 2) := by decide +kernel
theorem d_M_isFresh_51 : decode b_M_isFresh 51 = .ok (.invokestatic 80, 3) := by decide +kernel
theorem d_M_isFresh_54 : decode b_M_isFresh 54 = .ok (.ifCond .eq 22, 3) := by decide +kernel
theorem d_M_isFresh_57 : decode b_M_isFresh 57 = .ok (.aload_n 0, 1) := by decide +kernel
theorem d_M_isFresh_58 : decode b_M_isFresh 58 = .ok (.iload 4, 2) := by decide +kernel
theorem d_M_isFresh_60 : decode b_M_isFresh 60 = .ok (.invokevirtual 145, 3) := by decide +kernel
theorem d_M_isFresh_63 : decode b_M_isFresh 63 = .ok (.iload_n 1, 1) := by decide +kernel
theorem d_M_isFresh_64 : decode b_M_isFresh 64 = .ok (.if_icmp .ne 16, 3) := by decide +kernel
theorem d_M_isFresh_67 : decode b_M_isFresh 67 = .ok (.aload_n 0, 1) := by decide +kernel
theorem d_M_isFresh_68 : decode b_M_isFresh 68 = .ok (.iload 4, 2) := by decide +kernel
theorem d_M_isFresh_70 : decode b_M_isFresh 70 = .ok (.invokevirtual 157, 3) := by decide +kernel
theorem d_M_isFresh_73 : decode b_M_isFresh 73 = .ok (.ifCond .ne 7, 3) := by decide +kernel
theorem d_M_isFresh_76 : decode b_M_isFresh 76 = .ok (.iconst 1, 1) := by decide +kernel
theorem d_M_isFresh_77 : decode b_M_isFresh 77 = .ok (.goto 4, 3) := by decide +kernel
theorem d_M_isFresh_80 : decode b_M_isFresh 80 = .ok (.iconst 0, 1) := by decide +kernel
theorem d_M_isFresh_81 : decode b_M_isFresh 81 = .ok (.istore_n 3, 1) := by decide +kernel
theorem d_M_isFresh_82 : decode b_M_isFresh 82 = .ok (.iinc 4 1, 3) := by decide +kernel
theorem d_M_isFresh_85 : decode b_M_isFresh 85 = .ok (.goto (-50), 3) := by decide +kernel
theorem d_M_isFresh_88 : decode b_M_isFresh 88 = .ok (.iload_n 3, 1) := by decide +kernel
theorem d_M_isFresh_89 : decode b_M_isFresh 89 = .ok (.ireturn, 1) := by decide +kernel
theorem d_M_madeBy_0 : decode b_M_madeBy 0 = .ok (.iconst 0, 1) := by decide +kernel
theorem d_M_madeBy_1 : decode b_M_madeBy 1 = .ok (.istore_n 2, 1) := by decide +kernel
theorem d_M_madeBy_2 : decode b_M_madeBy 2 = .ok (.iconst 0, 1) := by decide +kernel
theorem d_M_madeBy_3 : decode b_M_madeBy 3 = .ok (.istore_n 3, 1) := by decide +kernel
theorem d_M_madeBy_4 : decode b_M_madeBy 4 = .ok (.iload_n 3, 1) := by decide +kernel
theorem d_M_madeBy_5 : decode b_M_madeBy 5 = .ok (.aload_n 0, 1) := by decide +kernel
theorem d_M_madeBy_6 : decode b_M_madeBy 6 = .ok (.getfield 52, 3) := by decide +kernel
theorem d_M_madeBy_9 : decode b_M_madeBy 9 = .ok (.if_icmp .ge 31, 3) := by decide +kernel
theorem d_M_madeBy_12 : decode b_M_madeBy 12 = .ok (.iload_n 1, 1) := by decide +kernel
theorem d_M_madeBy_13 : decode b_M_madeBy 13 = .ok (.aload_n 0, 1) := by decide +kernel
theorem d_M_madeBy_14 : decode b_M_madeBy 14 = .ok (.iload_n 3, 1) := by decide +kernel
theorem d_M_madeBy_15 : decode b_M_madeBy 15 = .ok (.invokevirtual 145, 3) := by decide +kernel
theorem d_M_madeBy_18 : decode b_M_madeBy 18 = .ok (.invokestatic 80, 3) := by decide +kernel
theorem d_M_madeBy_21 : decode b_M_madeBy 21 = .ok (.ifCond .eq 11, 3) := by decide +kernel
theorem d_M_madeBy_24 : decode b_M_madeBy 24 = .ok (.iload_n 2, 1) := by decide +kernel
theorem d_M_madeBy_25 : decode b_M_madeBy 25 = .ok (.iconst 1, 1) := by decide +kernel
theorem d_M_madeBy_26 : decode b_M_madeBy 26 = .ok (.iload_n 3, 1) := by decide +kernel
theorem d_M_madeBy_27 : decode b_M_madeBy 27 = .ok (.ishl, 1) := by decide +kernel
theorem d_M_madeBy_28 : decode b_M_madeBy 28 = .ok (.ior, 1) := by decide +kernel
theorem d_M_madeBy_29 : decode b_M_madeBy 29 = .ok (.goto 4, 3) := by decide +kernel
theorem d_M_madeBy_32 : decode b_M_madeBy 32 = .ok (.iload_n 2, 1) := by decide +kernel
theorem d_M_madeBy_33 : decode b_M_madeBy 33 = .ok (.istore_n 2, 1) := by decide +kernel
theorem d_M_madeBy_34 : decode b_M_madeBy 34 = .ok (.iinc 3 1, 3) := by decide +kernel
theorem d_M_madeBy_37 : decode b_M_madeBy 37 = .ok (.goto (-33), 3) := by decide +kernel
theorem d_M_madeBy_40 : decode b_M_madeBy 40 = .ok (.iload_n 2, 1) := by decide +kernel
theorem d_M_madeBy_41 : decode b_M_madeBy 41 = .ok (.ireturn, 1) := by decide +kernel
theorem d_M_isPure_0 : decode b_M_isPure 0 = .ok (.aload_n 0, 1) := by decide +kernel
theorem d_M_isPure_1 : decode b_M_isPure 1 = .ok (.iconst 1, 1) := by decide +kernel
theorem d_M_isPure_2 : decode b_M_isPure 2 = .ok (.iload_n 1, 1) := by decide +kernel
theorem d_M_isPure_3 : decode b_M_isPure 3 = .ok (.ishl, 1) := by decide +kernel
theorem d_M_isPure_4 : decode b_M_isPure 4 = .ok (.invokevirtual 93, 3) := by decide +kernel
theorem d_M_isPure_7 : decode b_M_isPure 7 = .ok (.istore_n 2, 1) := by decide +kernel
theorem d_M_isPure_8 : decode b_M_isPure 8 = .ok (.aload_n 0, 1) := by decide +kernel
theorem d_M_isPure_9 : decode b_M_isPure 9 = .ok (.iload_n 2, 1) := by decide +kernel
theorem d_M_isPure_10 : decode b_M_isPure 10 = .ok (.invokevirtual 178, 3) := by decide +kernel
theorem d_M_isPure_13 : decode b_M_isPure 13 = .ok (.istore_n 3, 1) := by decide +kernel
theorem d_M_isPure_14 : decode b_M_isPure 14 = .ok (.iconst 1, 1) := by decide +kernel
theorem d_M_isPure_15 : decode b_M_isPure 15 = .ok (.istore 4, 2) := by decide +kernel
theorem d_M_isPure_17 : decode b_M_isPure 17 = .ok (.iconst 0, 1) := by decide +kernel
theorem d_M_isPure_18 : decode b_M_isPure 18 = .ok (.istore 5, 2) := by decide +kernel
theorem d_M_isPure_20 : decode b_M_isPure 20 = .ok (.iload 5, 2) := by decide +kernel
theorem d_M_isPure_22 : decode b_M_isPure 22 = .ok (.aload_n 0, 1) := by decide +kernel
theorem d_M_isPure_23 : decode b_M_isPure 23 = .ok (.getfield 49, 3) := by decide +kernel
theorem d_M_isPure_26 : decode b_M_isPure 26 = .ok (.if_icmp .ge 109, 3) := by decide +kernel
theorem d_M_isPure_29 : decode b_M_isPure 29 = .ok (.aload_n 0, 1) := by decide +kernel
theorem d_M_isPure_30 : decode b_M_isPure 30 = .ok (.getfield 17, 3) := by decide +kernel
theorem d_M_isPure_33 : decode b_M_isPure 33 = .ok (.iload 5, 2) := by decide +kernel
theorem d_M_isPure_35 : decode b_M_isPure 35 = .ok (.iaload, 1) := by decide +kernel
theorem d_M_isPure_36 : decode b_M_isPure 36 = .ok (.istore 6, 2) := by decide +kernel
theorem d_M_isPure_38 : decode b_M_isPure 38 = .ok (.iload 6, 2) := by decide +kernel
theorem d_M_isPure_40 : decode b_M_isPure 40 = .ok (.iconst 5, 1) := by decide +kernel
theorem d_M_isPure_41 : decode b_M_isPure 41 = .ok (.if_icmp .eq 50, 3) := by decide +kernel
theorem d_M_isPure_44 : decode b_M_isPure 44 = .ok (.iload 6, 2) := by decide +kernel
theorem d_M_isPure_46 : decode b_M_isPure 46 = .ok (.bipush 8, 2) := by decide +kernel
theorem d_M_isPure_48 : decode b_M_isPure 48 = .ok (.if_icmp .eq 43, 3) := by decide +kernel
theorem d_M_isPure_51 : decode b_M_isPure 51 = .ok (.iload 6, 2) := by decide +kernel
theorem d_M_isPure_53 : decode b_M_isPure 53 = .ok (.bipush 9, 2) := by decide +kernel
theorem d_M_isPure_55 : decode b_M_isPure 55 = .ok (.if_icmp .eq 36, 3) := by decide +kernel
theorem d_M_isPure_58 : decode b_M_isPure 58 = .ok (.iload 6, 2) := by decide +kernel
theorem d_M_isPure_60 : decode b_M_isPure 60 = .ok (.iconst 3, 1) := by decide +kernel
theorem d_M_isPure_61 : decode b_M_isPure 61 = .ok (.if_icmp .ne 34, 3) := by decide +kernel
theorem d_M_isPure_64 : decode b_M_isPure 64 = .ok (.aload_n 0, 1) := by decide +kernel
theorem d_M_isPure_65 : decode b_M_isPure 65 = .ok (.aload_n 0, 1) := by decide +kernel
theorem d_M_isPure_66 : decode b_M_isPure 66 = .ok (.getfield 13, 3) := by decide +kernel
theorem d_M_isPure_69 : decode b_M_isPure 69 = .ok (.iload 5, 2) := by decide +kernel
theorem d_M_isPure_71 : decode b_M_isPure 71 = .ok (.iaload, 1) := by decide +kernel
theorem d_M_isPure_72 : decode b_M_isPure 72 = .ok (.aload_n 0, 1) := by decide +kernel
theorem d_M_isPure_73 : decode b_M_isPure 73 = .ok (.getfield 23, 3) := by decide +kernel
theorem d_M_isPure_76 : decode b_M_isPure 76 = .ok (.iconst 5, 1) := by decide +kernel
theorem d_M_isPure_77 : decode b_M_isPure 77 = .ok (.iload 5, 2) := by decide +kernel
theorem d_M_isPure_79 : decode b_M_isPure 79 = .ok (.imul, 1) := by decide +kernel
theorem d_M_isPure_80 : decode b_M_isPure 80 = .ok (.iaload, 1) := by decide +kernel
theorem d_M_isPure_81 : decode b_M_isPure 81 = .ok (.invokevirtual 106, 3) := by decide +kernel
theorem d_M_isPure_84 : decode b_M_isPure 84 = .ok (.iload_n 3, 1) := by decide +kernel
theorem d_M_isPure_85 : decode b_M_isPure 85 = .ok (.iconst (-1), 1) := by decide +kernel
theorem d_M_isPure_86 : decode b_M_isPure 86 = .ok (.ixor, 1) := by decide +kernel
theorem d_M_isPure_87 : decode b_M_isPure 87 = .ok (.iand, 1) := by decide +kernel
theorem d_M_isPure_88 : decode b_M_isPure 88 = .ok (.ifCond .eq 7, 3) := by decide +kernel
theorem d_M_isPure_91 : decode b_M_isPure 91 = .ok (.iconst 1, 1) := by decide +kernel
theorem d_M_isPure_92 : decode b_M_isPure 92 = .ok (.goto 4, 3) := by decide +kernel
theorem d_M_isPure_95 : decode b_M_isPure 95 = .ok (.iconst 0, 1) := by decide +kernel
theorem d_M_isPure_96 : decode b_M_isPure 96 = .ok (.istore 7, 2) := by decide +kernel
theorem d_M_isPure_98 : decode b_M_isPure 98 = .ok (.iload 4, 2) := by decide +kernel
theorem d_M_isPure_100 : decode b_M_isPure 100 = .ok (.ifCond .eq 26, 3) := by decide +kernel
theorem d_M_isPure_103 : decode b_M_isPure 103 = .ok (.iload_n 2, 1) := by decide +kernel
theorem d_M_isPure_104 : decode b_M_isPure 104 = .ok (.aload_n 0, 1) := by decide +kernel
theorem d_M_isPure_105 : decode b_M_isPure 105 = .ok (.getfield 13, 3) := by decide +kernel
theorem d_M_isPure_108 : decode b_M_isPure 108 = .ok (.iload 5, 2) := by decide +kernel
theorem d_M_isPure_110 : decode b_M_isPure 110 = .ok (.iaload, 1) := by decide +kernel
theorem d_M_isPure_111 : decode b_M_isPure 111 = .ok (.invokestatic 80, 3) := by decide +kernel
theorem d_M_isPure_114 : decode b_M_isPure 114 = .ok (.ifCond .eq 8, 3) := by decide +kernel
theorem d_M_isPure_117 : decode b_M_isPure 117 = .ok (.iload 7, 2) := by decide +kernel
theorem d_M_isPure_119 : decode b_M_isPure 119 = .ok (.ifCond .ne 7, 3) := by decide +kernel
theorem d_M_isPure_122 : decode b_M_isPure 122 = .ok (.iconst 1, 1) := by decide +kernel
theorem d_M_isPure_123 : decode b_M_isPure 123 = .ok (.goto 4, 3) := by decide +kernel
theorem d_M_isPure_126 : decode b_M_isPure 126 = .ok (.iconst 0, 1) := by decide +kernel
theorem d_M_isPure_127 : decode b_M_isPure 127 = .ok (.istore 4, 2) := by decide +kernel
theorem d_M_isPure_129 : decode b_M_isPure 129 = .ok (.iinc 5 1, 3) := by decide +kernel
theorem d_M_isPure_132 : decode b_M_isPure 132 = .ok (.goto (-112), 3) := by decide +kernel
theorem d_M_isPure_135 : decode b_M_isPure 135 = .ok (.iload 4, 2) := by decide +kernel
theorem d_M_isPure_137 : decode b_M_isPure 137 = .ok (.ireturn, 1) := by decide +kernel
theorem d_M_methodsOf_0 : decode b_M_methodsOf 0 = .ok (.iconst 0, 1) := by decide +kernel
theorem d_M_methodsOf_1 : decode b_M_methodsOf 1 = .ok (.istore_n 2, 1) := by decide +kernel
theorem d_M_methodsOf_2 : decode b_M_methodsOf 2 = .ok (.iconst 0, 1) := by decide +kernel
theorem d_M_methodsOf_3 : decode b_M_methodsOf 3 = .ok (.istore_n 3, 1) := by decide +kernel
theorem d_M_methodsOf_4 : decode b_M_methodsOf 4 = .ok (.iload_n 3, 1) := by decide +kernel
theorem d_M_methodsOf_5 : decode b_M_methodsOf 5 = .ok (.aload_n 0, 1) := by decide +kernel
theorem d_M_methodsOf_6 : decode b_M_methodsOf 6 = .ok (.getfield 7, 3) := by decide +kernel
theorem d_M_methodsOf_9 : decode b_M_methodsOf 9 = .ok (.if_icmp .ge 53, 3) := by decide +kernel
theorem d_M_methodsOf_12 : decode b_M_methodsOf 12 = .ok (.aload_n 0, 1) := by decide +kernel
theorem d_M_methodsOf_13 : decode b_M_methodsOf 13 = .ok (.getfield 90, 3) := by decide +kernel
theorem d_M_methodsOf_16 : decode b_M_methodsOf 16 = .ok (.iload_n 3, 1) := by decide +kernel
theorem d_M_methodsOf_17 : decode b_M_methodsOf 17 = .ok (.invokestatic 80, 3) := by decide +kernel
theorem d_M_methodsOf_20 : decode b_M_methodsOf 20 = .ok (.ifCond .eq 34, 3) := by decide +kernel
theorem d_M_methodsOf_23 : decode b_M_methodsOf 23 = .ok (.iload_n 1, 1) := by decide +kernel
theorem d_M_methodsOf_24 : decode b_M_methodsOf 24 = .ok (.ifCond .eq 14, 3) := by decide +kernel
theorem d_M_methodsOf_27 : decode b_M_methodsOf 27 = .ok (.aload_n 0, 1) := by decide +kernel
theorem d_M_methodsOf_28 : decode b_M_methodsOf 28 = .ok (.iload_n 3, 1) := by decide +kernel
theorem d_M_methodsOf_29 : decode b_M_methodsOf 29 = .ok (.invokevirtual 181, 3) := by decide +kernel
theorem d_M_methodsOf_32 : decode b_M_methodsOf 32 = .ok (.ifCond .eq 22, 3) := by decide +kernel
theorem d_M_methodsOf_35 : decode b_M_methodsOf 35 = .ok (.goto 11, 3) := by decide +kernel
theorem d_M_methodsOf_38 : decode b_M_methodsOf 38 = .ok (.aload_n 0, 1) := by decide +kernel
theorem d_M_methodsOf_39 : decode b_M_methodsOf 39 = .ok (.iload_n 3, 1) := by decide +kernel
theorem d_M_methodsOf_40 : decode b_M_methodsOf 40 = .ok (.invokevirtual 184, 3) := by decide +kernel
theorem d_M_methodsOf_43 : decode b_M_methodsOf 43 = .ok (.ifCond .eq 11, 3) := by decide +kernel
theorem d_M_methodsOf_46 : decode b_M_methodsOf 46 = .ok (.iload_n 2, 1) := by decide +kernel
theorem d_M_methodsOf_47 : decode b_M_methodsOf 47 = .ok (.iconst 1, 1) := by decide +kernel
theorem d_M_methodsOf_48 : decode b_M_methodsOf 48 = .ok (.iload_n 3, 1) := by decide +kernel
theorem d_M_methodsOf_49 : decode b_M_methodsOf 49 = .ok (.ishl, 1) := by decide +kernel
theorem d_M_methodsOf_50 : decode b_M_methodsOf 50 = .ok (.ior, 1) := by decide +kernel
theorem d_M_methodsOf_51 : decode b_M_methodsOf 51 = .ok (.goto 4, 3) := by decide +kernel
theorem d_M_methodsOf_54 : decode b_M_methodsOf 54 = .ok (.iload_n 2, 1) := by decide +kernel
theorem d_M_methodsOf_55 : decode b_M_methodsOf 55 = .ok (.istore_n 2, 1) := by decide +kernel
theorem d_M_methodsOf_56 : decode b_M_methodsOf 56 = .ok (.iinc 3 1, 3) := by decide +kernel
theorem d_M_methodsOf_59 : decode b_M_methodsOf 59 = .ok (.goto (-55), 3) := by decide +kernel
theorem d_M_methodsOf_62 : decode b_M_methodsOf 62 = .ok (.iload_n 2, 1) := by decide +kernel
theorem d_M_methodsOf_63 : decode b_M_methodsOf 63 = .ok (.ireturn, 1) := by decide +kernel
theorem d_M_isIdle_0 : decode b_M_isIdle 0 = .ok (.aload_n 0, 1) := by decide +kernel
theorem d_M_isIdle_1 : decode b_M_isIdle 1 = .ok (.aload_n 0, 1) := by decide +kernel
theorem d_M_isIdle_2 : decode b_M_isIdle 2 = .ok (.getfield 13, 3) := by decide +kernel
theorem d_M_isIdle_5 : decode b_M_isIdle 5 = .ok (.iload_n 1, 1) := by decide +kernel
theorem d_M_isIdle_6 : decode b_M_isIdle 6 = .ok (.iaload, 1) := by decide +kernel
theorem d_M_isIdle_7 : decode b_M_isIdle 7 = .ok (.aload_n 0, 1) := by decide +kernel
theorem d_M_isIdle_8 : decode b_M_isIdle 8 = .ok (.getfield 23, 3) := by decide +kernel
theorem d_M_isIdle_11 : decode b_M_isIdle 11 = .ok (.iconst 5, 1) := by decide +kernel
theorem d_M_isIdle_12 : decode b_M_isIdle 12 = .ok (.iload_n 1, 1) := by decide +kernel
theorem d_M_isIdle_13 : decode b_M_isIdle 13 = .ok (.imul, 1) := by decide +kernel
theorem d_M_isIdle_14 : decode b_M_isIdle 14 = .ok (.iaload, 1) := by decide +kernel
theorem d_M_isIdle_15 : decode b_M_isIdle 15 = .ok (.invokevirtual 106, 3) := by decide +kernel
theorem d_M_isIdle_18 : decode b_M_isIdle 18 = .ok (.istore_n 2, 1) := by decide +kernel
theorem d_M_isIdle_19 : decode b_M_isIdle 19 = .ok (.iload_n 2, 1) := by decide +kernel
theorem d_M_isIdle_20 : decode b_M_isIdle 20 = .ok (.ifCond .eq 16, 3) := by decide +kernel
theorem d_M_isIdle_23 : decode b_M_isIdle 23 = .ok (.iload_n 2, 1) := by decide +kernel
theorem d_M_isIdle_24 : decode b_M_isIdle 24 = .ok (.aload_n 0, 1) := by decide +kernel
theorem d_M_isIdle_25 : decode b_M_isIdle 25 = .ok (.invokevirtual 148, 3) := by decide +kernel
theorem d_M_isIdle_28 : decode b_M_isIdle 28 = .ok (.iand, 1) := by decide +kernel
theorem d_M_isIdle_29 : decode b_M_isIdle 29 = .ok (.ifCond .ne 7, 3) := by decide +kernel
theorem d_M_isIdle_32 : decode b_M_isIdle 32 = .ok (.iconst 1, 1) := by decide +kernel
theorem d_M_isIdle_33 : decode b_M_isIdle 33 = .ok (.goto 4, 3) := by decide +kernel
theorem d_M_isIdle_36 : decode b_M_isIdle 36 = .ok (.iconst 0, 1) := by decide +kernel
theorem d_M_isIdle_37 : decode b_M_isIdle 37 = .ok (.ireturn, 1) := by decide +kernel
theorem d_M_idle_0 : decode b_M_idle 0 = .ok (.iload_n 1, 1) := by decide +kernel
theorem d_M_idle_1 : decode b_M_idle 1 = .ok (.iconst 0, 1) := by decide +kernel
theorem d_M_idle_2 : decode b_M_idle 2 = .ok (.aload_n 0, 1) := by decide +kernel
theorem d_M_idle_3 : decode b_M_idle 3 = .ok (.getfield 49, 3) := by decide +kernel
theorem d_M_idle_6 : decode b_M_idle 6 = .ok (.iconst 1, 1) := by decide +kernel
theorem d_M_idle_7 : decode b_M_idle 7 = .ok (.isub, 1) := by decide +kernel
theorem d_M_idle_8 : decode b_M_idle 8 = .ok (.invokestatic 55, 3) := by decide +kernel
theorem d_M_idle_11 : decode b_M_idle 11 = .ok (.ifCond .eq 14, 3) := by decide +kernel
theorem d_M_idle_14 : decode b_M_idle 14 = .ok (.aload_n 0, 1) := by decide +kernel
theorem d_M_idle_15 : decode b_M_idle 15 = .ok (.getfield 17, 3) := by decide +kernel
theorem d_M_idle_18 : decode b_M_idle 18 = .ok (.iload_n 1, 1) := by decide +kernel
theorem d_M_idle_19 : decode b_M_idle 19 = .ok (.iaload, 1) := by decide +kernel
theorem d_M_idle_20 : decode b_M_idle 20 = .ok (.bipush 10, 2) := by decide +kernel
theorem d_M_idle_22 : decode b_M_idle 22 = .ok (.if_icmp .eq 6, 3) := by decide +kernel
theorem d_M_idle_25 : decode b_M_idle 25 = .ok (.bipush (-2), 2) := by decide +kernel
theorem d_M_idle_27 : decode b_M_idle 27 = .ok (.ireturn, 1) := by decide +kernel
theorem d_M_idle_28 : decode b_M_idle 28 = .ok (.aload_n 0, 1) := by decide +kernel
theorem d_M_idle_29 : decode b_M_idle 29 = .ok (.invokevirtual 87, 3) := by decide +kernel
theorem d_M_idle_32 : decode b_M_idle 32 = .ok (.aload_n 0, 1) := by decide +kernel
theorem d_M_idle_33 : decode b_M_idle 33 = .ok (.iload_n 1, 1) := by decide +kernel
theorem d_M_idle_34 : decode b_M_idle 34 = .ok (.invokevirtual 122, 3) := by decide +kernel
theorem d_M_idle_37 : decode b_M_idle 37 = .ok (.ifCond .ne 7, 3) := by decide +kernel
theorem d_M_idle_40 : decode b_M_idle 40 = .ok (.iconst (-1), 1) := by decide +kernel
theorem d_M_idle_41 : decode b_M_idle 41 = .ok (.goto 16, 3) := by decide +kernel
theorem d_M_idle_44 : decode b_M_idle 44 = .ok (.aload_n 0, 1) := by decide +kernel
theorem d_M_idle_45 : decode b_M_idle 45 = .ok (.iload_n 1, 1) := by decide +kernel
theorem d_M_idle_46 : decode b_M_idle 46 = .ok (.invokevirtual 187, 3) := by decide +kernel
theorem d_M_idle_49 : decode b_M_idle 49 = .ok (.ifCond .eq 7, 3) := by decide +kernel
theorem d_M_idle_52 : decode b_M_idle 52 = .ok (.iconst 1, 1) := by decide +kernel
theorem d_M_idle_53 : decode b_M_idle 53 = .ok (.goto 4, 3) := by decide +kernel
theorem d_M_idle_56 : decode b_M_idle 56 = .ok (.iconst 0, 1) := by decide +kernel
theorem d_M_idle_57 : decode b_M_idle 57 = .ok (.ireturn, 1) := by decide +kernel
theorem d_M_all_0 : decode b_M_all 0 = .ok (.iload_n 1, 1) := by decide +kernel
theorem d_M_all_1 : decode b_M_all 1 = .ok (.iconst 0, 1) := by decide +kernel
theorem d_M_all_2 : decode b_M_all 2 = .ok (.bipush 12, 2) := by decide +kernel
theorem d_M_all_4 : decode b_M_all 4 = .ok (.invokestatic 55, 3) := by decide +kernel
theorem d_M_all_7 : decode b_M_all 7 = .ok (.ifCond .ne 6, 3) := by decide +kernel
theorem d_M_all_10 : decode b_M_all 10 = .ok (.bipush (-2), 2) := by decide +kernel
theorem d_M_all_12 : decode b_M_all 12 = .ok (.ireturn, 1) := by decide +kernel
theorem d_M_all_13 : decode b_M_all 13 = .ok (.aload_n 0, 1) := by decide +kernel
theorem d_M_all_14 : decode b_M_all 14 = .ok (.invokevirtual 87, 3) := by decide +kernel
theorem d_M_all_17 : decode b_M_all 17 = .ok (.iconst 0, 1) := by decide +kernel
theorem d_M_all_18 : decode b_M_all 18 = .ok (.istore_n 2, 1) := by decide +kernel
theorem d_M_all_19 : decode b_M_all 19 = .ok (.iload_n 1, 1) := by decide +kernel
theorem d_M_all_20 : decode b_M_all 20 = .ok (.tableswitch 192 0 12 #[68, 73, 78, 83, 192, 192, 192, 192, 192, 88, 94, 100, 153], 68) := by decide +kernel
theorem d_M_all_88 : decode b_M_all 88 = .ok (.aload_n 0, 1) := by decide +kernel
theorem d_M_all_89 : decode b_M_all 89 = .ok (.getfield 7, 3) := by decide +kernel
theorem d_M_all_92 : decode b_M_all 92 = .ok (.ireturn, 1) := by decide +kernel
theorem d_M_all_93 : decode b_M_all 93 = .ok (.aload_n 0, 1) := by decide +kernel
theorem d_M_all_94 : decode b_M_all 94 = .ok (.getfield 49, 3) := by decide +kernel
theorem d_M_all_97 : decode b_M_all 97 = .ok (.ireturn, 1) := by decide +kernel
theorem d_M_all_98 : decode b_M_all 98 = .ok (.aload_n 0, 1) := by decide +kernel
theorem d_M_all_99 : decode b_M_all 99 = .ok (.getfield 52, 3) := by decide +kernel
theorem d_M_all_102 : decode b_M_all 102 = .ok (.ireturn, 1) := by decide +kernel
theorem d_M_all_103 : decode b_M_all 103 = .ok (.aload_n 0, 1) := by decide +kernel
theorem d_M_all_104 : decode b_M_all 104 = .ok (.getfield 90, 3) := by decide +kernel
theorem d_M_all_107 : decode b_M_all 107 = .ok (.ireturn, 1) := by decide +kernel
theorem d_M_all_108 : decode b_M_all 108 = .ok (.aload_n 0, 1) := by decide +kernel
theorem d_M_all_109 : decode b_M_all 109 = .ok (.iconst 1, 1) := by decide +kernel
theorem d_M_all_110 : decode b_M_all 110 = .ok (.invokevirtual 190, 3) := by decide +kernel
theorem d_M_all_113 : decode b_M_all 113 = .ok (.ireturn, 1) := by decide +kernel
theorem d_M_all_114 : decode b_M_all 114 = .ok (.aload_n 0, 1) := by decide +kernel
theorem d_M_all_115 : decode b_M_all 115 = .ok (.iconst 0, 1) := by decide +kernel
theorem d_M_all_116 : decode b_M_all 116 = .ok (.invokevirtual 190, 3) := by decide +kernel
theorem d_M_all_119 : decode b_M_all 119 = .ok (.ireturn, 1) := by decide +kernel
theorem d_M_all_120 : decode b_M_all 120 = .ok (.iconst 0, 1) := by decide +kernel
theorem d_M_all_121 : decode b_M_all 121 = .ok (.istore_n 3, 1) := by decide +kernel
theorem d_M_all_122 : decode b_M_all 122 = .ok (.iload_n 3, 1) := by decide +kernel
theorem d_M_all_123 : decode b_M_all 123 = .ok (.aload_n 0, 1) := by decide +kernel
theorem d_M_all_124 : decode b_M_all 124 = .ok (.getfield 49, 3) := by decide +kernel
theorem d_M_all_127 : decode b_M_all 127 = .ok (.if_icmp .ge 44, 3) := by decide +kernel
theorem d_M_all_130 : decode b_M_all 130 = .ok (.aload_n 0, 1) := by decide +kernel
theorem d_M_all_131 : decode b_M_all 131 = .ok (.iload_n 3, 1) := by decide +kernel
theorem d_M_all_132 : decode b_M_all 132 = .ok (.invokevirtual 122, 3) := by decide +kernel
theorem d_M_all_135 : decode b_M_all 135 = .ok (.ifCond .eq 28, 3) := by decide +kernel
theorem d_M_all_138 : decode b_M_all 138 = .ok (.aload_n 0, 1) := by decide +kernel
theorem d_M_all_139 : decode b_M_all 139 = .ok (.getfield 17, 3) := by decide +kernel
theorem d_M_all_142 : decode b_M_all 142 = .ok (.iload_n 3, 1) := by decide +kernel
theorem d_M_all_143 : decode b_M_all 143 = .ok (.iaload, 1) := by decide +kernel
theorem d_M_all_144 : decode b_M_all 144 = .ok (.bipush 10, 2) := by decide +kernel
theorem d_M_all_146 : decode b_M_all 146 = .ok (.if_icmp .ne 17, 3) := by decide +kernel
theorem d_M_all_149 : decode b_M_all 149 = .ok (.aload_n 0, 1) := by decide +kernel
theorem d_M_all_150 : decode b_M_all 150 = .ok (.iload_n 3, 1) := by decide +kernel
theorem d_M_all_151 : decode b_M_all 151 = .ok (.invokevirtual 187, 3) := by decide +kernel
theorem d_M_all_154 : decode b_M_all 154 = .ok (.ifCond .eq 9, 3) := by decide +kernel
theorem d_M_all_157 : decode b_M_all 157 = .ok (.iload_n 2, 1) := by decide +kernel
theorem d_M_all_158 : decode b_M_all 158 = .ok (.iconst 1, 1) := by decide +kernel
theorem d_M_all_159 : decode b_M_all 159 = .ok (.iadd, 1) := by decide +kernel
theorem d_M_all_160 : decode b_M_all 160 = .ok (.goto 4, 3) := by decide +kernel
theorem d_M_all_163 : decode b_M_all 163 = .ok (.iload_n 2, 1) := by decide +kernel
theorem d_M_all_164 : decode b_M_all 164 = .ok (.istore_n 2, 1) := by decide +kernel
theorem d_M_all_165 : decode b_M_all 165 = .ok (.iinc 3 1, 3) := by decide +kernel
theorem d_M_all_168 : decode b_M_all 168 = .ok (.goto (-46), 3) := by decide +kernel
theorem d_M_all_171 : decode b_M_all 171 = .ok (.iload_n 2, 1) := by decide +kernel
theorem d_M_all_172 : decode b_M_all 172 = .ok (.ireturn, 1) := by decide +kernel
theorem d_M_all_173 : decode b_M_all 173 = .ok (.iconst (-1), 1) := by decide +kernel
theorem d_M_all_174 : decode b_M_all 174 = .ok (.istore_n 2, 1) := by decide +kernel
theorem d_M_all_175 : decode b_M_all 175 = .ok (.iconst 0, 1) := by decide +kernel
theorem d_M_all_176 : decode b_M_all 176 = .ok (.istore_n 3, 1) := by decide +kernel
theorem d_M_all_177 : decode b_M_all 177 = .ok (.iload_n 3, 1) := by decide +kernel
theorem d_M_all_178 : decode b_M_all 178 = .ok (.aload_n 0, 1) := by decide +kernel
theorem d_M_all_179 : decode b_M_all 179 = .ok (.getfield 52, 3) := by decide +kernel
theorem d_M_all_182 : decode b_M_all 182 = .ok (.if_icmp .ge 28, 3) := by decide +kernel
theorem d_M_all_185 : decode b_M_all 185 = .ok (.aload_n 0, 1) := by decide +kernel
theorem d_M_all_186 : decode b_M_all 186 = .ok (.iload_n 3, 1) := by decide +kernel
theorem d_M_all_187 : decode b_M_all 187 = .ok (.invokevirtual 154, 3) := by decide +kernel
theorem d_M_all_190 : decode b_M_all 190 = .ok (.iload_n 2, 1) := by decide +kernel
theorem d_M_all_191 : decode b_M_all 191 = .ok (.if_icmp .le 11, 3) := by decide +kernel
theorem d_M_all_194 : decode b_M_all 194 = .ok (.aload_n 0, 1) := by decide +kernel
theorem d_M_all_195 : decode b_M_all 195 = .ok (.iload_n 3, 1) := by decide +kernel
theorem d_M_all_196 : decode b_M_all 196 = .ok (.invokevirtual 154, 3) := by decide +kernel
theorem d_M_all_199 : decode b_M_all 199 = .ok (.goto 4, 3) := by decide +kernel
theorem d_M_all_202 : decode b_M_all 202 = .ok (.iload_n 2, 1) := by decide +kernel
theorem d_M_all_203 : decode b_M_all 203 = .ok (.istore_n 2, 1) := by decide +kernel
theorem d_M_all_204 : decode b_M_all 204 = .ok (.iinc 3 1, 3) := by decide +kernel
theorem d_M_all_207 : decode b_M_all 207 = .ok (.goto (-30), 3) := by decide +kernel
theorem d_M_all_210 : decode b_M_all 210 = .ok (.iload_n 2, 1) := by decide +kernel
theorem d_M_all_211 : decode b_M_all 211 = .ok (.ireturn, 1) := by decide +kernel
theorem d_M_all_212 : decode b_M_all 212 = .ok (.aload_n 0, 1) := by decide +kernel
theorem d_M_all_213 : decode b_M_all 213 = .ok (.iload_n 1, 1) := by decide +kernel
theorem d_M_all_214 : decode b_M_all 214 = .ok (.invokevirtual 194, 3) := by decide +kernel
theorem d_M_all_217 : decode b_M_all 217 = .ok (.ireturn, 1) := by decide +kernel
theorem d_M_meet_0 : decode b_M_meet 0 = .ok (.aload_n 0, 1) := by decide +kernel
theorem d_M_meet_1 : decode b_M_meet 1 = .ok (.iload_n 1, 1) := by decide +kernel
theorem d_M_meet_2 : decode b_M_meet 2 = .ok (.invokevirtual 63, 3) := by decide +kernel
theorem d_M_meet_5 : decode b_M_meet 5 = .ok (.ifCond .eq 26, 3) := by decide +kernel
theorem d_M_meet_8 : decode b_M_meet 8 = .ok (.iload_n 2, 1) := by decide +kernel
theorem d_M_meet_9 : decode b_M_meet 9 = .ok (.invokestatic 59, 3) := by decide +kernel
theorem d_M_meet_12 : decode b_M_meet 12 = .ok (.ifCond .eq 19, 3) := by decide +kernel
theorem d_M_meet_15 : decode b_M_meet 15 = .ok (.aload_n 0, 1) := by decide +kernel
theorem d_M_meet_16 : decode b_M_meet 16 = .ok (.iload_n 3, 1) := by decide +kernel
theorem d_M_meet_17 : decode b_M_meet 17 = .ok (.invokevirtual 63, 3) := by decide +kernel
theorem d_M_meet_20 : decode b_M_meet 20 = .ok (.ifCond .eq 11, 3) := by decide +kernel
theorem d_M_meet_23 : decode b_M_meet 23 = .ok (.iload 4, 2) := by decide +kernel
theorem d_M_meet_25 : decode b_M_meet 25 = .ok (.invokestatic 59, 3) := by decide +kernel
theorem d_M_meet_28 : decode b_M_meet 28 = .ok (.ifCond .ne 6, 3) := by decide +kernel
theorem d_M_meet_31 : decode b_M_meet 31 = .ok (.bipush (-2), 2) := by decide +kernel
theorem d_M_meet_33 : decode b_M_meet 33 = .ok (.ireturn, 1) := by decide +kernel
theorem d_M_meet_34 : decode b_M_meet 34 = .ok (.aload_n 0, 1) := by decide +kernel
theorem d_M_meet_35 : decode b_M_meet 35 = .ok (.invokevirtual 87, 3) := by decide +kernel
theorem d_M_meet_38 : decode b_M_meet 38 = .ok (.aload_n 0, 1) := by decide +kernel
theorem d_M_meet_39 : decode b_M_meet 39 = .ok (.iload_n 1, 1) := by decide +kernel
theorem d_M_meet_40 : decode b_M_meet 40 = .ok (.iload_n 2, 1) := by decide +kernel
theorem d_M_meet_41 : decode b_M_meet 41 = .ok (.invokevirtual 106, 3) := by decide +kernel
theorem d_M_meet_44 : decode b_M_meet 44 = .ok (.aload_n 0, 1) := by decide +kernel
theorem d_M_meet_45 : decode b_M_meet 45 = .ok (.iload_n 3, 1) := by decide +kernel
theorem d_M_meet_46 : decode b_M_meet 46 = .ok (.iload 4, 2) := by decide +kernel
theorem d_M_meet_48 : decode b_M_meet 48 = .ok (.invokevirtual 106, 3) := by decide +kernel
theorem d_M_meet_51 : decode b_M_meet 51 = .ok (.iand, 1) := by decide +kernel
theorem d_M_meet_52 : decode b_M_meet 52 = .ok (.ifCond .eq 7, 3) := by decide +kernel
theorem d_M_meet_55 : decode b_M_meet 55 = .ok (.iconst 1, 1) := by decide +kernel
theorem d_M_meet_56 : decode b_M_meet 56 = .ok (.goto 4, 3) := by decide +kernel
theorem d_M_meet_59 : decode b_M_meet 59 = .ok (.iconst 0, 1) := by decide +kernel
theorem d_M_meet_60 : decode b_M_meet 60 = .ok (.ireturn, 1) := by decide +kernel
theorem d_M_reach_0 : decode b_M_reach 0 = .ok (.aload_n 0, 1) := by decide +kernel
theorem d_M_reach_1 : decode b_M_reach 1 = .ok (.iload_n 1, 1) := by decide +kernel
theorem d_M_reach_2 : decode b_M_reach 2 = .ok (.invokevirtual 63, 3) := by decide +kernel
theorem d_M_reach_5 : decode b_M_reach 5 = .ok (.ifCond .eq 10, 3) := by decide +kernel
theorem d_M_reach_8 : decode b_M_reach 8 = .ok (.iload_n 2, 1) := by decide +kernel
theorem d_M_reach_9 : decode b_M_reach 9 = .ok (.invokestatic 59, 3) := by decide +kernel
theorem d_M_reach_12 : decode b_M_reach 12 = .ok (.ifCond .ne 6, 3) := by decide +kernel
theorem d_M_reach_15 : decode b_M_reach 15 = .ok (.bipush (-2), 2) := by decide +kernel
theorem d_M_reach_17 : decode b_M_reach 17 = .ok (.ireturn, 1) := by decide +kernel
theorem d_M_reach_18 : decode b_M_reach 18 = .ok (.aload_n 0, 1) := by decide +kernel
theorem d_M_reach_19 : decode b_M_reach 19 = .ok (.invokevirtual 87, 3) := by decide +kernel
theorem d_M_reach_22 : decode b_M_reach 22 = .ok (.aload_n 0, 1) := by decide +kernel
theorem d_M_reach_23 : decode b_M_reach 23 = .ok (.aload_n 0, 1) := by decide +kernel
theorem d_M_reach_24 : decode b_M_reach 24 = .ok (.iload_n 1, 1) := by decide +kernel
theorem d_M_reach_25 : decode b_M_reach 25 = .ok (.iload_n 2, 1) := by decide +kernel
theorem d_M_reach_26 : decode b_M_reach 26 = .ok (.invokevirtual 106, 3) := by decide +kernel
theorem d_M_reach_29 : decode b_M_reach 29 = .ok (.invokevirtual 142, 3) := by decide +kernel
theorem d_M_reach_32 : decode b_M_reach 32 = .ok (.ireturn, 1) := by decide +kernel
theorem d_M_mark_0 : decode b_M_mark 0 = .ok (.aload_n 0, 1) := by decide +kernel
theorem d_M_mark_1 : decode b_M_mark 1 = .ok (.aload_n 0, 1) := by decide +kernel
theorem d_M_mark_2 : decode b_M_mark 2 = .ok (.getfield 197, 3) := by decide +kernel
theorem d_M_mark_5 : decode b_M_mark 5 = .ok (.ifCond .ne 17, 3) := by decide +kernel
theorem d_M_mark_8 : decode b_M_mark 8 = .ok (.aload_n 0, 1) := by decide +kernel
theorem d_M_mark_9 : decode b_M_mark 9 = .ok (.getfield 41, 3) := by decide +kernel
theorem d_M_mark_12 : decode b_M_mark 12 = .ok (.bipush 8, 2) := by decide +kernel
theorem d_M_mark_14 : decode b_M_mark 14 = .ok (.iload_n 1, 1) := by decide +kernel
theorem d_M_mark_15 : decode b_M_mark 15 = .ok (.imul, 1) := by decide +kernel
theorem d_M_mark_16 : decode b_M_mark 16 = .ok (.iload_n 2, 1) := by decide +kernel
theorem d_M_mark_17 : decode b_M_mark 17 = .ok (.iadd, 1) := by decide +kernel
theorem d_M_mark_18 : decode b_M_mark 18 = .ok (.baload, 1) := by decide +kernel
theorem d_M_mark_19 : decode b_M_mark 19 = .ok (.ifCond .ne 7, 3) := by decide +kernel
theorem d_M_mark_22 : decode b_M_mark 22 = .ok (.iconst 1, 1) := by decide +kernel
theorem d_M_mark_23 : decode b_M_mark 23 = .ok (.goto 4, 3) := by decide +kernel
theorem d_M_mark_26 : decode b_M_mark 26 = .ok (.iconst 0, 1) := by decide +kernel
theorem d_M_mark_27 : decode b_M_mark 27 = .ok (.putfield 197, 3) := by decide +kernel
theorem d_M_mark_30 : decode b_M_mark 30 = .ok (.aload_n 0, 1) := by decide +kernel
theorem d_M_mark_31 : decode b_M_mark 31 = .ok (.getfield 41, 3) := by decide +kernel
theorem d_M_mark_34 : decode b_M_mark 34 = .ok (.bipush 8, 2) := by decide +kernel
theorem d_M_mark_36 : decode b_M_mark 36 = .ok (.iload_n 1, 1) := by decide +kernel
theorem d_M_mark_37 : decode b_M_mark 37 = .ok (.imul, 1) := by decide +kernel
theorem d_M_mark_38 : decode b_M_mark 38 = .ok (.iload_n 2, 1) := by decide +kernel
theorem d_M_mark_39 : decode b_M_mark 39 = .ok (.iadd, 1) := by decide +kernel
theorem d_M_mark_40 : decode b_M_mark 40 = .ok (.iconst 1, 1) := by decide +kernel
theorem d_M_mark_41 : decode b_M_mark 41 = .ok (.bastore, 1) := by decide +kernel
theorem d_M_mark_42 : decode b_M_mark 42 = .ok (.return_, 1) := by decide +kernel
theorem d_M_isMarked_0 : decode b_M_isMarked 0 = .ok (.iload_n 2, 1) := by decide +kernel
theorem d_M_isMarked_1 : decode b_M_isMarked 1 = .ok (.iconst (-1), 1) := by decide +kernel
theorem d_M_isMarked_2 : decode b_M_isMarked 2 = .ok (.if_icmp .eq 21, 3) := by decide +kernel
theorem d_M_isMarked_5 : decode b_M_isMarked 5 = .ok (.aload_n 0, 1) := by decide +kernel
theorem d_M_isMarked_6 : decode b_M_isMarked 6 = .ok (.getfield 41, 3) := by decide +kernel
theorem d_M_isMarked_9 : decode b_M_isMarked 9 = .ok (.bipush 8, 2) := by decide +kernel
theorem d_M_isMarked_11 : decode b_M_isMarked 11 = .ok (.iload_n 1, 1) := by decide +kernel
theorem d_M_isMarked_12 : decode b_M_isMarked 12 = .ok (.imul, 1) := by decide +kernel
theorem d_M_isMarked_13 : decode b_M_isMarked 13 = .ok (.iload_n 2, 1) := by decide +kernel
theorem d_M_isMarked_14 : decode b_M_isMarked 14 = .ok (.iadd, 1) := by decide +kernel
theorem d_M_isMarked_15 : decode b_M_isMarked 15 = .ok (.baload, 1) := by decide +kernel
theorem d_M_isMarked_16 : decode b_M_isMarked 16 = .ok (.ifCond .eq 7, 3) := by decide +kernel
theorem d_M_isMarked_19 : decode b_M_isMarked 19 = .ok (.iconst 1, 1) := by decide +kernel
theorem d_M_isMarked_20 : decode b_M_isMarked 20 = .ok (.goto 4, 3) := by decide +kernel
theorem d_M_isMarked_23 : decode b_M_isMarked 23 = .ok (.iconst 0, 1) := by decide +kernel
theorem d_M_isMarked_24 : decode b_M_isMarked 24 = .ok (.ireturn, 1) := by decide +kernel
theorem d_M_givesMarked_0 : decode b_M_givesMarked 0 = .ok (.iconst 0, 1) := by decide +kernel
theorem d_M_givesMarked_1 : decode b_M_givesMarked 1 = .ok (.istore_n 2, 1) := by decide +kernel
theorem d_M_givesMarked_2 : decode b_M_givesMarked 2 = .ok (.iconst 0, 1) := by decide +kernel
theorem d_M_givesMarked_3 : decode b_M_givesMarked 3 = .ok (.istore_n 3, 1) := by decide +kernel
theorem d_M_givesMarked_4 : decode b_M_givesMarked 4 = .ok (.iload_n 3, 1) := by decide +kernel
theorem d_M_givesMarked_5 : decode b_M_givesMarked 5 = .ok (.aload_n 0, 1) := by decide +kernel
theorem d_M_givesMarked_6 : decode b_M_givesMarked 6 = .ok (.getfield 49, 3) := by decide +kernel
theorem d_M_givesMarked_9 : decode b_M_givesMarked 9 = .ok (.if_icmp .ge 64, 3) := by decide +kernel
theorem d_M_givesMarked_12 : decode b_M_givesMarked 12 = .ok (.iload_n 2, 1) := by decide +kernel
theorem d_M_givesMarked_13 : decode b_M_givesMarked 13 = .ok (.ifCond .ne 48, 3) := by decide +kernel
theorem d_M_givesMarked_16 : decode b_M_givesMarked 16 = .ok (.aload_n 0, 1) := by decide +kernel
theorem d_M_givesMarked_17 : decode b_M_givesMarked 17 = .ok (.iload_n 3, 1) := by decide +kernel
theorem d_M_givesMarked_18 : decode b_M_givesMarked 18 = .ok (.invokevirtual 122, 3) := by decide +kernel
theorem d_M_givesMarked_21 : decode b_M_givesMarked 21 = .ok (.ifCond .eq 44, 3) := by decide +kernel
theorem d_M_givesMarked_24 : decode b_M_givesMarked 24 = .ok (.aload_n 0, 1) := by decide +kernel
theorem d_M_givesMarked_25 : decode b_M_givesMarked 25 = .ok (.getfield 17, 3) := by decide +kernel
theorem d_M_givesMarked_28 : decode b_M_givesMarked 28 = .ok (.iload_n 3, 1) := by decide +kernel
theorem d_M_givesMarked_29 : decode b_M_givesMarked 29 = .ok (.iaload, 1) := by decide +kernel
theorem d_M_givesMarked_30 : decode b_M_givesMarked 30 = .ok (.bipush 7, 2) := by decide +kernel
theorem d_M_givesMarked_32 : decode b_M_givesMarked 32 = .ok (.if_icmp .ne 33, 3) := by decide +kernel
theorem d_M_givesMarked_35 : decode b_M_givesMarked 35 = .ok (.aload_n 0, 1) := by decide +kernel
theorem d_M_givesMarked_36 : decode b_M_givesMarked 36 = .ok (.getfield 13, 3) := by decide +kernel
theorem d_M_givesMarked_39 : decode b_M_givesMarked 39 = .ok (.iload_n 3, 1) := by decide +kernel
theorem d_M_givesMarked_40 : decode b_M_givesMarked 40 = .ok (.iaload, 1) := by decide +kernel
theorem d_M_givesMarked_41 : decode b_M_givesMarked 41 = .ok (.iload_n 1, 1) := by decide +kernel
theorem d_M_givesMarked_42 : decode b_M_givesMarked 42 = .ok (.if_icmp .ne 23, 3) := by decide +kernel
theorem d_M_givesMarked_45 : decode b_M_givesMarked 45 = .ok (.aload_n 0, 1) := by decide +kernel
theorem d_M_givesMarked_46 : decode b_M_givesMarked 46 = .ok (.iload_n 1, 1) := by decide +kernel
theorem d_M_givesMarked_47 : decode b_M_givesMarked 47 = .ok (.aload_n 0, 1) := by decide +kernel
theorem d_M_givesMarked_48 : decode b_M_givesMarked 48 = .ok (.getfield 23, 3) := by decide +kernel
theorem d_M_givesMarked_51 : decode b_M_givesMarked 51 = .ok (.iconst 5, 1) := by decide +kernel
theorem d_M_givesMarked_52 : decode b_M_givesMarked 52 = .ok (.iload_n 3, 1) := by decide +kernel
theorem d_M_givesMarked_53 : decode b_M_givesMarked 53 = .ok (.imul, 1) := by decide +kernel
theorem d_M_givesMarked_54 : decode b_M_givesMarked 54 = .ok (.iaload, 1) := by decide +kernel
theorem d_M_givesMarked_55 : decode b_M_givesMarked 55 = .ok (.invokevirtual 200, 3) := by decide +kernel
theorem d_M_givesMarked_58 : decode b_M_givesMarked 58 = .ok (.ifCond .eq 7, 3) := by decide +kernel
theorem d_M_givesMarked_61 : decode b_M_givesMarked 61 = .ok (.iconst 1, 1) := by decide +kernel
theorem d_M_givesMarked_62 : decode b_M_givesMarked 62 = .ok (.goto 4, 3) := by decide +kernel
theorem d_M_givesMarked_65 : decode b_M_givesMarked 65 = .ok (.iconst 0, 1) := by decide +kernel
theorem d_M_givesMarked_66 : decode b_M_givesMarked 66 = .ok (.istore_n 2, 1) := by decide +kernel
theorem d_M_givesMarked_67 : decode b_M_givesMarked 67 = .ok (.iinc 3 1, 3) := by decide +kernel
theorem d_M_givesMarked_70 : decode b_M_givesMarked 70 = .ok (.goto (-66), 3) := by decide +kernel
theorem d_M_givesMarked_73 : decode b_M_givesMarked 73 = .ok (.iload_n 2, 1) := by decide +kernel
theorem d_M_givesMarked_74 : decode b_M_givesMarked 74 = .ok (.ireturn, 1) := by decide +kernel
theorem d_M_markBy_0 : decode b_M_markBy 0 = .ok (.aload_n 0, 1) := by decide +kernel
theorem d_M_markBy_1 : decode b_M_markBy 1 = .ok (.getfield 13, 3) := by decide +kernel
theorem d_M_markBy_4 : decode b_M_markBy 4 = .ok (.iload_n 1, 1) := by decide +kernel
theorem d_M_markBy_5 : decode b_M_markBy 5 = .ok (.iaload, 1) := by decide +kernel
theorem d_M_markBy_6 : decode b_M_markBy 6 = .ok (.istore_n 2, 1) := by decide +kernel
theorem d_M_markBy_7 : decode b_M_markBy 7 = .ok (.aload_n 0, 1) := by decide +kernel
theorem d_M_markBy_8 : decode b_M_markBy 8 = .ok (.getfield 17, 3) := by decide +kernel
theorem d_M_markBy_11 : decode b_M_markBy 11 = .ok (.iload_n 1, 1) := by decide +kernel
theorem d_M_markBy_12 : decode b_M_markBy 12 = .ok (.iaload, 1) := by decide +kernel
theorem d_M_markBy_13 : decode b_M_markBy 13 = .ok (.iconst 1, 1) := by decide +kernel
theorem d_M_markBy_14 : decode b_M_markBy 14 = .ok (.if_icmp .ne 34, 3) := by decide +kernel
theorem d_M_markBy_17 : decode b_M_markBy 17 = .ok (.aload_n 0, 1) := by decide +kernel
theorem d_M_markBy_18 : decode b_M_markBy 18 = .ok (.iload_n 2, 1) := by decide +kernel
theorem d_M_markBy_19 : decode b_M_markBy 19 = .ok (.aload_n 0, 1) := by decide +kernel
theorem d_M_markBy_20 : decode b_M_markBy 20 = .ok (.getfield 23, 3) := by decide +kernel
theorem d_M_markBy_23 : decode b_M_markBy 23 = .ok (.iconst 5, 1) := by decide +kernel
theorem d_M_markBy_24 : decode b_M_markBy 24 = .ok (.iload_n 1, 1) := by decide +kernel
theorem d_M_markBy_25 : decode b_M_markBy 25 = .ok (.imul, 1) := by decide +kernel
theorem d_M_markBy_26 : decode b_M_markBy 26 = .ok (.iconst 1, 1) := by decide +kernel
theorem d_M_markBy_27 : decode b_M_markBy 27 = .ok (.iadd, 1) := by decide +kernel
theorem d_M_markBy_28 : decode b_M_markBy 28 = .ok (.iaload, 1) := by decide +kernel
theorem d_M_markBy_29 : decode b_M_markBy 29 = .ok (.invokevirtual 200, 3) := by decide +kernel
theorem d_M_markBy_32 : decode b_M_markBy 32 = .ok (.ifCond .eq 16, 3) := by decide +kernel
theorem d_M_markBy_35 : decode b_M_markBy 35 = .ok (.aload_n 0, 1) := by decide +kernel
theorem d_M_markBy_36 : decode b_M_markBy 36 = .ok (.iload_n 2, 1) := by decide +kernel
theorem d_M_markBy_37 : decode b_M_markBy 37 = .ok (.aload_n 0, 1) := by decide +kernel
theorem d_M_markBy_38 : decode b_M_markBy 38 = .ok (.getfield 23, 3) := by decide +kernel
theorem d_M_markBy_41 : decode b_M_markBy 41 = .ok (.iconst 5, 1) := by decide +kernel
theorem d_M_markBy_42 : decode b_M_markBy 42 = .ok (.iload_n 1, 1) := by decide +kernel
theorem d_M_markBy_43 : decode b_M_markBy 43 = .ok (.imul, 1) := by decide +kernel
theorem d_M_markBy_44 : decode b_M_markBy 44 = .ok (.iaload, 1) := by decide +kernel
theorem d_M_markBy_45 : decode b_M_markBy 45 = .ok (.invokevirtual 203, 3) := by decide +kernel
theorem d_M_markBy_48 : decode b_M_markBy 48 = .ok (.aload_n 0, 1) := by decide +kernel
theorem d_M_markBy_49 : decode b_M_markBy 49 = .ok (.getfield 17, 3) := by decide +kernel
theorem d_M_markBy_52 : decode b_M_markBy 52 = .ok (.iload_n 1, 1) := by decide +kernel
theorem d_M_markBy_53 : decode b_M_markBy 53 = .ok (.iaload, 1) := by decide +kernel
theorem d_M_markBy_54 : decode b_M_markBy 54 = .ok (.bipush 6, 2) := by decide +kernel
theorem d_M_markBy_56 : decode b_M_markBy 56 = .ok (.if_icmp .eq 4, 3) := by decide +kernel
theorem d_M_markBy_59 : decode b_M_markBy 59 = .ok (.return_, 1) := by decide +kernel
theorem d_M_markBy_60 : decode b_M_markBy 60 = .ok (.aload_n 0, 1) := by decide +kernel
theorem d_M_markBy_61 : decode b_M_markBy 61 = .ok (.getfield 23, 3) := by decide +kernel
theorem d_M_markBy_64 : decode b_M_markBy 64 = .ok (.iconst 5, 1) := by decide +kernel
theorem d_M_markBy_65 : decode b_M_markBy 65 = .ok (.iload_n 1, 1) := by decide +kernel
theorem d_M_markBy_66 : decode b_M_markBy 66 = .ok (.imul, 1) := by decide +kernel
theorem d_M_markBy_67 : decode b_M_markBy 67 = .ok (.iaload, 1) := by decide +kernel
theorem d_M_markBy_68 : decode b_M_markBy 68 = .ok (.istore_n 3, 1) := by decide +kernel
theorem d_M_markBy_69 : decode b_M_markBy 69 = .ok (.iconst 0, 1) := by decide +kernel
theorem d_M_markBy_70 : decode b_M_markBy 70 = .ok (.istore 4, 2) := by decide +kernel
theorem d_M_markBy_72 : decode b_M_markBy 72 = .ok (.iload 4, 2) := by decide +kernel
theorem d_M_markBy_74 : decode b_M_markBy 74 = .ok (.iconst 3, 1) := by decide +kernel
theorem d_M_markBy_75 : decode b_M_markBy 75 = .ok (.if_icmp .ge 37, 3) := by decide +kernel
theorem d_M_markBy_78 : decode b_M_markBy 78 = .ok (.aload_n 0, 1) := by decide +kernel
theorem d_M_markBy_79 : decode b_M_markBy 79 = .ok (.iload_n 2, 1) := by decide +kernel
theorem d_M_markBy_80 : decode b_M_markBy 80 = .ok (.aload_n 0, 1) := by decide +kernel
theorem d_M_markBy_81 : decode b_M_markBy 81 = .ok (.getfield 23, 3) := by decide +kernel
theorem d_M_markBy_84 : decode b_M_markBy 84 = .ok (.iconst 5, 1) := by decide +kernel
theorem d_M_markBy_85 : decode b_M_markBy 85 = .ok (.iload_n 1, 1) := by decide +kernel
theorem d_M_markBy_86 : decode b_M_markBy 86 = .ok (.imul, 1) := by decide +kernel
theorem d_M_markBy_87 : decode b_M_markBy 87 = .ok (.iconst 1, 1) := by decide +kernel
theorem d_M_markBy_88 : decode b_M_markBy 88 = .ok (.iadd, 1) := by decide +kernel
theorem d_M_markBy_89 : decode b_M_markBy 89 = .ok (.iload 4, 2) := by decide +kernel
theorem d_M_markBy_91 : decode b_M_markBy 91 = .ok (.iadd, 1) := by decide +kernel
theorem d_M_markBy_92 : decode b_M_markBy 92 = .ok (.iaload, 1) := by decide +kernel
theorem d_M_markBy_93 : decode b_M_markBy 93 = .ok (.invokevirtual 200, 3) := by decide +kernel
theorem d_M_markBy_96 : decode b_M_markBy 96 = .ok (.ifCond .eq 10, 3) := by decide +kernel
theorem d_M_markBy_99 : decode b_M_markBy 99 = .ok (.aload_n 0, 1) := by decide +kernel
theorem d_M_markBy_100 : decode b_M_markBy 100 = .ok (.iload_n 3, 1) := by decide +kernel
theorem d_M_markBy_101 : decode b_M_markBy 101 = .ok (.iload 4, 2) := by decide +kernel
theorem d_M_markBy_103 : decode b_M_markBy 103 = .ok (.invokevirtual 203, 3) := by decide +kernel
theorem d_M_markBy_106 : decode b_M_markBy 106 = .ok (.iinc 4 1, 3) := by decide +kernel
theorem d_M_markBy_109 : decode b_M_markBy 109 = .ok (.goto (-37), 3) := by decide +kernel
theorem d_M_markBy_112 : decode b_M_markBy 112 = .ok (.aload_n 0, 1) := by decide +kernel
theorem d_M_markBy_113 : decode b_M_markBy 113 = .ok (.getfield 23, 3) := by decide +kernel
theorem d_M_markBy_116 : decode b_M_markBy 116 = .ok (.iconst 5, 1) := by decide +kernel
theorem d_M_markBy_117 : decode b_M_markBy 117 = .ok (.iload_n 1, 1) := by decide +kernel
theorem d_M_markBy_118 : decode b_M_markBy 118 = .ok (.imul, 1) := by decide +kernel
theorem d_M_markBy_119 : decode b_M_markBy 119 = .ok (.iconst 4, 1) := by decide +kernel
theorem d_M_markBy_120 : decode b_M_markBy 120 = .ok (.iadd, 1) := by decide +kernel
theorem d_M_markBy_121 : decode b_M_markBy 121 = .ok (.iaload, 1) := by decide +kernel
theorem d_M_markBy_122 : decode b_M_markBy 122 = .ok (.iconst (-1), 1) := by decide +kernel
theorem d_M_markBy_123 : decode b_M_markBy 123 = .ok (.if_icmp .eq 26, 3) := by decide +kernel
theorem d_M_markBy_126 : decode b_M_markBy 126 = .ok (.aload_n 0, 1) := by decide +kernel
theorem d_M_markBy_127 : decode b_M_markBy 127 = .ok (.iload_n 3, 1) := by decide +kernel
theorem d_M_markBy_128 : decode b_M_markBy 128 = .ok (.invokevirtual 206, 3) := by decide +kernel
theorem d_M_markBy_131 : decode b_M_markBy 131 = .ok (.ifCond .eq 18, 3) := by decide +kernel
theorem d_M_markBy_134 : decode b_M_markBy 134 = .ok (.aload_n 0, 1) := by decide +kernel
theorem d_M_markBy_135 : decode b_M_markBy 135 = .ok (.iload_n 2, 1) := by decide +kernel
theorem d_M_markBy_136 : decode b_M_markBy 136 = .ok (.aload_n 0, 1) := by decide +kernel
theorem d_M_markBy_137 : decode b_M_markBy 137 = .ok (.getfield 23, 3) := by decide +kernel
theorem d_M_markBy_140 : decode b_M_markBy 140 = .ok (.iconst 5, 1) := by decide +kernel
theorem d_M_markBy_141 : decode b_M_markBy 141 = .ok (.iload_n 1, 1) := by decide +kernel
theorem d_M_markBy_142 : decode b_M_markBy 142 = .ok (.imul, 1) := by decide +kernel
theorem d_M_markBy_143 : decode b_M_markBy 143 = .ok (.iconst 4, 1) := by decide +kernel
theorem d_M_markBy_144 : decode b_M_markBy 144 = .ok (.iadd, 1) := by decide +kernel
theorem d_M_markBy_145 : decode b_M_markBy 145 = .ok (.iaload, 1) := by decide +kernel
theorem d_M_markBy_146 : decode b_M_markBy 146 = .ok (.invokevirtual 203, 3) := by decide +kernel
theorem d_M_markBy_149 : decode b_M_markBy 149 = .ok (.return_, 1) := by decide +kernel
theorem d_M_findMarked_0 : decode b_M_findMarked 0 = .ok (.iconst 0, 1) := by decide +kernel
theorem d_M_findMarked_1 : decode b_M_findMarked 1 = .ok (.istore_n 3, 1) := by decide +kernel
theorem d_M_findMarked_2 : decode b_M_findMarked 2 = .ok (.iload_n 3, 1) := by decide +kernel
theorem d_M_findMarked_3 : decode b_M_findMarked 3 = .ok (.bipush 64, 2) := by decide +kernel
theorem d_M_findMarked_5 : decode b_M_findMarked 5 = .ok (.if_icmp .ge 16, 3) := by decide +kernel
theorem d_M_findMarked_8 : decode b_M_findMarked 8 = .ok (.aload_n 0, 1) := by decide +kernel
theorem d_M_findMarked_9 : decode b_M_findMarked 9 = .ok (.getfield 41, 3) := by decide +kernel
theorem d_M_findMarked_12 : decode b_M_findMarked 12 = .ok (.iload_n 3, 1) := by decide +kernel
theorem d_M_findMarked_13 : decode b_M_findMarked 13 = .ok (.iconst 0, 1) := by decide +kernel
theorem d_M_findMarked_14 : decode b_M_findMarked 14 = .ok (.bastore, 1) := by decide +kernel
theorem d_M_findMarked_15 : decode b_M_findMarked 15 = .ok (.iinc 3 1, 3) := by decide +kernel
theorem d_M_findMarked_18 : decode b_M_findMarked 18 = .ok (.goto (-16), 3) := by decide +kernel
theorem d_M_findMarked_21 : decode b_M_findMarked 21 = .ok (.aload_n 0, 1) := by decide +kernel
theorem d_M_findMarked_22 : decode b_M_findMarked 22 = .ok (.iload_n 1, 1) := by decide +kernel
theorem d_M_findMarked_23 : decode b_M_findMarked 23 = .ok (.iload_n 2, 1) := by decide +kernel
theorem d_M_findMarked_24 : decode b_M_findMarked 24 = .ok (.invokevirtual 203, 3) := by decide +kernel
theorem d_M_findMarked_27 : decode b_M_findMarked 27 = .ok (.aload_n 0, 1) := by decide +kernel
theorem d_M_findMarked_28 : decode b_M_findMarked 28 = .ok (.iconst 1, 1) := by decide +kernel
theorem d_M_findMarked_29 : decode b_M_findMarked 29 = .ok (.putfield 197, 3) := by decide +kernel
theorem d_M_findMarked_32 : decode b_M_findMarked 32 = .ok (.aload_n 0, 1) := by decide +kernel
theorem d_M_findMarked_33 : decode b_M_findMarked 33 = .ok (.getfield 197, 3) := by decide +kernel
theorem d_M_findMarked_36 : decode b_M_findMarked 36 = .ok (.ifCond .eq 40, 3) := by decide +kernel
theorem d_M_findMarked_39 : decode b_M_findMarked 39 = .ok (.aload_n 0, 1) := by decide +kernel
theorem d_M_findMarked_40 : decode b_M_findMarked 40 = .ok (.iconst 0, 1) := by decide +kernel
theorem d_M_findMarked_41 : decode b_M_findMarked 41 = .ok (.putfield 197, 3) := by decide +kernel
theorem d_M_findMarked_44 : decode b_M_findMarked 44 = .ok (.iconst 0, 1) := by decide +kernel
theorem d_M_findMarked_45 : decode b_M_findMarked 45 = .ok (.istore_n 3, 1) := by decide +kernel
theorem d_M_findMarked_46 : decode b_M_findMarked 46 = .ok (.iload_n 3, 1) := by decide +kernel
theorem d_M_findMarked_47 : decode b_M_findMarked 47 = .ok (.aload_n 0, 1) := by decide +kernel
theorem d_M_findMarked_48 : decode b_M_findMarked 48 = .ok (.getfield 49, 3) := by decide +kernel
theorem d_M_findMarked_51 : decode b_M_findMarked 51 = .ok (.if_icmp .ge 22, 3) := by decide +kernel
theorem d_M_findMarked_54 : decode b_M_findMarked 54 = .ok (.aload_n 0, 1) := by decide +kernel
theorem d_M_findMarked_55 : decode b_M_findMarked 55 = .ok (.iload_n 3, 1) := by decide +kernel
theorem d_M_findMarked_56 : decode b_M_findMarked 56 = .ok (.invokevirtual 122, 3) := by decide +kernel
theorem d_M_findMarked_59 : decode b_M_findMarked 59 = .ok (.ifCond .eq 8, 3) := by decide +kernel
theorem d_M_findMarked_62 : decode b_M_findMarked 62 = .ok (.aload_n 0, 1) := by decide +kernel
theorem d_M_findMarked_63 : decode b_M_findMarked 63 = .ok (.iload_n 3, 1) := by decide +kernel
theorem d_M_findMarked_64 : decode b_M_findMarked 64 = .ok (.invokevirtual 209, 3) := by decide +kernel
theorem d_M_findMarked_67 : decode b_M_findMarked 67 = .ok (.iinc 3 1, 3) := by decide +kernel
theorem d_M_findMarked_70 : decode b_M_findMarked 70 = .ok (.goto (-24), 3) := by decide +kernel
theorem d_M_findMarked_73 : decode b_M_findMarked 73 = .ok (.goto (-41), 3) := by decide +kernel
theorem d_M_findMarked_76 : decode b_M_findMarked 76 = .ok (.return_, 1) := by decide +kernel
theorem d_M_isKept_0 : decode b_M_isKept 0 = .ok (.iconst 0, 1) := by decide +kernel
theorem d_M_isKept_1 : decode b_M_isKept 1 = .ok (.istore_n 1, 1) := by decide +kernel
theorem d_M_isKept_2 : decode b_M_isKept 2 = .ok (.iconst 0, 1) := by decide +kernel
theorem d_M_isKept_3 : decode b_M_isKept 3 = .ok (.istore_n 2, 1) := by decide +kernel
theorem d_M_isKept_4 : decode b_M_isKept 4 = .ok (.iload_n 2, 1) := by decide +kernel
theorem d_M_isKept_5 : decode b_M_isKept 5 = .ok (.aload_n 0, 1) := by decide +kernel
theorem d_M_isKept_6 : decode b_M_isKept 6 = .ok (.getfield 49, 3) := by decide +kernel
theorem d_M_isKept_9 : decode b_M_isKept 9 = .ok (.if_icmp .ge 111, 3) := by decide +kernel
theorem d_M_isKept_12 : decode b_M_isKept 12 = .ok (.aload_n 0, 1) := by decide +kernel
theorem d_M_isKept_13 : decode b_M_isKept 13 = .ok (.getfield 17, 3) := by decide +kernel
theorem d_M_isKept_16 : decode b_M_isKept 16 = .ok (.iload_n 2, 1) := by decide +kernel
theorem d_M_isKept_17 : decode b_M_isKept 17 = .ok (.iaload, 1) := by decide +kernel
theorem d_M_isKept_18 : decode b_M_isKept 18 = .ok (.istore_n 3, 1) := by decide +kernel
theorem d_M_isKept_19 : decode b_M_isKept 19 = .ok (.iload_n 3, 1) := by decide +kernel
theorem d_M_isKept_20 : decode b_M_isKept 20 = .ok (.iconst 3, 1) := by decide +kernel
theorem d_M_isKept_21 : decode b_M_isKept 21 = .ok (.if_icmp .ne 16, 3) := by decide +kernel
theorem d_M_isKept_24 : decode b_M_isKept 24 = .ok (.aload_n 0, 1) := by decide +kernel
theorem d_M_isKept_25 : decode b_M_isKept 25 = .ok (.getfield 23, 3) := by decide +kernel
theorem d_M_isKept_28 : decode b_M_isKept 28 = .ok (.iconst 5, 1) := by decide +kernel
theorem d_M_isKept_29 : decode b_M_isKept 29 = .ok (.iload_n 2, 1) := by decide +kernel
theorem d_M_isKept_30 : decode b_M_isKept 30 = .ok (.imul, 1) := by decide +kernel
theorem d_M_isKept_31 : decode b_M_isKept 31 = .ok (.iconst 2, 1) := by decide +kernel
theorem d_M_isKept_32 : decode b_M_isKept 32 = .ok (.iadd, 1) := by decide +kernel
theorem d_M_isKept_33 : decode b_M_isKept 33 = .ok (.iaload, 1) := by decide +kernel
theorem d_M_isKept_34 : decode b_M_isKept 34 = .ok (.goto 45, 3) := by decide +kernel
theorem d_M_isKept_37 : decode b_M_isKept 37 = .ok (.iload_n 3, 1) := by decide +kernel
theorem d_M_isKept_38 : decode b_M_isKept 38 = .ok (.iconst 5, 1) := by decide +kernel
theorem d_M_isKept_39 : decode b_M_isKept 39 = .ok (.if_icmp .ne 16, 3) := by decide +kernel
theorem d_M_isKept_42 : decode b_M_isKept 42 = .ok (.aload_n 0, 1) := by decide +kernel
theorem d_M_isKept_43 : decode b_M_isKept 43 = .ok (.getfield 23, 3) := by decide +kernel
theorem d_M_isKept_46 : decode b_M_isKept 46 = .ok (.iconst 5, 1) := by decide +kernel
theorem d_M_isKept_47 : decode b_M_isKept 47 = .ok (.iload_n 2, 1) := by decide +kernel
theorem d_M_isKept_48 : decode b_M_isKept 48 = .ok (.imul, 1) := by decide +kernel
theorem d_M_isKept_49 : decode b_M_isKept 49 = .ok (.iconst 1, 1) := by decide +kernel
theorem d_M_isKept_50 : decode b_M_isKept 50 = .ok (.iadd, 1) := by decide +kernel
theorem d_M_isKept_51 : decode b_M_isKept 51 = .ok (.iaload, 1) := by decide +kernel
theorem d_M_isKept_52 : decode b_M_isKept 52 = .ok (.goto 27, 3) := by decide +kernel
theorem d_M_isKept_55 : decode b_M_isKept 55 = .ok (.iload_n 3, 1) := by decide +kernel
theorem d_M_isKept_56 : decode b_M_isKept 56 = .ok (.bipush 8, 2) := by decide +kernel
theorem d_M_isKept_58 : decode b_M_isKept 58 = .ok (.if_icmp .eq 9, 3) := by decide +kernel
theorem d_M_isKept_61 : decode b_M_isKept 61 = .ok (.iload_n 3, 1) := by decide +kernel
theorem d_M_isKept_62 : decode b_M_isKept 62 = .ok (.bipush 9, 2) := by decide +kernel
theorem d_M_isKept_64 : decode b_M_isKept 64 = .ok (.if_icmp .ne 14, 3) := by decide +kernel
theorem d_M_isKept_67 : decode b_M_isKept 67 = .ok (.aload_n 0, 1) := by decide +kernel
theorem d_M_isKept_68 : decode b_M_isKept 68 = .ok (.getfield 23, 3) := by decide +kernel
theorem d_M_isKept_71 : decode b_M_isKept 71 = .ok (.iconst 5, 1) := by decide +kernel
theorem d_M_isKept_72 : decode b_M_isKept 72 = .ok (.iload_n 2, 1) := by decide +kernel
theorem d_M_isKept_73 : decode b_M_isKept 73 = .ok (.imul, 1) := by decide +kernel
theorem d_M_isKept_74 : decode b_M_isKept 74 = .ok (.iaload, 1) := by decide +kernel
theorem d_M_isKept_75 : decode b_M_isKept 75 = .ok (.goto 4, 3) := by decide +kernel
theorem d_M_isKept_78 : decode b_M_isKept 78 = .ok (.iconst (-1), 1) := by decide +kernel
theorem d_M_isKept_79 : decode b_M_isKept 79 = .ok (.istore 4, 2) := by decide +kernel
theorem d_M_isKept_81 : decode b_M_isKept 81 = .ok (.iload_n 1, 1) := by decide +kernel
theorem d_M_isKept_82 : decode b_M_isKept 82 = .ok (.ifCond .ne 26, 3) := by decide +kernel
theorem d_M_isKept_85 : decode b_M_isKept 85 = .ok (.aload_n 0, 1) := by decide +kernel
theorem d_M_isKept_86 : decode b_M_isKept 86 = .ok (.iload_n 2, 1) := by decide +kernel
theorem d_M_isKept_87 : decode b_M_isKept 87 = .ok (.invokevirtual 122, 3) := by decide +kernel
theorem d_M_isKept_90 : decode b_M_isKept 90 = .ok (.ifCond .eq 22, 3) := by decide +kernel
theorem d_M_isKept_93 : decode b_M_isKept 93 = .ok (.aload_n 0, 1) := by decide +kernel
theorem d_M_isKept_94 : decode b_M_isKept 94 = .ok (.aload_n 0, 1) := by decide +kernel
theorem d_M_isKept_95 : decode b_M_isKept 95 = .ok (.getfield 13, 3) := by decide +kernel
theorem d_M_isKept_98 : decode b_M_isKept 98 = .ok (.iload_n 2, 1) := by decide +kernel
theorem d_M_isKept_99 : decode b_M_isKept 99 = .ok (.iaload, 1) := by decide +kernel
theorem d_M_isKept_100 : decode b_M_isKept 100 = .ok (.iload 4, 2) := by decide +kernel
theorem d_M_isKept_102 : decode b_M_isKept 102 = .ok (.invokevirtual 200, 3) := by decide +kernel
theorem d_M_isKept_105 : decode b_M_isKept 105 = .ok (.ifCond .eq 7, 3) := by decide +kernel
theorem d_M_isKept_108 : decode b_M_isKept 108 = .ok (.iconst 1, 1) := by decide +kernel
theorem d_M_isKept_109 : decode b_M_isKept 109 = .ok (.goto 4, 3) := by decide +kernel
theorem d_M_isKept_112 : decode b_M_isKept 112 = .ok (.iconst 0, 1) := by decide +kernel
theorem d_M_isKept_113 : decode b_M_isKept 113 = .ok (.istore_n 1, 1) := by decide +kernel
theorem d_M_isKept_114 : decode b_M_isKept 114 = .ok (.iinc 2 1, 3) := by decide +kernel
theorem d_M_isKept_117 : decode b_M_isKept 117 = .ok (.goto (-113), 3) := by decide +kernel
theorem d_M_isKept_120 : decode b_M_isKept 120 = .ok (.iload_n 1, 1) := by decide +kernel
theorem d_M_isKept_121 : decode b_M_isKept 121 = .ok (.ireturn, 1) := by decide +kernel
theorem d_M_parameter_0 : decode b_M_parameter 0 = .ok (.aload_n 0, 1) := by decide +kernel
theorem d_M_parameter_1 : decode b_M_parameter 1 = .ok (.iload_n 1, 1) := by decide +kernel
theorem d_M_parameter_2 : decode b_M_parameter 2 = .ok (.invokevirtual 63, 3) := by decide +kernel
theorem d_M_parameter_5 : decode b_M_parameter 5 = .ok (.ifCond .eq 21, 3) := by decide +kernel
theorem d_M_parameter_8 : decode b_M_parameter 8 = .ok (.iload_n 2, 1) := by decide +kernel
theorem d_M_parameter_9 : decode b_M_parameter 9 = .ok (.iconst 0, 1) := by decide +kernel
theorem d_M_parameter_10 : decode b_M_parameter 10 = .ok (.iconst 2, 1) := by decide +kernel
theorem d_M_parameter_11 : decode b_M_parameter 11 = .ok (.invokestatic 55, 3) := by decide +kernel
theorem d_M_parameter_14 : decode b_M_parameter 14 = .ok (.ifCond .eq 12, 3) := by decide +kernel
theorem d_M_parameter_17 : decode b_M_parameter 17 = .ok (.iload_n 3, 1) := by decide +kernel
theorem d_M_parameter_18 : decode b_M_parameter 18 = .ok (.iconst 0, 1) := by decide +kernel
theorem d_M_parameter_19 : decode b_M_parameter 19 = .ok (.iconst 2, 1) := by decide +kernel
theorem d_M_parameter_20 : decode b_M_parameter 20 = .ok (.invokestatic 55, 3) := by decide +kernel
theorem d_M_parameter_23 : decode b_M_parameter 23 = .ok (.ifCond .ne 6, 3) := by decide +kernel
theorem d_M_parameter_26 : decode b_M_parameter 26 = .ok (.bipush (-2), 2) := by decide +kernel
theorem d_M_parameter_28 : decode b_M_parameter 28 = .ok (.ireturn, 1) := by decide +kernel
theorem d_M_parameter_29 : decode b_M_parameter 29 = .ok (.aload_n 0, 1) := by decide +kernel
theorem d_M_parameter_30 : decode b_M_parameter 30 = .ok (.invokevirtual 87, 3) := by decide +kernel
theorem d_M_parameter_33 : decode b_M_parameter 33 = .ok (.aload_n 0, 1) := by decide +kernel
theorem d_M_parameter_34 : decode b_M_parameter 34 = .ok (.getfield 90, 3) := by decide +kernel
theorem d_M_parameter_37 : decode b_M_parameter 37 = .ok (.iload_n 1, 1) := by decide +kernel
theorem d_M_parameter_38 : decode b_M_parameter 38 = .ok (.invokestatic 80, 3) := by decide +kernel
theorem d_M_parameter_41 : decode b_M_parameter 41 = .ok (.ifCond .ne 5, 3) := by decide +kernel
theorem d_M_parameter_44 : decode b_M_parameter 44 = .ok (.iconst (-1), 1) := by decide +kernel
theorem d_M_parameter_45 : decode b_M_parameter 45 = .ok (.ireturn, 1) := by decide +kernel
theorem d_M_parameter_46 : decode b_M_parameter 46 = .ok (.aload_n 0, 1) := by decide +kernel
theorem d_M_parameter_47 : decode b_M_parameter 47 = .ok (.iload_n 1, 1) := by decide +kernel
theorem d_M_parameter_48 : decode b_M_parameter 48 = .ok (.iload_n 2, 1) := by decide +kernel
theorem d_M_parameter_49 : decode b_M_parameter 49 = .ok (.invokevirtual 212, 3) := by decide +kernel
theorem d_M_parameter_52 : decode b_M_parameter 52 = .ok (.iload_n 3, 1) := by decide +kernel
theorem d_M_parameter_53 : decode b_M_parameter 53 = .ok (.ifCond .ne 16, 3) := by decide +kernel
theorem d_M_parameter_56 : decode b_M_parameter 56 = .ok (.aload_n 0, 1) := by decide +kernel
theorem d_M_parameter_57 : decode b_M_parameter 57 = .ok (.invokevirtual 215, 3) := by decide +kernel
theorem d_M_parameter_60 : decode b_M_parameter 60 = .ok (.ifCond .eq 7, 3) := by decide +kernel
theorem d_M_parameter_63 : decode b_M_parameter 63 = .ok (.iconst 1, 1) := by decide +kernel
theorem d_M_parameter_64 : decode b_M_parameter 64 = .ok (.goto 4, 3) := by decide +kernel
theorem d_M_parameter_67 : decode b_M_parameter 67 = .ok (.iconst 0, 1) := by decide +kernel
theorem d_M_parameter_68 : decode b_M_parameter 68 = .ok (.ireturn, 1) := by decide +kernel
theorem d_M_parameter_69 : decode b_M_parameter 69 = .ok (.iload_n 3, 1) := by decide +kernel
theorem d_M_parameter_70 : decode b_M_parameter 70 = .ok (.iconst 1, 1) := by decide +kernel
theorem d_M_parameter_71 : decode b_M_parameter 71 = .ok (.if_icmp .ne 17, 3) := by decide +kernel
theorem d_M_parameter_74 : decode b_M_parameter 74 = .ok (.aload_n 0, 1) := by decide +kernel
theorem d_M_parameter_75 : decode b_M_parameter 75 = .ok (.iload_n 1, 1) := by decide +kernel
theorem d_M_parameter_76 : decode b_M_parameter 76 = .ok (.invokevirtual 206, 3) := by decide +kernel
theorem d_M_parameter_79 : decode b_M_parameter 79 = .ok (.ifCond .eq 7, 3) := by decide +kernel
theorem d_M_parameter_82 : decode b_M_parameter 82 = .ok (.iconst 1, 1) := by decide +kernel
theorem d_M_parameter_83 : decode b_M_parameter 83 = .ok (.goto 4, 3) := by decide +kernel
theorem d_M_parameter_86 : decode b_M_parameter 86 = .ok (.iconst 0, 1) := by decide +kernel
theorem d_M_parameter_87 : decode b_M_parameter 87 = .ok (.ireturn, 1) := by decide +kernel
theorem d_M_parameter_88 : decode b_M_parameter 88 = .ok (.iconst 0, 1) := by decide +kernel
theorem d_M_parameter_89 : decode b_M_parameter 89 = .ok (.istore 4, 2) := by decide +kernel
theorem d_M_parameter_91 : decode b_M_parameter 91 = .ok (.iconst 0, 1) := by decide +kernel
theorem d_M_parameter_92 : decode b_M_parameter 92 = .ok (.istore 5, 2) := by decide +kernel
theorem d_M_parameter_94 : decode b_M_parameter 94 = .ok (.iload 5, 2) := by decide +kernel
theorem d_M_parameter_96 : decode b_M_parameter 96 = .ok (.bipush 64, 2) := by decide +kernel
theorem d_M_parameter_98 : decode b_M_parameter 98 = .ok (.if_icmp .ge 30, 3) := by decide +kernel
theorem d_M_parameter_101 : decode b_M_parameter 101 = .ok (.aload_n 0, 1) := by decide +kernel
theorem d_M_parameter_102 : decode b_M_parameter 102 = .ok (.getfield 41, 3) := by decide +kernel
theorem d_M_parameter_105 : decode b_M_parameter 105 = .ok (.iload 5, 2) := by decide +kernel
theorem d_M_parameter_107 : decode b_M_parameter 107 = .ok (.baload, 1) := by decide +kernel
theorem d_M_parameter_108 : decode b_M_parameter 108 = .ok (.ifCond .eq 10, 3) := by decide +kernel
theorem d_M_parameter_111 : decode b_M_parameter 111 = .ok (.iload 4, 2) := by decide +kernel
theorem d_M_parameter_113 : decode b_M_parameter 113 = .ok (.iconst 1, 1) := by decide +kernel
theorem d_M_parameter_114 : decode b_M_parameter 114 = .ok (.iadd, 1) := by decide +kernel
theorem d_M_parameter_115 : decode b_M_parameter 115 = .ok (.goto 5, 3) := by decide +kernel
theorem d_M_parameter_118 : decode b_M_parameter 118 = .ok (.iload 4, 2) := by decide +kernel
theorem d_M_parameter_120 : decode b_M_parameter 120 = .ok (.istore 4, 2) := by decide +kernel
theorem d_M_parameter_122 : decode b_M_parameter 122 = .ok (.iinc 5 1, 3) := by decide +kernel
theorem d_M_parameter_125 : decode b_M_parameter 125 = .ok (.goto (-31), 3) := by decide +kernel
theorem d_M_parameter_128 : decode b_M_parameter 128 = .ok (.iload 4, 2) := by decide +kernel
theorem d_M_parameter_130 : decode b_M_parameter 130 = .ok (.ireturn, 1) := by decide +kernel
