theorem d_Mo_init_0 : decode c_Mo_init 0 = .ok (.aload_n 0, 1) := by decide +kernel
theorem d_Mo_init_1 : decode c_Mo_init 1 = .ok (.invokespecial 1, 3) := by decide +kernel
theorem d_Mo_init_4 : decode c_Mo_init 4 = .ok (.aload_n 0, 1) := by decide +kernel
theorem d_Mo_init_5 : decode c_Mo_init 5 = .ok (.ldc 7, 2) := by decide +kernel
theorem d_Mo_init_7 : decode c_Mo_init 7 = .ok (.newarray .byte, 2) := by decide +kernel
theorem d_Mo_init_9 : decode c_Mo_init 9 = .ok (.putfield 8, 3) := by decide +kernel
theorem d_Mo_init_12 : decode c_Mo_init 12 = .ok (.aload_n 0, 1) := by decide +kernel
theorem d_Mo_init_13 : decode c_Mo_init 13 = .ok (.sipush 128, 3) := by decide +kernel
theorem d_Mo_init_16 : decode c_Mo_init 16 = .ok (.newarray .boolean, 2) := by decide +kernel
theorem d_Mo_init_18 : decode c_Mo_init 18 = .ok (.putfield 14, 3) := by decide +kernel
theorem d_Mo_init_21 : decode c_Mo_init 21 = .ok (.aload_n 0, 1) := by decide +kernel
theorem d_Mo_init_22 : decode c_Mo_init 22 = .ok (.bipush 13, 2) := by decide +kernel
theorem d_Mo_init_24 : decode c_Mo_init 24 = .ok (.newarray .int, 2) := by decide +kernel
theorem d_Mo_init_26 : decode c_Mo_init 26 = .ok (.putfield 18, 3) := by decide +kernel
theorem d_Mo_init_29 : decode c_Mo_init 29 = .ok (.aload_n 0, 1) := by decide +kernel
theorem d_Mo_init_30 : decode c_Mo_init 30 = .ok (.bipush 13, 2) := by decide +kernel
theorem d_Mo_init_32 : decode c_Mo_init 32 = .ok (.newarray .int, 2) := by decide +kernel
theorem d_Mo_init_34 : decode c_Mo_init 34 = .ok (.putfield 22, 3) := by decide +kernel
theorem d_Mo_init_37 : decode c_Mo_init 37 = .ok (.aload_n 0, 1) := by decide +kernel
theorem d_Mo_init_38 : decode c_Mo_init 38 = .ok (.bipush 13, 2) := by decide +kernel
theorem d_Mo_init_40 : decode c_Mo_init 40 = .ok (.newarray .int, 2) := by decide +kernel
theorem d_Mo_init_42 : decode c_Mo_init 42 = .ok (.putfield 25, 3) := by decide +kernel
theorem d_Mo_init_45 : decode c_Mo_init 45 = .ok (.aload_n 0, 1) := by decide +kernel
theorem d_Mo_init_46 : decode c_Mo_init 46 = .ok (.bipush 13, 2) := by decide +kernel
theorem d_Mo_init_48 : decode c_Mo_init 48 = .ok (.newarray .int, 2) := by decide +kernel
theorem d_Mo_init_50 : decode c_Mo_init 50 = .ok (.putfield 28, 3) := by decide +kernel
theorem d_Mo_init_53 : decode c_Mo_init 53 = .ok (.aload_n 0, 1) := by decide +kernel
theorem d_Mo_init_54 : decode c_Mo_init 54 = .ok (.bipush 13, 2) := by decide +kernel
theorem d_Mo_init_56 : decode c_Mo_init 56 = .ok (.newarray .boolean, 2) := by decide +kernel
theorem d_Mo_init_58 : decode c_Mo_init 58 = .ok (.putfield 31, 3) := by decide +kernel
theorem d_Mo_init_61 : decode c_Mo_init 61 = .ok (.aload_n 0, 1) := by decide +kernel
theorem d_Mo_init_62 : decode c_Mo_init 62 = .ok (.sipush 195, 3) := by decide +kernel
theorem d_Mo_init_65 : decode c_Mo_init 65 = .ok (.newarray .int, 2) := by decide +kernel
theorem d_Mo_init_67 : decode c_Mo_init 67 = .ok (.putfield 34, 3) := by decide +kernel
theorem d_Mo_init_70 : decode c_Mo_init 70 = .ok (.aload_n 0, 1) := by decide +kernel
theorem d_Mo_init_71 : decode c_Mo_init 71 = .ok (.sipush 780, 3) := by decide +kernel
theorem d_Mo_init_74 : decode c_Mo_init 74 = .ok (.newarray .byte, 2) := by decide +kernel
theorem d_Mo_init_76 : decode c_Mo_init 76 = .ok (.putfield 37, 3) := by decide +kernel
theorem d_Mo_init_79 : decode c_Mo_init 79 = .ok (.iconst 0, 1) := by decide +kernel
theorem d_Mo_init_80 : decode c_Mo_init 80 = .ok (.istore_n 1, 1) := by decide +kernel
theorem d_Mo_init_81 : decode c_Mo_init 81 = .ok (.iload_n 1, 1) := by decide +kernel
theorem d_Mo_init_82 : decode c_Mo_init 82 = .ok (.iconst 4, 1) := by decide +kernel
theorem d_Mo_init_83 : decode c_Mo_init 83 = .ok (.if_icmp .ge 16, 3) := by decide +kernel
theorem d_Mo_init_86 : decode c_Mo_init 86 = .ok (.aload_n 0, 1) := by decide +kernel
theorem d_Mo_init_87 : decode c_Mo_init 87 = .ok (.getfield 14, 3) := by decide +kernel
theorem d_Mo_init_90 : decode c_Mo_init 90 = .ok (.iload_n 1, 1) := by decide +kernel
theorem d_Mo_init_91 : decode c_Mo_init 91 = .ok (.iconst 1, 1) := by decide +kernel
theorem d_Mo_init_92 : decode c_Mo_init 92 = .ok (.bastore, 1) := by decide +kernel
theorem d_Mo_init_93 : decode c_Mo_init 93 = .ok (.iinc 1 1, 3) := by decide +kernel
theorem d_Mo_init_96 : decode c_Mo_init 96 = .ok (.goto (-15), 3) := by decide +kernel
theorem d_Mo_init_99 : decode c_Mo_init 99 = .ok (.return_, 1) := by decide +kernel
theorem d_Mo_thrown_0 : decode c_Mo_thrown 0 = .ok (.aload_n 0, 1) := by decide +kernel
theorem d_Mo_thrown_1 : decode c_Mo_thrown 1 = .ok (.getfield 40, 3) := by decide +kernel
theorem d_Mo_thrown_4 : decode c_Mo_thrown 4 = .ok (.ireturn, 1) := by decide +kernel
theorem d_Mo_make_0 : decode c_Mo_make 0 = .ok (.aload_n 0, 1) := by decide +kernel
theorem d_Mo_make_1 : decode c_Mo_make 1 = .ok (.iload_n 1, 1) := by decide +kernel
theorem d_Mo_make_2 : decode c_Mo_make 2 = .ok (.i2l, 1) := by decide +kernel
theorem d_Mo_make_3 : decode c_Mo_make 3 = .ok (.lconst 0, 1) := by decide +kernel
theorem d_Mo_make_4 : decode c_Mo_make 4 = .ok (.ldc2_w 65, 3) := by decide +kernel
theorem d_Mo_make_7 : decode c_Mo_make 7 = .ok (.invokestatic 46, 3) := by decide +kernel
theorem d_Mo_make_10 : decode c_Mo_make 10 = .ok (.ifCond .ne 7, 3) := by decide +kernel
theorem d_Mo_make_13 : decode c_Mo_make 13 = .ok (.iconst 1, 1) := by decide +kernel
theorem d_Mo_make_14 : decode c_Mo_make 14 = .ok (.goto 15, 3) := by decide +kernel
theorem d_Mo_make_17 : decode c_Mo_make 17 = .ok (.aload_n 0, 1) := by decide +kernel
theorem d_Mo_make_18 : decode c_Mo_make 18 = .ok (.invokevirtual 57, 3) := by decide +kernel
theorem d_Mo_make_21 : decode c_Mo_make 21 = .ok (.ifCond .ne 7, 3) := by decide +kernel
theorem d_Mo_make_24 : decode c_Mo_make 24 = .ok (.iconst 2, 1) := by decide +kernel
theorem d_Mo_make_25 : decode c_Mo_make 25 = .ok (.goto 4, 3) := by decide +kernel
theorem d_Mo_make_28 : decode c_Mo_make 28 = .ok (.iconst 0, 1) := by decide +kernel
theorem d_Mo_make_29 : decode c_Mo_make 29 = .ok (.putfield 40, 3) := by decide +kernel
theorem d_Mo_make_32 : decode c_Mo_make 32 = .ok (.aload_n 0, 1) := by decide +kernel
theorem d_Mo_make_33 : decode c_Mo_make 33 = .ok (.getfield 40, 3) := by decide +kernel
theorem d_Mo_make_36 : decode c_Mo_make 36 = .ok (.ifCond .le 7, 3) := by decide +kernel
theorem d_Mo_make_39 : decode c_Mo_make 39 = .ok (.iconst 0, 1) := by decide +kernel
theorem d_Mo_make_40 : decode c_Mo_make 40 = .ok (.goto 9, 3) := by decide +kernel
theorem d_Mo_make_43 : decode c_Mo_make 43 = .ok (.aload_n 0, 1) := by decide +kernel
theorem d_Mo_make_44 : decode c_Mo_make 44 = .ok (.iconst 1, 1) := by decide +kernel
theorem d_Mo_make_45 : decode c_Mo_make 45 = .ok (.iload_n 1, 1) := by decide +kernel
theorem d_Mo_make_46 : decode c_Mo_make 46 = .ok (.invokevirtual 67, 3) := by decide +kernel
theorem d_Mo_make_49 : decode c_Mo_make 49 = .ok (.ireturn, 1) := by decide +kernel
theorem d_Mo_in_0 : decode c_Mo_in 0 = .ok (.lload_n 0, 1) := by decide +kernel
theorem d_Mo_in_1 : decode c_Mo_in 1 = .ok (.lload_n 2, 1) := by decide +kernel
theorem d_Mo_in_2 : decode c_Mo_in 2 = .ok (.lcmp, 1) := by decide +kernel
theorem d_Mo_in_3 : decode c_Mo_in 3 = .ok (.ifCond .lt 14, 3) := by decide +kernel
theorem d_Mo_in_6 : decode c_Mo_in 6 = .ok (.lload_n 0, 1) := by decide +kernel
theorem d_Mo_in_7 : decode c_Mo_in 7 = .ok (.lload 4, 2) := by decide +kernel
theorem d_Mo_in_9 : decode c_Mo_in 9 = .ok (.lcmp, 1) := by decide +kernel
theorem d_Mo_in_10 : decode c_Mo_in 10 = .ok (.ifCond .gt 7, 3) := by decide +kernel
theorem d_Mo_in_13 : decode c_Mo_in 13 = .ok (.iconst 1, 1) := by decide +kernel
theorem d_Mo_in_14 : decode c_Mo_in 14 = .ok (.goto 4, 3) := by decide +kernel
theorem d_Mo_in_17 : decode c_Mo_in 17 = .ok (.iconst 0, 1) := by decide +kernel
theorem d_Mo_in_18 : decode c_Mo_in 18 = .ok (.ireturn, 1) := by decide +kernel
theorem d_Mo_freeFile_0 : decode c_Mo_freeFile 0 = .ok (.iconst 1, 1) := by decide +kernel
theorem d_Mo_freeFile_1 : decode c_Mo_freeFile 1 = .ok (.istore_n 1, 1) := by decide +kernel
theorem d_Mo_freeFile_2 : decode c_Mo_freeFile 2 = .ok (.iload_n 1, 1) := by decide +kernel
theorem d_Mo_freeFile_3 : decode c_Mo_freeFile 3 = .ok (.bipush 12, 2) := by decide +kernel
theorem d_Mo_freeFile_5 : decode c_Mo_freeFile 5 = .ok (.if_icmp .gt 20, 3) := by decide +kernel
theorem d_Mo_freeFile_8 : decode c_Mo_freeFile 8 = .ok (.aload_n 0, 1) := by decide +kernel
theorem d_Mo_freeFile_9 : decode c_Mo_freeFile 9 = .ok (.getfield 18, 3) := by decide +kernel
theorem d_Mo_freeFile_12 : decode c_Mo_freeFile 12 = .ok (.iload_n 1, 1) := by decide +kernel
theorem d_Mo_freeFile_13 : decode c_Mo_freeFile 13 = .ok (.iaload, 1) := by decide +kernel
theorem d_Mo_freeFile_14 : decode c_Mo_freeFile 14 = .ok (.ifCond .ne 5, 3) := by decide +kernel
theorem d_Mo_freeFile_17 : decode c_Mo_freeFile 17 = .ok (.iload_n 1, 1) := by decide +kernel
theorem d_Mo_freeFile_18 : decode c_Mo_freeFile 18 = .ok (.ireturn, 1) := by decide +kernel
theorem d_Mo_freeFile_19 : decode c_Mo_freeFile 19 = .ok (.iinc 1 1, 3) := by decide +kernel
theorem d_Mo_freeFile_22 : decode c_Mo_freeFile 22 = .ok (.goto (-20), 3) := by decide +kernel
theorem d_Mo_freeFile_25 : decode c_Mo_freeFile 25 = .ok (.iconst 0, 1) := by decide +kernel
theorem d_Mo_freeFile_26 : decode c_Mo_freeFile 26 = .ok (.ireturn, 1) := by decide +kernel
theorem d_Mo_begin_0 : decode c_Mo_begin 0 = .ok (.aload_n 0, 1) := by decide +kernel
theorem d_Mo_begin_1 : decode c_Mo_begin 1 = .ok (.invokevirtual 57, 3) := by decide +kernel
theorem d_Mo_begin_4 : decode c_Mo_begin 4 = .ok (.istore_n 3, 1) := by decide +kernel
theorem d_Mo_begin_5 : decode c_Mo_begin 5 = .ok (.aload_n 0, 1) := by decide +kernel
theorem d_Mo_begin_6 : decode c_Mo_begin 6 = .ok (.getfield 18, 3) := by decide +kernel
theorem d_Mo_begin_9 : decode c_Mo_begin 9 = .ok (.iload_n 3, 1) := by decide +kernel
theorem d_Mo_begin_10 : decode c_Mo_begin 10 = .ok (.iload_n 1, 1) := by decide +kernel
theorem d_Mo_begin_11 : decode c_Mo_begin 11 = .ok (.iastore, 1) := by decide +kernel
theorem d_Mo_begin_12 : decode c_Mo_begin 12 = .ok (.aload_n 0, 1) := by decide +kernel
theorem d_Mo_begin_13 : decode c_Mo_begin 13 = .ok (.getfield 22, 3) := by decide +kernel
theorem d_Mo_begin_16 : decode c_Mo_begin 16 = .ok (.iload_n 3, 1) := by decide +kernel
theorem d_Mo_begin_17 : decode c_Mo_begin 17 = .ok (.iload_n 2, 1) := by decide +kernel
theorem d_Mo_begin_18 : decode c_Mo_begin 18 = .ok (.iastore, 1) := by decide +kernel
theorem d_Mo_begin_19 : decode c_Mo_begin 19 = .ok (.aload_n 0, 1) := by decide +kernel
theorem d_Mo_begin_20 : decode c_Mo_begin 20 = .ok (.getfield 25, 3) := by decide +kernel
theorem d_Mo_begin_23 : decode c_Mo_begin 23 = .ok (.iload_n 3, 1) := by decide +kernel
theorem d_Mo_begin_24 : decode c_Mo_begin 24 = .ok (.iconst 0, 1) := by decide +kernel
theorem d_Mo_begin_25 : decode c_Mo_begin 25 = .ok (.iastore, 1) := by decide +kernel
theorem d_Mo_begin_26 : decode c_Mo_begin 26 = .ok (.iconst 0, 1) := by decide +kernel
theorem d_Mo_begin_27 : decode c_Mo_begin 27 = .ok (.istore 4, 2) := by decide +kernel
theorem d_Mo_begin_29 : decode c_Mo_begin 29 = .ok (.iload 4, 2) := by decide +kernel
theorem d_Mo_begin_31 : decode c_Mo_begin 31 = .ok (.bipush 15, 2) := by decide +kernel
theorem d_Mo_begin_33 : decode c_Mo_begin 33 = .ok (.if_icmp .ge 22, 3) := by decide +kernel
theorem d_Mo_begin_36 : decode c_Mo_begin 36 = .ok (.aload_n 0, 1) := by decide +kernel
theorem d_Mo_begin_37 : decode c_Mo_begin 37 = .ok (.getfield 34, 3) := by decide +kernel
theorem d_Mo_begin_40 : decode c_Mo_begin 40 = .ok (.bipush 15, 2) := by decide +kernel
theorem d_Mo_begin_42 : decode c_Mo_begin 42 = .ok (.iload_n 3, 1) := by decide +kernel
theorem d_Mo_begin_43 : decode c_Mo_begin 43 = .ok (.imul, 1) := by decide +kernel
theorem d_Mo_begin_44 : decode c_Mo_begin 44 = .ok (.iload 4, 2) := by decide +kernel
theorem d_Mo_begin_46 : decode c_Mo_begin 46 = .ok (.iadd, 1) := by decide +kernel
theorem d_Mo_begin_47 : decode c_Mo_begin 47 = .ok (.iconst 0, 1) := by decide +kernel
theorem d_Mo_begin_48 : decode c_Mo_begin 48 = .ok (.iastore, 1) := by decide +kernel
theorem d_Mo_begin_49 : decode c_Mo_begin 49 = .ok (.iinc 4 1, 3) := by decide +kernel
theorem d_Mo_begin_52 : decode c_Mo_begin 52 = .ok (.goto (-23), 3) := by decide +kernel
theorem d_Mo_begin_55 : decode c_Mo_begin 55 = .ok (.aload_n 0, 1) := by decide +kernel
theorem d_Mo_begin_56 : decode c_Mo_begin 56 = .ok (.iload_n 3, 1) := by decide +kernel
theorem d_Mo_begin_57 : decode c_Mo_begin 57 = .ok (.iload_n 2, 1) := by decide +kernel
theorem d_Mo_begin_58 : decode c_Mo_begin 58 = .ok (.ifCond .ne 7, 3) := by decide +kernel
theorem d_Mo_begin_61 : decode c_Mo_begin 61 = .ok (.iconst 1, 1) := by decide +kernel
theorem d_Mo_begin_62 : decode c_Mo_begin 62 = .ok (.goto 4, 3) := by decide +kernel
theorem d_Mo_begin_65 : decode c_Mo_begin 65 = .ok (.iconst 0, 1) := by decide +kernel
theorem d_Mo_begin_66 : decode c_Mo_begin 66 = .ok (.invokevirtual 61, 3) := by decide +kernel
theorem d_Mo_begin_69 : decode c_Mo_begin 69 = .ok (.iload_n 3, 1) := by decide +kernel
theorem d_Mo_begin_70 : decode c_Mo_begin 70 = .ok (.ireturn, 1) := by decide +kernel
theorem d_Mo_rest_0 : decode c_Mo_rest 0 = .ok (.iload_n 2, 1) := by decide +kernel
theorem d_Mo_rest_1 : decode c_Mo_rest 1 = .ok (.aload_n 0, 1) := by decide +kernel
theorem d_Mo_rest_2 : decode c_Mo_rest 2 = .ok (.getfield 31, 3) := by decide +kernel
theorem d_Mo_rest_5 : decode c_Mo_rest 5 = .ok (.iload_n 1, 1) := by decide +kernel
theorem d_Mo_rest_6 : decode c_Mo_rest 6 = .ok (.baload, 1) := by decide +kernel
theorem d_Mo_rest_7 : decode c_Mo_rest 7 = .ok (.if_icmp .ne 4, 3) := by decide +kernel
theorem d_Mo_rest_10 : decode c_Mo_rest 10 = .ok (.return_, 1) := by decide +kernel
theorem d_Mo_rest_11 : decode c_Mo_rest 11 = .ok (.aload_n 0, 1) := by decide +kernel
theorem d_Mo_rest_12 : decode c_Mo_rest 12 = .ok (.getfield 31, 3) := by decide +kernel
theorem d_Mo_rest_15 : decode c_Mo_rest 15 = .ok (.iload_n 1, 1) := by decide +kernel
theorem d_Mo_rest_16 : decode c_Mo_rest 16 = .ok (.iload_n 2, 1) := by decide +kernel
theorem d_Mo_rest_17 : decode c_Mo_rest 17 = .ok (.bastore, 1) := by decide +kernel
theorem d_Mo_rest_18 : decode c_Mo_rest 18 = .ok (.iload_n 2, 1) := by decide +kernel
theorem d_Mo_rest_19 : decode c_Mo_rest 19 = .ok (.ifCond .eq 19, 3) := by decide +kernel
theorem d_Mo_rest_22 : decode c_Mo_rest 22 = .ok (.aload_n 0, 1) := by decide +kernel
theorem d_Mo_rest_23 : decode c_Mo_rest 23 = .ok (.getfield 28, 3) := by decide +kernel
theorem d_Mo_rest_26 : decode c_Mo_rest 26 = .ok (.iload_n 1, 1) := by decide +kernel
theorem d_Mo_rest_27 : decode c_Mo_rest 27 = .ok (.aload_n 0, 1) := by decide +kernel
theorem d_Mo_rest_28 : decode c_Mo_rest 28 = .ok (.getfield 54, 3) := by decide +kernel
theorem d_Mo_rest_31 : decode c_Mo_rest 31 = .ok (.iastore, 1) := by decide +kernel
theorem d_Mo_rest_32 : decode c_Mo_rest 32 = .ok (.aload_n 0, 1) := by decide +kernel
theorem d_Mo_rest_33 : decode c_Mo_rest 33 = .ok (.iload_n 1, 1) := by decide +kernel
theorem d_Mo_rest_34 : decode c_Mo_rest 34 = .ok (.putfield 54, 3) := by decide +kernel
theorem d_Mo_rest_37 : decode c_Mo_rest 37 = .ok (.return_, 1) := by decide +kernel
theorem d_Mo_rest_38 : decode c_Mo_rest 38 = .ok (.aload_n 0, 1) := by decide +kernel
theorem d_Mo_rest_39 : decode c_Mo_rest 39 = .ok (.getfield 54, 3) := by decide +kernel
theorem d_Mo_rest_42 : decode c_Mo_rest 42 = .ok (.iload_n 1, 1) := by decide +kernel
theorem d_Mo_rest_43 : decode c_Mo_rest 43 = .ok (.if_icmp .ne 13, 3) := by decide +kernel
theorem d_Mo_rest_46 : decode c_Mo_rest 46 = .ok (.aload_n 0, 1) := by decide +kernel
theorem d_Mo_rest_47 : decode c_Mo_rest 47 = .ok (.aload_n 0, 1) := by decide +kernel
theorem d_Mo_rest_48 : decode c_Mo_rest 48 = .ok (.getfield 28, 3) := by decide +kernel
theorem d_Mo_rest_51 : decode c_Mo_rest 51 = .ok (.iload_n 1, 1) := by decide +kernel
theorem d_Mo_rest_52 : decode c_Mo_rest 52 = .ok (.iaload, 1) := by decide +kernel
theorem d_Mo_rest_53 : decode c_Mo_rest 53 = .ok (.putfield 54, 3) := by decide +kernel
theorem d_Mo_rest_56 : decode c_Mo_rest 56 = .ok (.iconst 1, 1) := by decide +kernel
theorem d_Mo_rest_57 : decode c_Mo_rest 57 = .ok (.istore_n 3, 1) := by decide +kernel
theorem d_Mo_rest_58 : decode c_Mo_rest 58 = .ok (.iload_n 3, 1) := by decide +kernel
theorem d_Mo_rest_59 : decode c_Mo_rest 59 = .ok (.bipush 12, 2) := by decide +kernel
theorem d_Mo_rest_61 : decode c_Mo_rest 61 = .ok (.if_icmp .gt 49, 3) := by decide +kernel
theorem d_Mo_rest_64 : decode c_Mo_rest 64 = .ok (.aload_n 0, 1) := by decide +kernel
theorem d_Mo_rest_65 : decode c_Mo_rest 65 = .ok (.getfield 28, 3) := by decide +kernel
theorem d_Mo_rest_68 : decode c_Mo_rest 68 = .ok (.iload_n 3, 1) := by decide +kernel
theorem d_Mo_rest_69 : decode c_Mo_rest 69 = .ok (.aload_n 0, 1) := by decide +kernel
theorem d_Mo_rest_70 : decode c_Mo_rest 70 = .ok (.getfield 31, 3) := by decide +kernel
theorem d_Mo_rest_73 : decode c_Mo_rest 73 = .ok (.iload_n 3, 1) := by decide +kernel
theorem d_Mo_rest_74 : decode c_Mo_rest 74 = .ok (.baload, 1) := by decide +kernel
theorem d_Mo_rest_75 : decode c_Mo_rest 75 = .ok (.ifCond .eq 22, 3) := by decide +kernel
theorem d_Mo_rest_78 : decode c_Mo_rest 78 = .ok (.aload_n 0, 1) := by decide +kernel
theorem d_Mo_rest_79 : decode c_Mo_rest 79 = .ok (.getfield 28, 3) := by decide +kernel
theorem d_Mo_rest_82 : decode c_Mo_rest 82 = .ok (.iload_n 3, 1) := by decide +kernel
theorem d_Mo_rest_83 : decode c_Mo_rest 83 = .ok (.iaload, 1) := by decide +kernel
theorem d_Mo_rest_84 : decode c_Mo_rest 84 = .ok (.iload_n 1, 1) := by decide +kernel
theorem d_Mo_rest_85 : decode c_Mo_rest 85 = .ok (.if_icmp .ne 12, 3) := by decide +kernel
theorem d_Mo_rest_88 : decode c_Mo_rest 88 = .ok (.aload_n 0, 1) := by decide +kernel
theorem d_Mo_rest_89 : decode c_Mo_rest 89 = .ok (.getfield 28, 3) := by decide +kernel
theorem d_Mo_rest_92 : decode c_Mo_rest 92 = .ok (.iload_n 1, 1) := by decide +kernel
theorem d_Mo_rest_93 : decode c_Mo_rest 93 = .ok (.iaload, 1) := by decide +kernel
theorem d_Mo_rest_94 : decode c_Mo_rest 94 = .ok (.goto 9, 3) := by decide +kernel
theorem d_Mo_rest_97 : decode c_Mo_rest 97 = .ok (.aload_n 0, 1) := by decide +kernel
theorem d_Mo_rest_98 : decode c_Mo_rest 98 = .ok (.getfield 28, 3) := by decide +kernel
theorem d_Mo_rest_101 : decode c_Mo_rest 101 = .ok (.iload_n 3, 1) := by decide +kernel
theorem d_Mo_rest_102 : decode c_Mo_rest 102 = .ok (.iaload, 1) := by decide +kernel
theorem d_Mo_rest_103 : decode c_Mo_rest 103 = .ok (.iastore, 1) := by decide +kernel
theorem d_Mo_rest_104 : decode c_Mo_rest 104 = .ok (.iinc 3 1, 3) := by decide +kernel
theorem d_Mo_rest_107 : decode c_Mo_rest 107 = .ok (.goto (-49), 3) := by decide +kernel
theorem d_Mo_rest_110 : decode c_Mo_rest 110 = .ok (.aload_n 0, 1) := by decide +kernel
theorem d_Mo_rest_111 : decode c_Mo_rest 111 = .ok (.getfield 28, 3) := by decide +kernel
theorem d_Mo_rest_114 : decode c_Mo_rest 114 = .ok (.iload_n 1, 1) := by decide +kernel
theorem d_Mo_rest_115 : decode c_Mo_rest 115 = .ok (.iconst 0, 1) := by decide +kernel
theorem d_Mo_rest_116 : decode c_Mo_rest 116 = .ok (.iastore, 1) := by decide +kernel
theorem d_Mo_rest_117 : decode c_Mo_rest 117 = .ok (.return_, 1) := by decide +kernel
theorem d_Mo_link_0 : decode c_Mo_link 0 = .ok (.aload_n 0, 1) := by decide +kernel
theorem d_Mo_link_1 : decode c_Mo_link 1 = .ok (.iload_n 1, 1) := by decide +kernel
theorem d_Mo_link_2 : decode c_Mo_link 2 = .ok (.i2l, 1) := by decide +kernel
theorem d_Mo_link_3 : decode c_Mo_link 3 = .ok (.lconst 1, 1) := by decide +kernel
theorem d_Mo_link_4 : decode c_Mo_link 4 = .ok (.ldc2_w 65, 3) := by decide +kernel
theorem d_Mo_link_7 : decode c_Mo_link 7 = .ok (.invokestatic 46, 3) := by decide +kernel
theorem d_Mo_link_10 : decode c_Mo_link 10 = .ok (.ifCond .ne 7, 3) := by decide +kernel
theorem d_Mo_link_13 : decode c_Mo_link 13 = .ok (.iconst 1, 1) := by decide +kernel
theorem d_Mo_link_14 : decode c_Mo_link 14 = .ok (.goto 28, 3) := by decide +kernel
theorem d_Mo_link_17 : decode c_Mo_link 17 = .ok (.aload_n 0, 1) := by decide +kernel
theorem d_Mo_link_18 : decode c_Mo_link 18 = .ok (.invokevirtual 57, 3) := by decide +kernel
theorem d_Mo_link_21 : decode c_Mo_link 21 = .ok (.ifCond .eq 16, 3) := by decide +kernel
theorem d_Mo_link_24 : decode c_Mo_link 24 = .ok (.iload_n 1, 1) := by decide +kernel
theorem d_Mo_link_25 : decode c_Mo_link 25 = .ok (.bipush 59, 2) := by decide +kernel
theorem d_Mo_link_27 : decode c_Mo_link 27 = .ok (.if_icmp .le 14, 3) := by decide +kernel
theorem d_Mo_link_30 : decode c_Mo_link 30 = .ok (.aload_n 0, 1) := by decide +kernel
theorem d_Mo_link_31 : decode c_Mo_link 31 = .ok (.invokevirtual 71, 3) := by decide +kernel
theorem d_Mo_link_34 : decode c_Mo_link 34 = .ok (.ifCond .ne 7, 3) := by decide +kernel
theorem d_Mo_link_37 : decode c_Mo_link 37 = .ok (.iconst 2, 1) := by decide +kernel
theorem d_Mo_link_38 : decode c_Mo_link 38 = .ok (.goto 4, 3) := by decide +kernel
theorem d_Mo_link_41 : decode c_Mo_link 41 = .ok (.iconst 0, 1) := by decide +kernel
theorem d_Mo_link_42 : decode c_Mo_link 42 = .ok (.putfield 40, 3) := by decide +kernel
theorem d_Mo_link_45 : decode c_Mo_link 45 = .ok (.aload_n 0, 1) := by decide +kernel
theorem d_Mo_link_46 : decode c_Mo_link 46 = .ok (.getfield 40, 3) := by decide +kernel
theorem d_Mo_link_49 : decode c_Mo_link 49 = .ok (.ifCond .le 5, 3) := by decide +kernel
theorem d_Mo_link_52 : decode c_Mo_link 52 = .ok (.iconst 0, 1) := by decide +kernel
theorem d_Mo_link_53 : decode c_Mo_link 53 = .ok (.ireturn, 1) := by decide +kernel
theorem d_Mo_link_54 : decode c_Mo_link 54 = .ok (.aload_n 0, 1) := by decide +kernel
theorem d_Mo_link_55 : decode c_Mo_link 55 = .ok (.iconst 3, 1) := by decide +kernel
theorem d_Mo_link_56 : decode c_Mo_link 56 = .ok (.iconst 1, 1) := by decide +kernel
theorem d_Mo_link_57 : decode c_Mo_link 57 = .ok (.invokevirtual 67, 3) := by decide +kernel
theorem d_Mo_link_60 : decode c_Mo_link 60 = .ok (.istore_n 3, 1) := by decide +kernel
theorem d_Mo_link_61 : decode c_Mo_link 61 = .ok (.aload_n 0, 1) := by decide +kernel
theorem d_Mo_link_62 : decode c_Mo_link 62 = .ok (.getfield 25, 3) := by decide +kernel
theorem d_Mo_link_65 : decode c_Mo_link 65 = .ok (.iload_n 3, 1) := by decide +kernel
theorem d_Mo_link_66 : decode c_Mo_link 66 = .ok (.iload_n 1, 1) := by decide +kernel
theorem d_Mo_link_67 : decode c_Mo_link 67 = .ok (.iastore, 1) := by decide +kernel
theorem d_Mo_link_68 : decode c_Mo_link 68 = .ok (.iload_n 1, 1) := by decide +kernel
theorem d_Mo_link_69 : decode c_Mo_link 69 = .ok (.bipush 59, 2) := by decide +kernel
theorem d_Mo_link_71 : decode c_Mo_link 71 = .ok (.if_icmp .le 9, 3) := by decide +kernel
theorem d_Mo_link_74 : decode c_Mo_link 74 = .ok (.aload_n 0, 1) := by decide +kernel
theorem d_Mo_link_75 : decode c_Mo_link 75 = .ok (.iload_n 3, 1) := by decide +kernel
theorem d_Mo_link_76 : decode c_Mo_link 76 = .ok (.iconst 0, 1) := by decide +kernel
theorem d_Mo_link_77 : decode c_Mo_link 77 = .ok (.invokevirtual 74, 3) := by decide +kernel
theorem d_Mo_link_80 : decode c_Mo_link 80 = .ok (.iconst 0, 1) := by decide +kernel
theorem d_Mo_link_81 : decode c_Mo_link 81 = .ok (.istore 4, 2) := by decide +kernel
theorem d_Mo_link_83 : decode c_Mo_link 83 = .ok (.iload 4, 2) := by decide +kernel
theorem d_Mo_link_85 : decode c_Mo_link 85 = .ok (.iload_n 1, 1) := by decide +kernel
theorem d_Mo_link_86 : decode c_Mo_link 86 = .ok (.if_icmp .ge 87, 3) := by decide +kernel
theorem d_Mo_link_89 : decode c_Mo_link 89 = .ok (.iload_n 2, 1) := by decide +kernel
theorem d_Mo_link_90 : decode c_Mo_link 90 = .ok (.iload 4, 2) := by decide +kernel
theorem d_Mo_link_92 : decode c_Mo_link 92 = .ok (.iadd, 1) := by decide +kernel
theorem d_Mo_link_93 : decode c_Mo_link 93 = .ok (.sipush 255, 3) := by decide +kernel
theorem d_Mo_link_96 : decode c_Mo_link 96 = .ok (.irem, 1) := by decide +kernel
theorem d_Mo_link_97 : decode c_Mo_link 97 = .ok (.istore 5, 2) := by decide +kernel
theorem d_Mo_link_99 : decode c_Mo_link 99 = .ok (.iconst 1, 1) := by decide +kernel
theorem d_Mo_link_100 : decode c_Mo_link 100 = .ok (.iload 5, 2) := by decide +kernel
theorem d_Mo_link_102 : decode c_Mo_link 102 = .ok (.ifCond .ge 12, 3) := by decide +kernel
theorem d_Mo_link_105 : decode c_Mo_link 105 = .ok (.iload 5, 2) := by decide +kernel
theorem d_Mo_link_107 : decode c_Mo_link 107 = .ok (.sipush 255, 3) := by decide +kernel
theorem d_Mo_link_110 : decode c_Mo_link 110 = .ok (.iadd, 1) := by decide +kernel
theorem d_Mo_link_111 : decode c_Mo_link 111 = .ok (.goto 5, 3) := by decide +kernel
theorem d_Mo_link_114 : decode c_Mo_link 114 = .ok (.iload 5, 2) := by decide +kernel
theorem d_Mo_link_116 : decode c_Mo_link 116 = .ok (.iadd, 1) := by decide +kernel
theorem d_Mo_link_117 : decode c_Mo_link 117 = .ok (.istore 6, 2) := by decide +kernel
theorem d_Mo_link_119 : decode c_Mo_link 119 = .ok (.iload_n 1, 1) := by decide +kernel
theorem d_Mo_link_120 : decode c_Mo_link 120 = .ok (.bipush 59, 2) := by decide +kernel
theorem d_Mo_link_122 : decode c_Mo_link 122 = .ok (.if_icmp .le 30, 3) := by decide +kernel
theorem d_Mo_link_125 : decode c_Mo_link 125 = .ok (.aload_n 0, 1) := by decide +kernel
theorem d_Mo_link_126 : decode c_Mo_link 126 = .ok (.getfield 8, 3) := by decide +kernel
theorem d_Mo_link_129 : decode c_Mo_link 129 = .ok (.sipush 1024, 3) := by decide +kernel
theorem d_Mo_link_132 : decode c_Mo_link 132 = .ok (.aload_n 0, 1) := by decide +kernel
theorem d_Mo_link_133 : decode c_Mo_link 133 = .ok (.getfield 34, 3) := by decide +kernel
theorem d_Mo_link_136 : decode c_Mo_link 136 = .ok (.bipush 15, 2) := by decide +kernel
theorem d_Mo_link_138 : decode c_Mo_link 138 = .ok (.iload_n 3, 1) := by decide +kernel
theorem d_Mo_link_139 : decode c_Mo_link 139 = .ok (.imul, 1) := by decide +kernel
theorem d_Mo_link_140 : decode c_Mo_link 140 = .ok (.iaload, 1) := by decide +kernel
theorem d_Mo_link_141 : decode c_Mo_link 141 = .ok (.imul, 1) := by decide +kernel
theorem d_Mo_link_142 : decode c_Mo_link 142 = .ok (.iload 4, 2) := by decide +kernel
theorem d_Mo_link_144 : decode c_Mo_link 144 = .ok (.iadd, 1) := by decide +kernel
theorem d_Mo_link_145 : decode c_Mo_link 145 = .ok (.iload 6, 2) := by decide +kernel
theorem d_Mo_link_147 : decode c_Mo_link 147 = .ok (.i2b, 1) := by decide +kernel
theorem d_Mo_link_148 : decode c_Mo_link 148 = .ok (.bastore, 1) := by decide +kernel
theorem d_Mo_link_149 : decode c_Mo_link 149 = .ok (.goto 18, 3) := by decide +kernel
theorem d_Mo_link_152 : decode c_Mo_link 152 = .ok (.aload_n 0, 1) := by decide +kernel
theorem d_Mo_link_153 : decode c_Mo_link 153 = .ok (.getfield 37, 3) := by decide +kernel
theorem d_Mo_link_156 : decode c_Mo_link 156 = .ok (.bipush 60, 2) := by decide +kernel
theorem d_Mo_link_158 : decode c_Mo_link 158 = .ok (.iload_n 3, 1) := by decide +kernel
theorem d_Mo_link_159 : decode c_Mo_link 159 = .ok (.imul, 1) := by decide +kernel
theorem d_Mo_link_160 : decode c_Mo_link 160 = .ok (.iload 4, 2) := by decide +kernel
theorem d_Mo_link_162 : decode c_Mo_link 162 = .ok (.iadd, 1) := by decide +kernel
theorem d_Mo_link_163 : decode c_Mo_link 163 = .ok (.iload 6, 2) := by decide +kernel
theorem d_Mo_link_165 : decode c_Mo_link 165 = .ok (.i2b, 1) := by decide +kernel
theorem d_Mo_link_166 : decode c_Mo_link 166 = .ok (.bastore, 1) := by decide +kernel
theorem d_Mo_link_167 : decode c_Mo_link 167 = .ok (.iinc 4 1, 3) := by decide +kernel
theorem d_Mo_link_170 : decode c_Mo_link 170 = .ok (.goto (-87), 3) := by decide +kernel
theorem d_Mo_link_173 : decode c_Mo_link 173 = .ok (.iload_n 3, 1) := by decide +kernel
theorem d_Mo_link_174 : decode c_Mo_link 174 = .ok (.ireturn, 1) := by decide +kernel
theorem d_Mo_freeOnes_0 : decode c_Mo_freeOnes 0 = .ok (.iconst 0, 1) := by decide +kernel
theorem d_Mo_freeOnes_1 : decode c_Mo_freeOnes 1 = .ok (.istore_n 1, 1) := by decide +kernel
theorem d_Mo_freeOnes_2 : decode c_Mo_freeOnes 2 = .ok (.iconst 0, 1) := by decide +kernel
theorem d_Mo_freeOnes_3 : decode c_Mo_freeOnes 3 = .ok (.istore_n 2, 1) := by decide +kernel
theorem d_Mo_freeOnes_4 : decode c_Mo_freeOnes 4 = .ok (.iload_n 2, 1) := by decide +kernel
theorem d_Mo_freeOnes_5 : decode c_Mo_freeOnes 5 = .ok (.sipush 128, 3) := by decide +kernel
theorem d_Mo_freeOnes_8 : decode c_Mo_freeOnes 8 = .ok (.if_icmp .ge 26, 3) := by decide +kernel
theorem d_Mo_freeOnes_11 : decode c_Mo_freeOnes 11 = .ok (.iload_n 1, 1) := by decide +kernel
theorem d_Mo_freeOnes_12 : decode c_Mo_freeOnes 12 = .ok (.aload_n 0, 1) := by decide +kernel
theorem d_Mo_freeOnes_13 : decode c_Mo_freeOnes 13 = .ok (.getfield 14, 3) := by decide +kernel
theorem d_Mo_freeOnes_16 : decode c_Mo_freeOnes 16 = .ok (.iload_n 2, 1) := by decide +kernel
theorem d_Mo_freeOnes_17 : decode c_Mo_freeOnes 17 = .ok (.baload, 1) := by decide +kernel
theorem d_Mo_freeOnes_18 : decode c_Mo_freeOnes 18 = .ok (.ifCond .eq 7, 3) := by decide +kernel
theorem d_Mo_freeOnes_21 : decode c_Mo_freeOnes 21 = .ok (.iconst 0, 1) := by decide +kernel
theorem d_Mo_freeOnes_22 : decode c_Mo_freeOnes 22 = .ok (.goto 4, 3) := by decide +kernel
theorem d_Mo_freeOnes_25 : decode c_Mo_freeOnes 25 = .ok (.iconst 1, 1) := by decide +kernel
theorem d_Mo_freeOnes_26 : decode c_Mo_freeOnes 26 = .ok (.iadd, 1) := by decide +kernel
theorem d_Mo_freeOnes_27 : decode c_Mo_freeOnes 27 = .ok (.istore_n 1, 1) := by decide +kernel
theorem d_Mo_freeOnes_28 : decode c_Mo_freeOnes 28 = .ok (.iinc 2 1, 3) := by decide +kernel
theorem d_Mo_freeOnes_31 : decode c_Mo_freeOnes 31 = .ok (.goto (-27), 3) := by decide +kernel
theorem d_Mo_freeOnes_34 : decode c_Mo_freeOnes 34 = .ok (.iload_n 1, 1) := by decide +kernel
theorem d_Mo_freeOnes_35 : decode c_Mo_freeOnes 35 = .ok (.ireturn, 1) := by decide +kernel
theorem d_Mo_take_0 : decode c_Mo_take 0 = .ok (.iload_n 2, 1) := by decide +kernel
theorem d_Mo_take_1 : decode c_Mo_take 1 = .ok (.ifCond .ne 7, 3) := by decide +kernel
theorem d_Mo_take_4 : decode c_Mo_take 4 = .ok (.iconst 0, 1) := by decide +kernel
theorem d_Mo_take_5 : decode c_Mo_take 5 = .ok (.goto 16, 3) := by decide +kernel
theorem d_Mo_take_8 : decode c_Mo_take 8 = .ok (.aload_n 0, 1) := by decide +kernel
theorem d_Mo_take_9 : decode c_Mo_take 9 = .ok (.getfield 34, 3) := by decide +kernel
theorem d_Mo_take_12 : decode c_Mo_take 12 = .ok (.bipush 15, 2) := by decide +kernel
theorem d_Mo_take_14 : decode c_Mo_take 14 = .ok (.iload_n 1, 1) := by decide +kernel
theorem d_Mo_take_15 : decode c_Mo_take 15 = .ok (.imul, 1) := by decide +kernel
theorem d_Mo_take_16 : decode c_Mo_take 16 = .ok (.iload_n 2, 1) := by decide +kernel
theorem d_Mo_take_17 : decode c_Mo_take 17 = .ok (.iadd, 1) := by decide +kernel
theorem d_Mo_take_18 : decode c_Mo_take 18 = .ok (.iconst 1, 1) := by decide +kernel
theorem d_Mo_take_19 : decode c_Mo_take 19 = .ok (.isub, 1) := by decide +kernel
theorem d_Mo_take_20 : decode c_Mo_take 20 = .ok (.iaload, 1) := by decide +kernel
theorem d_Mo_take_21 : decode c_Mo_take 21 = .ok (.istore_n 3, 1) := by decide +kernel
theorem d_Mo_take_22 : decode c_Mo_take 22 = .ok (.iload_n 3, 1) := by decide +kernel
theorem d_Mo_take_23 : decode c_Mo_take 23 = .ok (.ifCond .ne 7, 3) := by decide +kernel
theorem d_Mo_take_26 : decode c_Mo_take 26 = .ok (.iconst 4, 1) := by decide +kernel
theorem d_Mo_take_27 : decode c_Mo_take 27 = .ok (.goto 6, 3) := by decide +kernel
theorem d_Mo_take_30 : decode c_Mo_take 30 = .ok (.iload_n 3, 1) := by decide +kernel
theorem d_Mo_take_31 : decode c_Mo_take 31 = .ok (.iconst 1, 1) := by decide +kernel
theorem d_Mo_take_32 : decode c_Mo_take 32 = .ok (.iadd, 1) := by decide +kernel
theorem d_Mo_take_33 : decode c_Mo_take 33 = .ok (.istore 4, 2) := by decide +kernel
theorem d_Mo_take_35 : decode c_Mo_take 35 = .ok (.iconst 0, 1) := by decide +kernel
theorem d_Mo_take_36 : decode c_Mo_take 36 = .ok (.istore 5, 2) := by decide +kernel
theorem d_Mo_take_38 : decode c_Mo_take 38 = .ok (.bipush 127, 2) := by decide +kernel
theorem d_Mo_take_40 : decode c_Mo_take 40 = .ok (.istore 6, 2) := by decide +kernel
theorem d_Mo_take_42 : decode c_Mo_take 42 = .ok (.iload 6, 2) := by decide +kernel
theorem d_Mo_take_44 : decode c_Mo_take 44 = .ok (.ifCond .le 35, 3) := by decide +kernel
theorem d_Mo_take_47 : decode c_Mo_take 47 = .ok (.aload_n 0, 1) := by decide +kernel
theorem d_Mo_take_48 : decode c_Mo_take 48 = .ok (.getfield 14, 3) := by decide +kernel
theorem d_Mo_take_51 : decode c_Mo_take 51 = .ok (.iload 6, 2) := by decide +kernel
theorem d_Mo_take_53 : decode c_Mo_take 53 = .ok (.baload, 1) := by decide +kernel
theorem d_Mo_take_54 : decode c_Mo_take 54 = .ok (.ifCond .ne 10, 3) := by decide +kernel
theorem d_Mo_take_57 : decode c_Mo_take 57 = .ok (.iload 6, 2) := by decide +kernel
theorem d_Mo_take_59 : decode c_Mo_take 59 = .ok (.iload 4, 2) := by decide +kernel
theorem d_Mo_take_61 : decode c_Mo_take 61 = .ok (.if_icmp .ge 8, 3) := by decide +kernel
theorem d_Mo_take_64 : decode c_Mo_take 64 = .ok (.iload 5, 2) := by decide +kernel
theorem d_Mo_take_66 : decode c_Mo_take 66 = .ok (.goto 5, 3) := by decide +kernel
theorem d_Mo_take_69 : decode c_Mo_take 69 = .ok (.iload 6, 2) := by decide +kernel
theorem d_Mo_take_71 : decode c_Mo_take 71 = .ok (.istore 5, 2) := by decide +kernel
theorem d_Mo_take_73 : decode c_Mo_take 73 = .ok (.iinc 6 (-1), 3) := by decide +kernel
theorem d_Mo_take_76 : decode c_Mo_take 76 = .ok (.goto (-34), 3) := by decide +kernel
theorem d_Mo_take_79 : decode c_Mo_take 79 = .ok (.bipush 127, 2) := by decide +kernel
theorem d_Mo_take_81 : decode c_Mo_take 81 = .ok (.istore 6, 2) := by decide +kernel
theorem d_Mo_take_83 : decode c_Mo_take 83 = .ok (.iload 6, 2) := by decide +kernel
theorem d_Mo_take_85 : decode c_Mo_take 85 = .ok (.ifCond .le 35, 3) := by decide +kernel
theorem d_Mo_take_88 : decode c_Mo_take 88 = .ok (.iload 5, 2) := by decide +kernel
theorem d_Mo_take_90 : decode c_Mo_take 90 = .ok (.iload 4, 2) := by decide +kernel
theorem d_Mo_take_92 : decode c_Mo_take 92 = .ok (.if_icmp .ge 28, 3) := by decide +kernel
theorem d_Mo_take_95 : decode c_Mo_take 95 = .ok (.aload_n 0, 1) := by decide +kernel
theorem d_Mo_take_96 : decode c_Mo_take 96 = .ok (.getfield 14, 3) := by decide +kernel
theorem d_Mo_take_99 : decode c_Mo_take 99 = .ok (.iload 6, 2) := by decide +kernel
theorem d_Mo_take_101 : decode c_Mo_take 101 = .ok (.baload, 1) := by decide +kernel
theorem d_Mo_take_102 : decode c_Mo_take 102 = .ok (.ifCond .eq 8, 3) := by decide +kernel
theorem d_Mo_take_105 : decode c_Mo_take 105 = .ok (.iload 5, 2) := by decide +kernel
theorem d_Mo_take_107 : decode c_Mo_take 107 = .ok (.goto 5, 3) := by decide +kernel
theorem d_Mo_take_110 : decode c_Mo_take 110 = .ok (.iload 6, 2) := by decide +kernel
theorem d_Mo_take_112 : decode c_Mo_take 112 = .ok (.istore 5, 2) := by decide +kernel
theorem d_Mo_take_114 : decode c_Mo_take 114 = .ok (.iinc 6 (-1), 3) := by decide +kernel
theorem d_Mo_take_117 : decode c_Mo_take 117 = .ok (.goto (-34), 3) := by decide +kernel
theorem d_Mo_take_120 : decode c_Mo_take 120 = .ok (.aload_n 0, 1) := by decide +kernel
theorem d_Mo_take_121 : decode c_Mo_take 121 = .ok (.getfield 14, 3) := by decide +kernel
theorem d_Mo_take_124 : decode c_Mo_take 124 = .ok (.iload 5, 2) := by decide +kernel
theorem d_Mo_take_126 : decode c_Mo_take 126 = .ok (.iconst 1, 1) := by decide +kernel
theorem d_Mo_take_127 : decode c_Mo_take 127 = .ok (.bastore, 1) := by decide +kernel
theorem d_Mo_take_128 : decode c_Mo_take 128 = .ok (.aload_n 0, 1) := by decide +kernel
theorem d_Mo_take_129 : decode c_Mo_take 129 = .ok (.getfield 34, 3) := by decide +kernel
theorem d_Mo_take_132 : decode c_Mo_take 132 = .ok (.bipush 15, 2) := by decide +kernel
theorem d_Mo_take_134 : decode c_Mo_take 134 = .ok (.iload_n 1, 1) := by decide +kernel
theorem d_Mo_take_135 : decode c_Mo_take 135 = .ok (.imul, 1) := by decide +kernel
theorem d_Mo_take_136 : decode c_Mo_take 136 = .ok (.iload_n 2, 1) := by decide +kernel
theorem d_Mo_take_137 : decode c_Mo_take 137 = .ok (.iadd, 1) := by decide +kernel
theorem d_Mo_take_138 : decode c_Mo_take 138 = .ok (.iload 5, 2) := by decide +kernel
theorem d_Mo_take_140 : decode c_Mo_take 140 = .ok (.iastore, 1) := by decide +kernel
theorem d_Mo_take_141 : decode c_Mo_take 141 = .ok (.iconst 0, 1) := by decide +kernel
theorem d_Mo_take_142 : decode c_Mo_take 142 = .ok (.istore 6, 2) := by decide +kernel
theorem d_Mo_take_144 : decode c_Mo_take 144 = .ok (.iload 6, 2) := by decide +kernel
theorem d_Mo_take_146 : decode c_Mo_take 146 = .ok (.sipush 1024, 3) := by decide +kernel
theorem d_Mo_take_149 : decode c_Mo_take 149 = .ok (.if_icmp .ge 24, 3) := by decide +kernel
theorem d_Mo_take_152 : decode c_Mo_take 152 = .ok (.aload_n 0, 1) := by decide +kernel
theorem d_Mo_take_153 : decode c_Mo_take 153 = .ok (.getfield 8, 3) := by decide +kernel
theorem d_Mo_take_156 : decode c_Mo_take 156 = .ok (.sipush 1024, 3) := by decide +kernel
theorem d_Mo_take_159 : decode c_Mo_take 159 = .ok (.iload 5, 2) := by decide +kernel
theorem d_Mo_take_161 : decode c_Mo_take 161 = .ok (.imul, 1) := by decide +kernel
theorem d_Mo_take_162 : decode c_Mo_take 162 = .ok (.iload 6, 2) := by decide +kernel
theorem d_Mo_take_164 : decode c_Mo_take 164 = .ok (.iadd, 1) := by decide +kernel
theorem d_Mo_take_165 : decode c_Mo_take 165 = .ok (.iconst 0, 1) := by decide +kernel
theorem d_Mo_take_166 : decode c_Mo_take 166 = .ok (.bastore, 1) := by decide +kernel
theorem d_Mo_take_167 : decode c_Mo_take 167 = .ok (.iinc 6 1, 3) := by decide +kernel
theorem d_Mo_take_170 : decode c_Mo_take 170 = .ok (.goto (-26), 3) := by decide +kernel
theorem d_Mo_take_173 : decode c_Mo_take 173 = .ok (.return_, 1) := by decide +kernel
theorem d_Mo_write_0 : decode c_Mo_write 0 = .ok (.aload_n 0, 1) := by decide +kernel
theorem d_Mo_write_1 : decode c_Mo_write 1 = .ok (.iload_n 1, 1) := by decide +kernel
theorem d_Mo_write_2 : decode c_Mo_write 2 = .ok (.iload_n 2, 1) := by decide +kernel
theorem d_Mo_write_3 : decode c_Mo_write 3 = .ok (.iload 5, 2) := by decide +kernel
theorem d_Mo_write_5 : decode c_Mo_write 5 = .ok (.bipush 8, 2) := by decide +kernel
theorem d_Mo_write_7 : decode c_Mo_write 7 = .ok (.invokevirtual 87, 3) := by decide +kernel
theorem d_Mo_write_10 : decode c_Mo_write 10 = .ok (.ifCond .ne 5, 3) := by decide +kernel
theorem d_Mo_write_13 : decode c_Mo_write 13 = .ok (.iconst 0, 1) := by decide +kernel
theorem d_Mo_write_14 : decode c_Mo_write 14 = .ok (.ireturn, 1) := by decide +kernel
theorem d_Mo_write_15 : decode c_Mo_write 15 = .ok (.aload_n 0, 1) := by decide +kernel
theorem d_Mo_write_16 : decode c_Mo_write 16 = .ok (.iload_n 1, 1) := by decide +kernel
theorem d_Mo_write_17 : decode c_Mo_write 17 = .ok (.iload_n 2, 1) := by decide +kernel
theorem d_Mo_write_18 : decode c_Mo_write 18 = .ok (.iload 5, 2) := by decide +kernel
theorem d_Mo_write_20 : decode c_Mo_write 20 = .ok (.invokevirtual 91, 3) := by decide +kernel
theorem d_Mo_write_23 : decode c_Mo_write 23 = .ok (.iconst 0, 1) := by decide +kernel
theorem d_Mo_write_24 : decode c_Mo_write 24 = .ok (.istore 6, 2) := by decide +kernel
theorem d_Mo_write_26 : decode c_Mo_write 26 = .ok (.iload 6, 2) := by decide +kernel
theorem d_Mo_write_28 : decode c_Mo_write 28 = .ok (.iload 5, 2) := by decide +kernel
theorem d_Mo_write_30 : decode c_Mo_write 30 = .ok (.if_icmp .ge 31, 3) := by decide +kernel
theorem d_Mo_write_33 : decode c_Mo_write 33 = .ok (.aload_n 0, 1) := by decide +kernel
theorem d_Mo_write_34 : decode c_Mo_write 34 = .ok (.iload_n 1, 1) := by decide +kernel
theorem d_Mo_write_35 : decode c_Mo_write 35 = .ok (.iload_n 2, 1) := by decide +kernel
theorem d_Mo_write_36 : decode c_Mo_write 36 = .ok (.iload 6, 2) := by decide +kernel
theorem d_Mo_write_38 : decode c_Mo_write 38 = .ok (.iadd, 1) := by decide +kernel
theorem d_Mo_write_39 : decode c_Mo_write 39 = .ok (.lload_n 3, 1) := by decide +kernel
theorem d_Mo_write_40 : decode c_Mo_write 40 = .ok (.bipush 8, 2) := by decide +kernel
theorem d_Mo_write_42 : decode c_Mo_write 42 = .ok (.iload 5, 2) := by decide +kernel
theorem d_Mo_write_44 : decode c_Mo_write 44 = .ok (.iconst 1, 1) := by decide +kernel
theorem d_Mo_write_45 : decode c_Mo_write 45 = .ok (.isub, 1) := by decide +kernel
theorem d_Mo_write_46 : decode c_Mo_write 46 = .ok (.iload 6, 2) := by decide +kernel
theorem d_Mo_write_48 : decode c_Mo_write 48 = .ok (.isub, 1) := by decide +kernel
theorem d_Mo_write_49 : decode c_Mo_write 49 = .ok (.imul, 1) := by decide +kernel
theorem d_Mo_write_50 : decode c_Mo_write 50 = .ok (.lshr, 1) := by decide +kernel
theorem d_Mo_write_51 : decode c_Mo_write 51 = .ok (.l2i, 1) := by decide +kernel
theorem d_Mo_write_52 : decode c_Mo_write 52 = .ok (.invokevirtual 95, 3) := by decide +kernel
theorem d_Mo_write_55 : decode c_Mo_write 55 = .ok (.iinc 6 1, 3) := by decide +kernel
theorem d_Mo_write_58 : decode c_Mo_write 58 = .ok (.goto (-32), 3) := by decide +kernel
theorem d_Mo_write_61 : decode c_Mo_write 61 = .ok (.aload_n 0, 1) := by decide +kernel
theorem d_Mo_write_62 : decode c_Mo_write 62 = .ok (.getfield 25, 3) := by decide +kernel
theorem d_Mo_write_65 : decode c_Mo_write 65 = .ok (.iload_n 1, 1) := by decide +kernel
theorem d_Mo_write_66 : decode c_Mo_write 66 = .ok (.iaload, 1) := by decide +kernel
theorem d_Mo_write_67 : decode c_Mo_write 67 = .ok (.ireturn, 1) := by decide +kernel
theorem d_Mo_may_0 : decode c_Mo_may 0 = .ok (.aload_n 0, 1) := by decide +kernel
theorem d_Mo_may_1 : decode c_Mo_may 1 = .ok (.iload_n 1, 1) := by decide +kernel
theorem d_Mo_may_2 : decode c_Mo_may 2 = .ok (.invokevirtual 78, 3) := by decide +kernel
theorem d_Mo_may_5 : decode c_Mo_may 5 = .ok (.ifCond .eq 35, 3) := by decide +kernel
theorem d_Mo_may_8 : decode c_Mo_may 8 = .ok (.iload_n 3, 1) := by decide +kernel
theorem d_Mo_may_9 : decode c_Mo_may 9 = .ok (.i2l, 1) := by decide +kernel
theorem d_Mo_may_10 : decode c_Mo_may 10 = .ok (.lconst 1, 1) := by decide +kernel
theorem d_Mo_may_11 : decode c_Mo_may 11 = .ok (.iload 4, 2) := by decide +kernel
theorem d_Mo_may_13 : decode c_Mo_may 13 = .ok (.i2l, 1) := by decide +kernel
theorem d_Mo_may_14 : decode c_Mo_may 14 = .ok (.invokestatic 46, 3) := by decide +kernel
theorem d_Mo_may_17 : decode c_Mo_may 17 = .ok (.ifCond .eq 23, 3) := by decide +kernel
theorem d_Mo_may_20 : decode c_Mo_may 20 = .ok (.iload_n 2, 1) := by decide +kernel
theorem d_Mo_may_21 : decode c_Mo_may 21 = .ok (.ifCond .lt 19, 3) := by decide +kernel
theorem d_Mo_may_24 : decode c_Mo_may 24 = .ok (.iload_n 2, 1) := by decide +kernel
theorem d_Mo_may_25 : decode c_Mo_may 25 = .ok (.i2l, 1) := by decide +kernel
theorem d_Mo_may_26 : decode c_Mo_may 26 = .ok (.iload_n 3, 1) := by decide +kernel
theorem d_Mo_may_27 : decode c_Mo_may 27 = .ok (.i2l, 1) := by decide +kernel
theorem d_Mo_may_28 : decode c_Mo_may 28 = .ok (.ladd, 1) := by decide +kernel
theorem d_Mo_may_29 : decode c_Mo_may 29 = .ok (.ldc2_w 81, 3) := by decide +kernel
theorem d_Mo_may_32 : decode c_Mo_may 32 = .ok (.lcmp, 1) := by decide +kernel
theorem d_Mo_may_33 : decode c_Mo_may 33 = .ok (.ifCond .gt 7, 3) := by decide +kernel
theorem d_Mo_may_36 : decode c_Mo_may 36 = .ok (.iconst 1, 1) := by decide +kernel
theorem d_Mo_may_37 : decode c_Mo_may 37 = .ok (.goto 4, 3) := by decide +kernel
theorem d_Mo_may_40 : decode c_Mo_may 40 = .ok (.iconst 0, 1) := by decide +kernel
theorem d_Mo_may_41 : decode c_Mo_may 41 = .ok (.istore 5, 2) := by decide +kernel
theorem d_Mo_may_43 : decode c_Mo_may 43 = .ok (.aload_n 0, 1) := by decide +kernel
theorem d_Mo_may_44 : decode c_Mo_may 44 = .ok (.iload 5, 2) := by decide +kernel
theorem d_Mo_may_46 : decode c_Mo_may 46 = .ok (.ifCond .ne 7, 3) := by decide +kernel
theorem d_Mo_may_49 : decode c_Mo_may 49 = .ok (.iconst 1, 1) := by decide +kernel
theorem d_Mo_may_50 : decode c_Mo_may 50 = .ok (.goto 22, 3) := by decide +kernel
theorem d_Mo_may_53 : decode c_Mo_may 53 = .ok (.aload_n 0, 1) := by decide +kernel
theorem d_Mo_may_54 : decode c_Mo_may 54 = .ok (.iload_n 1, 1) := by decide +kernel
theorem d_Mo_may_55 : decode c_Mo_may 55 = .ok (.iload_n 2, 1) := by decide +kernel
theorem d_Mo_may_56 : decode c_Mo_may 56 = .ok (.iload_n 3, 1) := by decide +kernel
theorem d_Mo_may_57 : decode c_Mo_may 57 = .ok (.invokevirtual 83, 3) := by decide +kernel
theorem d_Mo_may_60 : decode c_Mo_may 60 = .ok (.aload_n 0, 1) := by decide +kernel
theorem d_Mo_may_61 : decode c_Mo_may 61 = .ok (.invokevirtual 71, 3) := by decide +kernel
theorem d_Mo_may_64 : decode c_Mo_may 64 = .ok (.if_icmp .le 7, 3) := by decide +kernel
theorem d_Mo_may_67 : decode c_Mo_may 67 = .ok (.iconst 2, 1) := by decide +kernel
theorem d_Mo_may_68 : decode c_Mo_may 68 = .ok (.goto 4, 3) := by decide +kernel
theorem d_Mo_may_71 : decode c_Mo_may 71 = .ok (.iconst 0, 1) := by decide +kernel
theorem d_Mo_may_72 : decode c_Mo_may 72 = .ok (.putfield 40, 3) := by decide +kernel
theorem d_Mo_may_75 : decode c_Mo_may 75 = .ok (.aload_n 0, 1) := by decide +kernel
theorem d_Mo_may_76 : decode c_Mo_may 76 = .ok (.getfield 40, 3) := by decide +kernel
theorem d_Mo_may_79 : decode c_Mo_may 79 = .ok (.ifCond .ne 7, 3) := by decide +kernel
theorem d_Mo_may_82 : decode c_Mo_may 82 = .ok (.iconst 1, 1) := by decide +kernel
theorem d_Mo_may_83 : decode c_Mo_may 83 = .ok (.goto 4, 3) := by decide +kernel
theorem d_Mo_may_86 : decode c_Mo_may 86 = .ok (.iconst 0, 1) := by decide +kernel
theorem d_Mo_may_87 : decode c_Mo_may 87 = .ok (.ireturn, 1) := by decide +kernel
theorem d_Mo_isPlain_0 : decode c_Mo_isPlain 0 = .ok (.aload_n 0, 1) := by decide +kernel
theorem d_Mo_isPlain_1 : decode c_Mo_isPlain 1 = .ok (.iload_n 1, 1) := by decide +kernel
theorem d_Mo_isPlain_2 : decode c_Mo_isPlain 2 = .ok (.invokevirtual 50, 3) := by decide +kernel
theorem d_Mo_isPlain_5 : decode c_Mo_isPlain 5 = .ok (.ifCond .eq 17, 3) := by decide +kernel
theorem d_Mo_isPlain_8 : decode c_Mo_isPlain 8 = .ok (.aload_n 0, 1) := by decide +kernel
theorem d_Mo_isPlain_9 : decode c_Mo_isPlain 9 = .ok (.getfield 18, 3) := by decide +kernel
theorem d_Mo_isPlain_12 : decode c_Mo_isPlain 12 = .ok (.iload_n 1, 1) := by decide +kernel
theorem d_Mo_isPlain_13 : decode c_Mo_isPlain 13 = .ok (.iaload, 1) := by decide +kernel
theorem d_Mo_isPlain_14 : decode c_Mo_isPlain 14 = .ok (.iconst 1, 1) := by decide +kernel
theorem d_Mo_isPlain_15 : decode c_Mo_isPlain 15 = .ok (.if_icmp .ne 7, 3) := by decide +kernel
theorem d_Mo_isPlain_18 : decode c_Mo_isPlain 18 = .ok (.iconst 1, 1) := by decide +kernel
theorem d_Mo_isPlain_19 : decode c_Mo_isPlain 19 = .ok (.goto 4, 3) := by decide +kernel
theorem d_Mo_isPlain_22 : decode c_Mo_isPlain 22 = .ok (.iconst 0, 1) := by decide +kernel
theorem d_Mo_isPlain_23 : decode c_Mo_isPlain 23 = .ok (.ireturn, 1) := by decide +kernel
theorem d_Mo_isFile_0 : decode c_Mo_isFile 0 = .ok (.iload_n 1, 1) := by decide +kernel
theorem d_Mo_isFile_1 : decode c_Mo_isFile 1 = .ok (.i2l, 1) := by decide +kernel
theorem d_Mo_isFile_2 : decode c_Mo_isFile 2 = .ok (.lconst 1, 1) := by decide +kernel
theorem d_Mo_isFile_3 : decode c_Mo_isFile 3 = .ok (.ldc2_w 44, 3) := by decide +kernel
theorem d_Mo_isFile_6 : decode c_Mo_isFile 6 = .ok (.invokestatic 46, 3) := by decide +kernel
theorem d_Mo_isFile_9 : decode c_Mo_isFile 9 = .ok (.ifCond .eq 16, 3) := by decide +kernel
theorem d_Mo_isFile_12 : decode c_Mo_isFile 12 = .ok (.aload_n 0, 1) := by decide +kernel
theorem d_Mo_isFile_13 : decode c_Mo_isFile 13 = .ok (.getfield 18, 3) := by decide +kernel
theorem d_Mo_isFile_16 : decode c_Mo_isFile 16 = .ok (.iload_n 1, 1) := by decide +kernel
theorem d_Mo_isFile_17 : decode c_Mo_isFile 17 = .ok (.iaload, 1) := by decide +kernel
theorem d_Mo_isFile_18 : decode c_Mo_isFile 18 = .ok (.ifCond .le 7, 3) := by decide +kernel
theorem d_Mo_isFile_21 : decode c_Mo_isFile 21 = .ok (.iconst 1, 1) := by decide +kernel
theorem d_Mo_isFile_22 : decode c_Mo_isFile 22 = .ok (.goto 4, 3) := by decide +kernel
theorem d_Mo_isFile_25 : decode c_Mo_isFile 25 = .ok (.iconst 0, 1) := by decide +kernel
theorem d_Mo_isFile_26 : decode c_Mo_isFile 26 = .ok (.ireturn, 1) := by decide +kernel
theorem d_Mo_wanted_0 : decode c_Mo_wanted 0 = .ok (.iconst 0, 1) := by decide +kernel
theorem d_Mo_wanted_1 : decode c_Mo_wanted 1 = .ok (.istore 4, 2) := by decide +kernel
theorem d_Mo_wanted_3 : decode c_Mo_wanted 3 = .ok (.iload_n 2, 1) := by decide +kernel
theorem d_Mo_wanted_4 : decode c_Mo_wanted 4 = .ok (.sipush 1024, 3) := by decide +kernel
theorem d_Mo_wanted_7 : decode c_Mo_wanted 7 = .ok (.idiv, 1) := by decide +kernel
theorem d_Mo_wanted_8 : decode c_Mo_wanted 8 = .ok (.istore 5, 2) := by decide +kernel
theorem d_Mo_wanted_10 : decode c_Mo_wanted 10 = .ok (.iload 5, 2) := by decide +kernel
theorem d_Mo_wanted_12 : decode c_Mo_wanted 12 = .ok (.iload_n 2, 1) := by decide +kernel
theorem d_Mo_wanted_13 : decode c_Mo_wanted 13 = .ok (.iload_n 3, 1) := by decide +kernel
theorem d_Mo_wanted_14 : decode c_Mo_wanted 14 = .ok (.iadd, 1) := by decide +kernel
theorem d_Mo_wanted_15 : decode c_Mo_wanted 15 = .ok (.iconst 1, 1) := by decide +kernel
theorem d_Mo_wanted_16 : decode c_Mo_wanted 16 = .ok (.isub, 1) := by decide +kernel
theorem d_Mo_wanted_17 : decode c_Mo_wanted 17 = .ok (.sipush 1024, 3) := by decide +kernel
theorem d_Mo_wanted_20 : decode c_Mo_wanted 20 = .ok (.idiv, 1) := by decide +kernel
theorem d_Mo_wanted_21 : decode c_Mo_wanted 21 = .ok (.if_icmp .gt 34, 3) := by decide +kernel
theorem d_Mo_wanted_24 : decode c_Mo_wanted 24 = .ok (.iload 4, 2) := by decide +kernel
theorem d_Mo_wanted_26 : decode c_Mo_wanted 26 = .ok (.aload_n 0, 1) := by decide +kernel
theorem d_Mo_wanted_27 : decode c_Mo_wanted 27 = .ok (.getfield 34, 3) := by decide +kernel
theorem d_Mo_wanted_30 : decode c_Mo_wanted 30 = .ok (.bipush 15, 2) := by decide +kernel
theorem d_Mo_wanted_32 : decode c_Mo_wanted 32 = .ok (.iload_n 1, 1) := by decide +kernel
theorem d_Mo_wanted_33 : decode c_Mo_wanted 33 = .ok (.imul, 1) := by decide +kernel
theorem d_Mo_wanted_34 : decode c_Mo_wanted 34 = .ok (.iload 5, 2) := by decide +kernel
theorem d_Mo_wanted_36 : decode c_Mo_wanted 36 = .ok (.iadd, 1) := by decide +kernel
theorem d_Mo_wanted_37 : decode c_Mo_wanted 37 = .ok (.iaload, 1) := by decide +kernel
theorem d_Mo_wanted_38 : decode c_Mo_wanted 38 = .ok (.ifCond .ne 7, 3) := by decide +kernel
theorem d_Mo_wanted_41 : decode c_Mo_wanted 41 = .ok (.iconst 1, 1) := by decide +kernel
theorem d_Mo_wanted_42 : decode c_Mo_wanted 42 = .ok (.goto 4, 3) := by decide +kernel
theorem d_Mo_wanted_45 : decode c_Mo_wanted 45 = .ok (.iconst 0, 1) := by decide +kernel
theorem d_Mo_wanted_46 : decode c_Mo_wanted 46 = .ok (.iadd, 1) := by decide +kernel
theorem d_Mo_wanted_47 : decode c_Mo_wanted 47 = .ok (.istore 4, 2) := by decide +kernel
theorem d_Mo_wanted_49 : decode c_Mo_wanted 49 = .ok (.iinc 5 1, 3) := by decide +kernel
theorem d_Mo_wanted_52 : decode c_Mo_wanted 52 = .ok (.goto (-42), 3) := by decide +kernel
theorem d_Mo_wanted_55 : decode c_Mo_wanted 55 = .ok (.iload 4, 2) := by decide +kernel
theorem d_Mo_wanted_57 : decode c_Mo_wanted 57 = .ok (.ireturn, 1) := by decide +kernel
theorem d_Mo_takeAll_0 : decode c_Mo_takeAll 0 = .ok (.iload_n 2, 1) := by decide +kernel
theorem d_Mo_takeAll_1 : decode c_Mo_takeAll 1 = .ok (.sipush 1024, 3) := by decide +kernel
theorem d_Mo_takeAll_4 : decode c_Mo_takeAll 4 = .ok (.idiv, 1) := by decide +kernel
theorem d_Mo_takeAll_5 : decode c_Mo_takeAll 5 = .ok (.istore 4, 2) := by decide +kernel
theorem d_Mo_takeAll_7 : decode c_Mo_takeAll 7 = .ok (.iload 4, 2) := by decide +kernel
theorem d_Mo_takeAll_9 : decode c_Mo_takeAll 9 = .ok (.iload_n 2, 1) := by decide +kernel
theorem d_Mo_takeAll_10 : decode c_Mo_takeAll 10 = .ok (.iload_n 3, 1) := by decide +kernel
theorem d_Mo_takeAll_11 : decode c_Mo_takeAll 11 = .ok (.iadd, 1) := by decide +kernel
theorem d_Mo_takeAll_12 : decode c_Mo_takeAll 12 = .ok (.iconst 1, 1) := by decide +kernel
theorem d_Mo_takeAll_13 : decode c_Mo_takeAll 13 = .ok (.isub, 1) := by decide +kernel
theorem d_Mo_takeAll_14 : decode c_Mo_takeAll 14 = .ok (.sipush 1024, 3) := by decide +kernel
theorem d_Mo_takeAll_17 : decode c_Mo_takeAll 17 = .ok (.idiv, 1) := by decide +kernel
theorem d_Mo_takeAll_18 : decode c_Mo_takeAll 18 = .ok (.if_icmp .gt 31, 3) := by decide +kernel
theorem d_Mo_takeAll_21 : decode c_Mo_takeAll 21 = .ok (.aload_n 0, 1) := by decide +kernel
theorem d_Mo_takeAll_22 : decode c_Mo_takeAll 22 = .ok (.getfield 34, 3) := by decide +kernel
theorem d_Mo_takeAll_25 : decode c_Mo_takeAll 25 = .ok (.bipush 15, 2) := by decide +kernel
theorem d_Mo_takeAll_27 : decode c_Mo_takeAll 27 = .ok (.iload_n 1, 1) := by decide +kernel
theorem d_Mo_takeAll_28 : decode c_Mo_takeAll 28 = .ok (.imul, 1) := by decide +kernel
theorem d_Mo_takeAll_29 : decode c_Mo_takeAll 29 = .ok (.iload 4, 2) := by decide +kernel
theorem d_Mo_takeAll_31 : decode c_Mo_takeAll 31 = .ok (.iadd, 1) := by decide +kernel
theorem d_Mo_takeAll_32 : decode c_Mo_takeAll 32 = .ok (.iaload, 1) := by decide +kernel
theorem d_Mo_takeAll_33 : decode c_Mo_takeAll 33 = .ok (.ifCond .ne 10, 3) := by decide +kernel
theorem d_Mo_takeAll_36 : decode c_Mo_takeAll 36 = .ok (.aload_n 0, 1) := by decide +kernel
theorem d_Mo_takeAll_37 : decode c_Mo_takeAll 37 = .ok (.iload_n 1, 1) := by decide +kernel
theorem d_Mo_takeAll_38 : decode c_Mo_takeAll 38 = .ok (.iload 4, 2) := by decide +kernel
theorem d_Mo_takeAll_40 : decode c_Mo_takeAll 40 = .ok (.invokevirtual 74, 3) := by decide +kernel
theorem d_Mo_takeAll_43 : decode c_Mo_takeAll 43 = .ok (.iinc 4 1, 3) := by decide +kernel
theorem d_Mo_takeAll_46 : decode c_Mo_takeAll 46 = .ok (.goto (-39), 3) := by decide +kernel
theorem d_Mo_takeAll_49 : decode c_Mo_takeAll 49 = .ok (.aload_n 0, 1) := by decide +kernel
theorem d_Mo_takeAll_50 : decode c_Mo_takeAll 50 = .ok (.getfield 25, 3) := by decide +kernel
theorem d_Mo_takeAll_53 : decode c_Mo_takeAll 53 = .ok (.iload_n 1, 1) := by decide +kernel
theorem d_Mo_takeAll_54 : decode c_Mo_takeAll 54 = .ok (.iload_n 2, 1) := by decide +kernel
theorem d_Mo_takeAll_55 : decode c_Mo_takeAll 55 = .ok (.iload_n 3, 1) := by decide +kernel
theorem d_Mo_takeAll_56 : decode c_Mo_takeAll 56 = .ok (.iadd, 1) := by decide +kernel
theorem d_Mo_takeAll_57 : decode c_Mo_takeAll 57 = .ok (.aload_n 0, 1) := by decide +kernel
theorem d_Mo_takeAll_58 : decode c_Mo_takeAll 58 = .ok (.getfield 25, 3) := by decide +kernel
theorem d_Mo_takeAll_61 : decode c_Mo_takeAll 61 = .ok (.iload_n 1, 1) := by decide +kernel
theorem d_Mo_takeAll_62 : decode c_Mo_takeAll 62 = .ok (.iaload, 1) := by decide +kernel
theorem d_Mo_takeAll_63 : decode c_Mo_takeAll 63 = .ok (.if_icmp .le 9, 3) := by decide +kernel
theorem d_Mo_takeAll_66 : decode c_Mo_takeAll 66 = .ok (.iload_n 2, 1) := by decide +kernel
theorem d_Mo_takeAll_67 : decode c_Mo_takeAll 67 = .ok (.iload_n 3, 1) := by decide +kernel
theorem d_Mo_takeAll_68 : decode c_Mo_takeAll 68 = .ok (.iadd, 1) := by decide +kernel
theorem d_Mo_takeAll_69 : decode c_Mo_takeAll 69 = .ok (.goto 9, 3) := by decide +kernel
theorem d_Mo_takeAll_72 : decode c_Mo_takeAll 72 = .ok (.aload_n 0, 1) := by decide +kernel
theorem d_Mo_takeAll_73 : decode c_Mo_takeAll 73 = .ok (.getfield 25, 3) := by decide +kernel
theorem d_Mo_takeAll_76 : decode c_Mo_takeAll 76 = .ok (.iload_n 1, 1) := by decide +kernel
theorem d_Mo_takeAll_77 : decode c_Mo_takeAll 77 = .ok (.iaload, 1) := by decide +kernel
theorem d_Mo_takeAll_78 : decode c_Mo_takeAll 78 = .ok (.iastore, 1) := by decide +kernel
theorem d_Mo_takeAll_79 : decode c_Mo_takeAll 79 = .ok (.return_, 1) := by decide +kernel
theorem d_Mo_set_0 : decode c_Mo_set 0 = .ok (.aload_n 0, 1) := by decide +kernel
theorem d_Mo_set_1 : decode c_Mo_set 1 = .ok (.getfield 8, 3) := by decide +kernel
theorem d_Mo_set_4 : decode c_Mo_set 4 = .ok (.sipush 1024, 3) := by decide +kernel
theorem d_Mo_set_7 : decode c_Mo_set 7 = .ok (.aload_n 0, 1) := by decide +kernel
theorem d_Mo_set_8 : decode c_Mo_set 8 = .ok (.getfield 34, 3) := by decide +kernel
theorem d_Mo_set_11 : decode c_Mo_set 11 = .ok (.bipush 15, 2) := by decide +kernel
theorem d_Mo_set_13 : decode c_Mo_set 13 = .ok (.iload_n 1, 1) := by decide +kernel
theorem d_Mo_set_14 : decode c_Mo_set 14 = .ok (.imul, 1) := by decide +kernel
theorem d_Mo_set_15 : decode c_Mo_set 15 = .ok (.iload_n 2, 1) := by decide +kernel
theorem d_Mo_set_16 : decode c_Mo_set 16 = .ok (.sipush 1024, 3) := by decide +kernel
theorem d_Mo_set_19 : decode c_Mo_set 19 = .ok (.idiv, 1) := by decide +kernel
theorem d_Mo_set_20 : decode c_Mo_set 20 = .ok (.iadd, 1) := by decide +kernel
theorem d_Mo_set_21 : decode c_Mo_set 21 = .ok (.iaload, 1) := by decide +kernel
theorem d_Mo_set_22 : decode c_Mo_set 22 = .ok (.imul, 1) := by decide +kernel
theorem d_Mo_set_23 : decode c_Mo_set 23 = .ok (.iload_n 2, 1) := by decide +kernel
theorem d_Mo_set_24 : decode c_Mo_set 24 = .ok (.sipush 1024, 3) := by decide +kernel
theorem d_Mo_set_27 : decode c_Mo_set 27 = .ok (.irem, 1) := by decide +kernel
theorem d_Mo_set_28 : decode c_Mo_set 28 = .ok (.iadd, 1) := by decide +kernel
theorem d_Mo_set_29 : decode c_Mo_set 29 = .ok (.iload_n 3, 1) := by decide +kernel
theorem d_Mo_set_30 : decode c_Mo_set 30 = .ok (.i2b, 1) := by decide +kernel
theorem d_Mo_set_31 : decode c_Mo_set 31 = .ok (.bastore, 1) := by decide +kernel
theorem d_Mo_set_32 : decode c_Mo_set 32 = .ok (.return_, 1) := by decide +kernel
theorem d_Mo_paint_0 : decode c_Mo_paint 0 = .ok (.aload_n 0, 1) := by decide +kernel
theorem d_Mo_paint_1 : decode c_Mo_paint 1 = .ok (.iload_n 1, 1) := by decide +kernel
theorem d_Mo_paint_2 : decode c_Mo_paint 2 = .ok (.iload_n 2, 1) := by decide +kernel
theorem d_Mo_paint_3 : decode c_Mo_paint 3 = .ok (.iload_n 3, 1) := by decide +kernel
theorem d_Mo_paint_4 : decode c_Mo_paint 4 = .ok (.sipush 4000, 3) := by decide +kernel
theorem d_Mo_paint_7 : decode c_Mo_paint 7 = .ok (.invokevirtual 87, 3) := by decide +kernel
theorem d_Mo_paint_10 : decode c_Mo_paint 10 = .ok (.ifCond .ne 5, 3) := by decide +kernel
theorem d_Mo_paint_13 : decode c_Mo_paint 13 = .ok (.iconst 0, 1) := by decide +kernel
theorem d_Mo_paint_14 : decode c_Mo_paint 14 = .ok (.ireturn, 1) := by decide +kernel
theorem d_Mo_paint_15 : decode c_Mo_paint 15 = .ok (.aload_n 0, 1) := by decide +kernel
theorem d_Mo_paint_16 : decode c_Mo_paint 16 = .ok (.iload_n 1, 1) := by decide +kernel
theorem d_Mo_paint_17 : decode c_Mo_paint 17 = .ok (.iload_n 2, 1) := by decide +kernel
theorem d_Mo_paint_18 : decode c_Mo_paint 18 = .ok (.iload_n 3, 1) := by decide +kernel
theorem d_Mo_paint_19 : decode c_Mo_paint 19 = .ok (.invokevirtual 91, 3) := by decide +kernel
theorem d_Mo_paint_22 : decode c_Mo_paint 22 = .ok (.iconst 0, 1) := by decide +kernel
theorem d_Mo_paint_23 : decode c_Mo_paint 23 = .ok (.istore 5, 2) := by decide +kernel
theorem d_Mo_paint_25 : decode c_Mo_paint 25 = .ok (.iload 5, 2) := by decide +kernel
theorem d_Mo_paint_27 : decode c_Mo_paint 27 = .ok (.iload_n 3, 1) := by decide +kernel
theorem d_Mo_paint_28 : decode c_Mo_paint 28 = .ok (.if_icmp .ge 26, 3) := by decide +kernel
theorem d_Mo_paint_31 : decode c_Mo_paint 31 = .ok (.aload_n 0, 1) := by decide +kernel
theorem d_Mo_paint_32 : decode c_Mo_paint 32 = .ok (.iload_n 1, 1) := by decide +kernel
theorem d_Mo_paint_33 : decode c_Mo_paint 33 = .ok (.iload_n 2, 1) := by decide +kernel
theorem d_Mo_paint_34 : decode c_Mo_paint 34 = .ok (.iload 5, 2) := by decide +kernel
theorem d_Mo_paint_36 : decode c_Mo_paint 36 = .ok (.iadd, 1) := by decide +kernel
theorem d_Mo_paint_37 : decode c_Mo_paint 37 = .ok (.iload 4, 2) := by decide +kernel
theorem d_Mo_paint_39 : decode c_Mo_paint 39 = .ok (.bipush 7, 2) := by decide +kernel
theorem d_Mo_paint_41 : decode c_Mo_paint 41 = .ok (.iload 5, 2) := by decide +kernel
theorem d_Mo_paint_43 : decode c_Mo_paint 43 = .ok (.imul, 1) := by decide +kernel
theorem d_Mo_paint_44 : decode c_Mo_paint 44 = .ok (.iadd, 1) := by decide +kernel
theorem d_Mo_paint_45 : decode c_Mo_paint 45 = .ok (.invokevirtual 95, 3) := by decide +kernel
theorem d_Mo_paint_48 : decode c_Mo_paint 48 = .ok (.iinc 5 1, 3) := by decide +kernel
theorem d_Mo_paint_51 : decode c_Mo_paint 51 = .ok (.goto (-26), 3) := by decide +kernel
theorem d_Mo_paint_54 : decode c_Mo_paint 54 = .ok (.aload_n 0, 1) := by decide +kernel
theorem d_Mo_paint_55 : decode c_Mo_paint 55 = .ok (.getfield 25, 3) := by decide +kernel
theorem d_Mo_paint_58 : decode c_Mo_paint 58 = .ok (.iload_n 1, 1) := by decide +kernel
theorem d_Mo_paint_59 : decode c_Mo_paint 59 = .ok (.iaload, 1) := by decide +kernel
theorem d_Mo_paint_60 : decode c_Mo_paint 60 = .ok (.ireturn, 1) := by decide +kernel
theorem d_Mo_read_0 : decode c_Mo_read 0 = .ok (.aload_n 0, 1) := by decide +kernel
theorem d_Mo_read_1 : decode c_Mo_read 1 = .ok (.aload_n 0, 1) := by decide +kernel
theorem d_Mo_read_2 : decode c_Mo_read 2 = .ok (.iload_n 1, 1) := by decide +kernel
theorem d_Mo_read_3 : decode c_Mo_read 3 = .ok (.invokevirtual 50, 3) := by decide +kernel
theorem d_Mo_read_6 : decode c_Mo_read 6 = .ok (.ifCond .ne 7, 3) := by decide +kernel
theorem d_Mo_read_9 : decode c_Mo_read 9 = .ok (.iconst 1, 1) := by decide +kernel
theorem d_Mo_read_10 : decode c_Mo_read 10 = .ok (.goto 38, 3) := by decide +kernel
theorem d_Mo_read_13 : decode c_Mo_read 13 = .ok (.iload_n 2, 1) := by decide +kernel
theorem d_Mo_read_14 : decode c_Mo_read 14 = .ok (.i2l, 1) := by decide +kernel
theorem d_Mo_read_15 : decode c_Mo_read 15 = .ok (.lconst 0, 1) := by decide +kernel
theorem d_Mo_read_16 : decode c_Mo_read 16 = .ok (.aload_n 0, 1) := by decide +kernel
theorem d_Mo_read_17 : decode c_Mo_read 17 = .ok (.getfield 25, 3) := by decide +kernel
theorem d_Mo_read_20 : decode c_Mo_read 20 = .ok (.aload_n 0, 1) := by decide +kernel
theorem d_Mo_read_21 : decode c_Mo_read 21 = .ok (.iload_n 1, 1) := by decide +kernel
theorem d_Mo_read_22 : decode c_Mo_read 22 = .ok (.invokevirtual 50, 3) := by decide +kernel
theorem d_Mo_read_25 : decode c_Mo_read 25 = .ok (.ifCond .eq 7, 3) := by decide +kernel
theorem d_Mo_read_28 : decode c_Mo_read 28 = .ok (.iload_n 1, 1) := by decide +kernel
theorem d_Mo_read_29 : decode c_Mo_read 29 = .ok (.goto 4, 3) := by decide +kernel
theorem d_Mo_read_32 : decode c_Mo_read 32 = .ok (.iconst 0, 1) := by decide +kernel
theorem d_Mo_read_33 : decode c_Mo_read 33 = .ok (.iaload, 1) := by decide +kernel
theorem d_Mo_read_34 : decode c_Mo_read 34 = .ok (.iconst 1, 1) := by decide +kernel
theorem d_Mo_read_35 : decode c_Mo_read 35 = .ok (.isub, 1) := by decide +kernel
theorem d_Mo_read_36 : decode c_Mo_read 36 = .ok (.i2l, 1) := by decide +kernel
theorem d_Mo_read_37 : decode c_Mo_read 37 = .ok (.invokestatic 46, 3) := by decide +kernel
theorem d_Mo_read_40 : decode c_Mo_read 40 = .ok (.ifCond .ne 7, 3) := by decide +kernel
theorem d_Mo_read_43 : decode c_Mo_read 43 = .ok (.iconst 2, 1) := by decide +kernel
theorem d_Mo_read_44 : decode c_Mo_read 44 = .ok (.goto 4, 3) := by decide +kernel
theorem d_Mo_read_47 : decode c_Mo_read 47 = .ok (.iconst 0, 1) := by decide +kernel
theorem d_Mo_read_48 : decode c_Mo_read 48 = .ok (.putfield 40, 3) := by decide +kernel
theorem d_Mo_read_51 : decode c_Mo_read 51 = .ok (.aload_n 0, 1) := by decide +kernel
theorem d_Mo_read_52 : decode c_Mo_read 52 = .ok (.getfield 40, 3) := by decide +kernel
theorem d_Mo_read_55 : decode c_Mo_read 55 = .ok (.ifCond .le 5, 3) := by decide +kernel
theorem d_Mo_read_58 : decode c_Mo_read 58 = .ok (.iconst 0, 1) := by decide +kernel
theorem d_Mo_read_59 : decode c_Mo_read 59 = .ok (.ireturn, 1) := by decide +kernel
theorem d_Mo_read_60 : decode c_Mo_read 60 = .ok (.aload_n 0, 1) := by decide +kernel
theorem d_Mo_read_61 : decode c_Mo_read 61 = .ok (.getfield 18, 3) := by decide +kernel
theorem d_Mo_read_64 : decode c_Mo_read 64 = .ok (.iload_n 1, 1) := by decide +kernel
theorem d_Mo_read_65 : decode c_Mo_read 65 = .ok (.iaload, 1) := by decide +kernel
theorem d_Mo_read_66 : decode c_Mo_read 66 = .ok (.iconst 3, 1) := by decide +kernel
theorem d_Mo_read_67 : decode c_Mo_read 67 = .ok (.if_icmp .ne 30, 3) := by decide +kernel
theorem d_Mo_read_70 : decode c_Mo_read 70 = .ok (.aload_n 0, 1) := by decide +kernel
theorem d_Mo_read_71 : decode c_Mo_read 71 = .ok (.getfield 25, 3) := by decide +kernel
theorem d_Mo_read_74 : decode c_Mo_read 74 = .ok (.iload_n 1, 1) := by decide +kernel
theorem d_Mo_read_75 : decode c_Mo_read 75 = .ok (.iaload, 1) := by decide +kernel
theorem d_Mo_read_76 : decode c_Mo_read 76 = .ok (.bipush 60, 2) := by decide +kernel
theorem d_Mo_read_78 : decode c_Mo_read 78 = .ok (.if_icmp .ge 19, 3) := by decide +kernel
theorem d_Mo_read_81 : decode c_Mo_read 81 = .ok (.aload_n 0, 1) := by decide +kernel
theorem d_Mo_read_82 : decode c_Mo_read 82 = .ok (.getfield 37, 3) := by decide +kernel
theorem d_Mo_read_85 : decode c_Mo_read 85 = .ok (.bipush 60, 2) := by decide +kernel
theorem d_Mo_read_87 : decode c_Mo_read 87 = .ok (.iload_n 1, 1) := by decide +kernel
theorem d_Mo_read_88 : decode c_Mo_read 88 = .ok (.imul, 1) := by decide +kernel
theorem d_Mo_read_89 : decode c_Mo_read 89 = .ok (.iload_n 2, 1) := by decide +kernel
theorem d_Mo_read_90 : decode c_Mo_read 90 = .ok (.iadd, 1) := by decide +kernel
theorem d_Mo_read_91 : decode c_Mo_read 91 = .ok (.baload, 1) := by decide +kernel
theorem d_Mo_read_92 : decode c_Mo_read 92 = .ok (.sipush 255, 3) := by decide +kernel
theorem d_Mo_read_95 : decode c_Mo_read 95 = .ok (.iand, 1) := by decide +kernel
theorem d_Mo_read_96 : decode c_Mo_read 96 = .ok (.ireturn, 1) := by decide +kernel
theorem d_Mo_read_97 : decode c_Mo_read 97 = .ok (.aload_n 0, 1) := by decide +kernel
theorem d_Mo_read_98 : decode c_Mo_read 98 = .ok (.getfield 34, 3) := by decide +kernel
theorem d_Mo_read_101 : decode c_Mo_read 101 = .ok (.bipush 15, 2) := by decide +kernel
theorem d_Mo_read_103 : decode c_Mo_read 103 = .ok (.iload_n 1, 1) := by decide +kernel
theorem d_Mo_read_104 : decode c_Mo_read 104 = .ok (.imul, 1) := by decide +kernel
theorem d_Mo_read_105 : decode c_Mo_read 105 = .ok (.iload_n 2, 1) := by decide +kernel
theorem d_Mo_read_106 : decode c_Mo_read 106 = .ok (.sipush 1024, 3) := by decide +kernel
theorem d_Mo_read_109 : decode c_Mo_read 109 = .ok (.idiv, 1) := by decide +kernel
theorem d_Mo_read_110 : decode c_Mo_read 110 = .ok (.iadd, 1) := by decide +kernel
theorem d_Mo_read_111 : decode c_Mo_read 111 = .ok (.iaload, 1) := by decide +kernel
theorem d_Mo_read_112 : decode c_Mo_read 112 = .ok (.istore_n 3, 1) := by decide +kernel
theorem d_Mo_read_113 : decode c_Mo_read 113 = .ok (.iload_n 3, 1) := by decide +kernel
theorem d_Mo_read_114 : decode c_Mo_read 114 = .ok (.ifCond .ne 7, 3) := by decide +kernel
theorem d_Mo_read_117 : decode c_Mo_read 117 = .ok (.iconst 0, 1) := by decide +kernel
theorem d_Mo_read_118 : decode c_Mo_read 118 = .ok (.goto 23, 3) := by decide +kernel
theorem d_Mo_read_121 : decode c_Mo_read 121 = .ok (.aload_n 0, 1) := by decide +kernel
theorem d_Mo_read_122 : decode c_Mo_read 122 = .ok (.getfield 8, 3) := by decide +kernel
theorem d_Mo_read_125 : decode c_Mo_read 125 = .ok (.sipush 1024, 3) := by decide +kernel
theorem d_Mo_read_128 : decode c_Mo_read 128 = .ok (.iload_n 3, 1) := by decide +kernel
theorem d_Mo_read_129 : decode c_Mo_read 129 = .ok (.imul, 1) := by decide +kernel
theorem d_Mo_read_130 : decode c_Mo_read 130 = .ok (.iload_n 2, 1) := by decide +kernel
theorem d_Mo_read_131 : decode c_Mo_read 131 = .ok (.sipush 1024, 3) := by decide +kernel
theorem d_Mo_read_134 : decode c_Mo_read 134 = .ok (.irem, 1) := by decide +kernel
theorem d_Mo_read_135 : decode c_Mo_read 135 = .ok (.iadd, 1) := by decide +kernel
theorem d_Mo_read_136 : decode c_Mo_read 136 = .ok (.baload, 1) := by decide +kernel
theorem d_Mo_read_137 : decode c_Mo_read 137 = .ok (.sipush 255, 3) := by decide +kernel
theorem d_Mo_read_140 : decode c_Mo_read 140 = .ok (.iand, 1) := by decide +kernel
theorem d_Mo_read_141 : decode c_Mo_read 141 = .ok (.ireturn, 1) := by decide +kernel
theorem d_Mo_cut_0 : decode c_Mo_cut 0 = .ok (.aload_n 0, 1) := by decide +kernel
theorem d_Mo_cut_1 : decode c_Mo_cut 1 = .ok (.aload_n 0, 1) := by decide +kernel
theorem d_Mo_cut_2 : decode c_Mo_cut 2 = .ok (.iload_n 1, 1) := by decide +kernel
theorem d_Mo_cut_3 : decode c_Mo_cut 3 = .ok (.invokevirtual 78, 3) := by decide +kernel
theorem d_Mo_cut_6 : decode c_Mo_cut 6 = .ok (.ifCond .eq 19, 3) := by decide +kernel
theorem d_Mo_cut_9 : decode c_Mo_cut 9 = .ok (.iload_n 2, 1) := by decide +kernel
theorem d_Mo_cut_10 : decode c_Mo_cut 10 = .ok (.i2l, 1) := by decide +kernel
theorem d_Mo_cut_11 : decode c_Mo_cut 11 = .ok (.lconst 0, 1) := by decide +kernel
theorem d_Mo_cut_12 : decode c_Mo_cut 12 = .ok (.ldc2_w 81, 3) := by decide +kernel
theorem d_Mo_cut_15 : decode c_Mo_cut 15 = .ok (.invokestatic 46, 3) := by decide +kernel
theorem d_Mo_cut_18 : decode c_Mo_cut 18 = .ok (.ifCond .eq 7, 3) := by decide +kernel
theorem d_Mo_cut_21 : decode c_Mo_cut 21 = .ok (.iconst 0, 1) := by decide +kernel
theorem d_Mo_cut_22 : decode c_Mo_cut 22 = .ok (.goto 4, 3) := by decide +kernel
theorem d_Mo_cut_25 : decode c_Mo_cut 25 = .ok (.iconst 1, 1) := by decide +kernel
theorem d_Mo_cut_26 : decode c_Mo_cut 26 = .ok (.putfield 40, 3) := by decide +kernel
theorem d_Mo_cut_29 : decode c_Mo_cut 29 = .ok (.aload_n 0, 1) := by decide +kernel
theorem d_Mo_cut_30 : decode c_Mo_cut 30 = .ok (.getfield 40, 3) := by decide +kernel
theorem d_Mo_cut_33 : decode c_Mo_cut 33 = .ok (.ifCond .le 5, 3) := by decide +kernel
theorem d_Mo_cut_36 : decode c_Mo_cut 36 = .ok (.iconst 0, 1) := by decide +kernel
theorem d_Mo_cut_37 : decode c_Mo_cut 37 = .ok (.ireturn, 1) := by decide +kernel
theorem d_Mo_cut_38 : decode c_Mo_cut 38 = .ok (.aload_n 0, 1) := by decide +kernel
theorem d_Mo_cut_39 : decode c_Mo_cut 39 = .ok (.getfield 25, 3) := by decide +kernel
theorem d_Mo_cut_42 : decode c_Mo_cut 42 = .ok (.iload_n 1, 1) := by decide +kernel
theorem d_Mo_cut_43 : decode c_Mo_cut 43 = .ok (.iaload, 1) := by decide +kernel
theorem d_Mo_cut_44 : decode c_Mo_cut 44 = .ok (.istore_n 3, 1) := by decide +kernel
theorem d_Mo_cut_45 : decode c_Mo_cut 45 = .ok (.iconst 0, 1) := by decide +kernel
theorem d_Mo_cut_46 : decode c_Mo_cut 46 = .ok (.istore 4, 2) := by decide +kernel
theorem d_Mo_cut_48 : decode c_Mo_cut 48 = .ok (.iload 4, 2) := by decide +kernel
theorem d_Mo_cut_50 : decode c_Mo_cut 50 = .ok (.bipush 15, 2) := by decide +kernel
theorem d_Mo_cut_52 : decode c_Mo_cut 52 = .ok (.if_icmp .ge 26, 3) := by decide +kernel
theorem d_Mo_cut_55 : decode c_Mo_cut 55 = .ok (.sipush 1024, 3) := by decide +kernel
theorem d_Mo_cut_58 : decode c_Mo_cut 58 = .ok (.iload 4, 2) := by decide +kernel
theorem d_Mo_cut_60 : decode c_Mo_cut 60 = .ok (.imul, 1) := by decide +kernel
theorem d_Mo_cut_61 : decode c_Mo_cut 61 = .ok (.iload_n 2, 1) := by decide +kernel
theorem d_Mo_cut_62 : decode c_Mo_cut 62 = .ok (.if_icmp .lt 10, 3) := by decide +kernel
theorem d_Mo_cut_65 : decode c_Mo_cut 65 = .ok (.aload_n 0, 1) := by decide +kernel
theorem d_Mo_cut_66 : decode c_Mo_cut 66 = .ok (.iload_n 1, 1) := by decide +kernel
theorem d_Mo_cut_67 : decode c_Mo_cut 67 = .ok (.iload 4, 2) := by decide +kernel
theorem d_Mo_cut_69 : decode c_Mo_cut 69 = .ok (.invokevirtual 98, 3) := by decide +kernel
theorem d_Mo_cut_72 : decode c_Mo_cut 72 = .ok (.iinc 4 1, 3) := by decide +kernel
theorem d_Mo_cut_75 : decode c_Mo_cut 75 = .ok (.goto (-27), 3) := by decide +kernel
theorem d_Mo_cut_78 : decode c_Mo_cut 78 = .ok (.iload_n 2, 1) := by decide +kernel
theorem d_Mo_cut_79 : decode c_Mo_cut 79 = .ok (.istore 4, 2) := by decide +kernel
theorem d_Mo_cut_81 : decode c_Mo_cut 81 = .ok (.iload 4, 2) := by decide +kernel
theorem d_Mo_cut_83 : decode c_Mo_cut 83 = .ok (.iload_n 3, 1) := by decide +kernel
theorem d_Mo_cut_84 : decode c_Mo_cut 84 = .ok (.if_icmp .ge 60, 3) := by decide +kernel
theorem d_Mo_cut_87 : decode c_Mo_cut 87 = .ok (.iload 4, 2) := by decide +kernel
theorem d_Mo_cut_89 : decode c_Mo_cut 89 = .ok (.sipush 1024, 3) := by decide +kernel
theorem d_Mo_cut_92 : decode c_Mo_cut 92 = .ok (.irem, 1) := by decide +kernel
theorem d_Mo_cut_93 : decode c_Mo_cut 93 = .ok (.ifCond .eq 51, 3) := by decide +kernel
theorem d_Mo_cut_96 : decode c_Mo_cut 96 = .ok (.aload_n 0, 1) := by decide +kernel
theorem d_Mo_cut_97 : decode c_Mo_cut 97 = .ok (.getfield 34, 3) := by decide +kernel
theorem d_Mo_cut_100 : decode c_Mo_cut 100 = .ok (.bipush 15, 2) := by decide +kernel
theorem d_Mo_cut_102 : decode c_Mo_cut 102 = .ok (.iload_n 1, 1) := by decide +kernel
theorem d_Mo_cut_103 : decode c_Mo_cut 103 = .ok (.imul, 1) := by decide +kernel
theorem d_Mo_cut_104 : decode c_Mo_cut 104 = .ok (.iload 4, 2) := by decide +kernel
theorem d_Mo_cut_106 : decode c_Mo_cut 106 = .ok (.sipush 1024, 3) := by decide +kernel
theorem d_Mo_cut_109 : decode c_Mo_cut 109 = .ok (.idiv, 1) := by decide +kernel
theorem d_Mo_cut_110 : decode c_Mo_cut 110 = .ok (.iadd, 1) := by decide +kernel
theorem d_Mo_cut_111 : decode c_Mo_cut 111 = .ok (.iaload, 1) := by decide +kernel
theorem d_Mo_cut_112 : decode c_Mo_cut 112 = .ok (.istore 5, 2) := by decide +kernel
theorem d_Mo_cut_114 : decode c_Mo_cut 114 = .ok (.iload 5, 2) := by decide +kernel
theorem d_Mo_cut_116 : decode c_Mo_cut 116 = .ok (.ifCond .le 22, 3) := by decide +kernel
theorem d_Mo_cut_119 : decode c_Mo_cut 119 = .ok (.aload_n 0, 1) := by decide +kernel
theorem d_Mo_cut_120 : decode c_Mo_cut 120 = .ok (.getfield 8, 3) := by decide +kernel
theorem d_Mo_cut_123 : decode c_Mo_cut 123 = .ok (.sipush 1024, 3) := by decide +kernel
theorem d_Mo_cut_126 : decode c_Mo_cut 126 = .ok (.iload 5, 2) := by decide +kernel
theorem d_Mo_cut_128 : decode c_Mo_cut 128 = .ok (.imul, 1) := by decide +kernel
theorem d_Mo_cut_129 : decode c_Mo_cut 129 = .ok (.iload 4, 2) := by decide +kernel
theorem d_Mo_cut_131 : decode c_Mo_cut 131 = .ok (.sipush 1024, 3) := by decide +kernel
theorem d_Mo_cut_134 : decode c_Mo_cut 134 = .ok (.irem, 1) := by decide +kernel
theorem d_Mo_cut_135 : decode c_Mo_cut 135 = .ok (.iadd, 1) := by decide +kernel
theorem d_Mo_cut_136 : decode c_Mo_cut 136 = .ok (.iconst 0, 1) := by decide +kernel
theorem d_Mo_cut_137 : decode c_Mo_cut 137 = .ok (.bastore, 1) := by decide +kernel
theorem d_Mo_cut_138 : decode c_Mo_cut 138 = .ok (.iinc 4 1, 3) := by decide +kernel
theorem d_Mo_cut_141 : decode c_Mo_cut 141 = .ok (.goto (-60), 3) := by decide +kernel
theorem d_Mo_cut_144 : decode c_Mo_cut 144 = .ok (.aload_n 0, 1) := by decide +kernel
theorem d_Mo_cut_145 : decode c_Mo_cut 145 = .ok (.getfield 25, 3) := by decide +kernel
theorem d_Mo_cut_148 : decode c_Mo_cut 148 = .ok (.iload_n 1, 1) := by decide +kernel
theorem d_Mo_cut_149 : decode c_Mo_cut 149 = .ok (.iload_n 2, 1) := by decide +kernel
theorem d_Mo_cut_150 : decode c_Mo_cut 150 = .ok (.iastore, 1) := by decide +kernel
theorem d_Mo_cut_151 : decode c_Mo_cut 151 = .ok (.iload_n 3, 1) := by decide +kernel
theorem d_Mo_cut_152 : decode c_Mo_cut 152 = .ok (.ireturn, 1) := by decide +kernel
theorem d_Mo_giveBack_0 : decode c_Mo_giveBack 0 = .ok (.aload_n 0, 1) := by decide +kernel
theorem d_Mo_giveBack_1 : decode c_Mo_giveBack 1 = .ok (.getfield 34, 3) := by decide +kernel
theorem d_Mo_giveBack_4 : decode c_Mo_giveBack 4 = .ok (.bipush 15, 2) := by decide +kernel
theorem d_Mo_giveBack_6 : decode c_Mo_giveBack 6 = .ok (.iload_n 1, 1) := by decide +kernel
theorem d_Mo_giveBack_7 : decode c_Mo_giveBack 7 = .ok (.imul, 1) := by decide +kernel
theorem d_Mo_giveBack_8 : decode c_Mo_giveBack 8 = .ok (.iload_n 2, 1) := by decide +kernel
theorem d_Mo_giveBack_9 : decode c_Mo_giveBack 9 = .ok (.iadd, 1) := by decide +kernel
theorem d_Mo_giveBack_10 : decode c_Mo_giveBack 10 = .ok (.iaload, 1) := by decide +kernel
theorem d_Mo_giveBack_11 : decode c_Mo_giveBack 11 = .ok (.istore_n 3, 1) := by decide +kernel
theorem d_Mo_giveBack_12 : decode c_Mo_giveBack 12 = .ok (.iload_n 3, 1) := by decide +kernel
theorem d_Mo_giveBack_13 : decode c_Mo_giveBack 13 = .ok (.ifCond .le 22, 3) := by decide +kernel
theorem d_Mo_giveBack_16 : decode c_Mo_giveBack 16 = .ok (.aload_n 0, 1) := by decide +kernel
theorem d_Mo_giveBack_17 : decode c_Mo_giveBack 17 = .ok (.getfield 14, 3) := by decide +kernel
theorem d_Mo_giveBack_20 : decode c_Mo_giveBack 20 = .ok (.iload_n 3, 1) := by decide +kernel
theorem d_Mo_giveBack_21 : decode c_Mo_giveBack 21 = .ok (.iconst 0, 1) := by decide +kernel
theorem d_Mo_giveBack_22 : decode c_Mo_giveBack 22 = .ok (.bastore, 1) := by decide +kernel
theorem d_Mo_giveBack_23 : decode c_Mo_giveBack 23 = .ok (.aload_n 0, 1) := by decide +kernel
theorem d_Mo_giveBack_24 : decode c_Mo_giveBack 24 = .ok (.getfield 34, 3) := by decide +kernel
theorem d_Mo_giveBack_27 : decode c_Mo_giveBack 27 = .ok (.bipush 15, 2) := by decide +kernel
theorem d_Mo_giveBack_29 : decode c_Mo_giveBack 29 = .ok (.iload_n 1, 1) := by decide +kernel
theorem d_Mo_giveBack_30 : decode c_Mo_giveBack 30 = .ok (.imul, 1) := by decide +kernel
theorem d_Mo_giveBack_31 : decode c_Mo_giveBack 31 = .ok (.iload_n 2, 1) := by decide +kernel
theorem d_Mo_giveBack_32 : decode c_Mo_giveBack 32 = .ok (.iadd, 1) := by decide +kernel
theorem d_Mo_giveBack_33 : decode c_Mo_giveBack 33 = .ok (.iconst 0, 1) := by decide +kernel
theorem d_Mo_giveBack_34 : decode c_Mo_giveBack 34 = .ok (.iastore, 1) := by decide +kernel
theorem d_Mo_giveBack_35 : decode c_Mo_giveBack 35 = .ok (.return_, 1) := by decide +kernel
theorem d_Mo_links_0 : decode c_Mo_links 0 = .ok (.aload_n 0, 1) := by decide +kernel
theorem d_Mo_links_1 : decode c_Mo_links 1 = .ok (.aload_n 0, 1) := by decide +kernel
theorem d_Mo_links_2 : decode c_Mo_links 2 = .ok (.iload_n 1, 1) := by decide +kernel
theorem d_Mo_links_3 : decode c_Mo_links 3 = .ok (.invokevirtual 50, 3) := by decide +kernel
theorem d_Mo_links_6 : decode c_Mo_links 6 = .ok (.ifCond .eq 39, 3) := by decide +kernel
theorem d_Mo_links_9 : decode c_Mo_links 9 = .ok (.aload_n 0, 1) := by decide +kernel
theorem d_Mo_links_10 : decode c_Mo_links 10 = .ok (.getfield 22, 3) := by decide +kernel
theorem d_Mo_links_13 : decode c_Mo_links 13 = .ok (.aload_n 0, 1) := by decide +kernel
theorem d_Mo_links_14 : decode c_Mo_links 14 = .ok (.iload_n 1, 1) := by decide +kernel
theorem d_Mo_links_15 : decode c_Mo_links 15 = .ok (.invokevirtual 50, 3) := by decide +kernel
theorem d_Mo_links_18 : decode c_Mo_links 18 = .ok (.ifCond .eq 7, 3) := by decide +kernel
theorem d_Mo_links_21 : decode c_Mo_links 21 = .ok (.iload_n 1, 1) := by decide +kernel
theorem d_Mo_links_22 : decode c_Mo_links 22 = .ok (.goto 4, 3) := by decide +kernel
theorem d_Mo_links_25 : decode c_Mo_links 25 = .ok (.iconst 0, 1) := by decide +kernel
theorem d_Mo_links_26 : decode c_Mo_links 26 = .ok (.iaload, 1) := by decide +kernel
theorem d_Mo_links_27 : decode c_Mo_links 27 = .ok (.i2l, 1) := by decide +kernel
theorem d_Mo_links_28 : decode c_Mo_links 28 = .ok (.iload_n 2, 1) := by decide +kernel
theorem d_Mo_links_29 : decode c_Mo_links 29 = .ok (.i2l, 1) := by decide +kernel
theorem d_Mo_links_30 : decode c_Mo_links 30 = .ok (.ladd, 1) := by decide +kernel
theorem d_Mo_links_31 : decode c_Mo_links 31 = .ok (.lconst 0, 1) := by decide +kernel
theorem d_Mo_links_32 : decode c_Mo_links 32 = .ok (.ldc2_w 65, 3) := by decide +kernel
theorem d_Mo_links_35 : decode c_Mo_links 35 = .ok (.invokestatic 46, 3) := by decide +kernel
theorem d_Mo_links_38 : decode c_Mo_links 38 = .ok (.ifCond .eq 7, 3) := by decide +kernel
theorem d_Mo_links_41 : decode c_Mo_links 41 = .ok (.iconst 0, 1) := by decide +kernel
theorem d_Mo_links_42 : decode c_Mo_links 42 = .ok (.goto 4, 3) := by decide +kernel
theorem d_Mo_links_45 : decode c_Mo_links 45 = .ok (.iconst 1, 1) := by decide +kernel
theorem d_Mo_links_46 : decode c_Mo_links 46 = .ok (.putfield 40, 3) := by decide +kernel
theorem d_Mo_links_49 : decode c_Mo_links 49 = .ok (.aload_n 0, 1) := by decide +kernel
theorem d_Mo_links_50 : decode c_Mo_links 50 = .ok (.getfield 40, 3) := by decide +kernel
theorem d_Mo_links_53 : decode c_Mo_links 53 = .ok (.ifCond .le 5, 3) := by decide +kernel
theorem d_Mo_links_56 : decode c_Mo_links 56 = .ok (.iconst 0, 1) := by decide +kernel
theorem d_Mo_links_57 : decode c_Mo_links 57 = .ok (.ireturn, 1) := by decide +kernel
theorem d_Mo_links_58 : decode c_Mo_links 58 = .ok (.aload_n 0, 1) := by decide +kernel
theorem d_Mo_links_59 : decode c_Mo_links 59 = .ok (.getfield 22, 3) := by decide +kernel
theorem d_Mo_links_62 : decode c_Mo_links 62 = .ok (.iload_n 1, 1) := by decide +kernel
theorem d_Mo_links_63 : decode c_Mo_links 63 = .ok (.dup2, 1) := by decide +kernel
theorem d_Mo_links_64 : decode c_Mo_links 64 = .ok (.iaload, 1) := by decide +kernel
theorem d_Mo_links_65 : decode c_Mo_links 65 = .ok (.iload_n 2, 1) := by decide +kernel
theorem d_Mo_links_66 : decode c_Mo_links 66 = .ok (.iadd, 1) := by decide +kernel
theorem d_Mo_links_67 : decode c_Mo_links 67 = .ok (.iastore, 1) := by decide +kernel
theorem d_Mo_links_68 : decode c_Mo_links 68 = .ok (.aload_n 0, 1) := by decide +kernel
theorem d_Mo_links_69 : decode c_Mo_links 69 = .ok (.iload_n 1, 1) := by decide +kernel
theorem d_Mo_links_70 : decode c_Mo_links 70 = .ok (.aload_n 0, 1) := by decide +kernel
theorem d_Mo_links_71 : decode c_Mo_links 71 = .ok (.getfield 22, 3) := by decide +kernel
theorem d_Mo_links_74 : decode c_Mo_links 74 = .ok (.iload_n 1, 1) := by decide +kernel
theorem d_Mo_links_75 : decode c_Mo_links 75 = .ok (.iaload, 1) := by decide +kernel
theorem d_Mo_links_76 : decode c_Mo_links 76 = .ok (.ifCond .ne 7, 3) := by decide +kernel
theorem d_Mo_links_79 : decode c_Mo_links 79 = .ok (.iconst 1, 1) := by decide +kernel
theorem d_Mo_links_80 : decode c_Mo_links 80 = .ok (.goto 4, 3) := by decide +kernel
theorem d_Mo_links_83 : decode c_Mo_links 83 = .ok (.iconst 0, 1) := by decide +kernel
theorem d_Mo_links_84 : decode c_Mo_links 84 = .ok (.invokevirtual 61, 3) := by decide +kernel
theorem d_Mo_links_87 : decode c_Mo_links 87 = .ok (.aload_n 0, 1) := by decide +kernel
theorem d_Mo_links_88 : decode c_Mo_links 88 = .ok (.getfield 22, 3) := by decide +kernel
theorem d_Mo_links_91 : decode c_Mo_links 91 = .ok (.iload_n 1, 1) := by decide +kernel
theorem d_Mo_links_92 : decode c_Mo_links 92 = .ok (.iaload, 1) := by decide +kernel
theorem d_Mo_links_93 : decode c_Mo_links 93 = .ok (.ireturn, 1) := by decide +kernel
theorem d_Mo_drop_0 : decode c_Mo_drop 0 = .ok (.aload_n 0, 1) := by decide +kernel
theorem d_Mo_drop_1 : decode c_Mo_drop 1 = .ok (.aload_n 0, 1) := by decide +kernel
theorem d_Mo_drop_2 : decode c_Mo_drop 2 = .ok (.iload_n 1, 1) := by decide +kernel
theorem d_Mo_drop_3 : decode c_Mo_drop 3 = .ok (.invokevirtual 50, 3) := by decide +kernel
theorem d_Mo_drop_6 : decode c_Mo_drop 6 = .ok (.ifCond .ne 7, 3) := by decide +kernel
theorem d_Mo_drop_9 : decode c_Mo_drop 9 = .ok (.iconst 1, 1) := by decide +kernel
theorem d_Mo_drop_10 : decode c_Mo_drop 10 = .ok (.goto 17, 3) := by decide +kernel
theorem d_Mo_drop_13 : decode c_Mo_drop 13 = .ok (.aload_n 0, 1) := by decide +kernel
theorem d_Mo_drop_14 : decode c_Mo_drop 14 = .ok (.getfield 22, 3) := by decide +kernel
theorem d_Mo_drop_17 : decode c_Mo_drop 17 = .ok (.iload_n 1, 1) := by decide +kernel
theorem d_Mo_drop_18 : decode c_Mo_drop 18 = .ok (.iaload, 1) := by decide +kernel
theorem d_Mo_drop_19 : decode c_Mo_drop 19 = .ok (.ifCond .le 7, 3) := by decide +kernel
theorem d_Mo_drop_22 : decode c_Mo_drop 22 = .ok (.iconst 2, 1) := by decide +kernel
theorem d_Mo_drop_23 : decode c_Mo_drop 23 = .ok (.goto 4, 3) := by decide +kernel
theorem d_Mo_drop_26 : decode c_Mo_drop 26 = .ok (.iconst 0, 1) := by decide +kernel
theorem d_Mo_drop_27 : decode c_Mo_drop 27 = .ok (.putfield 40, 3) := by decide +kernel
theorem d_Mo_drop_30 : decode c_Mo_drop 30 = .ok (.aload_n 0, 1) := by decide +kernel
theorem d_Mo_drop_31 : decode c_Mo_drop 31 = .ok (.getfield 40, 3) := by decide +kernel
theorem d_Mo_drop_34 : decode c_Mo_drop 34 = .ok (.ifCond .le 7, 3) := by decide +kernel
theorem d_Mo_drop_37 : decode c_Mo_drop 37 = .ok (.iconst 0, 1) := by decide +kernel
theorem d_Mo_drop_38 : decode c_Mo_drop 38 = .ok (.goto 8, 3) := by decide +kernel
theorem d_Mo_drop_41 : decode c_Mo_drop 41 = .ok (.aload_n 0, 1) := by decide +kernel
theorem d_Mo_drop_42 : decode c_Mo_drop 42 = .ok (.iload_n 1, 1) := by decide +kernel
theorem d_Mo_drop_43 : decode c_Mo_drop 43 = .ok (.invokevirtual 105, 3) := by decide +kernel
theorem d_Mo_drop_46 : decode c_Mo_drop 46 = .ok (.ireturn, 1) := by decide +kernel
theorem d_Mo_go_0 : decode c_Mo_go 0 = .ok (.aload_n 0, 1) := by decide +kernel
theorem d_Mo_go_1 : decode c_Mo_go 1 = .ok (.iload_n 1, 1) := by decide +kernel
theorem d_Mo_go_2 : decode c_Mo_go 2 = .ok (.invokevirtual 101, 3) := by decide +kernel
theorem d_Mo_go_5 : decode c_Mo_go 5 = .ok (.istore_n 2, 1) := by decide +kernel
theorem d_Mo_go_6 : decode c_Mo_go 6 = .ok (.aload_n 0, 1) := by decide +kernel
theorem d_Mo_go_7 : decode c_Mo_go 7 = .ok (.iload_n 1, 1) := by decide +kernel
theorem d_Mo_go_8 : decode c_Mo_go 8 = .ok (.iconst 0, 1) := by decide +kernel
theorem d_Mo_go_9 : decode c_Mo_go 9 = .ok (.invokevirtual 61, 3) := by decide +kernel
theorem d_Mo_go_12 : decode c_Mo_go 12 = .ok (.iconst 0, 1) := by decide +kernel
theorem d_Mo_go_13 : decode c_Mo_go 13 = .ok (.istore_n 3, 1) := by decide +kernel
theorem d_Mo_go_14 : decode c_Mo_go 14 = .ok (.iload_n 3, 1) := by decide +kernel
theorem d_Mo_go_15 : decode c_Mo_go 15 = .ok (.bipush 15, 2) := by decide +kernel
theorem d_Mo_go_17 : decode c_Mo_go 17 = .ok (.if_icmp .ge 15, 3) := by decide +kernel
theorem d_Mo_go_20 : decode c_Mo_go 20 = .ok (.aload_n 0, 1) := by decide +kernel
theorem d_Mo_go_21 : decode c_Mo_go 21 = .ok (.iload_n 1, 1) := by decide +kernel
theorem d_Mo_go_22 : decode c_Mo_go 22 = .ok (.iload_n 3, 1) := by decide +kernel
theorem d_Mo_go_23 : decode c_Mo_go 23 = .ok (.invokevirtual 98, 3) := by decide +kernel
theorem d_Mo_go_26 : decode c_Mo_go 26 = .ok (.iinc 3 1, 3) := by decide +kernel
theorem d_Mo_go_29 : decode c_Mo_go 29 = .ok (.goto (-15), 3) := by decide +kernel
theorem d_Mo_go_32 : decode c_Mo_go 32 = .ok (.aload_n 0, 1) := by decide +kernel
theorem d_Mo_go_33 : decode c_Mo_go 33 = .ok (.getfield 18, 3) := by decide +kernel
theorem d_Mo_go_36 : decode c_Mo_go 36 = .ok (.iload_n 1, 1) := by decide +kernel
theorem d_Mo_go_37 : decode c_Mo_go 37 = .ok (.iconst 0, 1) := by decide +kernel
theorem d_Mo_go_38 : decode c_Mo_go 38 = .ok (.iastore, 1) := by decide +kernel
theorem d_Mo_go_39 : decode c_Mo_go 39 = .ok (.aload_n 0, 1) := by decide +kernel
theorem d_Mo_go_40 : decode c_Mo_go 40 = .ok (.getfield 25, 3) := by decide +kernel
theorem d_Mo_go_43 : decode c_Mo_go 43 = .ok (.iload_n 1, 1) := by decide +kernel
theorem d_Mo_go_44 : decode c_Mo_go 44 = .ok (.iconst 0, 1) := by decide +kernel
theorem d_Mo_go_45 : decode c_Mo_go 45 = .ok (.iastore, 1) := by decide +kernel
theorem d_Mo_go_46 : decode c_Mo_go 46 = .ok (.aload_n 0, 1) := by decide +kernel
theorem d_Mo_go_47 : decode c_Mo_go 47 = .ok (.getfield 22, 3) := by decide +kernel
theorem d_Mo_go_50 : decode c_Mo_go 50 = .ok (.iload_n 1, 1) := by decide +kernel
theorem d_Mo_go_51 : decode c_Mo_go 51 = .ok (.iconst 0, 1) := by decide +kernel
theorem d_Mo_go_52 : decode c_Mo_go 52 = .ok (.iastore, 1) := by decide +kernel
theorem d_Mo_go_53 : decode c_Mo_go 53 = .ok (.iload_n 2, 1) := by decide +kernel
theorem d_Mo_go_54 : decode c_Mo_go 54 = .ok (.ireturn, 1) := by decide +kernel
theorem d_Mo_blocksOf_0 : decode c_Mo_blocksOf 0 = .ok (.iconst 0, 1) := by decide +kernel
theorem d_Mo_blocksOf_1 : decode c_Mo_blocksOf 1 = .ok (.istore_n 2, 1) := by decide +kernel
theorem d_Mo_blocksOf_2 : decode c_Mo_blocksOf 2 = .ok (.iconst 0, 1) := by decide +kernel
theorem d_Mo_blocksOf_3 : decode c_Mo_blocksOf 3 = .ok (.istore_n 3, 1) := by decide +kernel
theorem d_Mo_blocksOf_4 : decode c_Mo_blocksOf 4 = .ok (.iload_n 3, 1) := by decide +kernel
theorem d_Mo_blocksOf_5 : decode c_Mo_blocksOf 5 = .ok (.bipush 15, 2) := by decide +kernel
theorem d_Mo_blocksOf_7 : decode c_Mo_blocksOf 7 = .ok (.if_icmp .ge 31, 3) := by decide +kernel
theorem d_Mo_blocksOf_10 : decode c_Mo_blocksOf 10 = .ok (.iload_n 2, 1) := by decide +kernel
theorem d_Mo_blocksOf_11 : decode c_Mo_blocksOf 11 = .ok (.aload_n 0, 1) := by decide +kernel
theorem d_Mo_blocksOf_12 : decode c_Mo_blocksOf 12 = .ok (.getfield 34, 3) := by decide +kernel
theorem d_Mo_blocksOf_15 : decode c_Mo_blocksOf 15 = .ok (.bipush 15, 2) := by decide +kernel
theorem d_Mo_blocksOf_17 : decode c_Mo_blocksOf 17 = .ok (.iload_n 1, 1) := by decide +kernel
theorem d_Mo_blocksOf_18 : decode c_Mo_blocksOf 18 = .ok (.imul, 1) := by decide +kernel
theorem d_Mo_blocksOf_19 : decode c_Mo_blocksOf 19 = .ok (.iload_n 3, 1) := by decide +kernel
theorem d_Mo_blocksOf_20 : decode c_Mo_blocksOf 20 = .ok (.iadd, 1) := by decide +kernel
theorem d_Mo_blocksOf_21 : decode c_Mo_blocksOf 21 = .ok (.iaload, 1) := by decide +kernel
theorem d_Mo_blocksOf_22 : decode c_Mo_blocksOf 22 = .ok (.ifCond .le 7, 3) := by decide +kernel
theorem d_Mo_blocksOf_25 : decode c_Mo_blocksOf 25 = .ok (.iconst 1, 1) := by decide +kernel
theorem d_Mo_blocksOf_26 : decode c_Mo_blocksOf 26 = .ok (.goto 4, 3) := by decide +kernel
theorem d_Mo_blocksOf_29 : decode c_Mo_blocksOf 29 = .ok (.iconst 0, 1) := by decide +kernel
theorem d_Mo_blocksOf_30 : decode c_Mo_blocksOf 30 = .ok (.iadd, 1) := by decide +kernel
theorem d_Mo_blocksOf_31 : decode c_Mo_blocksOf 31 = .ok (.istore_n 2, 1) := by decide +kernel
theorem d_Mo_blocksOf_32 : decode c_Mo_blocksOf 32 = .ok (.iinc 3 1, 3) := by decide +kernel
theorem d_Mo_blocksOf_35 : decode c_Mo_blocksOf 35 = .ok (.goto (-31), 3) := by decide +kernel
theorem d_Mo_blocksOf_38 : decode c_Mo_blocksOf 38 = .ok (.iload_n 2, 1) := by decide +kernel
theorem d_Mo_blocksOf_39 : decode c_Mo_blocksOf 39 = .ok (.ireturn, 1) := by decide +kernel
theorem d_Mo_finish_0 : decode c_Mo_finish 0 = .ok (.aload_n 0, 1) := by decide +kernel
theorem d_Mo_finish_1 : decode c_Mo_finish 1 = .ok (.iconst 0, 1) := by decide +kernel
theorem d_Mo_finish_2 : decode c_Mo_finish 2 = .ok (.putfield 40, 3) := by decide +kernel
theorem d_Mo_finish_5 : decode c_Mo_finish 5 = .ok (.iconst 0, 1) := by decide +kernel
theorem d_Mo_finish_6 : decode c_Mo_finish 6 = .ok (.istore_n 1, 1) := by decide +kernel
theorem d_Mo_finish_7 : decode c_Mo_finish 7 = .ok (.aload_n 0, 1) := by decide +kernel
theorem d_Mo_finish_8 : decode c_Mo_finish 8 = .ok (.getfield 54, 3) := by decide +kernel
theorem d_Mo_finish_11 : decode c_Mo_finish 11 = .ok (.ifCond .le 18, 3) := by decide +kernel
theorem d_Mo_finish_14 : decode c_Mo_finish 14 = .ok (.aload_n 0, 1) := by decide +kernel
theorem d_Mo_finish_15 : decode c_Mo_finish 15 = .ok (.aload_n 0, 1) := by decide +kernel
theorem d_Mo_finish_16 : decode c_Mo_finish 16 = .ok (.getfield 54, 3) := by decide +kernel
theorem d_Mo_finish_19 : decode c_Mo_finish 19 = .ok (.invokevirtual 105, 3) := by decide +kernel
theorem d_Mo_finish_22 : decode c_Mo_finish 22 = .ok (.istore_n 2, 1) := by decide +kernel
theorem d_Mo_finish_23 : decode c_Mo_finish 23 = .ok (.iinc 1 1, 3) := by decide +kernel
theorem d_Mo_finish_26 : decode c_Mo_finish 26 = .ok (.goto (-19), 3) := by decide +kernel
theorem d_Mo_finish_29 : decode c_Mo_finish 29 = .ok (.iload_n 1, 1) := by decide +kernel
theorem d_Mo_finish_30 : decode c_Mo_finish 30 = .ok (.ireturn, 1) := by decide +kernel
theorem d_Mo_about_0 : decode c_Mo_about 0 = .ok (.aload_n 0, 1) := by decide +kernel
theorem d_Mo_about_1 : decode c_Mo_about 1 = .ok (.iload_n 1, 1) := by decide +kernel
theorem d_Mo_about_2 : decode c_Mo_about 2 = .ok (.i2l, 1) := by decide +kernel
theorem d_Mo_about_3 : decode c_Mo_about 3 = .ok (.lconst 1, 1) := by decide +kernel
theorem d_Mo_about_4 : decode c_Mo_about 4 = .ok (.ldc2_w 44, 3) := by decide +kernel
theorem d_Mo_about_7 : decode c_Mo_about 7 = .ok (.invokestatic 46, 3) := by decide +kernel
theorem d_Mo_about_10 : decode c_Mo_about 10 = .ok (.ifCond .eq 19, 3) := by decide +kernel
theorem d_Mo_about_13 : decode c_Mo_about 13 = .ok (.iload_n 2, 1) := by decide +kernel
theorem d_Mo_about_14 : decode c_Mo_about 14 = .ok (.i2l, 1) := by decide +kernel
theorem d_Mo_about_15 : decode c_Mo_about 15 = .ok (.lconst 0, 1) := by decide +kernel
theorem d_Mo_about_16 : decode c_Mo_about 16 = .ok (.ldc2_w 108, 3) := by decide +kernel
theorem d_Mo_about_19 : decode c_Mo_about 19 = .ok (.invokestatic 46, 3) := by decide +kernel
theorem d_Mo_about_22 : decode c_Mo_about 22 = .ok (.ifCond .eq 7, 3) := by decide +kernel
theorem d_Mo_about_25 : decode c_Mo_about 25 = .ok (.iconst 0, 1) := by decide +kernel
theorem d_Mo_about_26 : decode c_Mo_about 26 = .ok (.goto 4, 3) := by decide +kernel
theorem d_Mo_about_29 : decode c_Mo_about 29 = .ok (.iconst 1, 1) := by decide +kernel
theorem d_Mo_about_30 : decode c_Mo_about 30 = .ok (.putfield 40, 3) := by decide +kernel
theorem d_Mo_about_33 : decode c_Mo_about 33 = .ok (.aload_n 0, 1) := by decide +kernel
theorem d_Mo_about_34 : decode c_Mo_about 34 = .ok (.getfield 40, 3) := by decide +kernel
theorem d_Mo_about_37 : decode c_Mo_about 37 = .ok (.ifCond .gt 12, 3) := by decide +kernel
theorem d_Mo_about_40 : decode c_Mo_about 40 = .ok (.aload_n 0, 1) := by decide +kernel
theorem d_Mo_about_41 : decode c_Mo_about 41 = .ok (.getfield 18, 3) := by decide +kernel
theorem d_Mo_about_44 : decode c_Mo_about 44 = .ok (.iload_n 1, 1) := by decide +kernel
theorem d_Mo_about_45 : decode c_Mo_about 45 = .ok (.iaload, 1) := by decide +kernel
theorem d_Mo_about_46 : decode c_Mo_about 46 = .ok (.ifCond .ne 5, 3) := by decide +kernel
theorem d_Mo_about_49 : decode c_Mo_about 49 = .ok (.iconst 0, 1) := by decide +kernel
theorem d_Mo_about_50 : decode c_Mo_about 50 = .ok (.ireturn, 1) := by decide +kernel
theorem d_Mo_about_51 : decode c_Mo_about 51 = .ok (.iload_n 2, 1) := by decide +kernel
theorem d_Mo_about_52 : decode c_Mo_about 52 = .ok (.tableswitch 73 0 4 #[36, 43, 50, 57, 63], 36) := by decide +kernel
theorem d_Mo_about_88 : decode c_Mo_about 88 = .ok (.aload_n 0, 1) := by decide +kernel
theorem d_Mo_about_89 : decode c_Mo_about 89 = .ok (.getfield 18, 3) := by decide +kernel
theorem d_Mo_about_92 : decode c_Mo_about 92 = .ok (.iload_n 1, 1) := by decide +kernel
theorem d_Mo_about_93 : decode c_Mo_about 93 = .ok (.iaload, 1) := by decide +kernel
theorem d_Mo_about_94 : decode c_Mo_about 94 = .ok (.ireturn, 1) := by decide +kernel
theorem d_Mo_about_95 : decode c_Mo_about 95 = .ok (.aload_n 0, 1) := by decide +kernel
theorem d_Mo_about_96 : decode c_Mo_about 96 = .ok (.getfield 22, 3) := by decide +kernel
theorem d_Mo_about_99 : decode c_Mo_about 99 = .ok (.iload_n 1, 1) := by decide +kernel
theorem d_Mo_about_100 : decode c_Mo_about 100 = .ok (.iaload, 1) := by decide +kernel
theorem d_Mo_about_101 : decode c_Mo_about 101 = .ok (.ireturn, 1) := by decide +kernel
theorem d_Mo_about_102 : decode c_Mo_about 102 = .ok (.aload_n 0, 1) := by decide +kernel
theorem d_Mo_about_103 : decode c_Mo_about 103 = .ok (.getfield 25, 3) := by decide +kernel
theorem d_Mo_about_106 : decode c_Mo_about 106 = .ok (.iload_n 1, 1) := by decide +kernel
theorem d_Mo_about_107 : decode c_Mo_about 107 = .ok (.iaload, 1) := by decide +kernel
theorem d_Mo_about_108 : decode c_Mo_about 108 = .ok (.ireturn, 1) := by decide +kernel
theorem d_Mo_about_109 : decode c_Mo_about 109 = .ok (.aload_n 0, 1) := by decide +kernel
theorem d_Mo_about_110 : decode c_Mo_about 110 = .ok (.iload_n 1, 1) := by decide +kernel
theorem d_Mo_about_111 : decode c_Mo_about 111 = .ok (.invokevirtual 101, 3) := by decide +kernel
theorem d_Mo_about_114 : decode c_Mo_about 114 = .ok (.ireturn, 1) := by decide +kernel
theorem d_Mo_about_115 : decode c_Mo_about 115 = .ok (.aload_n 0, 1) := by decide +kernel
theorem d_Mo_about_116 : decode c_Mo_about 116 = .ok (.getfield 34, 3) := by decide +kernel
theorem d_Mo_about_119 : decode c_Mo_about 119 = .ok (.bipush 15, 2) := by decide +kernel
theorem d_Mo_about_121 : decode c_Mo_about 121 = .ok (.iload_n 1, 1) := by decide +kernel
theorem d_Mo_about_122 : decode c_Mo_about 122 = .ok (.imul, 1) := by decide +kernel
theorem d_Mo_about_123 : decode c_Mo_about 123 = .ok (.iaload, 1) := by decide +kernel
theorem d_Mo_about_124 : decode c_Mo_about 124 = .ok (.ireturn, 1) := by decide +kernel
theorem d_Mo_about_125 : decode c_Mo_about 125 = .ok (.aload_n 0, 1) := by decide +kernel
theorem d_Mo_about_126 : decode c_Mo_about 126 = .ok (.getfield 28, 3) := by decide +kernel
theorem d_Mo_about_129 : decode c_Mo_about 129 = .ok (.iload_n 1, 1) := by decide +kernel
theorem d_Mo_about_130 : decode c_Mo_about 130 = .ok (.iaload, 1) := by decide +kernel
theorem d_Mo_about_131 : decode c_Mo_about 131 = .ok (.ireturn, 1) := by decide +kernel
theorem d_Mo_block_0 : decode c_Mo_block 0 = .ok (.aload_n 0, 1) := by decide +kernel
theorem d_Mo_block_1 : decode c_Mo_block 1 = .ok (.aload_n 0, 1) := by decide +kernel
theorem d_Mo_block_2 : decode c_Mo_block 2 = .ok (.iload_n 1, 1) := by decide +kernel
theorem d_Mo_block_3 : decode c_Mo_block 3 = .ok (.invokevirtual 50, 3) := by decide +kernel
theorem d_Mo_block_6 : decode c_Mo_block 6 = .ok (.ifCond .eq 19, 3) := by decide +kernel
theorem d_Mo_block_9 : decode c_Mo_block 9 = .ok (.iload_n 2, 1) := by decide +kernel
theorem d_Mo_block_10 : decode c_Mo_block 10 = .ok (.i2l, 1) := by decide +kernel
theorem d_Mo_block_11 : decode c_Mo_block 11 = .ok (.lconst 0, 1) := by decide +kernel
theorem d_Mo_block_12 : decode c_Mo_block 12 = .ok (.ldc2_w 110, 3) := by decide +kernel
theorem d_Mo_block_15 : decode c_Mo_block 15 = .ok (.invokestatic 46, 3) := by decide +kernel
theorem d_Mo_block_18 : decode c_Mo_block 18 = .ok (.ifCond .eq 7, 3) := by decide +kernel
theorem d_Mo_block_21 : decode c_Mo_block 21 = .ok (.iconst 0, 1) := by decide +kernel
theorem d_Mo_block_22 : decode c_Mo_block 22 = .ok (.goto 4, 3) := by decide +kernel
theorem d_Mo_block_25 : decode c_Mo_block 25 = .ok (.iconst 1, 1) := by decide +kernel
theorem d_Mo_block_26 : decode c_Mo_block 26 = .ok (.putfield 40, 3) := by decide +kernel
theorem d_Mo_block_29 : decode c_Mo_block 29 = .ok (.aload_n 0, 1) := by decide +kernel
theorem d_Mo_block_30 : decode c_Mo_block 30 = .ok (.getfield 40, 3) := by decide +kernel
theorem d_Mo_block_33 : decode c_Mo_block 33 = .ok (.ifCond .le 7, 3) := by decide +kernel
theorem d_Mo_block_36 : decode c_Mo_block 36 = .ok (.iconst 0, 1) := by decide +kernel
theorem d_Mo_block_37 : decode c_Mo_block 37 = .ok (.goto 14, 3) := by decide +kernel
theorem d_Mo_block_40 : decode c_Mo_block 40 = .ok (.aload_n 0, 1) := by decide +kernel
theorem d_Mo_block_41 : decode c_Mo_block 41 = .ok (.getfield 34, 3) := by decide +kernel
theorem d_Mo_block_44 : decode c_Mo_block 44 = .ok (.bipush 15, 2) := by decide +kernel
theorem d_Mo_block_46 : decode c_Mo_block 46 = .ok (.iload_n 1, 1) := by decide +kernel
theorem d_Mo_block_47 : decode c_Mo_block 47 = .ok (.imul, 1) := by decide +kernel
theorem d_Mo_block_48 : decode c_Mo_block 48 = .ok (.iload_n 2, 1) := by decide +kernel
theorem d_Mo_block_49 : decode c_Mo_block 49 = .ok (.iadd, 1) := by decide +kernel
theorem d_Mo_block_50 : decode c_Mo_block 50 = .ok (.iaload, 1) := by decide +kernel
theorem d_Mo_block_51 : decode c_Mo_block 51 = .ok (.ireturn, 1) := by decide +kernel
theorem d_Mo_count_0 : decode c_Mo_count 0 = .ok (.aload_n 0, 1) := by decide +kernel
theorem d_Mo_count_1 : decode c_Mo_count 1 = .ok (.iload_n 1, 1) := by decide +kernel
theorem d_Mo_count_2 : decode c_Mo_count 2 = .ok (.i2l, 1) := by decide +kernel
theorem d_Mo_count_3 : decode c_Mo_count 3 = .ok (.lconst 0, 1) := by decide +kernel
theorem d_Mo_count_4 : decode c_Mo_count 4 = .ok (.ldc2_w 112, 3) := by decide +kernel
theorem d_Mo_count_7 : decode c_Mo_count 7 = .ok (.invokestatic 46, 3) := by decide +kernel
theorem d_Mo_count_10 : decode c_Mo_count 10 = .ok (.ifCond .eq 7, 3) := by decide +kernel
theorem d_Mo_count_13 : decode c_Mo_count 13 = .ok (.iconst 0, 1) := by decide +kernel
theorem d_Mo_count_14 : decode c_Mo_count 14 = .ok (.goto 4, 3) := by decide +kernel
theorem d_Mo_count_17 : decode c_Mo_count 17 = .ok (.iconst 1, 1) := by decide +kernel
theorem d_Mo_count_18 : decode c_Mo_count 18 = .ok (.putfield 40, 3) := by decide +kernel
theorem d_Mo_count_21 : decode c_Mo_count 21 = .ok (.aload_n 0, 1) := by decide +kernel
theorem d_Mo_count_22 : decode c_Mo_count 22 = .ok (.getfield 40, 3) := by decide +kernel
theorem d_Mo_count_25 : decode c_Mo_count 25 = .ok (.ifCond .le 5, 3) := by decide +kernel
theorem d_Mo_count_28 : decode c_Mo_count 28 = .ok (.iconst 0, 1) := by decide +kernel
theorem d_Mo_count_29 : decode c_Mo_count 29 = .ok (.ireturn, 1) := by decide +kernel
theorem d_Mo_count_30 : decode c_Mo_count 30 = .ok (.iconst 0, 1) := by decide +kernel
theorem d_Mo_count_31 : decode c_Mo_count 31 = .ok (.istore_n 2, 1) := by decide +kernel
theorem d_Mo_count_32 : decode c_Mo_count 32 = .ok (.iconst 0, 1) := by decide +kernel
theorem d_Mo_count_33 : decode c_Mo_count 33 = .ok (.istore_n 3, 1) := by decide +kernel
theorem d_Mo_count_34 : decode c_Mo_count 34 = .ok (.iconst 1, 1) := by decide +kernel
theorem d_Mo_count_35 : decode c_Mo_count 35 = .ok (.istore 4, 2) := by decide +kernel
theorem d_Mo_count_37 : decode c_Mo_count 37 = .ok (.iload 4, 2) := by decide +kernel
theorem d_Mo_count_39 : decode c_Mo_count 39 = .ok (.bipush 12, 2) := by decide +kernel
theorem d_Mo_count_41 : decode c_Mo_count 41 = .ok (.if_icmp .gt 45, 3) := by decide +kernel
theorem d_Mo_count_44 : decode c_Mo_count 44 = .ok (.iload_n 2, 1) := by decide +kernel
theorem d_Mo_count_45 : decode c_Mo_count 45 = .ok (.aload_n 0, 1) := by decide +kernel
theorem d_Mo_count_46 : decode c_Mo_count 46 = .ok (.getfield 18, 3) := by decide +kernel
theorem d_Mo_count_49 : decode c_Mo_count 49 = .ok (.iload 4, 2) := by decide +kernel
theorem d_Mo_count_51 : decode c_Mo_count 51 = .ok (.iaload, 1) := by decide +kernel
theorem d_Mo_count_52 : decode c_Mo_count 52 = .ok (.ifCond .le 7, 3) := by decide +kernel
theorem d_Mo_count_55 : decode c_Mo_count 55 = .ok (.iconst 1, 1) := by decide +kernel
theorem d_Mo_count_56 : decode c_Mo_count 56 = .ok (.goto 4, 3) := by decide +kernel
theorem d_Mo_count_59 : decode c_Mo_count 59 = .ok (.iconst 0, 1) := by decide +kernel
theorem d_Mo_count_60 : decode c_Mo_count 60 = .ok (.iadd, 1) := by decide +kernel
theorem d_Mo_count_61 : decode c_Mo_count 61 = .ok (.istore_n 2, 1) := by decide +kernel
theorem d_Mo_count_62 : decode c_Mo_count 62 = .ok (.iload_n 3, 1) := by decide +kernel
theorem d_Mo_count_63 : decode c_Mo_count 63 = .ok (.aload_n 0, 1) := by decide +kernel
theorem d_Mo_count_64 : decode c_Mo_count 64 = .ok (.getfield 31, 3) := by decide +kernel
theorem d_Mo_count_67 : decode c_Mo_count 67 = .ok (.iload 4, 2) := by decide +kernel
theorem d_Mo_count_69 : decode c_Mo_count 69 = .ok (.baload, 1) := by decide +kernel
theorem d_Mo_count_70 : decode c_Mo_count 70 = .ok (.ifCond .eq 7, 3) := by decide +kernel
theorem d_Mo_count_73 : decode c_Mo_count 73 = .ok (.iconst 1, 1) := by decide +kernel
theorem d_Mo_count_74 : decode c_Mo_count 74 = .ok (.goto 4, 3) := by decide +kernel
theorem d_Mo_count_77 : decode c_Mo_count 77 = .ok (.iconst 0, 1) := by decide +kernel
theorem d_Mo_count_78 : decode c_Mo_count 78 = .ok (.iadd, 1) := by decide +kernel
theorem d_Mo_count_79 : decode c_Mo_count 79 = .ok (.istore_n 3, 1) := by decide +kernel
theorem d_Mo_count_80 : decode c_Mo_count 80 = .ok (.iinc 4 1, 3) := by decide +kernel
theorem d_Mo_count_83 : decode c_Mo_count 83 = .ok (.goto (-46), 3) := by decide +kernel
theorem d_Mo_count_86 : decode c_Mo_count 86 = .ok (.iload_n 1, 1) := by decide +kernel
theorem d_Mo_count_87 : decode c_Mo_count 87 = .ok (.ifCond .ne 10, 3) := by decide +kernel
theorem d_Mo_count_90 : decode c_Mo_count 90 = .ok (.aload_n 0, 1) := by decide +kernel
theorem d_Mo_count_91 : decode c_Mo_count 91 = .ok (.invokevirtual 71, 3) := by decide +kernel
theorem d_Mo_count_94 : decode c_Mo_count 94 = .ok (.goto 25, 3) := by decide +kernel
theorem d_Mo_count_97 : decode c_Mo_count 97 = .ok (.iload_n 1, 1) := by decide +kernel
theorem d_Mo_count_98 : decode c_Mo_count 98 = .ok (.iconst 1, 1) := by decide +kernel
theorem d_Mo_count_99 : decode c_Mo_count 99 = .ok (.if_icmp .ne 7, 3) := by decide +kernel
theorem d_Mo_count_102 : decode c_Mo_count 102 = .ok (.iload_n 2, 1) := by decide +kernel
theorem d_Mo_count_103 : decode c_Mo_count 103 = .ok (.goto 16, 3) := by decide +kernel
theorem d_Mo_count_106 : decode c_Mo_count 106 = .ok (.iload_n 1, 1) := by decide +kernel
theorem d_Mo_count_107 : decode c_Mo_count 107 = .ok (.iconst 2, 1) := by decide +kernel
theorem d_Mo_count_108 : decode c_Mo_count 108 = .ok (.if_icmp .ne 7, 3) := by decide +kernel
theorem d_Mo_count_111 : decode c_Mo_count 111 = .ok (.iload_n 3, 1) := by decide +kernel
theorem d_Mo_count_112 : decode c_Mo_count 112 = .ok (.goto 7, 3) := by decide +kernel
theorem d_Mo_count_115 : decode c_Mo_count 115 = .ok (.aload_n 0, 1) := by decide +kernel
theorem d_Mo_count_116 : decode c_Mo_count 116 = .ok (.getfield 54, 3) := by decide +kernel
theorem d_Mo_count_119 : decode c_Mo_count 119 = .ok (.ireturn, 1) := by decide +kernel
theorem d_Mo_byteOf_0 : decode c_Mo_byteOf 0 = .ok (.aload_n 0, 1) := by decide +kernel
theorem d_Mo_byteOf_1 : decode c_Mo_byteOf 1 = .ok (.iload_n 1, 1) := by decide +kernel
theorem d_Mo_byteOf_2 : decode c_Mo_byteOf 2 = .ok (.i2l, 1) := by decide +kernel
theorem d_Mo_byteOf_3 : decode c_Mo_byteOf 3 = .ok (.lconst 0, 1) := by decide +kernel
theorem d_Mo_byteOf_4 : decode c_Mo_byteOf 4 = .ok (.ldc2_w 112, 3) := by decide +kernel
theorem d_Mo_byteOf_7 : decode c_Mo_byteOf 7 = .ok (.invokestatic 46, 3) := by decide +kernel
theorem d_Mo_byteOf_10 : decode c_Mo_byteOf 10 = .ok (.ifCond .eq 19, 3) := by decide +kernel
theorem d_Mo_byteOf_13 : decode c_Mo_byteOf 13 = .ok (.iload_n 2, 1) := by decide +kernel
theorem d_Mo_byteOf_14 : decode c_Mo_byteOf 14 = .ok (.i2l, 1) := by decide +kernel
theorem d_Mo_byteOf_15 : decode c_Mo_byteOf 15 = .ok (.lconst 0, 1) := by decide +kernel
theorem d_Mo_byteOf_16 : decode c_Mo_byteOf 16 = .ok (.ldc2_w 119, 3) := by decide +kernel
theorem d_Mo_byteOf_19 : decode c_Mo_byteOf 19 = .ok (.invokestatic 46, 3) := by decide +kernel
theorem d_Mo_byteOf_22 : decode c_Mo_byteOf 22 = .ok (.ifCond .eq 7, 3) := by decide +kernel
theorem d_Mo_byteOf_25 : decode c_Mo_byteOf 25 = .ok (.iconst 0, 1) := by decide +kernel
theorem d_Mo_byteOf_26 : decode c_Mo_byteOf 26 = .ok (.goto 4, 3) := by decide +kernel
theorem d_Mo_byteOf_29 : decode c_Mo_byteOf 29 = .ok (.iconst 1, 1) := by decide +kernel
theorem d_Mo_byteOf_30 : decode c_Mo_byteOf 30 = .ok (.putfield 40, 3) := by decide +kernel
theorem d_Mo_byteOf_33 : decode c_Mo_byteOf 33 = .ok (.aload_n 0, 1) := by decide +kernel
theorem d_Mo_byteOf_34 : decode c_Mo_byteOf 34 = .ok (.getfield 40, 3) := by decide +kernel
theorem d_Mo_byteOf_37 : decode c_Mo_byteOf 37 = .ok (.ifCond .le 5, 3) := by decide +kernel
theorem d_Mo_byteOf_40 : decode c_Mo_byteOf 40 = .ok (.iconst 0, 1) := by decide +kernel
theorem d_Mo_byteOf_41 : decode c_Mo_byteOf 41 = .ok (.ireturn, 1) := by decide +kernel
theorem d_Mo_byteOf_42 : decode c_Mo_byteOf 42 = .ok (.iload_n 1, 1) := by decide +kernel
theorem d_Mo_byteOf_43 : decode c_Mo_byteOf 43 = .ok (.ifCond .ne 19, 3) := by decide +kernel
theorem d_Mo_byteOf_46 : decode c_Mo_byteOf 46 = .ok (.aload_n 0, 1) := by decide +kernel
theorem d_Mo_byteOf_47 : decode c_Mo_byteOf 47 = .ok (.getfield 54, 3) := by decide +kernel
theorem d_Mo_byteOf_50 : decode c_Mo_byteOf 50 = .ok (.iload_n 2, 1) := by decide +kernel
theorem d_Mo_byteOf_51 : decode c_Mo_byteOf 51 = .ok (.sipush 232, 3) := by decide +kernel
theorem d_Mo_byteOf_54 : decode c_Mo_byteOf 54 = .ok (.isub, 1) := by decide +kernel
theorem d_Mo_byteOf_55 : decode c_Mo_byteOf 55 = .ok (.iconst 4, 1) := by decide +kernel
theorem d_Mo_byteOf_56 : decode c_Mo_byteOf 56 = .ok (.invokestatic 114, 3) := by decide +kernel
theorem d_Mo_byteOf_59 : decode c_Mo_byteOf 59 = .ok (.goto 25, 3) := by decide +kernel
theorem d_Mo_byteOf_62 : decode c_Mo_byteOf 62 = .ok (.aload_n 0, 1) := by decide +kernel
theorem d_Mo_byteOf_63 : decode c_Mo_byteOf 63 = .ok (.iconst 1, 1) := by decide +kernel
theorem d_Mo_byteOf_64 : decode c_Mo_byteOf 64 = .ok (.iconst 4, 1) := by decide +kernel
theorem d_Mo_byteOf_65 : decode c_Mo_byteOf 65 = .ok (.iload_n 1, 1) := by decide +kernel
theorem d_Mo_byteOf_66 : decode c_Mo_byteOf 66 = .ok (.iconst 1, 1) := by decide +kernel
theorem d_Mo_byteOf_67 : decode c_Mo_byteOf 67 = .ok (.isub, 1) := by decide +kernel
theorem d_Mo_byteOf_68 : decode c_Mo_byteOf 68 = .ok (.imul, 1) := by decide +kernel
theorem d_Mo_byteOf_69 : decode c_Mo_byteOf 69 = .ok (.iadd, 1) := by decide +kernel
theorem d_Mo_byteOf_70 : decode c_Mo_byteOf 70 = .ok (.iload_n 2, 1) := by decide +kernel
theorem d_Mo_byteOf_71 : decode c_Mo_byteOf 71 = .ok (.sipush 256, 3) := by decide +kernel
theorem d_Mo_byteOf_74 : decode c_Mo_byteOf 74 = .ok (.idiv, 1) := by decide +kernel
theorem d_Mo_byteOf_75 : decode c_Mo_byteOf 75 = .ok (.iadd, 1) := by decide +kernel
theorem d_Mo_byteOf_76 : decode c_Mo_byteOf 76 = .ok (.iload_n 2, 1) := by decide +kernel
theorem d_Mo_byteOf_77 : decode c_Mo_byteOf 77 = .ok (.sipush 256, 3) := by decide +kernel
theorem d_Mo_byteOf_80 : decode c_Mo_byteOf 80 = .ok (.irem, 1) := by decide +kernel
theorem d_Mo_byteOf_81 : decode c_Mo_byteOf 81 = .ok (.invokevirtual 121, 3) := by decide +kernel
theorem d_Mo_byteOf_84 : decode c_Mo_byteOf 84 = .ok (.ireturn, 1) := by decide +kernel
theorem d_Mo_part_0 : decode c_Mo_part 0 = .ok (.iload_n 1, 1) := by decide +kernel
theorem d_Mo_part_1 : decode c_Mo_part 1 = .ok (.ifCond .lt 8, 3) := by decide +kernel
theorem d_Mo_part_4 : decode c_Mo_part 4 = .ok (.iload_n 1, 1) := by decide +kernel
theorem d_Mo_part_5 : decode c_Mo_part 5 = .ok (.iload_n 2, 1) := by decide +kernel
theorem d_Mo_part_6 : decode c_Mo_part 6 = .ok (.if_icmp .lt 7, 3) := by decide +kernel
theorem d_Mo_part_9 : decode c_Mo_part 9 = .ok (.iconst 0, 1) := by decide +kernel
theorem d_Mo_part_10 : decode c_Mo_part 10 = .ok (.goto 13, 3) := by decide +kernel
theorem d_Mo_part_13 : decode c_Mo_part 13 = .ok (.iload_n 0, 1) := by decide +kernel
theorem d_Mo_part_14 : decode c_Mo_part 14 = .ok (.bipush 8, 2) := by decide +kernel
theorem d_Mo_part_16 : decode c_Mo_part 16 = .ok (.iload_n 1, 1) := by decide +kernel
theorem d_Mo_part_17 : decode c_Mo_part 17 = .ok (.imul, 1) := by decide +kernel
theorem d_Mo_part_18 : decode c_Mo_part 18 = .ok (.ishr, 1) := by decide +kernel
theorem d_Mo_part_19 : decode c_Mo_part 19 = .ok (.sipush 255, 3) := by decide +kernel
theorem d_Mo_part_22 : decode c_Mo_part 22 = .ok (.iand, 1) := by decide +kernel
theorem d_Mo_part_23 : decode c_Mo_part 23 = .ok (.ireturn, 1) := by decide +kernel
theorem d_Mo_recordByte_0 : decode c_Mo_recordByte 0 = .ok (.aload_n 0, 1) := by decide +kernel
theorem d_Mo_recordByte_1 : decode c_Mo_recordByte 1 = .ok (.getfield 18, 3) := by decide +kernel
theorem d_Mo_recordByte_4 : decode c_Mo_recordByte 4 = .ok (.iload_n 1, 1) := by decide +kernel
theorem d_Mo_recordByte_5 : decode c_Mo_recordByte 5 = .ok (.iaload, 1) := by decide +kernel
theorem d_Mo_recordByte_6 : decode c_Mo_recordByte 6 = .ok (.ifCond .ne 5, 3) := by decide +kernel
theorem d_Mo_recordByte_9 : decode c_Mo_recordByte 9 = .ok (.iconst 0, 1) := by decide +kernel
theorem d_Mo_recordByte_10 : decode c_Mo_recordByte 10 = .ok (.ireturn, 1) := by decide +kernel
theorem d_Mo_recordByte_11 : decode c_Mo_recordByte 11 = .ok (.iload_n 2, 1) := by decide +kernel
theorem d_Mo_recordByte_12 : decode c_Mo_recordByte 12 = .ok (.bipush 40, 2) := by decide +kernel
theorem d_Mo_recordByte_14 : decode c_Mo_recordByte 14 = .ok (.if_icmp .lt 100, 3) := by decide +kernel
theorem d_Mo_recordByte_17 : decode c_Mo_recordByte 17 = .ok (.iload_n 2, 1) := by decide +kernel
theorem d_Mo_recordByte_18 : decode c_Mo_recordByte 18 = .ok (.bipush 100, 2) := by decide +kernel
theorem d_Mo_recordByte_20 : decode c_Mo_recordByte 20 = .ok (.if_icmp .ge 94, 3) := by decide +kernel
theorem d_Mo_recordByte_23 : decode c_Mo_recordByte 23 = .ok (.iload_n 2, 1) := by decide +kernel
theorem d_Mo_recordByte_24 : decode c_Mo_recordByte 24 = .ok (.bipush 40, 2) := by decide +kernel
theorem d_Mo_recordByte_26 : decode c_Mo_recordByte 26 = .ok (.isub, 1) := by decide +kernel
theorem d_Mo_recordByte_27 : decode c_Mo_recordByte 27 = .ok (.istore_n 3, 1) := by decide +kernel
theorem d_Mo_recordByte_28 : decode c_Mo_recordByte 28 = .ok (.aload_n 0, 1) := by decide +kernel
theorem d_Mo_recordByte_29 : decode c_Mo_recordByte 29 = .ok (.getfield 18, 3) := by decide +kernel
theorem d_Mo_recordByte_32 : decode c_Mo_recordByte 32 = .ok (.iload_n 1, 1) := by decide +kernel
theorem d_Mo_recordByte_33 : decode c_Mo_recordByte 33 = .ok (.iaload, 1) := by decide +kernel
theorem d_Mo_recordByte_34 : decode c_Mo_recordByte 34 = .ok (.iconst 3, 1) := by decide +kernel
theorem d_Mo_recordByte_35 : decode c_Mo_recordByte 35 = .ok (.if_icmp .ne 18, 3) := by decide +kernel
theorem d_Mo_recordByte_38 : decode c_Mo_recordByte 38 = .ok (.aload_n 0, 1) := by decide +kernel
theorem d_Mo_recordByte_39 : decode c_Mo_recordByte 39 = .ok (.getfield 25, 3) := by decide +kernel
theorem d_Mo_recordByte_42 : decode c_Mo_recordByte 42 = .ok (.iload_n 1, 1) := by decide +kernel
theorem d_Mo_recordByte_43 : decode c_Mo_recordByte 43 = .ok (.iaload, 1) := by decide +kernel
theorem d_Mo_recordByte_44 : decode c_Mo_recordByte 44 = .ok (.bipush 60, 2) := by decide +kernel
theorem d_Mo_recordByte_46 : decode c_Mo_recordByte 46 = .ok (.if_icmp .ge 7, 3) := by decide +kernel
theorem d_Mo_recordByte_49 : decode c_Mo_recordByte 49 = .ok (.iconst 1, 1) := by decide +kernel
theorem d_Mo_recordByte_50 : decode c_Mo_recordByte 50 = .ok (.goto 4, 3) := by decide +kernel
theorem d_Mo_recordByte_53 : decode c_Mo_recordByte 53 = .ok (.iconst 0, 1) := by decide +kernel
theorem d_Mo_recordByte_54 : decode c_Mo_recordByte 54 = .ok (.istore 4, 2) := by decide +kernel
theorem d_Mo_recordByte_56 : decode c_Mo_recordByte 56 = .ok (.iload 4, 2) := by decide +kernel
theorem d_Mo_recordByte_58 : decode c_Mo_recordByte 58 = .ok (.ifCond .eq 35, 3) := by decide +kernel
theorem d_Mo_recordByte_61 : decode c_Mo_recordByte 61 = .ok (.iload_n 3, 1) := by decide +kernel
theorem d_Mo_recordByte_62 : decode c_Mo_recordByte 62 = .ok (.aload_n 0, 1) := by decide +kernel
theorem d_Mo_recordByte_63 : decode c_Mo_recordByte 63 = .ok (.getfield 25, 3) := by decide +kernel
theorem d_Mo_recordByte_66 : decode c_Mo_recordByte 66 = .ok (.iload_n 1, 1) := by decide +kernel
theorem d_Mo_recordByte_67 : decode c_Mo_recordByte 67 = .ok (.iaload, 1) := by decide +kernel
theorem d_Mo_recordByte_68 : decode c_Mo_recordByte 68 = .ok (.if_icmp .ge 21, 3) := by decide +kernel
theorem d_Mo_recordByte_71 : decode c_Mo_recordByte 71 = .ok (.aload_n 0, 1) := by decide +kernel
theorem d_Mo_recordByte_72 : decode c_Mo_recordByte 72 = .ok (.getfield 37, 3) := by decide +kernel
theorem d_Mo_recordByte_75 : decode c_Mo_recordByte 75 = .ok (.bipush 60, 2) := by decide +kernel
theorem d_Mo_recordByte_77 : decode c_Mo_recordByte 77 = .ok (.iload_n 1, 1) := by decide +kernel
theorem d_Mo_recordByte_78 : decode c_Mo_recordByte 78 = .ok (.imul, 1) := by decide +kernel
theorem d_Mo_recordByte_79 : decode c_Mo_recordByte 79 = .ok (.iload_n 3, 1) := by decide +kernel
theorem d_Mo_recordByte_80 : decode c_Mo_recordByte 80 = .ok (.iadd, 1) := by decide +kernel
theorem d_Mo_recordByte_81 : decode c_Mo_recordByte 81 = .ok (.baload, 1) := by decide +kernel
theorem d_Mo_recordByte_82 : decode c_Mo_recordByte 82 = .ok (.sipush 255, 3) := by decide +kernel
theorem d_Mo_recordByte_85 : decode c_Mo_recordByte 85 = .ok (.iand, 1) := by decide +kernel
theorem d_Mo_recordByte_86 : decode c_Mo_recordByte 86 = .ok (.goto 27, 3) := by decide +kernel
theorem d_Mo_recordByte_89 : decode c_Mo_recordByte 89 = .ok (.iconst 0, 1) := by decide +kernel
theorem d_Mo_recordByte_90 : decode c_Mo_recordByte 90 = .ok (.goto 23, 3) := by decide +kernel
theorem d_Mo_recordByte_93 : decode c_Mo_recordByte 93 = .ok (.aload_n 0, 1) := by decide +kernel
theorem d_Mo_recordByte_94 : decode c_Mo_recordByte 94 = .ok (.getfield 34, 3) := by decide +kernel
theorem d_Mo_recordByte_97 : decode c_Mo_recordByte 97 = .ok (.bipush 15, 2) := by decide +kernel
theorem d_Mo_recordByte_99 : decode c_Mo_recordByte 99 = .ok (.iload_n 1, 1) := by decide +kernel
theorem d_Mo_recordByte_100 : decode c_Mo_recordByte 100 = .ok (.imul, 1) := by decide +kernel
theorem d_Mo_recordByte_101 : decode c_Mo_recordByte 101 = .ok (.iload_n 3, 1) := by decide +kernel
theorem d_Mo_recordByte_102 : decode c_Mo_recordByte 102 = .ok (.iconst 4, 1) := by decide +kernel
theorem d_Mo_recordByte_103 : decode c_Mo_recordByte 103 = .ok (.idiv, 1) := by decide +kernel
theorem d_Mo_recordByte_104 : decode c_Mo_recordByte 104 = .ok (.iadd, 1) := by decide +kernel
theorem d_Mo_recordByte_105 : decode c_Mo_recordByte 105 = .ok (.iaload, 1) := by decide +kernel
theorem d_Mo_recordByte_106 : decode c_Mo_recordByte 106 = .ok (.iload_n 3, 1) := by decide +kernel
theorem d_Mo_recordByte_107 : decode c_Mo_recordByte 107 = .ok (.iconst 4, 1) := by decide +kernel
theorem d_Mo_recordByte_108 : decode c_Mo_recordByte 108 = .ok (.irem, 1) := by decide +kernel
theorem d_Mo_recordByte_109 : decode c_Mo_recordByte 109 = .ok (.iconst 4, 1) := by decide +kernel
theorem d_Mo_recordByte_110 : decode c_Mo_recordByte 110 = .ok (.invokestatic 114, 3) := by decide +kernel
theorem d_Mo_recordByte_113 : decode c_Mo_recordByte 113 = .ok (.ireturn, 1) := by decide +kernel
theorem d_Mo_recordByte_114 : decode c_Mo_recordByte 114 = .ok (.aload_n 0, 1) := by decide +kernel
theorem d_Mo_recordByte_115 : decode c_Mo_recordByte 115 = .ok (.getfield 18, 3) := by decide +kernel
theorem d_Mo_recordByte_118 : decode c_Mo_recordByte 118 = .ok (.iload_n 1, 1) := by decide +kernel
theorem d_Mo_recordByte_119 : decode c_Mo_recordByte 119 = .ok (.iaload, 1) := by decide +kernel
theorem d_Mo_recordByte_120 : decode c_Mo_recordByte 120 = .ok (.iconst 1, 1) := by decide +kernel
theorem d_Mo_recordByte_121 : decode c_Mo_recordByte 121 = .ok (.if_icmp .ne 8, 3) := by decide +kernel
theorem d_Mo_recordByte_124 : decode c_Mo_recordByte 124 = .ok (.ldc 117, 2) := by decide +kernel
theorem d_Mo_recordByte_126 : decode c_Mo_recordByte 126 = .ok (.goto 5, 3) := by decide +kernel
theorem d_Mo_recordByte_129 : decode c_Mo_recordByte 129 = .ok (.ldc 118, 2) := by decide +kernel
theorem d_Mo_recordByte_131 : decode c_Mo_recordByte 131 = .ok (.iload_n 2, 1) := by decide +kernel
theorem d_Mo_recordByte_132 : decode c_Mo_recordByte 132 = .ok (.iconst 2, 1) := by decide +kernel
theorem d_Mo_recordByte_133 : decode c_Mo_recordByte 133 = .ok (.invokestatic 114, 3) := by decide +kernel
theorem d_Mo_recordByte_136 : decode c_Mo_recordByte 136 = .ok (.aload_n 0, 1) := by decide +kernel
theorem d_Mo_recordByte_137 : decode c_Mo_recordByte 137 = .ok (.getfield 25, 3) := by decide +kernel
theorem d_Mo_recordByte_140 : decode c_Mo_recordByte 140 = .ok (.iload_n 1, 1) := by decide +kernel
theorem d_Mo_recordByte_141 : decode c_Mo_recordByte 141 = .ok (.iaload, 1) := by decide +kernel
theorem d_Mo_recordByte_142 : decode c_Mo_recordByte 142 = .ok (.iload_n 2, 1) := by decide +kernel
theorem d_Mo_recordByte_143 : decode c_Mo_recordByte 143 = .ok (.iconst 4, 1) := by decide +kernel
theorem d_Mo_recordByte_144 : decode c_Mo_recordByte 144 = .ok (.isub, 1) := by decide +kernel
theorem d_Mo_recordByte_145 : decode c_Mo_recordByte 145 = .ok (.iconst 4, 1) := by decide +kernel
theorem d_Mo_recordByte_146 : decode c_Mo_recordByte 146 = .ok (.invokestatic 114, 3) := by decide +kernel
theorem d_Mo_recordByte_149 : decode c_Mo_recordByte 149 = .ok (.iadd, 1) := by decide +kernel
theorem d_Mo_recordByte_150 : decode c_Mo_recordByte 150 = .ok (.aload_n 0, 1) := by decide +kernel
theorem d_Mo_recordByte_151 : decode c_Mo_recordByte 151 = .ok (.getfield 28, 3) := by decide +kernel
theorem d_Mo_recordByte_154 : decode c_Mo_recordByte 154 = .ok (.iload_n 1, 1) := by decide +kernel
theorem d_Mo_recordByte_155 : decode c_Mo_recordByte 155 = .ok (.iaload, 1) := by decide +kernel
theorem d_Mo_recordByte_156 : decode c_Mo_recordByte 156 = .ok (.iload_n 2, 1) := by decide +kernel
theorem d_Mo_recordByte_157 : decode c_Mo_recordByte 157 = .ok (.bipush 20, 2) := by decide +kernel
theorem d_Mo_recordByte_159 : decode c_Mo_recordByte 159 = .ok (.isub, 1) := by decide +kernel
theorem d_Mo_recordByte_160 : decode c_Mo_recordByte 160 = .ok (.iconst 4, 1) := by decide +kernel
theorem d_Mo_recordByte_161 : decode c_Mo_recordByte 161 = .ok (.invokestatic 114, 3) := by decide +kernel
theorem d_Mo_recordByte_164 : decode c_Mo_recordByte 164 = .ok (.iadd, 1) := by decide +kernel
theorem d_Mo_recordByte_165 : decode c_Mo_recordByte 165 = .ok (.aload_n 0, 1) := by decide +kernel
theorem d_Mo_recordByte_166 : decode c_Mo_recordByte 166 = .ok (.getfield 22, 3) := by decide +kernel
theorem d_Mo_recordByte_169 : decode c_Mo_recordByte 169 = .ok (.iload_n 1, 1) := by decide +kernel
theorem d_Mo_recordByte_170 : decode c_Mo_recordByte 170 = .ok (.iaload, 1) := by decide +kernel
theorem d_Mo_recordByte_171 : decode c_Mo_recordByte 171 = .ok (.iload_n 2, 1) := by decide +kernel
theorem d_Mo_recordByte_172 : decode c_Mo_recordByte 172 = .ok (.bipush 26, 2) := by decide +kernel
theorem d_Mo_recordByte_174 : decode c_Mo_recordByte 174 = .ok (.isub, 1) := by decide +kernel
theorem d_Mo_recordByte_175 : decode c_Mo_recordByte 175 = .ok (.iconst 2, 1) := by decide +kernel
theorem d_Mo_recordByte_176 : decode c_Mo_recordByte 176 = .ok (.invokestatic 114, 3) := by decide +kernel
theorem d_Mo_recordByte_179 : decode c_Mo_recordByte 179 = .ok (.iadd, 1) := by decide +kernel
theorem d_Mo_recordByte_180 : decode c_Mo_recordByte 180 = .ok (.iconst 2, 1) := by decide +kernel
theorem d_Mo_recordByte_181 : decode c_Mo_recordByte 181 = .ok (.aload_n 0, 1) := by decide +kernel
theorem d_Mo_recordByte_182 : decode c_Mo_recordByte 182 = .ok (.iload_n 1, 1) := by decide +kernel
theorem d_Mo_recordByte_183 : decode c_Mo_recordByte 183 = .ok (.invokevirtual 101, 3) := by decide +kernel
theorem d_Mo_recordByte_186 : decode c_Mo_recordByte 186 = .ok (.imul, 1) := by decide +kernel
theorem d_Mo_recordByte_187 : decode c_Mo_recordByte 187 = .ok (.iload_n 2, 1) := by decide +kernel
theorem d_Mo_recordByte_188 : decode c_Mo_recordByte 188 = .ok (.bipush 28, 2) := by decide +kernel
theorem d_Mo_recordByte_190 : decode c_Mo_recordByte 190 = .ok (.isub, 1) := by decide +kernel
theorem d_Mo_recordByte_191 : decode c_Mo_recordByte 191 = .ok (.iconst 4, 1) := by decide +kernel
theorem d_Mo_recordByte_192 : decode c_Mo_recordByte 192 = .ok (.invokestatic 114, 3) := by decide +kernel
theorem d_Mo_recordByte_195 : decode c_Mo_recordByte 195 = .ok (.iadd, 1) := by decide +kernel
theorem d_Mo_recordByte_196 : decode c_Mo_recordByte 196 = .ok (.ireturn, 1) := by decide +kernel
