theorem d_Fb_init_0 : decode c_Fb_init 0 = .ok (.aload_n 0, 1) := by decide +kernel
theorem d_Fb_init_1 : decode c_Fb_init 1 = .ok (.invokespecial 3, 3) := by decide +kernel
theorem d_Fb_init_4 : decode c_Fb_init 4 = .ok (.aload_n 0, 1) := by decide +kernel
theorem d_Fb_init_5 : decode c_Fb_init 5 = .ok (.new 9, 3) := by decide +kernel
theorem d_Fb_init_8 : decode c_Fb_init 8 = .ok (.dup, 1) := by decide +kernel
theorem d_Fb_init_9 : decode c_Fb_init 9 = .ok (.invokespecial 11, 3) := by decide +kernel
theorem d_Fb_init_12 : decode c_Fb_init 12 = .ok (.putfield 12, 3) := by decide +kernel
theorem d_Fb_init_15 : decode c_Fb_init 15 = .ok (.aload_n 0, 1) := by decide +kernel
theorem d_Fb_init_16 : decode c_Fb_init 16 = .ok (.new 16, 3) := by decide +kernel
theorem d_Fb_init_19 : decode c_Fb_init 19 = .ok (.dup, 1) := by decide +kernel
theorem d_Fb_init_20 : decode c_Fb_init 20 = .ok (.invokespecial 18, 3) := by decide +kernel
theorem d_Fb_init_23 : decode c_Fb_init 23 = .ok (.putfield 19, 3) := by decide +kernel
theorem d_Fb_init_26 : decode c_Fb_init 26 = .ok (.aload_n 0, 1) := by decide +kernel
theorem d_Fb_init_27 : decode c_Fb_init 27 = .ok (.new 23, 3) := by decide +kernel
theorem d_Fb_init_30 : decode c_Fb_init 30 = .ok (.dup, 1) := by decide +kernel
theorem d_Fb_init_31 : decode c_Fb_init 31 = .ok (.aload_n 0, 1) := by decide +kernel
theorem d_Fb_init_32 : decode c_Fb_init 32 = .ok (.getfield 12, 3) := by decide +kernel
theorem d_Fb_init_35 : decode c_Fb_init 35 = .ok (.invokespecial 25, 3) := by decide +kernel
theorem d_Fb_init_38 : decode c_Fb_init 38 = .ok (.putfield 28, 3) := by decide +kernel
theorem d_Fb_init_41 : decode c_Fb_init 41 = .ok (.aload_n 0, 1) := by decide +kernel
theorem d_Fb_init_42 : decode c_Fb_init 42 = .ok (.new 32, 3) := by decide +kernel
theorem d_Fb_init_45 : decode c_Fb_init 45 = .ok (.dup, 1) := by decide +kernel
theorem d_Fb_init_46 : decode c_Fb_init 46 = .ok (.aload_n 0, 1) := by decide +kernel
theorem d_Fb_init_47 : decode c_Fb_init 47 = .ok (.getfield 12, 3) := by decide +kernel
theorem d_Fb_init_50 : decode c_Fb_init 50 = .ok (.aload_n 0, 1) := by decide +kernel
theorem d_Fb_init_51 : decode c_Fb_init 51 = .ok (.getfield 28, 3) := by decide +kernel
theorem d_Fb_init_54 : decode c_Fb_init 54 = .ok (.invokespecial 34, 3) := by decide +kernel
theorem d_Fb_init_57 : decode c_Fb_init 57 = .ok (.putfield 37, 3) := by decide +kernel
theorem d_Fb_init_60 : decode c_Fb_init 60 = .ok (.aload_n 0, 1) := by decide +kernel
theorem d_Fb_init_61 : decode c_Fb_init 61 = .ok (.new 41, 3) := by decide +kernel
theorem d_Fb_init_64 : decode c_Fb_init 64 = .ok (.dup, 1) := by decide +kernel
theorem d_Fb_init_65 : decode c_Fb_init 65 = .ok (.aload_n 0, 1) := by decide +kernel
theorem d_Fb_init_66 : decode c_Fb_init 66 = .ok (.getfield 19, 3) := by decide +kernel
theorem d_Fb_init_69 : decode c_Fb_init 69 = .ok (.aload_n 0, 1) := by decide +kernel
theorem d_Fb_init_70 : decode c_Fb_init 70 = .ok (.getfield 28, 3) := by decide +kernel
theorem d_Fb_init_73 : decode c_Fb_init 73 = .ok (.invokespecial 43, 3) := by decide +kernel
theorem d_Fb_init_76 : decode c_Fb_init 76 = .ok (.putfield 46, 3) := by decide +kernel
theorem d_Fb_init_79 : decode c_Fb_init 79 = .ok (.return_, 1) := by decide +kernel
theorem d_Bo_init_0 : decode c_Bo_init 0 = .ok (.aload_n 0, 1) := by decide +kernel
theorem d_Bo_init_1 : decode c_Bo_init 1 = .ok (.invokespecial 3, 3) := by decide +kernel
theorem d_Bo_init_4 : decode c_Bo_init 4 = .ok (.aload_n 0, 1) := by decide +kernel
theorem d_Bo_init_5 : decode c_Bo_init 5 = .ok (.aload_n 1, 1) := by decide +kernel
theorem d_Bo_init_6 : decode c_Bo_init 6 = .ok (.putfield 9, 3) := by decide +kernel
theorem d_Bo_init_9 : decode c_Bo_init 9 = .ok (.aload_n 0, 1) := by decide +kernel
theorem d_Bo_init_10 : decode c_Bo_init 10 = .ok (.aload_n 2, 1) := by decide +kernel
theorem d_Bo_init_11 : decode c_Bo_init 11 = .ok (.putfield 15, 3) := by decide +kernel
theorem d_Bo_init_14 : decode c_Bo_init 14 = .ok (.return_, 1) := by decide +kernel
theorem d_Fb_finish_0 : decode c_Fb_finish 0 = .ok (.iconst 0, 1) := by decide +kernel
theorem d_Fb_finish_1 : decode c_Fb_finish 1 = .ok (.istore_n 1, 1) := by decide +kernel
theorem d_Fb_finish_2 : decode c_Fb_finish 2 = .ok (.iload_n 1, 1) := by decide +kernel
theorem d_Fb_finish_3 : decode c_Fb_finish 3 = .ok (.bipush 12, 2) := by decide +kernel
theorem d_Fb_finish_5 : decode c_Fb_finish 5 = .ok (.if_icmp .ge 31, 3) := by decide +kernel
theorem d_Fb_finish_8 : decode c_Fb_finish 8 = .ok (.aload_n 0, 1) := by decide +kernel
theorem d_Fb_finish_9 : decode c_Fb_finish 9 = .ok (.getfield 37, 3) := by decide +kernel
theorem d_Fb_finish_12 : decode c_Fb_finish 12 = .ok (.invokevirtual 145, 3) := by decide +kernel
theorem d_Fb_finish_15 : decode c_Fb_finish 15 = .ok (.ifCond .eq 21, 3) := by decide +kernel
theorem d_Fb_finish_18 : decode c_Fb_finish 18 = .ok (.aload_n 0, 1) := by decide +kernel
theorem d_Fb_finish_19 : decode c_Fb_finish 19 = .ok (.aload_n 0, 1) := by decide +kernel
theorem d_Fb_finish_20 : decode c_Fb_finish 20 = .ok (.getfield 37, 3) := by decide +kernel
theorem d_Fb_finish_23 : decode c_Fb_finish 23 = .ok (.invokevirtual 145, 3) := by decide +kernel
theorem d_Fb_finish_26 : decode c_Fb_finish 26 = .ok (.invokevirtual 142, 3) := by decide +kernel
theorem d_Fb_finish_29 : decode c_Fb_finish 29 = .ok (.pop, 1) := by decide +kernel
theorem d_Fb_finish_30 : decode c_Fb_finish 30 = .ok (.iinc 1 1, 3) := by decide +kernel
theorem d_Fb_finish_33 : decode c_Fb_finish 33 = .ok (.goto (-31), 3) := by decide +kernel
theorem d_Fb_finish_36 : decode c_Fb_finish 36 = .ok (.iload_n 1, 1) := by decide +kernel
theorem d_Fb_finish_37 : decode c_Fb_finish 37 = .ok (.ireturn, 1) := by decide +kernel
theorem d_Fb_letGo_0 : decode c_Fb_letGo 0 = .ok (.aload_n 0, 1) := by decide +kernel
theorem d_Fb_letGo_1 : decode c_Fb_letGo 1 = .ok (.getfield 28, 3) := by decide +kernel
theorem d_Fb_letGo_4 : decode c_Fb_letGo 4 = .ok (.iload_n 1, 1) := by decide +kernel
theorem d_Fb_letGo_5 : decode c_Fb_letGo 5 = .ok (.invokevirtual 157, 3) := by decide +kernel
theorem d_Fb_letGo_8 : decode c_Fb_letGo 8 = .ok (.istore_n 2, 1) := by decide +kernel
theorem d_Fb_letGo_9 : decode c_Fb_letGo 9 = .ok (.aload_n 0, 1) := by decide +kernel
theorem d_Fb_letGo_10 : decode c_Fb_letGo 10 = .ok (.getfield 37, 3) := by decide +kernel
theorem d_Fb_letGo_13 : decode c_Fb_letGo 13 = .ok (.iload_n 1, 1) := by decide +kernel
theorem d_Fb_letGo_14 : decode c_Fb_letGo 14 = .ok (.invokevirtual 137, 3) := by decide +kernel
theorem d_Fb_letGo_17 : decode c_Fb_letGo 17 = .ok (.aload_n 0, 1) := by decide +kernel
theorem d_Fb_letGo_18 : decode c_Fb_letGo 18 = .ok (.getfield 46, 3) := by decide +kernel
theorem d_Fb_letGo_21 : decode c_Fb_letGo 21 = .ok (.iload_n 1, 1) := by decide +kernel
theorem d_Fb_letGo_22 : decode c_Fb_letGo 22 = .ok (.iconst 0, 1) := by decide +kernel
theorem d_Fb_letGo_23 : decode c_Fb_letGo 23 = .ok (.invokevirtual 199, 3) := by decide +kernel
theorem d_Fb_letGo_26 : decode c_Fb_letGo 26 = .ok (.aload_n 0, 1) := by decide +kernel
theorem d_Fb_letGo_27 : decode c_Fb_letGo 27 = .ok (.getfield 28, 3) := by decide +kernel
theorem d_Fb_letGo_30 : decode c_Fb_letGo 30 = .ok (.iload_n 1, 1) := by decide +kernel
theorem d_Fb_letGo_31 : decode c_Fb_letGo 31 = .ok (.invokevirtual 202, 3) := by decide +kernel
theorem d_Fb_letGo_34 : decode c_Fb_letGo 34 = .ok (.iload_n 2, 1) := by decide +kernel
theorem d_Fb_letGo_35 : decode c_Fb_letGo 35 = .ok (.ireturn, 1) := by decide +kernel
theorem d_Bo_giveBack_0 : decode c_Bo_giveBack 0 = .ok (.iload_n 2, 1) := by decide +kernel
theorem d_Bo_giveBack_1 : decode c_Bo_giveBack 1 = .ok (.istore_n 3, 1) := by decide +kernel
theorem d_Bo_giveBack_2 : decode c_Bo_giveBack 2 = .ok (.iload_n 3, 1) := by decide +kernel
theorem d_Bo_giveBack_3 : decode c_Bo_giveBack 3 = .ok (.bipush 15, 2) := by decide +kernel
theorem d_Bo_giveBack_5 : decode c_Bo_giveBack 5 = .ok (.if_icmp .ge 43, 3) := by decide +kernel
theorem d_Bo_giveBack_8 : decode c_Bo_giveBack 8 = .ok (.aload_n 0, 1) := by decide +kernel
theorem d_Bo_giveBack_9 : decode c_Bo_giveBack 9 = .ok (.getfield 15, 3) := by decide +kernel
theorem d_Bo_giveBack_12 : decode c_Bo_giveBack 12 = .ok (.iload_n 1, 1) := by decide +kernel
theorem d_Bo_giveBack_13 : decode c_Bo_giveBack 13 = .ok (.iload_n 3, 1) := by decide +kernel
theorem d_Bo_giveBack_14 : decode c_Bo_giveBack 14 = .ok (.invokevirtual 29, 3) := by decide +kernel
theorem d_Bo_giveBack_17 : decode c_Bo_giveBack 17 = .ok (.istore 4, 2) := by decide +kernel
theorem d_Bo_giveBack_19 : decode c_Bo_giveBack 19 = .ok (.iload 4, 2) := by decide +kernel
theorem d_Bo_giveBack_21 : decode c_Bo_giveBack 21 = .ok (.ifCond .eq 21, 3) := by decide +kernel
theorem d_Bo_giveBack_24 : decode c_Bo_giveBack 24 = .ok (.aload_n 0, 1) := by decide +kernel
theorem d_Bo_giveBack_25 : decode c_Bo_giveBack 25 = .ok (.getfield 9, 3) := by decide +kernel
theorem d_Bo_giveBack_28 : decode c_Bo_giveBack 28 = .ok (.iload 4, 2) := by decide +kernel
theorem d_Bo_giveBack_30 : decode c_Bo_giveBack 30 = .ok (.invokevirtual 77, 3) := by decide +kernel
theorem d_Bo_giveBack_33 : decode c_Bo_giveBack 33 = .ok (.aload_n 0, 1) := by decide +kernel
theorem d_Bo_giveBack_34 : decode c_Bo_giveBack 34 = .ok (.getfield 15, 3) := by decide +kernel
theorem d_Bo_giveBack_37 : decode c_Bo_giveBack 37 = .ok (.iload_n 1, 1) := by decide +kernel
theorem d_Bo_giveBack_38 : decode c_Bo_giveBack 38 = .ok (.iload_n 3, 1) := by decide +kernel
theorem d_Bo_giveBack_39 : decode c_Bo_giveBack 39 = .ok (.invokevirtual 81, 3) := by decide +kernel
theorem d_Bo_giveBack_42 : decode c_Bo_giveBack 42 = .ok (.iinc 3 1, 3) := by decide +kernel
theorem d_Bo_giveBack_45 : decode c_Bo_giveBack 45 = .ok (.goto (-43), 3) := by decide +kernel
theorem d_Bo_giveBack_48 : decode c_Bo_giveBack 48 = .ok (.return_, 1) := by decide +kernel
theorem d_Fb_make_0 : decode c_Fb_make 0 = .ok (.iload_n 1, 1) := by decide +kernel
theorem d_Fb_make_1 : decode c_Fb_make 1 = .ok (.ifCond .lt 10, 3) := by decide +kernel
theorem d_Fb_make_4 : decode c_Fb_make 4 = .ok (.iload_n 1, 1) := by decide +kernel
theorem d_Fb_make_5 : decode c_Fb_make 5 = .ok (.sipush 1000, 3) := by decide +kernel
theorem d_Fb_make_8 : decode c_Fb_make 8 = .ok (.if_icmp .le 13, 3) := by decide +kernel
theorem d_Fb_make_11 : decode c_Fb_make 11 = .ok (.new 50, 3) := by decide +kernel
theorem d_Fb_make_14 : decode c_Fb_make 14 = .ok (.dup, 1) := by decide +kernel
theorem d_Fb_make_15 : decode c_Fb_make 15 = .ok (.ldc 52, 2) := by decide +kernel
theorem d_Fb_make_17 : decode c_Fb_make 17 = .ok (.invokespecial 54, 3) := by decide +kernel
theorem d_Fb_make_20 : decode c_Fb_make 20 = .ok (.athrow, 1) := by decide +kernel
theorem d_Fb_make_21 : decode c_Fb_make 21 = .ok (.aload_n 0, 1) := by decide +kernel
theorem d_Fb_make_22 : decode c_Fb_make 22 = .ok (.getfield 28, 3) := by decide +kernel
theorem d_Fb_make_25 : decode c_Fb_make 25 = .ok (.invokevirtual 57, 3) := by decide +kernel
theorem d_Fb_make_28 : decode c_Fb_make 28 = .ok (.istore_n 2, 1) := by decide +kernel
theorem d_Fb_make_29 : decode c_Fb_make 29 = .ok (.iload_n 2, 1) := by decide +kernel
theorem d_Fb_make_30 : decode c_Fb_make 30 = .ok (.ifCond .ne 13, 3) := by decide +kernel
theorem d_Fb_make_33 : decode c_Fb_make 33 = .ok (.new 61, 3) := by decide +kernel
theorem d_Fb_make_36 : decode c_Fb_make 36 = .ok (.dup, 1) := by decide +kernel
theorem d_Fb_make_37 : decode c_Fb_make 37 = .ok (.ldc 63, 2) := by decide +kernel
theorem d_Fb_make_39 : decode c_Fb_make 39 = .ok (.invokespecial 65, 3) := by decide +kernel
theorem d_Fb_make_42 : decode c_Fb_make 42 = .ok (.athrow, 1) := by decide +kernel
theorem d_Fb_make_43 : decode c_Fb_make 43 = .ok (.aload_n 0, 1) := by decide +kernel
theorem d_Fb_make_44 : decode c_Fb_make 44 = .ok (.getfield 28, 3) := by decide +kernel
theorem d_Fb_make_47 : decode c_Fb_make 47 = .ok (.iload_n 2, 1) := by decide +kernel
theorem d_Fb_make_48 : decode c_Fb_make 48 = .ok (.iconst 1, 1) := by decide +kernel
theorem d_Fb_make_49 : decode c_Fb_make 49 = .ok (.iload_n 1, 1) := by decide +kernel
theorem d_Fb_make_50 : decode c_Fb_make 50 = .ok (.invokevirtual 66, 3) := by decide +kernel
theorem d_Fb_make_53 : decode c_Fb_make 53 = .ok (.iload_n 1, 1) := by decide +kernel
theorem d_Fb_make_54 : decode c_Fb_make 54 = .ok (.ifCond .ne 11, 3) := by decide +kernel
theorem d_Fb_make_57 : decode c_Fb_make 57 = .ok (.aload_n 0, 1) := by decide +kernel
theorem d_Fb_make_58 : decode c_Fb_make 58 = .ok (.getfield 37, 3) := by decide +kernel
theorem d_Fb_make_61 : decode c_Fb_make 61 = .ok (.iload_n 2, 1) := by decide +kernel
theorem d_Fb_make_62 : decode c_Fb_make 62 = .ok (.invokevirtual 70, 3) := by decide +kernel
theorem d_Fb_make_65 : decode c_Fb_make 65 = .ok (.iload_n 2, 1) := by decide +kernel
theorem d_Fb_make_66 : decode c_Fb_make 66 = .ok (.ireturn, 1) := by decide +kernel
theorem d_Fb_link_0 : decode c_Fb_link 0 = .ok (.iload_n 1, 1) := by decide +kernel
theorem d_Fb_link_1 : decode c_Fb_link 1 = .ok (.iconst 1, 1) := by decide +kernel
theorem d_Fb_link_2 : decode c_Fb_link 2 = .ok (.if_icmp .lt 10, 3) := by decide +kernel
theorem d_Fb_link_5 : decode c_Fb_link 5 = .ok (.iload_n 1, 1) := by decide +kernel
theorem d_Fb_link_6 : decode c_Fb_link 6 = .ok (.sipush 1000, 3) := by decide +kernel
theorem d_Fb_link_9 : decode c_Fb_link 9 = .ok (.if_icmp .le 13, 3) := by decide +kernel
theorem d_Fb_link_12 : decode c_Fb_link 12 = .ok (.new 50, 3) := by decide +kernel
theorem d_Fb_link_15 : decode c_Fb_link 15 = .ok (.dup, 1) := by decide +kernel
theorem d_Fb_link_16 : decode c_Fb_link 16 = .ok (.ldc 74, 2) := by decide +kernel
theorem d_Fb_link_18 : decode c_Fb_link 18 = .ok (.invokespecial 54, 3) := by decide +kernel
theorem d_Fb_link_21 : decode c_Fb_link 21 = .ok (.athrow, 1) := by decide +kernel
theorem d_Fb_link_22 : decode c_Fb_link 22 = .ok (.aload_n 0, 1) := by decide +kernel
theorem d_Fb_link_23 : decode c_Fb_link 23 = .ok (.getfield 28, 3) := by decide +kernel
theorem d_Fb_link_26 : decode c_Fb_link 26 = .ok (.invokevirtual 57, 3) := by decide +kernel
theorem d_Fb_link_29 : decode c_Fb_link 29 = .ok (.istore_n 3, 1) := by decide +kernel
theorem d_Fb_link_30 : decode c_Fb_link 30 = .ok (.iload_n 3, 1) := by decide +kernel
theorem d_Fb_link_31 : decode c_Fb_link 31 = .ok (.ifCond .ne 13, 3) := by decide +kernel
theorem d_Fb_link_34 : decode c_Fb_link 34 = .ok (.new 61, 3) := by decide +kernel
theorem d_Fb_link_37 : decode c_Fb_link 37 = .ok (.dup, 1) := by decide +kernel
theorem d_Fb_link_38 : decode c_Fb_link 38 = .ok (.ldc 63, 2) := by decide +kernel
theorem d_Fb_link_40 : decode c_Fb_link 40 = .ok (.invokespecial 65, 3) := by decide +kernel
theorem d_Fb_link_43 : decode c_Fb_link 43 = .ok (.athrow, 1) := by decide +kernel
theorem d_Fb_link_44 : decode c_Fb_link 44 = .ok (.iload_n 1, 1) := by decide +kernel
theorem d_Fb_link_45 : decode c_Fb_link 45 = .ok (.bipush 59, 2) := by decide +kernel
theorem d_Fb_link_47 : decode c_Fb_link 47 = .ok (.if_icmp .le 23, 3) := by decide +kernel
theorem d_Fb_link_50 : decode c_Fb_link 50 = .ok (.aload_n 0, 1) := by decide +kernel
theorem d_Fb_link_51 : decode c_Fb_link 51 = .ok (.getfield 19, 3) := by decide +kernel
theorem d_Fb_link_54 : decode c_Fb_link 54 = .ok (.invokevirtual 76, 3) := by decide +kernel
theorem d_Fb_link_57 : decode c_Fb_link 57 = .ok (.ifCond .ne 13, 3) := by decide +kernel
theorem d_Fb_link_60 : decode c_Fb_link 60 = .ok (.new 61, 3) := by decide +kernel
theorem d_Fb_link_63 : decode c_Fb_link 63 = .ok (.dup, 1) := by decide +kernel
theorem d_Fb_link_64 : decode c_Fb_link 64 = .ok (.ldc 79, 2) := by decide +kernel
theorem d_Fb_link_66 : decode c_Fb_link 66 = .ok (.invokespecial 65, 3) := by decide +kernel
theorem d_Fb_link_69 : decode c_Fb_link 69 = .ok (.athrow, 1) := by decide +kernel
theorem d_Fb_link_70 : decode c_Fb_link 70 = .ok (.aload_n 0, 1) := by decide +kernel
theorem d_Fb_link_71 : decode c_Fb_link 71 = .ok (.getfield 28, 3) := by decide +kernel
theorem d_Fb_link_74 : decode c_Fb_link 74 = .ok (.iload_n 3, 1) := by decide +kernel
theorem d_Fb_link_75 : decode c_Fb_link 75 = .ok (.iconst 3, 1) := by decide +kernel
theorem d_Fb_link_76 : decode c_Fb_link 76 = .ok (.iconst 1, 1) := by decide +kernel
theorem d_Fb_link_77 : decode c_Fb_link 77 = .ok (.invokevirtual 66, 3) := by decide +kernel
theorem d_Fb_link_80 : decode c_Fb_link 80 = .ok (.aload_n 0, 1) := by decide +kernel
theorem d_Fb_link_81 : decode c_Fb_link 81 = .ok (.getfield 28, 3) := by decide +kernel
theorem d_Fb_link_84 : decode c_Fb_link 84 = .ok (.iload_n 3, 1) := by decide +kernel
theorem d_Fb_link_85 : decode c_Fb_link 85 = .ok (.iload_n 1, 1) := by decide +kernel
theorem d_Fb_link_86 : decode c_Fb_link 86 = .ok (.invokevirtual 81, 3) := by decide +kernel
theorem d_Fb_link_89 : decode c_Fb_link 89 = .ok (.aload_n 0, 1) := by decide +kernel
theorem d_Fb_link_90 : decode c_Fb_link 90 = .ok (.getfield 46, 3) := by decide +kernel
theorem d_Fb_link_93 : decode c_Fb_link 93 = .ok (.iload_n 3, 1) := by decide +kernel
theorem d_Fb_link_94 : decode c_Fb_link 94 = .ok (.iload_n 1, 1) := by decide +kernel
theorem d_Fb_link_95 : decode c_Fb_link 95 = .ok (.iload_n 2, 1) := by decide +kernel
theorem d_Fb_link_96 : decode c_Fb_link 96 = .ok (.invokevirtual 85, 3) := by decide +kernel
theorem d_Fb_link_99 : decode c_Fb_link 99 = .ok (.iload_n 3, 1) := by decide +kernel
theorem d_Fb_link_100 : decode c_Fb_link 100 = .ok (.ireturn, 1) := by decide +kernel
theorem d_Bo_setTarget_0 : decode c_Bo_setTarget 0 = .ok (.aload_n 0, 1) := by decide +kernel
theorem d_Bo_setTarget_1 : decode c_Bo_setTarget 1 = .ok (.getfield 15, 3) := by decide +kernel
theorem d_Bo_setTarget_4 : decode c_Bo_setTarget 4 = .ok (.iload_n 1, 1) := by decide +kernel
theorem d_Bo_setTarget_5 : decode c_Bo_setTarget 5 = .ok (.invokevirtual 19, 3) := by decide +kernel
theorem d_Bo_setTarget_8 : decode c_Bo_setTarget 8 = .ok (.ifCond .eq 35, 3) := by decide +kernel
theorem d_Bo_setTarget_11 : decode c_Bo_setTarget 11 = .ok (.iconst 0, 1) := by decide +kernel
theorem d_Bo_setTarget_12 : decode c_Bo_setTarget 12 = .ok (.istore 4, 2) := by decide +kernel
theorem d_Bo_setTarget_14 : decode c_Bo_setTarget 14 = .ok (.iload 4, 2) := by decide +kernel
theorem d_Bo_setTarget_16 : decode c_Bo_setTarget 16 = .ok (.iload_n 2, 1) := by decide +kernel
theorem d_Bo_setTarget_17 : decode c_Bo_setTarget 17 = .ok (.if_icmp .ge 25, 3) := by decide +kernel
theorem d_Bo_setTarget_20 : decode c_Bo_setTarget 20 = .ok (.aload_n 0, 1) := by decide +kernel
theorem d_Bo_setTarget_21 : decode c_Bo_setTarget 21 = .ok (.getfield 15, 3) := by decide +kernel
theorem d_Bo_setTarget_24 : decode c_Bo_setTarget 24 = .ok (.iload_n 1, 1) := by decide +kernel
theorem d_Bo_setTarget_25 : decode c_Bo_setTarget 25 = .ok (.iload 4, 2) := by decide +kernel
theorem d_Bo_setTarget_27 : decode c_Bo_setTarget 27 = .ok (.iload_n 3, 1) := by decide +kernel
theorem d_Bo_setTarget_28 : decode c_Bo_setTarget 28 = .ok (.iload 4, 2) := by decide +kernel
theorem d_Bo_setTarget_30 : decode c_Bo_setTarget 30 = .ok (.invokestatic 37, 3) := by decide +kernel
theorem d_Bo_setTarget_33 : decode c_Bo_setTarget 33 = .ok (.invokevirtual 38, 3) := by decide +kernel
theorem d_Bo_setTarget_36 : decode c_Bo_setTarget 36 = .ok (.iinc 4 1, 3) := by decide +kernel
theorem d_Bo_setTarget_39 : decode c_Bo_setTarget 39 = .ok (.goto (-25), 3) := by decide +kernel
theorem d_Bo_setTarget_42 : decode c_Bo_setTarget 42 = .ok (.return_, 1) := by decide +kernel
theorem d_Bo_setTarget_43 : decode c_Bo_setTarget 43 = .ok (.aload_n 0, 1) := by decide +kernel
theorem d_Bo_setTarget_44 : decode c_Bo_setTarget 44 = .ok (.iload_n 1, 1) := by decide +kernel
theorem d_Bo_setTarget_45 : decode c_Bo_setTarget 45 = .ok (.iconst 0, 1) := by decide +kernel
theorem d_Bo_setTarget_46 : decode c_Bo_setTarget 46 = .ok (.invokevirtual 42, 3) := by decide +kernel
theorem d_Bo_setTarget_49 : decode c_Bo_setTarget 49 = .ok (.aload_n 0, 1) := by decide +kernel
theorem d_Bo_setTarget_50 : decode c_Bo_setTarget 50 = .ok (.getfield 15, 3) := by decide +kernel
theorem d_Bo_setTarget_53 : decode c_Bo_setTarget 53 = .ok (.iload_n 1, 1) := by decide +kernel
theorem d_Bo_setTarget_54 : decode c_Bo_setTarget 54 = .ok (.iconst 0, 1) := by decide +kernel
theorem d_Bo_setTarget_55 : decode c_Bo_setTarget 55 = .ok (.invokevirtual 29, 3) := by decide +kernel
theorem d_Bo_setTarget_58 : decode c_Bo_setTarget 58 = .ok (.istore 4, 2) := by decide +kernel
theorem d_Bo_setTarget_60 : decode c_Bo_setTarget 60 = .ok (.iconst 0, 1) := by decide +kernel
theorem d_Bo_setTarget_61 : decode c_Bo_setTarget 61 = .ok (.istore 5, 2) := by decide +kernel
theorem d_Bo_setTarget_63 : decode c_Bo_setTarget 63 = .ok (.iload 5, 2) := by decide +kernel
theorem d_Bo_setTarget_65 : decode c_Bo_setTarget 65 = .ok (.iload_n 2, 1) := by decide +kernel
theorem d_Bo_setTarget_66 : decode c_Bo_setTarget 66 = .ok (.if_icmp .ge 26, 3) := by decide +kernel
theorem d_Bo_setTarget_69 : decode c_Bo_setTarget 69 = .ok (.aload_n 0, 1) := by decide +kernel
theorem d_Bo_setTarget_70 : decode c_Bo_setTarget 70 = .ok (.getfield 9, 3) := by decide +kernel
theorem d_Bo_setTarget_73 : decode c_Bo_setTarget 73 = .ok (.iload 4, 2) := by decide +kernel
theorem d_Bo_setTarget_75 : decode c_Bo_setTarget 75 = .ok (.iload 5, 2) := by decide +kernel
theorem d_Bo_setTarget_77 : decode c_Bo_setTarget 77 = .ok (.iload_n 3, 1) := by decide +kernel
theorem d_Bo_setTarget_78 : decode c_Bo_setTarget 78 = .ok (.iload 5, 2) := by decide +kernel
theorem d_Bo_setTarget_80 : decode c_Bo_setTarget 80 = .ok (.invokestatic 37, 3) := by decide +kernel
theorem d_Bo_setTarget_83 : decode c_Bo_setTarget 83 = .ok (.invokevirtual 46, 3) := by decide +kernel
theorem d_Bo_setTarget_86 : decode c_Bo_setTarget 86 = .ok (.iinc 5 1, 3) := by decide +kernel
theorem d_Bo_setTarget_89 : decode c_Bo_setTarget 89 = .ok (.goto (-26), 3) := by decide +kernel
theorem d_Bo_setTarget_92 : decode c_Bo_setTarget 92 = .ok (.return_, 1) := by decide +kernel
theorem d_Bo_targetByte_0 : decode c_Bo_targetByte 0 = .ok (.iconst 1, 1) := by decide +kernel
theorem d_Bo_targetByte_1 : decode c_Bo_targetByte 1 = .ok (.iload_n 0, 1) := by decide +kernel
theorem d_Bo_targetByte_2 : decode c_Bo_targetByte 2 = .ok (.iload_n 1, 1) := by decide +kernel
theorem d_Bo_targetByte_3 : decode c_Bo_targetByte 3 = .ok (.iadd, 1) := by decide +kernel
theorem d_Bo_targetByte_4 : decode c_Bo_targetByte 4 = .ok (.sipush 255, 3) := by decide +kernel
theorem d_Bo_targetByte_7 : decode c_Bo_targetByte 7 = .ok (.invokestatic 90, 3) := by decide +kernel
theorem d_Bo_targetByte_10 : decode c_Bo_targetByte 10 = .ok (.iadd, 1) := by decide +kernel
theorem d_Bo_targetByte_11 : decode c_Bo_targetByte 11 = .ok (.ireturn, 1) := by decide +kernel
theorem d_Bo_takeBlock_0 : decode c_Bo_takeBlock 0 = .ok (.aload_n 0, 1) := by decide +kernel
theorem d_Bo_takeBlock_1 : decode c_Bo_takeBlock 1 = .ok (.getfield 15, 3) := by decide +kernel
theorem d_Bo_takeBlock_4 : decode c_Bo_takeBlock 4 = .ok (.iload_n 1, 1) := by decide +kernel
theorem d_Bo_takeBlock_5 : decode c_Bo_takeBlock 5 = .ok (.iload_n 2, 1) := by decide +kernel
theorem d_Bo_takeBlock_6 : decode c_Bo_takeBlock 6 = .ok (.iconst 1, 1) := by decide +kernel
theorem d_Bo_takeBlock_7 : decode c_Bo_takeBlock 7 = .ok (.isub, 1) := by decide +kernel
theorem d_Bo_takeBlock_8 : decode c_Bo_takeBlock 8 = .ok (.invokevirtual 29, 3) := by decide +kernel
theorem d_Bo_takeBlock_11 : decode c_Bo_takeBlock 11 = .ok (.istore_n 3, 1) := by decide +kernel
theorem d_Bo_takeBlock_12 : decode c_Bo_takeBlock 12 = .ok (.iload_n 3, 1) := by decide +kernel
theorem d_Bo_takeBlock_13 : decode c_Bo_takeBlock 13 = .ok (.ifCond .ne 7, 3) := by decide +kernel
theorem d_Bo_takeBlock_16 : decode c_Bo_takeBlock 16 = .ok (.iconst 4, 1) := by decide +kernel
theorem d_Bo_takeBlock_17 : decode c_Bo_takeBlock 17 = .ok (.goto 6, 3) := by decide +kernel
theorem d_Bo_takeBlock_20 : decode c_Bo_takeBlock 20 = .ok (.iload_n 3, 1) := by decide +kernel
theorem d_Bo_takeBlock_21 : decode c_Bo_takeBlock 21 = .ok (.iconst 1, 1) := by decide +kernel
theorem d_Bo_takeBlock_22 : decode c_Bo_takeBlock 22 = .ok (.iadd, 1) := by decide +kernel
theorem d_Bo_takeBlock_23 : decode c_Bo_takeBlock 23 = .ok (.istore 4, 2) := by decide +kernel
theorem d_Bo_takeBlock_25 : decode c_Bo_takeBlock 25 = .ok (.aload_n 0, 1) := by decide +kernel
theorem d_Bo_takeBlock_26 : decode c_Bo_takeBlock 26 = .ok (.getfield 9, 3) := by decide +kernel
theorem d_Bo_takeBlock_29 : decode c_Bo_takeBlock 29 = .ok (.iload 4, 2) := by decide +kernel
theorem d_Bo_takeBlock_31 : decode c_Bo_takeBlock 31 = .ok (.invokevirtual 84, 3) := by decide +kernel
theorem d_Bo_takeBlock_34 : decode c_Bo_takeBlock 34 = .ok (.istore 5, 2) := by decide +kernel
theorem d_Bo_takeBlock_36 : decode c_Bo_takeBlock 36 = .ok (.iload 5, 2) := by decide +kernel
theorem d_Bo_takeBlock_38 : decode c_Bo_takeBlock 38 = .ok (.ifCond .eq 14, 3) := by decide +kernel
theorem d_Bo_takeBlock_41 : decode c_Bo_takeBlock 41 = .ok (.aload_n 0, 1) := by decide +kernel
theorem d_Bo_takeBlock_42 : decode c_Bo_takeBlock 42 = .ok (.getfield 15, 3) := by decide +kernel
theorem d_Bo_takeBlock_45 : decode c_Bo_takeBlock 45 = .ok (.iload_n 1, 1) := by decide +kernel
theorem d_Bo_takeBlock_46 : decode c_Bo_takeBlock 46 = .ok (.iload_n 2, 1) := by decide +kernel
theorem d_Bo_takeBlock_47 : decode c_Bo_takeBlock 47 = .ok (.iload 5, 2) := by decide +kernel
theorem d_Bo_takeBlock_49 : decode c_Bo_takeBlock 49 = .ok (.invokevirtual 87, 3) := by decide +kernel
theorem d_Bo_takeBlock_52 : decode c_Bo_takeBlock 52 = .ok (.return_, 1) := by decide +kernel
theorem d_Fb_write_0 : decode c_Fb_write 0 = .ok (.aload_n 0, 1) := by decide +kernel
theorem d_Fb_write_1 : decode c_Fb_write 1 = .ok (.iload_n 1, 1) := by decide +kernel
theorem d_Fb_write_2 : decode c_Fb_write 2 = .ok (.iload_n 2, 1) := by decide +kernel
theorem d_Fb_write_3 : decode c_Fb_write 3 = .ok (.iload 5, 2) := by decide +kernel
theorem d_Fb_write_5 : decode c_Fb_write 5 = .ok (.bipush 8, 2) := by decide +kernel
theorem d_Fb_write_7 : decode c_Fb_write 7 = .ok (.invokevirtual 88, 3) := by decide +kernel
theorem d_Fb_write_10 : decode c_Fb_write 10 = .ok (.aload_n 0, 1) := by decide +kernel
theorem d_Fb_write_11 : decode c_Fb_write 11 = .ok (.iload_n 1, 1) := by decide +kernel
theorem d_Fb_write_12 : decode c_Fb_write 12 = .ok (.iload_n 2, 1) := by decide +kernel
theorem d_Fb_write_13 : decode c_Fb_write 13 = .ok (.iload 5, 2) := by decide +kernel
theorem d_Fb_write_15 : decode c_Fb_write 15 = .ok (.invokevirtual 92, 3) := by decide +kernel
theorem d_Fb_write_18 : decode c_Fb_write 18 = .ok (.aload_n 0, 1) := by decide +kernel
theorem d_Fb_write_19 : decode c_Fb_write 19 = .ok (.getfield 46, 3) := by decide +kernel
theorem d_Fb_write_22 : decode c_Fb_write 22 = .ok (.iload_n 1, 1) := by decide +kernel
theorem d_Fb_write_23 : decode c_Fb_write 23 = .ok (.iload_n 2, 1) := by decide +kernel
theorem d_Fb_write_24 : decode c_Fb_write 24 = .ok (.iload 5, 2) := by decide +kernel
theorem d_Fb_write_26 : decode c_Fb_write 26 = .ok (.invokevirtual 95, 3) := by decide +kernel
theorem d_Fb_write_29 : decode c_Fb_write 29 = .ok (.aload_n 0, 1) := by decide +kernel
theorem d_Fb_write_30 : decode c_Fb_write 30 = .ok (.getfield 46, 3) := by decide +kernel
theorem d_Fb_write_33 : decode c_Fb_write 33 = .ok (.iload_n 1, 1) := by decide +kernel
theorem d_Fb_write_34 : decode c_Fb_write 34 = .ok (.iload_n 2, 1) := by decide +kernel
theorem d_Fb_write_35 : decode c_Fb_write 35 = .ok (.lload_n 3, 1) := by decide +kernel
theorem d_Fb_write_36 : decode c_Fb_write 36 = .ok (.iload 5, 2) := by decide +kernel
theorem d_Fb_write_38 : decode c_Fb_write 38 = .ok (.invokevirtual 98, 3) := by decide +kernel
theorem d_Fb_write_41 : decode c_Fb_write 41 = .ok (.aload_n 0, 1) := by decide +kernel
theorem d_Fb_write_42 : decode c_Fb_write 42 = .ok (.getfield 28, 3) := by decide +kernel
theorem d_Fb_write_45 : decode c_Fb_write 45 = .ok (.iload_n 1, 1) := by decide +kernel
theorem d_Fb_write_46 : decode c_Fb_write 46 = .ok (.invokevirtual 102, 3) := by decide +kernel
theorem d_Fb_write_49 : decode c_Fb_write 49 = .ok (.ireturn, 1) := by decide +kernel
theorem d_Fb_checkSpan_0 : decode c_Fb_checkSpan 0 = .ok (.aload_n 0, 1) := by decide +kernel
theorem d_Fb_checkSpan_1 : decode c_Fb_checkSpan 1 = .ok (.iload_n 1, 1) := by decide +kernel
theorem d_Fb_checkSpan_2 : decode c_Fb_checkSpan 2 = .ok (.invokevirtual 121, 3) := by decide +kernel
theorem d_Fb_checkSpan_5 : decode c_Fb_checkSpan 5 = .ok (.iload_n 3, 1) := by decide +kernel
theorem d_Fb_checkSpan_6 : decode c_Fb_checkSpan 6 = .ok (.iconst 1, 1) := by decide +kernel
theorem d_Fb_checkSpan_7 : decode c_Fb_checkSpan 7 = .ok (.if_icmp .lt 9, 3) := by decide +kernel
theorem d_Fb_checkSpan_10 : decode c_Fb_checkSpan 10 = .ok (.iload_n 3, 1) := by decide +kernel
theorem d_Fb_checkSpan_11 : decode c_Fb_checkSpan 11 = .ok (.iload 4, 2) := by decide +kernel
theorem d_Fb_checkSpan_13 : decode c_Fb_checkSpan 13 = .ok (.if_icmp .le 13, 3) := by decide +kernel
theorem d_Fb_checkSpan_16 : decode c_Fb_checkSpan 16 = .ok (.new 50, 3) := by decide +kernel
theorem d_Fb_checkSpan_19 : decode c_Fb_checkSpan 19 = .ok (.dup, 1) := by decide +kernel
theorem d_Fb_checkSpan_20 : decode c_Fb_checkSpan 20 = .ok (.ldc 189, 2) := by decide +kernel
theorem d_Fb_checkSpan_22 : decode c_Fb_checkSpan 22 = .ok (.invokespecial 54, 3) := by decide +kernel
theorem d_Fb_checkSpan_25 : decode c_Fb_checkSpan 25 = .ok (.athrow, 1) := by decide +kernel
theorem d_Fb_checkSpan_26 : decode c_Fb_checkSpan 26 = .ok (.iload_n 2, 1) := by decide +kernel
theorem d_Fb_checkSpan_27 : decode c_Fb_checkSpan 27 = .ok (.ifCond .lt 12, 3) := by decide +kernel
theorem d_Fb_checkSpan_30 : decode c_Fb_checkSpan 30 = .ok (.iload_n 2, 1) := by decide +kernel
theorem d_Fb_checkSpan_31 : decode c_Fb_checkSpan 31 = .ok (.sipush 15360, 3) := by decide +kernel
theorem d_Fb_checkSpan_34 : decode c_Fb_checkSpan 34 = .ok (.iload_n 3, 1) := by decide +kernel
theorem d_Fb_checkSpan_35 : decode c_Fb_checkSpan 35 = .ok (.isub, 1) := by decide +kernel
theorem d_Fb_checkSpan_36 : decode c_Fb_checkSpan 36 = .ok (.if_icmp .le 13, 3) := by decide +kernel
theorem d_Fb_checkSpan_39 : decode c_Fb_checkSpan 39 = .ok (.new 50, 3) := by decide +kernel
theorem d_Fb_checkSpan_42 : decode c_Fb_checkSpan 42 = .ok (.dup, 1) := by decide +kernel
theorem d_Fb_checkSpan_43 : decode c_Fb_checkSpan 43 = .ok (.ldc 191, 2) := by decide +kernel
theorem d_Fb_checkSpan_45 : decode c_Fb_checkSpan 45 = .ok (.invokespecial 54, 3) := by decide +kernel
theorem d_Fb_checkSpan_48 : decode c_Fb_checkSpan 48 = .ok (.athrow, 1) := by decide +kernel
theorem d_Fb_checkSpan_49 : decode c_Fb_checkSpan 49 = .ok (.return_, 1) := by decide +kernel
theorem d_Fb_checkPlain_0 : decode c_Fb_checkPlain 0 = .ok (.aload_n 0, 1) := by decide +kernel
theorem d_Fb_checkPlain_1 : decode c_Fb_checkPlain 1 = .ok (.getfield 28, 3) := by decide +kernel
theorem d_Fb_checkPlain_4 : decode c_Fb_checkPlain 4 = .ok (.iload_n 1, 1) := by decide +kernel
theorem d_Fb_checkPlain_5 : decode c_Fb_checkPlain 5 = .ok (.invokevirtual 154, 3) := by decide +kernel
theorem d_Fb_checkPlain_8 : decode c_Fb_checkPlain 8 = .ok (.iconst 1, 1) := by decide +kernel
theorem d_Fb_checkPlain_9 : decode c_Fb_checkPlain 9 = .ok (.if_icmp .eq 13, 3) := by decide +kernel
theorem d_Fb_checkPlain_12 : decode c_Fb_checkPlain 12 = .ok (.new 50, 3) := by decide +kernel
theorem d_Fb_checkPlain_15 : decode c_Fb_checkPlain 15 = .ok (.dup, 1) := by decide +kernel
theorem d_Fb_checkPlain_16 : decode c_Fb_checkPlain 16 = .ok (.ldc 187, 2) := by decide +kernel
theorem d_Fb_checkPlain_18 : decode c_Fb_checkPlain 18 = .ok (.invokespecial 54, 3) := by decide +kernel
theorem d_Fb_checkPlain_21 : decode c_Fb_checkPlain 21 = .ok (.athrow, 1) := by decide +kernel
theorem d_Fb_checkPlain_22 : decode c_Fb_checkPlain 22 = .ok (.return_, 1) := by decide +kernel
theorem d_Fb_checkFreeBlocks_0 : decode c_Fb_checkFreeBlocks 0 = .ok (.aload_n 0, 1) := by decide +kernel
theorem d_Fb_checkFreeBlocks_1 : decode c_Fb_checkFreeBlocks 1 = .ok (.getfield 46, 3) := by decide +kernel
theorem d_Fb_checkFreeBlocks_4 : decode c_Fb_checkFreeBlocks 4 = .ok (.iload_n 1, 1) := by decide +kernel
theorem d_Fb_checkFreeBlocks_5 : decode c_Fb_checkFreeBlocks 5 = .ok (.iload_n 2, 1) := by decide +kernel
theorem d_Fb_checkFreeBlocks_6 : decode c_Fb_checkFreeBlocks 6 = .ok (.iload_n 3, 1) := by decide +kernel
theorem d_Fb_checkFreeBlocks_7 : decode c_Fb_checkFreeBlocks 7 = .ok (.invokevirtual 193, 3) := by decide +kernel
theorem d_Fb_checkFreeBlocks_10 : decode c_Fb_checkFreeBlocks 10 = .ok (.aload_n 0, 1) := by decide +kernel
theorem d_Fb_checkFreeBlocks_11 : decode c_Fb_checkFreeBlocks 11 = .ok (.getfield 19, 3) := by decide +kernel
theorem d_Fb_checkFreeBlocks_14 : decode c_Fb_checkFreeBlocks 14 = .ok (.invokevirtual 76, 3) := by decide +kernel
theorem d_Fb_checkFreeBlocks_17 : decode c_Fb_checkFreeBlocks 17 = .ok (.if_icmp .le 13, 3) := by decide +kernel
theorem d_Fb_checkFreeBlocks_20 : decode c_Fb_checkFreeBlocks 20 = .ok (.new 61, 3) := by decide +kernel
theorem d_Fb_checkFreeBlocks_23 : decode c_Fb_checkFreeBlocks 23 = .ok (.dup, 1) := by decide +kernel
theorem d_Fb_checkFreeBlocks_24 : decode c_Fb_checkFreeBlocks 24 = .ok (.ldc 197, 2) := by decide +kernel
theorem d_Fb_checkFreeBlocks_26 : decode c_Fb_checkFreeBlocks 26 = .ok (.invokespecial 65, 3) := by decide +kernel
theorem d_Fb_checkFreeBlocks_29 : decode c_Fb_checkFreeBlocks 29 = .ok (.athrow, 1) := by decide +kernel
theorem d_Fb_checkFreeBlocks_30 : decode c_Fb_checkFreeBlocks 30 = .ok (.return_, 1) := by decide +kernel
theorem d_Bo_blocksWanted_0 : decode c_Bo_blocksWanted 0 = .ok (.iconst 0, 1) := by decide +kernel
theorem d_Bo_blocksWanted_1 : decode c_Bo_blocksWanted 1 = .ok (.istore 4, 2) := by decide +kernel
theorem d_Bo_blocksWanted_3 : decode c_Bo_blocksWanted 3 = .ok (.iload_n 2, 1) := by decide +kernel
theorem d_Bo_blocksWanted_4 : decode c_Bo_blocksWanted 4 = .ok (.sipush 1024, 3) := by decide +kernel
theorem d_Bo_blocksWanted_7 : decode c_Bo_blocksWanted 7 = .ok (.idiv, 1) := by decide +kernel
theorem d_Bo_blocksWanted_8 : decode c_Bo_blocksWanted 8 = .ok (.istore 5, 2) := by decide +kernel
theorem d_Bo_blocksWanted_10 : decode c_Bo_blocksWanted 10 = .ok (.iload 5, 2) := by decide +kernel
theorem d_Bo_blocksWanted_12 : decode c_Bo_blocksWanted 12 = .ok (.iload_n 2, 1) := by decide +kernel
theorem d_Bo_blocksWanted_13 : decode c_Bo_blocksWanted 13 = .ok (.iload_n 3, 1) := by decide +kernel
theorem d_Bo_blocksWanted_14 : decode c_Bo_blocksWanted 14 = .ok (.invokestatic 49, 3) := by decide +kernel
theorem d_Bo_blocksWanted_17 : decode c_Bo_blocksWanted 17 = .ok (.if_icmp .gt 25, 3) := by decide +kernel
theorem d_Bo_blocksWanted_20 : decode c_Bo_blocksWanted 20 = .ok (.aload_n 0, 1) := by decide +kernel
theorem d_Bo_blocksWanted_21 : decode c_Bo_blocksWanted 21 = .ok (.getfield 15, 3) := by decide +kernel
theorem d_Bo_blocksWanted_24 : decode c_Bo_blocksWanted 24 = .ok (.iload_n 1, 1) := by decide +kernel
theorem d_Bo_blocksWanted_25 : decode c_Bo_blocksWanted 25 = .ok (.iload 5, 2) := by decide +kernel
theorem d_Bo_blocksWanted_27 : decode c_Bo_blocksWanted 27 = .ok (.invokevirtual 29, 3) := by decide +kernel
theorem d_Bo_blocksWanted_30 : decode c_Bo_blocksWanted 30 = .ok (.ifCond .ne 6, 3) := by decide +kernel
theorem d_Bo_blocksWanted_33 : decode c_Bo_blocksWanted 33 = .ok (.iinc 4 1, 3) := by decide +kernel
theorem d_Bo_blocksWanted_36 : decode c_Bo_blocksWanted 36 = .ok (.iinc 5 1, 3) := by decide +kernel
theorem d_Bo_blocksWanted_39 : decode c_Bo_blocksWanted 39 = .ok (.goto (-29), 3) := by decide +kernel
theorem d_Bo_blocksWanted_42 : decode c_Bo_blocksWanted 42 = .ok (.iload 4, 2) := by decide +kernel
theorem d_Bo_blocksWanted_44 : decode c_Bo_blocksWanted 44 = .ok (.ireturn, 1) := by decide +kernel
theorem d_Bo_lastPiece_0 : decode c_Bo_lastPiece 0 = .ok (.iload_n 0, 1) := by decide +kernel
theorem d_Bo_lastPiece_1 : decode c_Bo_lastPiece 1 = .ok (.iload_n 1, 1) := by decide +kernel
theorem d_Bo_lastPiece_2 : decode c_Bo_lastPiece 2 = .ok (.iadd, 1) := by decide +kernel
theorem d_Bo_lastPiece_3 : decode c_Bo_lastPiece 3 = .ok (.iconst 1, 1) := by decide +kernel
theorem d_Bo_lastPiece_4 : decode c_Bo_lastPiece 4 = .ok (.isub, 1) := by decide +kernel
theorem d_Bo_lastPiece_5 : decode c_Bo_lastPiece 5 = .ok (.sipush 1024, 3) := by decide +kernel
theorem d_Bo_lastPiece_8 : decode c_Bo_lastPiece 8 = .ok (.idiv, 1) := by decide +kernel
theorem d_Bo_lastPiece_9 : decode c_Bo_lastPiece 9 = .ok (.ireturn, 1) := by decide +kernel
theorem d_Bo_prepare_0 : decode c_Bo_prepare 0 = .ok (.iload_n 2, 1) := by decide +kernel
theorem d_Bo_prepare_1 : decode c_Bo_prepare 1 = .ok (.sipush 1024, 3) := by decide +kernel
theorem d_Bo_prepare_4 : decode c_Bo_prepare 4 = .ok (.idiv, 1) := by decide +kernel
theorem d_Bo_prepare_5 : decode c_Bo_prepare 5 = .ok (.istore 4, 2) := by decide +kernel
theorem d_Bo_prepare_7 : decode c_Bo_prepare 7 = .ok (.iload 4, 2) := by decide +kernel
theorem d_Bo_prepare_9 : decode c_Bo_prepare 9 = .ok (.iload_n 2, 1) := by decide +kernel
theorem d_Bo_prepare_10 : decode c_Bo_prepare 10 = .ok (.iload_n 3, 1) := by decide +kernel
theorem d_Bo_prepare_11 : decode c_Bo_prepare 11 = .ok (.invokestatic 49, 3) := by decide +kernel
theorem d_Bo_prepare_14 : decode c_Bo_prepare 14 = .ok (.if_icmp .gt 29, 3) := by decide +kernel
theorem d_Bo_prepare_17 : decode c_Bo_prepare 17 = .ok (.aload_n 0, 1) := by decide +kernel
theorem d_Bo_prepare_18 : decode c_Bo_prepare 18 = .ok (.getfield 15, 3) := by decide +kernel
theorem d_Bo_prepare_21 : decode c_Bo_prepare 21 = .ok (.iload_n 1, 1) := by decide +kernel
theorem d_Bo_prepare_22 : decode c_Bo_prepare 22 = .ok (.iload 4, 2) := by decide +kernel
theorem d_Bo_prepare_24 : decode c_Bo_prepare 24 = .ok (.invokevirtual 29, 3) := by decide +kernel
theorem d_Bo_prepare_27 : decode c_Bo_prepare 27 = .ok (.ifCond .ne 10, 3) := by decide +kernel
theorem d_Bo_prepare_30 : decode c_Bo_prepare 30 = .ok (.aload_n 0, 1) := by decide +kernel
theorem d_Bo_prepare_31 : decode c_Bo_prepare 31 = .ok (.iload_n 1, 1) := by decide +kernel
theorem d_Bo_prepare_32 : decode c_Bo_prepare 32 = .ok (.iload 4, 2) := by decide +kernel
theorem d_Bo_prepare_34 : decode c_Bo_prepare 34 = .ok (.invokevirtual 42, 3) := by decide +kernel
theorem d_Bo_prepare_37 : decode c_Bo_prepare 37 = .ok (.iinc 4 1, 3) := by decide +kernel
theorem d_Bo_prepare_40 : decode c_Bo_prepare 40 = .ok (.goto (-33), 3) := by decide +kernel
theorem d_Bo_prepare_43 : decode c_Bo_prepare 43 = .ok (.aload_n 0, 1) := by decide +kernel
theorem d_Bo_prepare_44 : decode c_Bo_prepare 44 = .ok (.getfield 15, 3) := by decide +kernel
theorem d_Bo_prepare_47 : decode c_Bo_prepare 47 = .ok (.iload_n 1, 1) := by decide +kernel
theorem d_Bo_prepare_48 : decode c_Bo_prepare 48 = .ok (.aload_n 0, 1) := by decide +kernel
theorem d_Bo_prepare_49 : decode c_Bo_prepare 49 = .ok (.getfield 15, 3) := by decide +kernel
theorem d_Bo_prepare_52 : decode c_Bo_prepare 52 = .ok (.iload_n 1, 1) := by decide +kernel
theorem d_Bo_prepare_53 : decode c_Bo_prepare 53 = .ok (.invokevirtual 52, 3) := by decide +kernel
theorem d_Bo_prepare_56 : decode c_Bo_prepare 56 = .ok (.iload_n 2, 1) := by decide +kernel
theorem d_Bo_prepare_57 : decode c_Bo_prepare 57 = .ok (.iload_n 3, 1) := by decide +kernel
theorem d_Bo_prepare_58 : decode c_Bo_prepare 58 = .ok (.iadd, 1) := by decide +kernel
theorem d_Bo_prepare_59 : decode c_Bo_prepare 59 = .ok (.invokestatic 56, 3) := by decide +kernel
theorem d_Bo_prepare_62 : decode c_Bo_prepare 62 = .ok (.invokevirtual 61, 3) := by decide +kernel
theorem d_Bo_prepare_65 : decode c_Bo_prepare 65 = .ok (.return_, 1) := by decide +kernel
theorem d_Bo_setBytes_0 : decode c_Bo_setBytes 0 = .ok (.lload_n 3, 1) := by decide +kernel
theorem d_Bo_setBytes_1 : decode c_Bo_setBytes 1 = .ok (.lstore 6, 2) := by decide +kernel
theorem d_Bo_setBytes_3 : decode c_Bo_setBytes 3 = .ok (.iload_n 2, 1) := by decide +kernel
theorem d_Bo_setBytes_4 : decode c_Bo_setBytes 4 = .ok (.iload 5, 2) := by decide +kernel
theorem d_Bo_setBytes_6 : decode c_Bo_setBytes 6 = .ok (.iadd, 1) := by decide +kernel
theorem d_Bo_setBytes_7 : decode c_Bo_setBytes 7 = .ok (.iconst 1, 1) := by decide +kernel
theorem d_Bo_setBytes_8 : decode c_Bo_setBytes 8 = .ok (.isub, 1) := by decide +kernel
theorem d_Bo_setBytes_9 : decode c_Bo_setBytes 9 = .ok (.istore 8, 2) := by decide +kernel
theorem d_Bo_setBytes_11 : decode c_Bo_setBytes 11 = .ok (.iload 8, 2) := by decide +kernel
theorem d_Bo_setBytes_13 : decode c_Bo_setBytes 13 = .ok (.iload_n 2, 1) := by decide +kernel
theorem d_Bo_setBytes_14 : decode c_Bo_setBytes 14 = .ok (.if_icmp .lt 50, 3) := by decide +kernel
theorem d_Bo_setBytes_17 : decode c_Bo_setBytes 17 = .ok (.aload_n 0, 1) := by decide +kernel
theorem d_Bo_setBytes_18 : decode c_Bo_setBytes 18 = .ok (.getfield 15, 3) := by decide +kernel
theorem d_Bo_setBytes_21 : decode c_Bo_setBytes 21 = .ok (.iload_n 1, 1) := by decide +kernel
theorem d_Bo_setBytes_22 : decode c_Bo_setBytes 22 = .ok (.iload 8, 2) := by decide +kernel
theorem d_Bo_setBytes_24 : decode c_Bo_setBytes 24 = .ok (.sipush 1024, 3) := by decide +kernel
theorem d_Bo_setBytes_27 : decode c_Bo_setBytes 27 = .ok (.idiv, 1) := by decide +kernel
theorem d_Bo_setBytes_28 : decode c_Bo_setBytes 28 = .ok (.invokevirtual 29, 3) := by decide +kernel
theorem d_Bo_setBytes_31 : decode c_Bo_setBytes 31 = .ok (.istore 9, 2) := by decide +kernel
theorem d_Bo_setBytes_33 : decode c_Bo_setBytes 33 = .ok (.aload_n 0, 1) := by decide +kernel
theorem d_Bo_setBytes_34 : decode c_Bo_setBytes 34 = .ok (.getfield 9, 3) := by decide +kernel
theorem d_Bo_setBytes_37 : decode c_Bo_setBytes 37 = .ok (.iload 9, 2) := by decide +kernel
theorem d_Bo_setBytes_39 : decode c_Bo_setBytes 39 = .ok (.iload 8, 2) := by decide +kernel
theorem d_Bo_setBytes_41 : decode c_Bo_setBytes 41 = .ok (.sipush 1024, 3) := by decide +kernel
theorem d_Bo_setBytes_44 : decode c_Bo_setBytes 44 = .ok (.irem, 1) := by decide +kernel
theorem d_Bo_setBytes_45 : decode c_Bo_setBytes 45 = .ok (.lload 6, 2) := by decide +kernel
theorem d_Bo_setBytes_47 : decode c_Bo_setBytes 47 = .ok (.l2i, 1) := by decide +kernel
theorem d_Bo_setBytes_48 : decode c_Bo_setBytes 48 = .ok (.invokevirtual 46, 3) := by decide +kernel
theorem d_Bo_setBytes_51 : decode c_Bo_setBytes 51 = .ok (.lload 6, 2) := by decide +kernel
theorem d_Bo_setBytes_53 : decode c_Bo_setBytes 53 = .ok (.bipush 8, 2) := by decide +kernel
theorem d_Bo_setBytes_55 : decode c_Bo_setBytes 55 = .ok (.lushr, 1) := by decide +kernel
theorem d_Bo_setBytes_56 : decode c_Bo_setBytes 56 = .ok (.lstore 6, 2) := by decide +kernel
theorem d_Bo_setBytes_58 : decode c_Bo_setBytes 58 = .ok (.iinc 8 (-1), 3) := by decide +kernel
theorem d_Bo_setBytes_61 : decode c_Bo_setBytes 61 = .ok (.goto (-50), 3) := by decide +kernel
theorem d_Bo_setBytes_64 : decode c_Bo_setBytes 64 = .ok (.return_, 1) := by decide +kernel
theorem d_Fb_paint_0 : decode c_Fb_paint 0 = .ok (.aload_n 0, 1) := by decide +kernel
theorem d_Fb_paint_1 : decode c_Fb_paint 1 = .ok (.iload_n 1, 1) := by decide +kernel
theorem d_Fb_paint_2 : decode c_Fb_paint 2 = .ok (.iload_n 2, 1) := by decide +kernel
theorem d_Fb_paint_3 : decode c_Fb_paint 3 = .ok (.iload_n 3, 1) := by decide +kernel
theorem d_Fb_paint_4 : decode c_Fb_paint 4 = .ok (.sipush 4000, 3) := by decide +kernel
theorem d_Fb_paint_7 : decode c_Fb_paint 7 = .ok (.invokevirtual 88, 3) := by decide +kernel
theorem d_Fb_paint_10 : decode c_Fb_paint 10 = .ok (.aload_n 0, 1) := by decide +kernel
theorem d_Fb_paint_11 : decode c_Fb_paint 11 = .ok (.iload_n 1, 1) := by decide +kernel
theorem d_Fb_paint_12 : decode c_Fb_paint 12 = .ok (.iload_n 2, 1) := by decide +kernel
theorem d_Fb_paint_13 : decode c_Fb_paint 13 = .ok (.iload_n 3, 1) := by decide +kernel
theorem d_Fb_paint_14 : decode c_Fb_paint 14 = .ok (.invokevirtual 92, 3) := by decide +kernel
theorem d_Fb_paint_17 : decode c_Fb_paint 17 = .ok (.aload_n 0, 1) := by decide +kernel
theorem d_Fb_paint_18 : decode c_Fb_paint 18 = .ok (.getfield 46, 3) := by decide +kernel
theorem d_Fb_paint_21 : decode c_Fb_paint 21 = .ok (.iload_n 1, 1) := by decide +kernel
theorem d_Fb_paint_22 : decode c_Fb_paint 22 = .ok (.iload_n 2, 1) := by decide +kernel
theorem d_Fb_paint_23 : decode c_Fb_paint 23 = .ok (.iload_n 3, 1) := by decide +kernel
theorem d_Fb_paint_24 : decode c_Fb_paint 24 = .ok (.invokevirtual 95, 3) := by decide +kernel
theorem d_Fb_paint_27 : decode c_Fb_paint 27 = .ok (.aload_n 0, 1) := by decide +kernel
theorem d_Fb_paint_28 : decode c_Fb_paint 28 = .ok (.getfield 46, 3) := by decide +kernel
theorem d_Fb_paint_31 : decode c_Fb_paint 31 = .ok (.iload_n 1, 1) := by decide +kernel
theorem d_Fb_paint_32 : decode c_Fb_paint 32 = .ok (.iload_n 2, 1) := by decide +kernel
theorem d_Fb_paint_33 : decode c_Fb_paint 33 = .ok (.iload_n 3, 1) := by decide +kernel
theorem d_Fb_paint_34 : decode c_Fb_paint 34 = .ok (.iload 4, 2) := by decide +kernel
theorem d_Fb_paint_36 : decode c_Fb_paint 36 = .ok (.invokevirtual 106, 3) := by decide +kernel
theorem d_Fb_paint_39 : decode c_Fb_paint 39 = .ok (.aload_n 0, 1) := by decide +kernel
theorem d_Fb_paint_40 : decode c_Fb_paint 40 = .ok (.getfield 28, 3) := by decide +kernel
theorem d_Fb_paint_43 : decode c_Fb_paint 43 = .ok (.iload_n 1, 1) := by decide +kernel
theorem d_Fb_paint_44 : decode c_Fb_paint 44 = .ok (.invokevirtual 102, 3) := by decide +kernel
theorem d_Fb_paint_47 : decode c_Fb_paint 47 = .ok (.ireturn, 1) := by decide +kernel
theorem d_Bo_setPattern_0 : decode c_Bo_setPattern 0 = .ok (.iload_n 2, 1) := by decide +kernel
theorem d_Bo_setPattern_1 : decode c_Bo_setPattern 1 = .ok (.sipush 1024, 3) := by decide +kernel
theorem d_Bo_setPattern_4 : decode c_Bo_setPattern 4 = .ok (.idiv, 1) := by decide +kernel
theorem d_Bo_setPattern_5 : decode c_Bo_setPattern 5 = .ok (.istore 5, 2) := by decide +kernel
theorem d_Bo_setPattern_7 : decode c_Bo_setPattern 7 = .ok (.iload 5, 2) := by decide +kernel
theorem d_Bo_setPattern_9 : decode c_Bo_setPattern 9 = .ok (.iload_n 2, 1) := by decide +kernel
theorem d_Bo_setPattern_10 : decode c_Bo_setPattern 10 = .ok (.iload_n 3, 1) := by decide +kernel
theorem d_Bo_setPattern_11 : decode c_Bo_setPattern 11 = .ok (.invokestatic 49, 3) := by decide +kernel
theorem d_Bo_setPattern_14 : decode c_Bo_setPattern 14 = .ok (.if_icmp .gt 79, 3) := by decide +kernel
theorem d_Bo_setPattern_17 : decode c_Bo_setPattern 17 = .ok (.iload 5, 2) := by decide +kernel
theorem d_Bo_setPattern_19 : decode c_Bo_setPattern 19 = .ok (.sipush 1024, 3) := by decide +kernel
theorem d_Bo_setPattern_22 : decode c_Bo_setPattern 22 = .ok (.imul, 1) := by decide +kernel
theorem d_Bo_setPattern_23 : decode c_Bo_setPattern 23 = .ok (.istore 6, 2) := by decide +kernel
theorem d_Bo_setPattern_25 : decode c_Bo_setPattern 25 = .ok (.iload_n 2, 1) := by decide +kernel
theorem d_Bo_setPattern_26 : decode c_Bo_setPattern 26 = .ok (.iload 6, 2) := by decide +kernel
theorem d_Bo_setPattern_28 : decode c_Bo_setPattern 28 = .ok (.isub, 1) := by decide +kernel
theorem d_Bo_setPattern_29 : decode c_Bo_setPattern 29 = .ok (.iconst 0, 1) := by decide +kernel
theorem d_Bo_setPattern_30 : decode c_Bo_setPattern 30 = .ok (.invokestatic 56, 3) := by decide +kernel
theorem d_Bo_setPattern_33 : decode c_Bo_setPattern 33 = .ok (.istore 7, 2) := by decide +kernel
theorem d_Bo_setPattern_35 : decode c_Bo_setPattern 35 = .ok (.iload_n 2, 1) := by decide +kernel
theorem d_Bo_setPattern_36 : decode c_Bo_setPattern 36 = .ok (.iload_n 3, 1) := by decide +kernel
theorem d_Bo_setPattern_37 : decode c_Bo_setPattern 37 = .ok (.iadd, 1) := by decide +kernel
theorem d_Bo_setPattern_38 : decode c_Bo_setPattern 38 = .ok (.iload 6, 2) := by decide +kernel
theorem d_Bo_setPattern_40 : decode c_Bo_setPattern 40 = .ok (.isub, 1) := by decide +kernel
theorem d_Bo_setPattern_41 : decode c_Bo_setPattern 41 = .ok (.sipush 1024, 3) := by decide +kernel
theorem d_Bo_setPattern_44 : decode c_Bo_setPattern 44 = .ok (.invokestatic 64, 3) := by decide +kernel
theorem d_Bo_setPattern_47 : decode c_Bo_setPattern 47 = .ok (.istore 8, 2) := by decide +kernel
theorem d_Bo_setPattern_49 : decode c_Bo_setPattern 49 = .ok (.iload 4, 2) := by decide +kernel
theorem d_Bo_setPattern_51 : decode c_Bo_setPattern 51 = .ok (.bipush 7, 2) := by decide +kernel
theorem d_Bo_setPattern_53 : decode c_Bo_setPattern 53 = .ok (.iload 6, 2) := by decide +kernel
theorem d_Bo_setPattern_55 : decode c_Bo_setPattern 55 = .ok (.iload 7, 2) := by decide +kernel
theorem d_Bo_setPattern_57 : decode c_Bo_setPattern 57 = .ok (.iadd, 1) := by decide +kernel
theorem d_Bo_setPattern_58 : decode c_Bo_setPattern 58 = .ok (.iload_n 2, 1) := by decide +kernel
theorem d_Bo_setPattern_59 : decode c_Bo_setPattern 59 = .ok (.isub, 1) := by decide +kernel
theorem d_Bo_setPattern_60 : decode c_Bo_setPattern 60 = .ok (.imul, 1) := by decide +kernel
theorem d_Bo_setPattern_61 : decode c_Bo_setPattern 61 = .ok (.iadd, 1) := by decide +kernel
theorem d_Bo_setPattern_62 : decode c_Bo_setPattern 62 = .ok (.istore 9, 2) := by decide +kernel
theorem d_Bo_setPattern_64 : decode c_Bo_setPattern 64 = .ok (.aload_n 0, 1) := by decide +kernel
theorem d_Bo_setPattern_65 : decode c_Bo_setPattern 65 = .ok (.getfield 9, 3) := by decide +kernel
theorem d_Bo_setPattern_68 : decode c_Bo_setPattern 68 = .ok (.aload_n 0, 1) := by decide +kernel
theorem d_Bo_setPattern_69 : decode c_Bo_setPattern 69 = .ok (.getfield 15, 3) := by decide +kernel
theorem d_Bo_setPattern_72 : decode c_Bo_setPattern 72 = .ok (.iload_n 1, 1) := by decide +kernel
theorem d_Bo_setPattern_73 : decode c_Bo_setPattern 73 = .ok (.iload 5, 2) := by decide +kernel
theorem d_Bo_setPattern_75 : decode c_Bo_setPattern 75 = .ok (.invokevirtual 29, 3) := by decide +kernel
theorem d_Bo_setPattern_78 : decode c_Bo_setPattern 78 = .ok (.iload 7, 2) := by decide +kernel
theorem d_Bo_setPattern_80 : decode c_Bo_setPattern 80 = .ok (.iload 8, 2) := by decide +kernel
theorem d_Bo_setPattern_82 : decode c_Bo_setPattern 82 = .ok (.iload 9, 2) := by decide +kernel
theorem d_Bo_setPattern_84 : decode c_Bo_setPattern 84 = .ok (.invokevirtual 67, 3) := by decide +kernel
theorem d_Bo_setPattern_87 : decode c_Bo_setPattern 87 = .ok (.iinc 5 1, 3) := by decide +kernel
theorem d_Bo_setPattern_90 : decode c_Bo_setPattern 90 = .ok (.goto (-83), 3) := by decide +kernel
theorem d_Bo_setPattern_93 : decode c_Bo_setPattern 93 = .ok (.return_, 1) := by decide +kernel
theorem d_Fb_read_0 : decode c_Fb_read 0 = .ok (.aload_n 0, 1) := by decide +kernel
theorem d_Fb_read_1 : decode c_Fb_read 1 = .ok (.iload_n 1, 1) := by decide +kernel
theorem d_Fb_read_2 : decode c_Fb_read 2 = .ok (.invokevirtual 109, 3) := by decide +kernel
theorem d_Fb_read_5 : decode c_Fb_read 5 = .ok (.iload_n 2, 1) := by decide +kernel
theorem d_Fb_read_6 : decode c_Fb_read 6 = .ok (.ifCond .lt 15, 3) := by decide +kernel
theorem d_Fb_read_9 : decode c_Fb_read 9 = .ok (.iload_n 2, 1) := by decide +kernel
theorem d_Fb_read_10 : decode c_Fb_read 10 = .ok (.aload_n 0, 1) := by decide +kernel
theorem d_Fb_read_11 : decode c_Fb_read 11 = .ok (.getfield 28, 3) := by decide +kernel
theorem d_Fb_read_14 : decode c_Fb_read 14 = .ok (.iload_n 1, 1) := by decide +kernel
theorem d_Fb_read_15 : decode c_Fb_read 15 = .ok (.invokevirtual 102, 3) := by decide +kernel
theorem d_Fb_read_18 : decode c_Fb_read 18 = .ok (.if_icmp .lt 13, 3) := by decide +kernel
theorem d_Fb_read_21 : decode c_Fb_read 21 = .ok (.new 112, 3) := by decide +kernel
theorem d_Fb_read_24 : decode c_Fb_read 24 = .ok (.dup, 1) := by decide +kernel
theorem d_Fb_read_25 : decode c_Fb_read 25 = .ok (.ldc 114, 2) := by decide +kernel
theorem d_Fb_read_27 : decode c_Fb_read 27 = .ok (.invokespecial 116, 3) := by decide +kernel
theorem d_Fb_read_30 : decode c_Fb_read 30 = .ok (.athrow, 1) := by decide +kernel
theorem d_Fb_read_31 : decode c_Fb_read 31 = .ok (.aload_n 0, 1) := by decide +kernel
theorem d_Fb_read_32 : decode c_Fb_read 32 = .ok (.getfield 46, 3) := by decide +kernel
theorem d_Fb_read_35 : decode c_Fb_read 35 = .ok (.iload_n 1, 1) := by decide +kernel
theorem d_Fb_read_36 : decode c_Fb_read 36 = .ok (.iload_n 2, 1) := by decide +kernel
theorem d_Fb_read_37 : decode c_Fb_read 37 = .ok (.invokevirtual 117, 3) := by decide +kernel
theorem d_Fb_read_40 : decode c_Fb_read 40 = .ok (.ireturn, 1) := by decide +kernel
theorem d_Fb_checkThere_0 : decode c_Fb_checkThere 0 = .ok (.aload_n 0, 1) := by decide +kernel
theorem d_Fb_checkThere_1 : decode c_Fb_checkThere 1 = .ok (.getfield 28, 3) := by decide +kernel
theorem d_Fb_checkThere_4 : decode c_Fb_checkThere 4 = .ok (.iload_n 1, 1) := by decide +kernel
theorem d_Fb_checkThere_5 : decode c_Fb_checkThere 5 = .ok (.invokevirtual 154, 3) := by decide +kernel
theorem d_Fb_checkThere_8 : decode c_Fb_checkThere 8 = .ok (.ifCond .ne 13, 3) := by decide +kernel
theorem d_Fb_checkThere_11 : decode c_Fb_checkThere 11 = .ok (.new 50, 3) := by decide +kernel
theorem d_Fb_checkThere_14 : decode c_Fb_checkThere 14 = .ok (.dup, 1) := by decide +kernel
theorem d_Fb_checkThere_15 : decode c_Fb_checkThere 15 = .ok (.ldc 185, 2) := by decide +kernel
theorem d_Fb_checkThere_17 : decode c_Fb_checkThere 17 = .ok (.invokespecial 54, 3) := by decide +kernel
theorem d_Fb_checkThere_20 : decode c_Fb_checkThere 20 = .ok (.athrow, 1) := by decide +kernel
theorem d_Fb_checkThere_21 : decode c_Fb_checkThere 21 = .ok (.return_, 1) := by decide +kernel
theorem d_Bo_byteAt_0 : decode c_Bo_byteAt 0 = .ok (.aload_n 0, 1) := by decide +kernel
theorem d_Bo_byteAt_1 : decode c_Bo_byteAt 1 = .ok (.getfield 15, 3) := by decide +kernel
theorem d_Bo_byteAt_4 : decode c_Bo_byteAt 4 = .ok (.iload_n 1, 1) := by decide +kernel
theorem d_Bo_byteAt_5 : decode c_Bo_byteAt 5 = .ok (.invokevirtual 19, 3) := by decide +kernel
theorem d_Bo_byteAt_8 : decode c_Bo_byteAt 8 = .ok (.ifCond .eq 13, 3) := by decide +kernel
theorem d_Bo_byteAt_11 : decode c_Bo_byteAt 11 = .ok (.aload_n 0, 1) := by decide +kernel
theorem d_Bo_byteAt_12 : decode c_Bo_byteAt 12 = .ok (.getfield 15, 3) := by decide +kernel
theorem d_Bo_byteAt_15 : decode c_Bo_byteAt 15 = .ok (.iload_n 1, 1) := by decide +kernel
theorem d_Bo_byteAt_16 : decode c_Bo_byteAt 16 = .ok (.iload_n 2, 1) := by decide +kernel
theorem d_Bo_byteAt_17 : decode c_Bo_byteAt 17 = .ok (.invokevirtual 25, 3) := by decide +kernel
theorem d_Bo_byteAt_20 : decode c_Bo_byteAt 20 = .ok (.ireturn, 1) := by decide +kernel
theorem d_Bo_byteAt_21 : decode c_Bo_byteAt 21 = .ok (.aload_n 0, 1) := by decide +kernel
theorem d_Bo_byteAt_22 : decode c_Bo_byteAt 22 = .ok (.getfield 15, 3) := by decide +kernel
theorem d_Bo_byteAt_25 : decode c_Bo_byteAt 25 = .ok (.iload_n 1, 1) := by decide +kernel
theorem d_Bo_byteAt_26 : decode c_Bo_byteAt 26 = .ok (.iload_n 2, 1) := by decide +kernel
theorem d_Bo_byteAt_27 : decode c_Bo_byteAt 27 = .ok (.sipush 1024, 3) := by decide +kernel
theorem d_Bo_byteAt_30 : decode c_Bo_byteAt 30 = .ok (.idiv, 1) := by decide +kernel
theorem d_Bo_byteAt_31 : decode c_Bo_byteAt 31 = .ok (.invokevirtual 29, 3) := by decide +kernel
theorem d_Bo_byteAt_34 : decode c_Bo_byteAt 34 = .ok (.istore_n 3, 1) := by decide +kernel
theorem d_Bo_byteAt_35 : decode c_Bo_byteAt 35 = .ok (.iload_n 3, 1) := by decide +kernel
theorem d_Bo_byteAt_36 : decode c_Bo_byteAt 36 = .ok (.ifCond .ne 7, 3) := by decide +kernel
theorem d_Bo_byteAt_39 : decode c_Bo_byteAt 39 = .ok (.iconst 0, 1) := by decide +kernel
theorem d_Bo_byteAt_40 : decode c_Bo_byteAt 40 = .ok (.goto 16, 3) := by decide +kernel
theorem d_Bo_byteAt_43 : decode c_Bo_byteAt 43 = .ok (.aload_n 0, 1) := by decide +kernel
theorem d_Bo_byteAt_44 : decode c_Bo_byteAt 44 = .ok (.getfield 9, 3) := by decide +kernel
theorem d_Bo_byteAt_47 : decode c_Bo_byteAt 47 = .ok (.iload_n 3, 1) := by decide +kernel
theorem d_Bo_byteAt_48 : decode c_Bo_byteAt 48 = .ok (.iload_n 2, 1) := by decide +kernel
theorem d_Bo_byteAt_49 : decode c_Bo_byteAt 49 = .ok (.sipush 1024, 3) := by decide +kernel
theorem d_Bo_byteAt_52 : decode c_Bo_byteAt 52 = .ok (.irem, 1) := by decide +kernel
theorem d_Bo_byteAt_53 : decode c_Bo_byteAt 53 = .ok (.invokevirtual 32, 3) := by decide +kernel
theorem d_Bo_byteAt_56 : decode c_Bo_byteAt 56 = .ok (.ireturn, 1) := by decide +kernel
theorem d_Fb_cut_0 : decode c_Fb_cut 0 = .ok (.aload_n 0, 1) := by decide +kernel
theorem d_Fb_cut_1 : decode c_Fb_cut 1 = .ok (.iload_n 1, 1) := by decide +kernel
theorem d_Fb_cut_2 : decode c_Fb_cut 2 = .ok (.invokevirtual 121, 3) := by decide +kernel
theorem d_Fb_cut_5 : decode c_Fb_cut 5 = .ok (.iload_n 2, 1) := by decide +kernel
theorem d_Fb_cut_6 : decode c_Fb_cut 6 = .ok (.ifCond .lt 10, 3) := by decide +kernel
theorem d_Fb_cut_9 : decode c_Fb_cut 9 = .ok (.iload_n 2, 1) := by decide +kernel
theorem d_Fb_cut_10 : decode c_Fb_cut 10 = .ok (.sipush 15360, 3) := by decide +kernel
theorem d_Fb_cut_13 : decode c_Fb_cut 13 = .ok (.if_icmp .le 13, 3) := by decide +kernel
theorem d_Fb_cut_16 : decode c_Fb_cut 16 = .ok (.new 50, 3) := by decide +kernel
theorem d_Fb_cut_19 : decode c_Fb_cut 19 = .ok (.dup, 1) := by decide +kernel
theorem d_Fb_cut_20 : decode c_Fb_cut 20 = .ok (.ldc 124, 2) := by decide +kernel
theorem d_Fb_cut_22 : decode c_Fb_cut 22 = .ok (.invokespecial 54, 3) := by decide +kernel
theorem d_Fb_cut_25 : decode c_Fb_cut 25 = .ok (.athrow, 1) := by decide +kernel
theorem d_Fb_cut_26 : decode c_Fb_cut 26 = .ok (.aload_n 0, 1) := by decide +kernel
theorem d_Fb_cut_27 : decode c_Fb_cut 27 = .ok (.getfield 28, 3) := by decide +kernel
theorem d_Fb_cut_30 : decode c_Fb_cut 30 = .ok (.iload_n 1, 1) := by decide +kernel
theorem d_Fb_cut_31 : decode c_Fb_cut 31 = .ok (.invokevirtual 102, 3) := by decide +kernel
theorem d_Fb_cut_34 : decode c_Fb_cut 34 = .ok (.istore_n 3, 1) := by decide +kernel
theorem d_Fb_cut_35 : decode c_Fb_cut 35 = .ok (.aload_n 0, 1) := by decide +kernel
theorem d_Fb_cut_36 : decode c_Fb_cut 36 = .ok (.getfield 46, 3) := by decide +kernel
theorem d_Fb_cut_39 : decode c_Fb_cut 39 = .ok (.iload_n 1, 1) := by decide +kernel
theorem d_Fb_cut_40 : decode c_Fb_cut 40 = .ok (.iload_n 2, 1) := by decide +kernel
theorem d_Fb_cut_41 : decode c_Fb_cut 41 = .ok (.invokevirtual 126, 3) := by decide +kernel
theorem d_Fb_cut_44 : decode c_Fb_cut 44 = .ok (.iload_n 3, 1) := by decide +kernel
theorem d_Fb_cut_45 : decode c_Fb_cut 45 = .ok (.ireturn, 1) := by decide +kernel
theorem d_Bo_resize_0 : decode c_Bo_resize 0 = .ok (.iload_n 2, 1) := by decide +kernel
theorem d_Bo_resize_1 : decode c_Bo_resize 1 = .ok (.sipush 1024, 3) := by decide +kernel
theorem d_Bo_resize_4 : decode c_Bo_resize 4 = .ok (.idiv, 1) := by decide +kernel
theorem d_Bo_resize_5 : decode c_Bo_resize 5 = .ok (.istore_n 3, 1) := by decide +kernel
theorem d_Bo_resize_6 : decode c_Bo_resize 6 = .ok (.iload_n 2, 1) := by decide +kernel
theorem d_Bo_resize_7 : decode c_Bo_resize 7 = .ok (.sipush 1024, 3) := by decide +kernel
theorem d_Bo_resize_10 : decode c_Bo_resize 10 = .ok (.irem, 1) := by decide +kernel
theorem d_Bo_resize_11 : decode c_Bo_resize 11 = .ok (.istore 4, 2) := by decide +kernel
theorem d_Bo_resize_13 : decode c_Bo_resize 13 = .ok (.aload_n 0, 1) := by decide +kernel
theorem d_Bo_resize_14 : decode c_Bo_resize 14 = .ok (.iload_n 1, 1) := by decide +kernel
theorem d_Bo_resize_15 : decode c_Bo_resize 15 = .ok (.iload 4, 2) := by decide +kernel
theorem d_Bo_resize_17 : decode c_Bo_resize 17 = .ok (.ifCond .ne 7, 3) := by decide +kernel
theorem d_Bo_resize_20 : decode c_Bo_resize 20 = .ok (.iload_n 3, 1) := by decide +kernel
theorem d_Bo_resize_21 : decode c_Bo_resize 21 = .ok (.goto 6, 3) := by decide +kernel
theorem d_Bo_resize_24 : decode c_Bo_resize 24 = .ok (.iload_n 3, 1) := by decide +kernel
theorem d_Bo_resize_25 : decode c_Bo_resize 25 = .ok (.iconst 1, 1) := by decide +kernel
theorem d_Bo_resize_26 : decode c_Bo_resize 26 = .ok (.iadd, 1) := by decide +kernel
theorem d_Bo_resize_27 : decode c_Bo_resize 27 = .ok (.invokevirtual 71, 3) := by decide +kernel
theorem d_Bo_resize_30 : decode c_Bo_resize 30 = .ok (.aload_n 0, 1) := by decide +kernel
theorem d_Bo_resize_31 : decode c_Bo_resize 31 = .ok (.getfield 15, 3) := by decide +kernel
theorem d_Bo_resize_34 : decode c_Bo_resize 34 = .ok (.iload_n 1, 1) := by decide +kernel
theorem d_Bo_resize_35 : decode c_Bo_resize 35 = .ok (.iload_n 3, 1) := by decide +kernel
theorem d_Bo_resize_36 : decode c_Bo_resize 36 = .ok (.invokevirtual 29, 3) := by decide +kernel
theorem d_Bo_resize_39 : decode c_Bo_resize 39 = .ok (.istore 5, 2) := by decide +kernel
theorem d_Bo_resize_41 : decode c_Bo_resize 41 = .ok (.iload 5, 2) := by decide +kernel
theorem d_Bo_resize_43 : decode c_Bo_resize 43 = .ok (.ifCond .eq 17, 3) := by decide +kernel
theorem d_Bo_resize_46 : decode c_Bo_resize 46 = .ok (.aload_n 0, 1) := by decide +kernel
theorem d_Bo_resize_47 : decode c_Bo_resize 47 = .ok (.getfield 9, 3) := by decide +kernel
theorem d_Bo_resize_50 : decode c_Bo_resize 50 = .ok (.iload 5, 2) := by decide +kernel
theorem d_Bo_resize_52 : decode c_Bo_resize 52 = .ok (.iload 4, 2) := by decide +kernel
theorem d_Bo_resize_54 : decode c_Bo_resize 54 = .ok (.sipush 1024, 3) := by decide +kernel
theorem d_Bo_resize_57 : decode c_Bo_resize 57 = .ok (.invokevirtual 74, 3) := by decide +kernel
theorem d_Bo_resize_60 : decode c_Bo_resize 60 = .ok (.aload_n 0, 1) := by decide +kernel
theorem d_Bo_resize_61 : decode c_Bo_resize 61 = .ok (.getfield 15, 3) := by decide +kernel
theorem d_Bo_resize_64 : decode c_Bo_resize 64 = .ok (.iload_n 1, 1) := by decide +kernel
theorem d_Bo_resize_65 : decode c_Bo_resize 65 = .ok (.iload_n 2, 1) := by decide +kernel
theorem d_Bo_resize_66 : decode c_Bo_resize 66 = .ok (.invokevirtual 61, 3) := by decide +kernel
theorem d_Bo_resize_69 : decode c_Bo_resize 69 = .ok (.return_, 1) := by decide +kernel
theorem d_Fb_links_0 : decode c_Fb_links 0 = .ok (.aload_n 0, 1) := by decide +kernel
theorem d_Fb_links_1 : decode c_Fb_links 1 = .ok (.iload_n 1, 1) := by decide +kernel
theorem d_Fb_links_2 : decode c_Fb_links 2 = .ok (.invokevirtual 109, 3) := by decide +kernel
theorem d_Fb_links_5 : decode c_Fb_links 5 = .ok (.aload_n 0, 1) := by decide +kernel
theorem d_Fb_links_6 : decode c_Fb_links 6 = .ok (.getfield 28, 3) := by decide +kernel
theorem d_Fb_links_9 : decode c_Fb_links 9 = .ok (.iload_n 1, 1) := by decide +kernel
theorem d_Fb_links_10 : decode c_Fb_links 10 = .ok (.invokevirtual 129, 3) := by decide +kernel
theorem d_Fb_links_13 : decode c_Fb_links 13 = .ok (.istore_n 3, 1) := by decide +kernel
theorem d_Fb_links_14 : decode c_Fb_links 14 = .ok (.iload_n 2, 1) := by decide +kernel
theorem d_Fb_links_15 : decode c_Fb_links 15 = .ok (.iload_n 3, 1) := by decide +kernel
theorem d_Fb_links_16 : decode c_Fb_links 16 = .ok (.ineg, 1) := by decide +kernel
theorem d_Fb_links_17 : decode c_Fb_links 17 = .ok (.if_icmp .lt 12, 3) := by decide +kernel
theorem d_Fb_links_20 : decode c_Fb_links 20 = .ok (.iload_n 2, 1) := by decide +kernel
theorem d_Fb_links_21 : decode c_Fb_links 21 = .ok (.sipush 1000, 3) := by decide +kernel
theorem d_Fb_links_24 : decode c_Fb_links 24 = .ok (.iload_n 3, 1) := by decide +kernel
theorem d_Fb_links_25 : decode c_Fb_links 25 = .ok (.isub, 1) := by decide +kernel
theorem d_Fb_links_26 : decode c_Fb_links 26 = .ok (.if_icmp .le 13, 3) := by decide +kernel
theorem d_Fb_links_29 : decode c_Fb_links 29 = .ok (.new 50, 3) := by decide +kernel
theorem d_Fb_links_32 : decode c_Fb_links 32 = .ok (.dup, 1) := by decide +kernel
theorem d_Fb_links_33 : decode c_Fb_links 33 = .ok (.ldc 132, 2) := by decide +kernel
theorem d_Fb_links_35 : decode c_Fb_links 35 = .ok (.invokespecial 54, 3) := by decide +kernel
theorem d_Fb_links_38 : decode c_Fb_links 38 = .ok (.athrow, 1) := by decide +kernel
theorem d_Fb_links_39 : decode c_Fb_links 39 = .ok (.iload_n 3, 1) := by decide +kernel
theorem d_Fb_links_40 : decode c_Fb_links 40 = .ok (.iload_n 2, 1) := by decide +kernel
theorem d_Fb_links_41 : decode c_Fb_links 41 = .ok (.iadd, 1) := by decide +kernel
theorem d_Fb_links_42 : decode c_Fb_links 42 = .ok (.istore 4, 2) := by decide +kernel
theorem d_Fb_links_44 : decode c_Fb_links 44 = .ok (.aload_n 0, 1) := by decide +kernel
theorem d_Fb_links_45 : decode c_Fb_links 45 = .ok (.getfield 28, 3) := by decide +kernel
theorem d_Fb_links_48 : decode c_Fb_links 48 = .ok (.iload_n 1, 1) := by decide +kernel
theorem d_Fb_links_49 : decode c_Fb_links 49 = .ok (.iload 4, 2) := by decide +kernel
theorem d_Fb_links_51 : decode c_Fb_links 51 = .ok (.invokevirtual 134, 3) := by decide +kernel
theorem d_Fb_links_54 : decode c_Fb_links 54 = .ok (.iload_n 3, 1) := by decide +kernel
theorem d_Fb_links_55 : decode c_Fb_links 55 = .ok (.ifCond .eq 16, 3) := by decide +kernel
theorem d_Fb_links_58 : decode c_Fb_links 58 = .ok (.iload 4, 2) := by decide +kernel
theorem d_Fb_links_60 : decode c_Fb_links 60 = .ok (.ifCond .ne 11, 3) := by decide +kernel
theorem d_Fb_links_63 : decode c_Fb_links 63 = .ok (.aload_n 0, 1) := by decide +kernel
theorem d_Fb_links_64 : decode c_Fb_links 64 = .ok (.getfield 37, 3) := by decide +kernel
theorem d_Fb_links_67 : decode c_Fb_links 67 = .ok (.iload_n 1, 1) := by decide +kernel
theorem d_Fb_links_68 : decode c_Fb_links 68 = .ok (.invokevirtual 70, 3) := by decide +kernel
theorem d_Fb_links_71 : decode c_Fb_links 71 = .ok (.iload_n 3, 1) := by decide +kernel
theorem d_Fb_links_72 : decode c_Fb_links 72 = .ok (.ifCond .ne 16, 3) := by decide +kernel
theorem d_Fb_links_75 : decode c_Fb_links 75 = .ok (.iload 4, 2) := by decide +kernel
theorem d_Fb_links_77 : decode c_Fb_links 77 = .ok (.ifCond .eq 11, 3) := by decide +kernel
theorem d_Fb_links_80 : decode c_Fb_links 80 = .ok (.aload_n 0, 1) := by decide +kernel
theorem d_Fb_links_81 : decode c_Fb_links 81 = .ok (.getfield 37, 3) := by decide +kernel
theorem d_Fb_links_84 : decode c_Fb_links 84 = .ok (.iload_n 1, 1) := by decide +kernel
theorem d_Fb_links_85 : decode c_Fb_links 85 = .ok (.invokevirtual 137, 3) := by decide +kernel
theorem d_Fb_links_88 : decode c_Fb_links 88 = .ok (.iload 4, 2) := by decide +kernel
theorem d_Fb_links_90 : decode c_Fb_links 90 = .ok (.ireturn, 1) := by decide +kernel
theorem d_Fb_drop_0 : decode c_Fb_drop 0 = .ok (.aload_n 0, 1) := by decide +kernel
theorem d_Fb_drop_1 : decode c_Fb_drop 1 = .ok (.iload_n 1, 1) := by decide +kernel
theorem d_Fb_drop_2 : decode c_Fb_drop 2 = .ok (.invokevirtual 109, 3) := by decide +kernel
theorem d_Fb_drop_5 : decode c_Fb_drop 5 = .ok (.aload_n 0, 1) := by decide +kernel
theorem d_Fb_drop_6 : decode c_Fb_drop 6 = .ok (.getfield 28, 3) := by decide +kernel
theorem d_Fb_drop_9 : decode c_Fb_drop 9 = .ok (.iload_n 1, 1) := by decide +kernel
theorem d_Fb_drop_10 : decode c_Fb_drop 10 = .ok (.invokevirtual 129, 3) := by decide +kernel
theorem d_Fb_drop_13 : decode c_Fb_drop 13 = .ok (.ifCond .eq 13, 3) := by decide +kernel
theorem d_Fb_drop_16 : decode c_Fb_drop 16 = .ok (.new 61, 3) := by decide +kernel
theorem d_Fb_drop_19 : decode c_Fb_drop 19 = .ok (.dup, 1) := by decide +kernel
theorem d_Fb_drop_20 : decode c_Fb_drop 20 = .ok (.ldc 140, 2) := by decide +kernel
theorem d_Fb_drop_22 : decode c_Fb_drop 22 = .ok (.invokespecial 65, 3) := by decide +kernel
theorem d_Fb_drop_25 : decode c_Fb_drop 25 = .ok (.athrow, 1) := by decide +kernel
theorem d_Fb_drop_26 : decode c_Fb_drop 26 = .ok (.aload_n 0, 1) := by decide +kernel
theorem d_Fb_drop_27 : decode c_Fb_drop 27 = .ok (.iload_n 1, 1) := by decide +kernel
theorem d_Fb_drop_28 : decode c_Fb_drop 28 = .ok (.invokevirtual 142, 3) := by decide +kernel
theorem d_Fb_drop_31 : decode c_Fb_drop 31 = .ok (.ireturn, 1) := by decide +kernel
theorem d_Fb_about_0 : decode c_Fb_about 0 = .ok (.aload_n 0, 1) := by decide +kernel
theorem d_Fb_about_1 : decode c_Fb_about 1 = .ok (.getfield 28, 3) := by decide +kernel
theorem d_Fb_about_4 : decode c_Fb_about 4 = .ok (.iload_n 1, 1) := by decide +kernel
theorem d_Fb_about_5 : decode c_Fb_about 5 = .ok (.invokevirtual 148, 3) := by decide +kernel
theorem d_Fb_about_8 : decode c_Fb_about 8 = .ok (.ifCond .ne 13, 3) := by decide +kernel
theorem d_Fb_about_11 : decode c_Fb_about 11 = .ok (.new 50, 3) := by decide +kernel
theorem d_Fb_about_14 : decode c_Fb_about 14 = .ok (.dup, 1) := by decide +kernel
theorem d_Fb_about_15 : decode c_Fb_about 15 = .ok (.ldc 152, 2) := by decide +kernel
theorem d_Fb_about_17 : decode c_Fb_about 17 = .ok (.invokespecial 54, 3) := by decide +kernel
theorem d_Fb_about_20 : decode c_Fb_about 20 = .ok (.athrow, 1) := by decide +kernel
theorem d_Fb_about_21 : decode c_Fb_about 21 = .ok (.iload_n 2, 1) := by decide +kernel
theorem d_Fb_about_22 : decode c_Fb_about 22 = .ok (.tableswitch 93 0 5 #[38, 47, 56, 65, 74, 84], 38) := by decide +kernel
theorem d_Fb_about_60 : decode c_Fb_about 60 = .ok (.aload_n 0, 1) := by decide +kernel
theorem d_Fb_about_61 : decode c_Fb_about 61 = .ok (.getfield 28, 3) := by decide +kernel
theorem d_Fb_about_64 : decode c_Fb_about 64 = .ok (.iload_n 1, 1) := by decide +kernel
theorem d_Fb_about_65 : decode c_Fb_about 65 = .ok (.invokevirtual 154, 3) := by decide +kernel
theorem d_Fb_about_68 : decode c_Fb_about 68 = .ok (.ireturn, 1) := by decide +kernel
theorem d_Fb_about_69 : decode c_Fb_about 69 = .ok (.aload_n 0, 1) := by decide +kernel
theorem d_Fb_about_70 : decode c_Fb_about 70 = .ok (.getfield 28, 3) := by decide +kernel
theorem d_Fb_about_73 : decode c_Fb_about 73 = .ok (.iload_n 1, 1) := by decide +kernel
theorem d_Fb_about_74 : decode c_Fb_about 74 = .ok (.invokevirtual 129, 3) := by decide +kernel
theorem d_Fb_about_77 : decode c_Fb_about 77 = .ok (.ireturn, 1) := by decide +kernel
theorem d_Fb_about_78 : decode c_Fb_about 78 = .ok (.aload_n 0, 1) := by decide +kernel
theorem d_Fb_about_79 : decode c_Fb_about 79 = .ok (.getfield 28, 3) := by decide +kernel
theorem d_Fb_about_82 : decode c_Fb_about 82 = .ok (.iload_n 1, 1) := by decide +kernel
theorem d_Fb_about_83 : decode c_Fb_about 83 = .ok (.invokevirtual 102, 3) := by decide +kernel
theorem d_Fb_about_86 : decode c_Fb_about 86 = .ok (.ireturn, 1) := by decide +kernel
theorem d_Fb_about_87 : decode c_Fb_about 87 = .ok (.aload_n 0, 1) := by decide +kernel
theorem d_Fb_about_88 : decode c_Fb_about 88 = .ok (.getfield 28, 3) := by decide +kernel
theorem d_Fb_about_91 : decode c_Fb_about 91 = .ok (.iload_n 1, 1) := by decide +kernel
theorem d_Fb_about_92 : decode c_Fb_about 92 = .ok (.invokevirtual 157, 3) := by decide +kernel
theorem d_Fb_about_95 : decode c_Fb_about 95 = .ok (.ireturn, 1) := by decide +kernel
theorem d_Fb_about_96 : decode c_Fb_about 96 = .ok (.aload_n 0, 1) := by decide +kernel
theorem d_Fb_about_97 : decode c_Fb_about 97 = .ok (.getfield 28, 3) := by decide +kernel
theorem d_Fb_about_100 : decode c_Fb_about 100 = .ok (.iload_n 1, 1) := by decide +kernel
theorem d_Fb_about_101 : decode c_Fb_about 101 = .ok (.iconst 0, 1) := by decide +kernel
theorem d_Fb_about_102 : decode c_Fb_about 102 = .ok (.invokevirtual 160, 3) := by decide +kernel
theorem d_Fb_about_105 : decode c_Fb_about 105 = .ok (.ireturn, 1) := by decide +kernel
theorem d_Fb_about_106 : decode c_Fb_about 106 = .ok (.aload_n 0, 1) := by decide +kernel
theorem d_Fb_about_107 : decode c_Fb_about 107 = .ok (.getfield 28, 3) := by decide +kernel
theorem d_Fb_about_110 : decode c_Fb_about 110 = .ok (.iload_n 1, 1) := by decide +kernel
theorem d_Fb_about_111 : decode c_Fb_about 111 = .ok (.invokevirtual 163, 3) := by decide +kernel
theorem d_Fb_about_114 : decode c_Fb_about 114 = .ok (.ireturn, 1) := by decide +kernel
theorem d_Fb_about_115 : decode c_Fb_about 115 = .ok (.new 50, 3) := by decide +kernel
theorem d_Fb_about_118 : decode c_Fb_about 118 = .ok (.dup, 1) := by decide +kernel
theorem d_Fb_about_119 : decode c_Fb_about 119 = .ok (.ldc 166, 2) := by decide +kernel
theorem d_Fb_about_121 : decode c_Fb_about 121 = .ok (.invokespecial 54, 3) := by decide +kernel
theorem d_Fb_about_124 : decode c_Fb_about 124 = .ok (.athrow, 1) := by decide +kernel
theorem d_Fb_block_0 : decode c_Fb_block 0 = .ok (.aload_n 0, 1) := by decide +kernel
theorem d_Fb_block_1 : decode c_Fb_block 1 = .ok (.iload_n 1, 1) := by decide +kernel
theorem d_Fb_block_2 : decode c_Fb_block 2 = .ok (.invokevirtual 109, 3) := by decide +kernel
theorem d_Fb_block_5 : decode c_Fb_block 5 = .ok (.iload_n 2, 1) := by decide +kernel
theorem d_Fb_block_6 : decode c_Fb_block 6 = .ok (.ifCond .lt 9, 3) := by decide +kernel
theorem d_Fb_block_9 : decode c_Fb_block 9 = .ok (.iload_n 2, 1) := by decide +kernel
theorem d_Fb_block_10 : decode c_Fb_block 10 = .ok (.bipush 15, 2) := by decide +kernel
theorem d_Fb_block_12 : decode c_Fb_block 12 = .ok (.if_icmp .lt 13, 3) := by decide +kernel
theorem d_Fb_block_15 : decode c_Fb_block 15 = .ok (.new 50, 3) := by decide +kernel
theorem d_Fb_block_18 : decode c_Fb_block 18 = .ok (.dup, 1) := by decide +kernel
theorem d_Fb_block_19 : decode c_Fb_block 19 = .ok (.ldc 168, 2) := by decide +kernel
theorem d_Fb_block_21 : decode c_Fb_block 21 = .ok (.invokespecial 54, 3) := by decide +kernel
theorem d_Fb_block_24 : decode c_Fb_block 24 = .ok (.athrow, 1) := by decide +kernel
theorem d_Fb_block_25 : decode c_Fb_block 25 = .ok (.aload_n 0, 1) := by decide +kernel
theorem d_Fb_block_26 : decode c_Fb_block 26 = .ok (.getfield 28, 3) := by decide +kernel
theorem d_Fb_block_29 : decode c_Fb_block 29 = .ok (.iload_n 1, 1) := by decide +kernel
theorem d_Fb_block_30 : decode c_Fb_block 30 = .ok (.iload_n 2, 1) := by decide +kernel
theorem d_Fb_block_31 : decode c_Fb_block 31 = .ok (.invokevirtual 160, 3) := by decide +kernel
theorem d_Fb_block_34 : decode c_Fb_block 34 = .ok (.ireturn, 1) := by decide +kernel
theorem d_Fb_count_0 : decode c_Fb_count 0 = .ok (.iload_n 1, 1) := by decide +kernel
theorem d_Fb_count_1 : decode c_Fb_count 1 = .ok (.tableswitch 63 0 3 #[31, 39, 47, 55], 31) := by decide +kernel
theorem d_Fb_count_32 : decode c_Fb_count 32 = .ok (.aload_n 0, 1) := by decide +kernel
theorem d_Fb_count_33 : decode c_Fb_count 33 = .ok (.getfield 19, 3) := by decide +kernel
theorem d_Fb_count_36 : decode c_Fb_count 36 = .ok (.invokevirtual 76, 3) := by decide +kernel
theorem d_Fb_count_39 : decode c_Fb_count 39 = .ok (.ireturn, 1) := by decide +kernel
theorem d_Fb_count_40 : decode c_Fb_count 40 = .ok (.aload_n 0, 1) := by decide +kernel
theorem d_Fb_count_41 : decode c_Fb_count 41 = .ok (.getfield 28, 3) := by decide +kernel
theorem d_Fb_count_44 : decode c_Fb_count 44 = .ok (.invokevirtual 170, 3) := by decide +kernel
theorem d_Fb_count_47 : decode c_Fb_count 47 = .ok (.ireturn, 1) := by decide +kernel
theorem d_Fb_count_48 : decode c_Fb_count 48 = .ok (.aload_n 0, 1) := by decide +kernel
theorem d_Fb_count_49 : decode c_Fb_count 49 = .ok (.getfield 37, 3) := by decide +kernel
theorem d_Fb_count_52 : decode c_Fb_count 52 = .ok (.invokevirtual 173, 3) := by decide +kernel
theorem d_Fb_count_55 : decode c_Fb_count 55 = .ok (.ireturn, 1) := by decide +kernel
theorem d_Fb_count_56 : decode c_Fb_count 56 = .ok (.aload_n 0, 1) := by decide +kernel
theorem d_Fb_count_57 : decode c_Fb_count 57 = .ok (.getfield 37, 3) := by decide +kernel
theorem d_Fb_count_60 : decode c_Fb_count 60 = .ok (.invokevirtual 145, 3) := by decide +kernel
theorem d_Fb_count_63 : decode c_Fb_count 63 = .ok (.ireturn, 1) := by decide +kernel
theorem d_Fb_count_64 : decode c_Fb_count 64 = .ok (.new 50, 3) := by decide +kernel
theorem d_Fb_count_67 : decode c_Fb_count 67 = .ok (.dup, 1) := by decide +kernel
theorem d_Fb_count_68 : decode c_Fb_count 68 = .ok (.ldc 176, 2) := by decide +kernel
theorem d_Fb_count_70 : decode c_Fb_count 70 = .ok (.invokespecial 54, 3) := by decide +kernel
theorem d_Fb_count_73 : decode c_Fb_count 73 = .ok (.athrow, 1) := by decide +kernel
theorem d_Fb_byteOf_0 : decode c_Fb_byteOf 0 = .ok (.iload_n 1, 1) := by decide +kernel
theorem d_Fb_byteOf_1 : decode c_Fb_byteOf 1 = .ok (.ifCond .lt 8, 3) := by decide +kernel
theorem d_Fb_byteOf_4 : decode c_Fb_byteOf 4 = .ok (.iload_n 1, 1) := by decide +kernel
theorem d_Fb_byteOf_5 : decode c_Fb_byteOf 5 = .ok (.iconst 4, 1) := by decide +kernel
theorem d_Fb_byteOf_6 : decode c_Fb_byteOf 6 = .ok (.if_icmp .lt 13, 3) := by decide +kernel
theorem d_Fb_byteOf_9 : decode c_Fb_byteOf 9 = .ok (.new 112, 3) := by decide +kernel
theorem d_Fb_byteOf_12 : decode c_Fb_byteOf 12 = .ok (.dup, 1) := by decide +kernel
theorem d_Fb_byteOf_13 : decode c_Fb_byteOf 13 = .ok (.ldc 178, 2) := by decide +kernel
theorem d_Fb_byteOf_15 : decode c_Fb_byteOf 15 = .ok (.invokespecial 116, 3) := by decide +kernel
theorem d_Fb_byteOf_18 : decode c_Fb_byteOf 18 = .ok (.athrow, 1) := by decide +kernel
theorem d_Fb_byteOf_19 : decode c_Fb_byteOf 19 = .ok (.iload_n 2, 1) := by decide +kernel
theorem d_Fb_byteOf_20 : decode c_Fb_byteOf 20 = .ok (.ifCond .lt 10, 3) := by decide +kernel
theorem d_Fb_byteOf_23 : decode c_Fb_byteOf 23 = .ok (.iload_n 2, 1) := by decide +kernel
theorem d_Fb_byteOf_24 : decode c_Fb_byteOf 24 = .ok (.sipush 1024, 3) := by decide +kernel
theorem d_Fb_byteOf_27 : decode c_Fb_byteOf 27 = .ok (.if_icmp .lt 13, 3) := by decide +kernel
theorem d_Fb_byteOf_30 : decode c_Fb_byteOf 30 = .ok (.new 112, 3) := by decide +kernel
theorem d_Fb_byteOf_33 : decode c_Fb_byteOf 33 = .ok (.dup, 1) := by decide +kernel
theorem d_Fb_byteOf_34 : decode c_Fb_byteOf 34 = .ok (.ldc 180, 2) := by decide +kernel
theorem d_Fb_byteOf_36 : decode c_Fb_byteOf 36 = .ok (.invokespecial 116, 3) := by decide +kernel
theorem d_Fb_byteOf_39 : decode c_Fb_byteOf 39 = .ok (.athrow, 1) := by decide +kernel
theorem d_Fb_byteOf_40 : decode c_Fb_byteOf 40 = .ok (.aload_n 0, 1) := by decide +kernel
theorem d_Fb_byteOf_41 : decode c_Fb_byteOf 41 = .ok (.getfield 12, 3) := by decide +kernel
theorem d_Fb_byteOf_44 : decode c_Fb_byteOf 44 = .ok (.iload_n 1, 1) := by decide +kernel
theorem d_Fb_byteOf_45 : decode c_Fb_byteOf 45 = .ok (.sipush 1024, 3) := by decide +kernel
theorem d_Fb_byteOf_48 : decode c_Fb_byteOf 48 = .ok (.imul, 1) := by decide +kernel
theorem d_Fb_byteOf_49 : decode c_Fb_byteOf 49 = .ok (.iload_n 2, 1) := by decide +kernel
theorem d_Fb_byteOf_50 : decode c_Fb_byteOf 50 = .ok (.iadd, 1) := by decide +kernel
theorem d_Fb_byteOf_51 : decode c_Fb_byteOf 51 = .ok (.iconst 1, 1) := by decide +kernel
theorem d_Fb_byteOf_52 : decode c_Fb_byteOf 52 = .ok (.invokevirtual 182, 3) := by decide +kernel
theorem d_Fb_byteOf_55 : decode c_Fb_byteOf 55 = .ok (.ireturn, 1) := by decide +kernel
