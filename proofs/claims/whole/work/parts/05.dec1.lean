theorem d_Fr_init_0 : decode c_Fr_init 0 = .ok (.aload_n 0, 1) := by decide +kernel
theorem d_Fr_init_1 : decode c_Fr_init 1 = .ok (.invokespecial 3, 3) := by decide +kernel
theorem d_Fr_init_4 : decode c_Fr_init 4 = .ok (.aload_n 0, 1) := by decide +kernel
theorem d_Fr_init_5 : decode c_Fr_init 5 = .ok (.sipush 4096, 3) := by decide +kernel
theorem d_Fr_init_8 : decode c_Fr_init 8 = .ok (.newarray .byte, 2) := by decide +kernel
theorem d_Fr_init_10 : decode c_Fr_init 10 = .ok (.putfield 9, 3) := by decide +kernel
theorem d_Fr_init_13 : decode c_Fr_init 13 = .ok (.return_, 1) := by decide +kernel
theorem d_Db_init_0 : decode c_Db_init 0 = .ok (.aload_n 0, 1) := by decide +kernel
theorem d_Db_init_1 : decode c_Db_init 1 = .ok (.invokespecial 3, 3) := by decide +kernel
theorem d_Db_init_4 : decode c_Db_init 4 = .ok (.aload_n 0, 1) := by decide +kernel
theorem d_Db_init_5 : decode c_Db_init 5 = .ok (.sipush 128, 3) := by decide +kernel
theorem d_Db_init_8 : decode c_Db_init 8 = .ok (.anewarray 9, 3) := by decide +kernel
theorem d_Db_init_11 : decode c_Db_init 11 = .ok (.putfield 11, 3) := by decide +kernel
theorem d_Db_init_14 : decode c_Db_init 14 = .ok (.aload_n 0, 1) := by decide +kernel
theorem d_Db_init_15 : decode c_Db_init 15 = .ok (.sipush 128, 3) := by decide +kernel
theorem d_Db_init_18 : decode c_Db_init 18 = .ok (.newarray .boolean, 2) := by decide +kernel
theorem d_Db_init_20 : decode c_Db_init 20 = .ok (.putfield 17, 3) := by decide +kernel
theorem d_Db_init_23 : decode c_Db_init 23 = .ok (.aload_n 0, 1) := by decide +kernel
theorem d_Db_init_24 : decode c_Db_init 24 = .ok (.bipush 124, 2) := by decide +kernel
theorem d_Db_init_26 : decode c_Db_init 26 = .ok (.putfield 21, 3) := by decide +kernel
theorem d_Db_init_29 : decode c_Db_init 29 = .ok (.return_, 1) := by decide +kernel
theorem d_Re_init_0 : decode c_Re_init 0 = .ok (.aload_n 0, 1) := by decide +kernel
theorem d_Re_init_1 : decode c_Re_init 1 = .ok (.invokespecial 3, 3) := by decide +kernel
theorem d_Re_init_4 : decode c_Re_init 4 = .ok (.aload_n 0, 1) := by decide +kernel
theorem d_Re_init_5 : decode c_Re_init 5 = .ok (.aload_n 1, 1) := by decide +kernel
theorem d_Re_init_6 : decode c_Re_init 6 = .ok (.putfield 9, 3) := by decide +kernel
theorem d_Re_init_9 : decode c_Re_init 9 = .ok (.return_, 1) := by decide +kernel
theorem d_Wa_init_0 : decode c_Wa_init 0 = .ok (.aload_n 0, 1) := by decide +kernel
theorem d_Wa_init_1 : decode c_Wa_init 1 = .ok (.invokespecial 3, 3) := by decide +kernel
theorem d_Wa_init_4 : decode c_Wa_init 4 = .ok (.aload_n 0, 1) := by decide +kernel
theorem d_Wa_init_5 : decode c_Wa_init 5 = .ok (.aload_n 1, 1) := by decide +kernel
theorem d_Wa_init_6 : decode c_Wa_init 6 = .ok (.putfield 9, 3) := by decide +kernel
theorem d_Wa_init_9 : decode c_Wa_init 9 = .ok (.aload_n 0, 1) := by decide +kernel
theorem d_Wa_init_10 : decode c_Wa_init 10 = .ok (.aload_n 2, 1) := by decide +kernel
theorem d_Wa_init_11 : decode c_Wa_init 11 = .ok (.putfield 15, 3) := by decide +kernel
theorem d_Wa_init_14 : decode c_Wa_init 14 = .ok (.return_, 1) := by decide +kernel
theorem d_Wa_first_0 : decode c_Wa_first 0 = .ok (.aload_n 0, 1) := by decide +kernel
theorem d_Wa_first_1 : decode c_Wa_first 1 = .ok (.getfield 9, 3) := by decide +kernel
theorem d_Wa_first_4 : decode c_Wa_first 4 = .ok (.sipush 232, 3) := by decide +kernel
theorem d_Wa_first_7 : decode c_Wa_first 7 = .ok (.iconst 4, 1) := by decide +kernel
theorem d_Wa_first_8 : decode c_Wa_first 8 = .ok (.invokevirtual 19, 3) := by decide +kernel
theorem d_Wa_first_11 : decode c_Wa_first 11 = .ok (.ireturn, 1) := by decide +kernel
theorem d_Fr_number_0 : decode c_Fr_number 0 = .ok (.iconst 0, 1) := by decide +kernel
theorem d_Fr_number_1 : decode c_Fr_number 1 = .ok (.istore_n 3, 1) := by decide +kernel
theorem d_Fr_number_2 : decode c_Fr_number 2 = .ok (.iload_n 1, 1) := by decide +kernel
theorem d_Fr_number_3 : decode c_Fr_number 3 = .ok (.iload_n 2, 1) := by decide +kernel
theorem d_Fr_number_4 : decode c_Fr_number 4 = .ok (.iadd, 1) := by decide +kernel
theorem d_Fr_number_5 : decode c_Fr_number 5 = .ok (.iconst 1, 1) := by decide +kernel
theorem d_Fr_number_6 : decode c_Fr_number 6 = .ok (.isub, 1) := by decide +kernel
theorem d_Fr_number_7 : decode c_Fr_number 7 = .ok (.istore 4, 2) := by decide +kernel
theorem d_Fr_number_9 : decode c_Fr_number 9 = .ok (.iload 4, 2) := by decide +kernel
theorem d_Fr_number_11 : decode c_Fr_number 11 = .ok (.iload_n 1, 1) := by decide +kernel
theorem d_Fr_number_12 : decode c_Fr_number 12 = .ok (.if_icmp .lt 41, 3) := by decide +kernel
theorem d_Fr_number_15 : decode c_Fr_number 15 = .ok (.iload 4, 2) := by decide +kernel
theorem d_Fr_number_17 : decode c_Fr_number 17 = .ok (.ifCond .lt 30, 3) := by decide +kernel
theorem d_Fr_number_20 : decode c_Fr_number 20 = .ok (.iload 4, 2) := by decide +kernel
theorem d_Fr_number_22 : decode c_Fr_number 22 = .ok (.aload_n 0, 1) := by decide +kernel
theorem d_Fr_number_23 : decode c_Fr_number 23 = .ok (.getfield 9, 3) := by decide +kernel
theorem d_Fr_number_26 : decode c_Fr_number 26 = .ok (.arraylength, 1) := by decide +kernel
theorem d_Fr_number_27 : decode c_Fr_number 27 = .ok (.if_icmp .ge 20, 3) := by decide +kernel
theorem d_Fr_number_30 : decode c_Fr_number 30 = .ok (.iload_n 3, 1) := by decide +kernel
theorem d_Fr_number_31 : decode c_Fr_number 31 = .ok (.bipush 8, 2) := by decide +kernel
theorem d_Fr_number_33 : decode c_Fr_number 33 = .ok (.ishl, 1) := by decide +kernel
theorem d_Fr_number_34 : decode c_Fr_number 34 = .ok (.aload_n 0, 1) := by decide +kernel
theorem d_Fr_number_35 : decode c_Fr_number 35 = .ok (.getfield 9, 3) := by decide +kernel
theorem d_Fr_number_38 : decode c_Fr_number 38 = .ok (.iload 4, 2) := by decide +kernel
theorem d_Fr_number_40 : decode c_Fr_number 40 = .ok (.baload, 1) := by decide +kernel
theorem d_Fr_number_41 : decode c_Fr_number 41 = .ok (.sipush 255, 3) := by decide +kernel
theorem d_Fr_number_44 : decode c_Fr_number 44 = .ok (.iand, 1) := by decide +kernel
theorem d_Fr_number_45 : decode c_Fr_number 45 = .ok (.ior, 1) := by decide +kernel
theorem d_Fr_number_46 : decode c_Fr_number 46 = .ok (.istore_n 3, 1) := by decide +kernel
theorem d_Fr_number_47 : decode c_Fr_number 47 = .ok (.iinc 4 (-1), 3) := by decide +kernel
theorem d_Fr_number_50 : decode c_Fr_number 50 = .ok (.goto (-41), 3) := by decide +kernel
theorem d_Fr_number_53 : decode c_Fr_number 53 = .ok (.iload_n 3, 1) := by decide +kernel
theorem d_Fr_number_54 : decode c_Fr_number 54 = .ok (.ireturn, 1) := by decide +kernel
theorem d_Re_blocksOf_0 : decode c_Re_blocksOf 0 = .ok (.aload_n 0, 1) := by decide +kernel
theorem d_Re_blocksOf_1 : decode c_Re_blocksOf 1 = .ok (.iload_n 1, 1) := by decide +kernel
theorem d_Re_blocksOf_2 : decode c_Re_blocksOf 2 = .ok (.bipush 28, 2) := by decide +kernel
theorem d_Re_blocksOf_4 : decode c_Re_blocksOf 4 = .ok (.iconst 4, 1) := by decide +kernel
theorem d_Re_blocksOf_5 : decode c_Re_blocksOf 5 = .ok (.invokevirtual 29, 3) := by decide +kernel
theorem d_Re_blocksOf_8 : decode c_Re_blocksOf 8 = .ok (.iconst 2, 1) := by decide +kernel
theorem d_Re_blocksOf_9 : decode c_Re_blocksOf 9 = .ok (.idiv, 1) := by decide +kernel
theorem d_Re_blocksOf_10 : decode c_Re_blocksOf 10 = .ok (.ireturn, 1) := by decide +kernel
theorem d_Re_field_0 : decode c_Re_field 0 = .ok (.aload_n 0, 1) := by decide +kernel
theorem d_Re_field_1 : decode c_Re_field 1 = .ok (.iload_n 1, 1) := by decide +kernel
theorem d_Re_field_2 : decode c_Re_field 2 = .ok (.invokevirtual 39, 3) := by decide +kernel
theorem d_Re_field_5 : decode c_Re_field 5 = .ok (.ifCond .eq 20, 3) := by decide +kernel
theorem d_Re_field_8 : decode c_Re_field 8 = .ok (.aload_n 0, 1) := by decide +kernel
theorem d_Re_field_9 : decode c_Re_field 9 = .ok (.getfield 9, 3) := by decide +kernel
theorem d_Re_field_12 : decode c_Re_field 12 = .ok (.iload_n 1, 1) := by decide +kernel
theorem d_Re_field_13 : decode c_Re_field 13 = .ok (.invokestatic 43, 3) := by decide +kernel
theorem d_Re_field_16 : decode c_Re_field 16 = .ok (.iload_n 2, 1) := by decide +kernel
theorem d_Re_field_17 : decode c_Re_field 17 = .ok (.iadd, 1) := by decide +kernel
theorem d_Re_field_18 : decode c_Re_field 18 = .ok (.iload_n 3, 1) := by decide +kernel
theorem d_Re_field_19 : decode c_Re_field 19 = .ok (.invokevirtual 46, 3) := by decide +kernel
theorem d_Re_field_22 : decode c_Re_field 22 = .ok (.goto 4, 3) := by decide +kernel
theorem d_Re_field_25 : decode c_Re_field 25 = .ok (.iconst 0, 1) := by decide +kernel
theorem d_Re_field_26 : decode c_Re_field 26 = .ok (.ireturn, 1) := by decide +kernel
theorem d_Re_isNumber_0 : decode c_Re_isNumber 0 = .ok (.iload_n 1, 1) := by decide +kernel
theorem d_Re_isNumber_1 : decode c_Re_isNumber 1 = .ok (.iconst 1, 1) := by decide +kernel
theorem d_Re_isNumber_2 : decode c_Re_isNumber 2 = .ok (.if_icmp .lt 13, 3) := by decide +kernel
theorem d_Re_isNumber_5 : decode c_Re_isNumber 5 = .ok (.iload_n 1, 1) := by decide +kernel
theorem d_Re_isNumber_6 : decode c_Re_isNumber 6 = .ok (.bipush 12, 2) := by decide +kernel
theorem d_Re_isNumber_8 : decode c_Re_isNumber 8 = .ok (.if_icmp .gt 7, 3) := by decide +kernel
theorem d_Re_isNumber_11 : decode c_Re_isNumber 11 = .ok (.iconst 1, 1) := by decide +kernel
theorem d_Re_isNumber_12 : decode c_Re_isNumber 12 = .ok (.goto 4, 3) := by decide +kernel
theorem d_Re_isNumber_15 : decode c_Re_isNumber 15 = .ok (.iconst 0, 1) := by decide +kernel
theorem d_Re_isNumber_16 : decode c_Re_isNumber 16 = .ok (.ireturn, 1) := by decide +kernel
theorem d_Re_startOf_0 : decode c_Re_startOf 0 = .ok (.sipush 1024, 3) := by decide +kernel
theorem d_Re_startOf_3 : decode c_Re_startOf 3 = .ok (.sipush 256, 3) := by decide +kernel
theorem d_Re_startOf_6 : decode c_Re_startOf 6 = .ok (.iload_n 0, 1) := by decide +kernel
theorem d_Re_startOf_7 : decode c_Re_startOf 7 = .ok (.iconst 1, 1) := by decide +kernel
theorem d_Re_startOf_8 : decode c_Re_startOf 8 = .ok (.isub, 1) := by decide +kernel
theorem d_Re_startOf_9 : decode c_Re_startOf 9 = .ok (.imul, 1) := by decide +kernel
theorem d_Re_startOf_10 : decode c_Re_startOf 10 = .ok (.iadd, 1) := by decide +kernel
theorem d_Re_startOf_11 : decode c_Re_startOf 11 = .ok (.ireturn, 1) := by decide +kernel
theorem d_Wa_remove_0 : decode c_Wa_remove 0 = .ok (.aload_n 0, 1) := by decide +kernel
theorem d_Wa_remove_1 : decode c_Wa_remove 1 = .ok (.invokevirtual 25, 3) := by decide +kernel
theorem d_Wa_remove_4 : decode c_Wa_remove 4 = .ok (.iload_n 1, 1) := by decide +kernel
theorem d_Wa_remove_5 : decode c_Wa_remove 5 = .ok (.if_icmp .ne 18, 3) := by decide +kernel
theorem d_Wa_remove_8 : decode c_Wa_remove 8 = .ok (.aload_n 0, 1) := by decide +kernel
theorem d_Wa_remove_9 : decode c_Wa_remove 9 = .ok (.aload_n 0, 1) := by decide +kernel
theorem d_Wa_remove_10 : decode c_Wa_remove 10 = .ok (.getfield 15, 3) := by decide +kernel
theorem d_Wa_remove_13 : decode c_Wa_remove 13 = .ok (.iload_n 1, 1) := by decide +kernel
theorem d_Wa_remove_14 : decode c_Wa_remove 14 = .ok (.invokevirtual 29, 3) := by decide +kernel
theorem d_Wa_remove_17 : decode c_Wa_remove 17 = .ok (.invokevirtual 39, 3) := by decide +kernel
theorem d_Wa_remove_20 : decode c_Wa_remove 20 = .ok (.goto 25, 3) := by decide +kernel
theorem d_Wa_remove_23 : decode c_Wa_remove 23 = .ok (.aload_n 0, 1) := by decide +kernel
theorem d_Wa_remove_24 : decode c_Wa_remove 24 = .ok (.iload_n 1, 1) := by decide +kernel
theorem d_Wa_remove_25 : decode c_Wa_remove 25 = .ok (.invokevirtual 43, 3) := by decide +kernel
theorem d_Wa_remove_28 : decode c_Wa_remove 28 = .ok (.istore_n 2, 1) := by decide +kernel
theorem d_Wa_remove_29 : decode c_Wa_remove 29 = .ok (.aload_n 0, 1) := by decide +kernel
theorem d_Wa_remove_30 : decode c_Wa_remove 30 = .ok (.getfield 15, 3) := by decide +kernel
theorem d_Wa_remove_33 : decode c_Wa_remove 33 = .ok (.iload_n 2, 1) := by decide +kernel
theorem d_Wa_remove_34 : decode c_Wa_remove 34 = .ok (.aload_n 0, 1) := by decide +kernel
theorem d_Wa_remove_35 : decode c_Wa_remove 35 = .ok (.getfield 15, 3) := by decide +kernel
theorem d_Wa_remove_38 : decode c_Wa_remove 38 = .ok (.iload_n 1, 1) := by decide +kernel
theorem d_Wa_remove_39 : decode c_Wa_remove 39 = .ok (.invokevirtual 29, 3) := by decide +kernel
theorem d_Wa_remove_42 : decode c_Wa_remove 42 = .ok (.invokevirtual 35, 3) := by decide +kernel
theorem d_Wa_remove_45 : decode c_Wa_remove 45 = .ok (.aload_n 0, 1) := by decide +kernel
theorem d_Wa_remove_46 : decode c_Wa_remove 46 = .ok (.getfield 15, 3) := by decide +kernel
theorem d_Wa_remove_49 : decode c_Wa_remove 49 = .ok (.iload_n 1, 1) := by decide +kernel
theorem d_Wa_remove_50 : decode c_Wa_remove 50 = .ok (.iconst 0, 1) := by decide +kernel
theorem d_Wa_remove_51 : decode c_Wa_remove 51 = .ok (.invokevirtual 35, 3) := by decide +kernel
theorem d_Wa_remove_54 : decode c_Wa_remove 54 = .ok (.return_, 1) := by decide +kernel
theorem d_Re_behind_0 : decode c_Re_behind 0 = .ok (.aload_n 0, 1) := by decide +kernel
theorem d_Re_behind_1 : decode c_Re_behind 1 = .ok (.iload_n 1, 1) := by decide +kernel
theorem d_Re_behind_2 : decode c_Re_behind 2 = .ok (.bipush 20, 2) := by decide +kernel
theorem d_Re_behind_4 : decode c_Re_behind 4 = .ok (.iconst 4, 1) := by decide +kernel
theorem d_Re_behind_5 : decode c_Re_behind 5 = .ok (.invokevirtual 29, 3) := by decide +kernel
theorem d_Re_behind_8 : decode c_Re_behind 8 = .ok (.ireturn, 1) := by decide +kernel
theorem d_Wa_setFirst_0 : decode c_Wa_setFirst 0 = .ok (.aload_n 0, 1) := by decide +kernel
theorem d_Wa_setFirst_1 : decode c_Wa_setFirst 1 = .ok (.getfield 9, 3) := by decide +kernel
theorem d_Wa_setFirst_4 : decode c_Wa_setFirst 4 = .ok (.sipush 232, 3) := by decide +kernel
theorem d_Wa_setFirst_7 : decode c_Wa_setFirst 7 = .ok (.iconst 4, 1) := by decide +kernel
theorem d_Wa_setFirst_8 : decode c_Wa_setFirst 8 = .ok (.iload_n 1, 1) := by decide +kernel
theorem d_Wa_setFirst_9 : decode c_Wa_setFirst 9 = .ok (.invokevirtual 46, 3) := by decide +kernel
theorem d_Wa_setFirst_12 : decode c_Wa_setFirst 12 = .ok (.return_, 1) := by decide +kernel
theorem d_Fr_setNumber_0 : decode c_Fr_setNumber 0 = .ok (.iload_n 3, 1) := by decide +kernel
theorem d_Fr_setNumber_1 : decode c_Fr_setNumber 1 = .ok (.istore 4, 2) := by decide +kernel
theorem d_Fr_setNumber_3 : decode c_Fr_setNumber 3 = .ok (.iload_n 1, 1) := by decide +kernel
theorem d_Fr_setNumber_4 : decode c_Fr_setNumber 4 = .ok (.istore 5, 2) := by decide +kernel
theorem d_Fr_setNumber_6 : decode c_Fr_setNumber 6 = .ok (.iload 5, 2) := by decide +kernel
theorem d_Fr_setNumber_8 : decode c_Fr_setNumber 8 = .ok (.iload_n 1, 1) := by decide +kernel
theorem d_Fr_setNumber_9 : decode c_Fr_setNumber 9 = .ok (.iload_n 2, 1) := by decide +kernel
theorem d_Fr_setNumber_10 : decode c_Fr_setNumber 10 = .ok (.iadd, 1) := by decide +kernel
theorem d_Fr_setNumber_11 : decode c_Fr_setNumber 11 = .ok (.if_icmp .ge 41, 3) := by decide +kernel
theorem d_Fr_setNumber_14 : decode c_Fr_setNumber 14 = .ok (.iload 5, 2) := by decide +kernel
theorem d_Fr_setNumber_16 : decode c_Fr_setNumber 16 = .ok (.ifCond .lt 23, 3) := by decide +kernel
theorem d_Fr_setNumber_19 : decode c_Fr_setNumber 19 = .ok (.iload 5, 2) := by decide +kernel
theorem d_Fr_setNumber_21 : decode c_Fr_setNumber 21 = .ok (.aload_n 0, 1) := by decide +kernel
theorem d_Fr_setNumber_22 : decode c_Fr_setNumber 22 = .ok (.getfield 9, 3) := by decide +kernel
theorem d_Fr_setNumber_25 : decode c_Fr_setNumber 25 = .ok (.arraylength, 1) := by decide +kernel
theorem d_Fr_setNumber_26 : decode c_Fr_setNumber 26 = .ok (.if_icmp .ge 13, 3) := by decide +kernel
theorem d_Fr_setNumber_29 : decode c_Fr_setNumber 29 = .ok (.aload_n 0, 1) := by decide +kernel
theorem d_Fr_setNumber_30 : decode c_Fr_setNumber 30 = .ok (.getfield 9, 3) := by decide +kernel
theorem d_Fr_setNumber_33 : decode c_Fr_setNumber 33 = .ok (.iload 5, 2) := by decide +kernel
theorem d_Fr_setNumber_35 : decode c_Fr_setNumber 35 = .ok (.iload 4, 2) := by decide +kernel
theorem d_Fr_setNumber_37 : decode c_Fr_setNumber 37 = .ok (.i2b, 1) := by decide +kernel
theorem d_Fr_setNumber_38 : decode c_Fr_setNumber 38 = .ok (.bastore, 1) := by decide +kernel
theorem d_Fr_setNumber_39 : decode c_Fr_setNumber 39 = .ok (.iload 4, 2) := by decide +kernel
theorem d_Fr_setNumber_41 : decode c_Fr_setNumber 41 = .ok (.bipush 8, 2) := by decide +kernel
theorem d_Fr_setNumber_43 : decode c_Fr_setNumber 43 = .ok (.iushr, 1) := by decide +kernel
theorem d_Fr_setNumber_44 : decode c_Fr_setNumber 44 = .ok (.istore 4, 2) := by decide +kernel
theorem d_Fr_setNumber_46 : decode c_Fr_setNumber 46 = .ok (.iinc 5 1, 3) := by decide +kernel
theorem d_Fr_setNumber_49 : decode c_Fr_setNumber 49 = .ok (.goto (-43), 3) := by decide +kernel
theorem d_Fr_setNumber_52 : decode c_Fr_setNumber 52 = .ok (.return_, 1) := by decide +kernel
theorem d_Wa_fileBefore_0 : decode c_Wa_fileBefore 0 = .ok (.aload_n 0, 1) := by decide +kernel
theorem d_Wa_fileBefore_1 : decode c_Wa_fileBefore 1 = .ok (.invokevirtual 25, 3) := by decide +kernel
theorem d_Wa_fileBefore_4 : decode c_Wa_fileBefore 4 = .ok (.istore_n 2, 1) := by decide +kernel
theorem d_Wa_fileBefore_5 : decode c_Wa_fileBefore 5 = .ok (.iconst 0, 1) := by decide +kernel
theorem d_Wa_fileBefore_6 : decode c_Wa_fileBefore 6 = .ok (.istore_n 3, 1) := by decide +kernel
theorem d_Wa_fileBefore_7 : decode c_Wa_fileBefore 7 = .ok (.iload_n 3, 1) := by decide +kernel
theorem d_Wa_fileBefore_8 : decode c_Wa_fileBefore 8 = .ok (.bipush 12, 2) := by decide +kernel
theorem d_Wa_fileBefore_10 : decode c_Wa_fileBefore 10 = .ok (.if_icmp .ge 34, 3) := by decide +kernel
theorem d_Wa_fileBefore_13 : decode c_Wa_fileBefore 13 = .ok (.iload_n 2, 1) := by decide +kernel
theorem d_Wa_fileBefore_14 : decode c_Wa_fileBefore 14 = .ok (.ifCond .eq 30, 3) := by decide +kernel
theorem d_Wa_fileBefore_17 : decode c_Wa_fileBefore 17 = .ok (.aload_n 0, 1) := by decide +kernel
theorem d_Wa_fileBefore_18 : decode c_Wa_fileBefore 18 = .ok (.getfield 15, 3) := by decide +kernel
theorem d_Wa_fileBefore_21 : decode c_Wa_fileBefore 21 = .ok (.iload_n 2, 1) := by decide +kernel
theorem d_Wa_fileBefore_22 : decode c_Wa_fileBefore 22 = .ok (.invokevirtual 29, 3) := by decide +kernel
theorem d_Wa_fileBefore_25 : decode c_Wa_fileBefore 25 = .ok (.iload_n 1, 1) := by decide +kernel
theorem d_Wa_fileBefore_26 : decode c_Wa_fileBefore 26 = .ok (.if_icmp .eq 18, 3) := by decide +kernel
theorem d_Wa_fileBefore_29 : decode c_Wa_fileBefore 29 = .ok (.aload_n 0, 1) := by decide +kernel
theorem d_Wa_fileBefore_30 : decode c_Wa_fileBefore 30 = .ok (.getfield 15, 3) := by decide +kernel
theorem d_Wa_fileBefore_33 : decode c_Wa_fileBefore 33 = .ok (.iload_n 2, 1) := by decide +kernel
theorem d_Wa_fileBefore_34 : decode c_Wa_fileBefore 34 = .ok (.invokevirtual 29, 3) := by decide +kernel
theorem d_Wa_fileBefore_37 : decode c_Wa_fileBefore 37 = .ok (.istore_n 2, 1) := by decide +kernel
theorem d_Wa_fileBefore_38 : decode c_Wa_fileBefore 38 = .ok (.iinc 3 1, 3) := by decide +kernel
theorem d_Wa_fileBefore_41 : decode c_Wa_fileBefore 41 = .ok (.goto (-34), 3) := by decide +kernel
theorem d_Wa_fileBefore_44 : decode c_Wa_fileBefore 44 = .ok (.iload_n 2, 1) := by decide +kernel
theorem d_Wa_fileBefore_45 : decode c_Wa_fileBefore 45 = .ok (.ireturn, 1) := by decide +kernel
theorem d_Re_setBehind_0 : decode c_Re_setBehind 0 = .ok (.aload_n 0, 1) := by decide +kernel
theorem d_Re_setBehind_1 : decode c_Re_setBehind 1 = .ok (.iload_n 1, 1) := by decide +kernel
theorem d_Re_setBehind_2 : decode c_Re_setBehind 2 = .ok (.bipush 20, 2) := by decide +kernel
theorem d_Re_setBehind_4 : decode c_Re_setBehind 4 = .ok (.iconst 4, 1) := by decide +kernel
theorem d_Re_setBehind_5 : decode c_Re_setBehind 5 = .ok (.iload_n 2, 1) := by decide +kernel
theorem d_Re_setBehind_6 : decode c_Re_setBehind 6 = .ok (.invokevirtual 21, 3) := by decide +kernel
theorem d_Re_setBehind_9 : decode c_Re_setBehind 9 = .ok (.return_, 1) := by decide +kernel
theorem d_Re_setField_0 : decode c_Re_setField 0 = .ok (.aload_n 0, 1) := by decide +kernel
theorem d_Re_setField_1 : decode c_Re_setField 1 = .ok (.iload_n 1, 1) := by decide +kernel
theorem d_Re_setField_2 : decode c_Re_setField 2 = .ok (.invokevirtual 39, 3) := by decide +kernel
theorem d_Re_setField_5 : decode c_Re_setField 5 = .ok (.ifCond .eq 19, 3) := by decide +kernel
theorem d_Re_setField_8 : decode c_Re_setField 8 = .ok (.aload_n 0, 1) := by decide +kernel
theorem d_Re_setField_9 : decode c_Re_setField 9 = .ok (.getfield 9, 3) := by decide +kernel
theorem d_Re_setField_12 : decode c_Re_setField 12 = .ok (.iload_n 1, 1) := by decide +kernel
theorem d_Re_setField_13 : decode c_Re_setField 13 = .ok (.invokestatic 43, 3) := by decide +kernel
theorem d_Re_setField_16 : decode c_Re_setField 16 = .ok (.iload_n 2, 1) := by decide +kernel
theorem d_Re_setField_17 : decode c_Re_setField 17 = .ok (.iadd, 1) := by decide +kernel
theorem d_Re_setField_18 : decode c_Re_setField 18 = .ok (.iload_n 3, 1) := by decide +kernel
theorem d_Re_setField_19 : decode c_Re_setField 19 = .ok (.iload 4, 2) := by decide +kernel
theorem d_Re_setField_21 : decode c_Re_setField 21 = .ok (.invokevirtual 52, 3) := by decide +kernel
theorem d_Re_setField_24 : decode c_Re_setField 24 = .ok (.return_, 1) := by decide +kernel
theorem d_Re_blockOf_0 : decode c_Re_blockOf 0 = .ok (.iload_n 2, 1) := by decide +kernel
theorem d_Re_blockOf_1 : decode c_Re_blockOf 1 = .ok (.ifCond .lt 17, 3) := by decide +kernel
theorem d_Re_blockOf_4 : decode c_Re_blockOf 4 = .ok (.iload_n 2, 1) := by decide +kernel
theorem d_Re_blockOf_5 : decode c_Re_blockOf 5 = .ok (.bipush 15, 2) := by decide +kernel
theorem d_Re_blockOf_7 : decode c_Re_blockOf 7 = .ok (.if_icmp .ge 11, 3) := by decide +kernel
theorem d_Re_blockOf_10 : decode c_Re_blockOf 10 = .ok (.aload_n 0, 1) := by decide +kernel
theorem d_Re_blockOf_11 : decode c_Re_blockOf 11 = .ok (.iload_n 1, 1) := by decide +kernel
theorem d_Re_blockOf_12 : decode c_Re_blockOf 12 = .ok (.invokevirtual 36, 3) := by decide +kernel
theorem d_Re_blockOf_15 : decode c_Re_blockOf 15 = .ok (.ifCond .ne 5, 3) := by decide +kernel
theorem d_Re_blockOf_18 : decode c_Re_blockOf 18 = .ok (.iconst 0, 1) := by decide +kernel
theorem d_Re_blockOf_19 : decode c_Re_blockOf 19 = .ok (.ireturn, 1) := by decide +kernel
theorem d_Re_blockOf_20 : decode c_Re_blockOf 20 = .ok (.aload_n 0, 1) := by decide +kernel
theorem d_Re_blockOf_21 : decode c_Re_blockOf 21 = .ok (.iload_n 1, 1) := by decide +kernel
theorem d_Re_blockOf_22 : decode c_Re_blockOf 22 = .ok (.bipush 40, 2) := by decide +kernel
theorem d_Re_blockOf_24 : decode c_Re_blockOf 24 = .ok (.iconst 4, 1) := by decide +kernel
theorem d_Re_blockOf_25 : decode c_Re_blockOf 25 = .ok (.iload_n 2, 1) := by decide +kernel
theorem d_Re_blockOf_26 : decode c_Re_blockOf 26 = .ok (.imul, 1) := by decide +kernel
theorem d_Re_blockOf_27 : decode c_Re_blockOf 27 = .ok (.iadd, 1) := by decide +kernel
theorem d_Re_blockOf_28 : decode c_Re_blockOf 28 = .ok (.iconst 4, 1) := by decide +kernel
theorem d_Re_blockOf_29 : decode c_Re_blockOf 29 = .ok (.invokevirtual 29, 3) := by decide +kernel
theorem d_Re_blockOf_32 : decode c_Re_blockOf 32 = .ok (.ireturn, 1) := by decide +kernel
theorem d_Db_give_0 : decode c_Db_give 0 = .ok (.iload_n 1, 1) := by decide +kernel
theorem d_Db_give_1 : decode c_Db_give 1 = .ok (.iconst 4, 1) := by decide +kernel
theorem d_Db_give_2 : decode c_Db_give 2 = .ok (.if_icmp .lt 36, 3) := by decide +kernel
theorem d_Db_give_5 : decode c_Db_give 5 = .ok (.iload_n 1, 1) := by decide +kernel
theorem d_Db_give_6 : decode c_Db_give 6 = .ok (.sipush 128, 3) := by decide +kernel
theorem d_Db_give_9 : decode c_Db_give 9 = .ok (.if_icmp .ge 29, 3) := by decide +kernel
theorem d_Db_give_12 : decode c_Db_give 12 = .ok (.aload_n 0, 1) := by decide +kernel
theorem d_Db_give_13 : decode c_Db_give 13 = .ok (.getfield 17, 3) := by decide +kernel
theorem d_Db_give_16 : decode c_Db_give 16 = .ok (.iload_n 1, 1) := by decide +kernel
theorem d_Db_give_17 : decode c_Db_give 17 = .ok (.baload, 1) := by decide +kernel
theorem d_Db_give_18 : decode c_Db_give 18 = .ok (.ifCond .eq 20, 3) := by decide +kernel
theorem d_Db_give_21 : decode c_Db_give 21 = .ok (.aload_n 0, 1) := by decide +kernel
theorem d_Db_give_22 : decode c_Db_give 22 = .ok (.getfield 17, 3) := by decide +kernel
theorem d_Db_give_25 : decode c_Db_give 25 = .ok (.iload_n 1, 1) := by decide +kernel
theorem d_Db_give_26 : decode c_Db_give 26 = .ok (.iconst 0, 1) := by decide +kernel
theorem d_Db_give_27 : decode c_Db_give 27 = .ok (.bastore, 1) := by decide +kernel
theorem d_Db_give_28 : decode c_Db_give 28 = .ok (.aload_n 0, 1) := by decide +kernel
theorem d_Db_give_29 : decode c_Db_give 29 = .ok (.dup, 1) := by decide +kernel
theorem d_Db_give_30 : decode c_Db_give 30 = .ok (.getfield 21, 3) := by decide +kernel
theorem d_Db_give_33 : decode c_Db_give 33 = .ok (.iconst 1, 1) := by decide +kernel
theorem d_Db_give_34 : decode c_Db_give 34 = .ok (.iadd, 1) := by decide +kernel
theorem d_Db_give_35 : decode c_Db_give 35 = .ok (.putfield 21, 3) := by decide +kernel
theorem d_Db_give_38 : decode c_Db_give 38 = .ok (.return_, 1) := by decide +kernel
theorem d_Re_removeBlock_0 : decode c_Re_removeBlock 0 = .ok (.aload_n 0, 1) := by decide +kernel
theorem d_Re_removeBlock_1 : decode c_Re_removeBlock 1 = .ok (.iload_n 1, 1) := by decide +kernel
theorem d_Re_removeBlock_2 : decode c_Re_removeBlock 2 = .ok (.bipush 40, 2) := by decide +kernel
theorem d_Re_removeBlock_4 : decode c_Re_removeBlock 4 = .ok (.iconst 4, 1) := by decide +kernel
theorem d_Re_removeBlock_5 : decode c_Re_removeBlock 5 = .ok (.iload_n 2, 1) := by decide +kernel
theorem d_Re_removeBlock_6 : decode c_Re_removeBlock 6 = .ok (.imul, 1) := by decide +kernel
theorem d_Re_removeBlock_7 : decode c_Re_removeBlock 7 = .ok (.iadd, 1) := by decide +kernel
theorem d_Re_removeBlock_8 : decode c_Re_removeBlock 8 = .ok (.iconst 4, 1) := by decide +kernel
theorem d_Re_removeBlock_9 : decode c_Re_removeBlock 9 = .ok (.iconst 0, 1) := by decide +kernel
theorem d_Re_removeBlock_10 : decode c_Re_removeBlock 10 = .ok (.invokevirtual 21, 3) := by decide +kernel
theorem d_Re_removeBlock_13 : decode c_Re_removeBlock 13 = .ok (.aload_n 0, 1) := by decide +kernel
theorem d_Re_removeBlock_14 : decode c_Re_removeBlock 14 = .ok (.iload_n 1, 1) := by decide +kernel
theorem d_Re_removeBlock_15 : decode c_Re_removeBlock 15 = .ok (.bipush 28, 2) := by decide +kernel
theorem d_Re_removeBlock_17 : decode c_Re_removeBlock 17 = .ok (.iconst 4, 1) := by decide +kernel
theorem d_Re_removeBlock_18 : decode c_Re_removeBlock 18 = .ok (.iconst 2, 1) := by decide +kernel
theorem d_Re_removeBlock_19 : decode c_Re_removeBlock 19 = .ok (.aload_n 0, 1) := by decide +kernel
theorem d_Re_removeBlock_20 : decode c_Re_removeBlock 20 = .ok (.iload_n 1, 1) := by decide +kernel
theorem d_Re_removeBlock_21 : decode c_Re_removeBlock 21 = .ok (.invokevirtual 36, 3) := by decide +kernel
theorem d_Re_removeBlock_24 : decode c_Re_removeBlock 24 = .ok (.iconst 1, 1) := by decide +kernel
theorem d_Re_removeBlock_25 : decode c_Re_removeBlock 25 = .ok (.isub, 1) := by decide +kernel
theorem d_Re_removeBlock_26 : decode c_Re_removeBlock 26 = .ok (.imul, 1) := by decide +kernel
theorem d_Re_removeBlock_27 : decode c_Re_removeBlock 27 = .ok (.invokevirtual 21, 3) := by decide +kernel
theorem d_Re_removeBlock_30 : decode c_Re_removeBlock 30 = .ok (.return_, 1) := by decide +kernel
theorem d_Re_erase_0 : decode c_Re_erase 0 = .ok (.aload_n 0, 1) := by decide +kernel
theorem d_Re_erase_1 : decode c_Re_erase 1 = .ok (.iload_n 1, 1) := by decide +kernel
theorem d_Re_erase_2 : decode c_Re_erase 2 = .ok (.iconst 0, 1) := by decide +kernel
theorem d_Re_erase_3 : decode c_Re_erase 3 = .ok (.sipush 256, 3) := by decide +kernel
theorem d_Re_erase_6 : decode c_Re_erase 6 = .ok (.iconst 0, 1) := by decide +kernel
theorem d_Re_erase_7 : decode c_Re_erase 7 = .ok (.invokevirtual 21, 3) := by decide +kernel
theorem d_Re_erase_10 : decode c_Re_erase 10 = .ok (.return_, 1) := by decide +kernel
theorem d_Re_leastAbsent_0 : decode c_Re_leastAbsent 0 = .ok (.iconst 1, 1) := by decide +kernel
theorem d_Re_leastAbsent_1 : decode c_Re_leastAbsent 1 = .ok (.istore_n 1, 1) := by decide +kernel
theorem d_Re_leastAbsent_2 : decode c_Re_leastAbsent 2 = .ok (.iload_n 1, 1) := by decide +kernel
theorem d_Re_leastAbsent_3 : decode c_Re_leastAbsent 3 = .ok (.bipush 12, 2) := by decide +kernel
theorem d_Re_leastAbsent_5 : decode c_Re_leastAbsent 5 = .ok (.if_icmp .gt 19, 3) := by decide +kernel
theorem d_Re_leastAbsent_8 : decode c_Re_leastAbsent 8 = .ok (.aload_n 0, 1) := by decide +kernel
theorem d_Re_leastAbsent_9 : decode c_Re_leastAbsent 9 = .ok (.iload_n 1, 1) := by decide +kernel
theorem d_Re_leastAbsent_10 : decode c_Re_leastAbsent 10 = .ok (.invokevirtual 15, 3) := by decide +kernel
theorem d_Re_leastAbsent_13 : decode c_Re_leastAbsent 13 = .ok (.ifCond .ne 5, 3) := by decide +kernel
theorem d_Re_leastAbsent_16 : decode c_Re_leastAbsent 16 = .ok (.iload_n 1, 1) := by decide +kernel
theorem d_Re_leastAbsent_17 : decode c_Re_leastAbsent 17 = .ok (.ireturn, 1) := by decide +kernel
theorem d_Re_leastAbsent_18 : decode c_Re_leastAbsent 18 = .ok (.iinc 1 1, 3) := by decide +kernel
theorem d_Re_leastAbsent_21 : decode c_Re_leastAbsent 21 = .ok (.goto (-19), 3) := by decide +kernel
theorem d_Re_leastAbsent_24 : decode c_Re_leastAbsent 24 = .ok (.iconst 0, 1) := by decide +kernel
theorem d_Re_leastAbsent_25 : decode c_Re_leastAbsent 25 = .ok (.ireturn, 1) := by decide +kernel
theorem d_Re_kindOf_0 : decode c_Re_kindOf 0 = .ok (.aload_n 0, 1) := by decide +kernel
theorem d_Re_kindOf_1 : decode c_Re_kindOf 1 = .ok (.iload_n 1, 1) := by decide +kernel
theorem d_Re_kindOf_2 : decode c_Re_kindOf 2 = .ok (.iconst 0, 1) := by decide +kernel
theorem d_Re_kindOf_3 : decode c_Re_kindOf 3 = .ok (.iconst 2, 1) := by decide +kernel
theorem d_Re_kindOf_4 : decode c_Re_kindOf 4 = .ok (.invokevirtual 29, 3) := by decide +kernel
theorem d_Re_kindOf_7 : decode c_Re_kindOf 7 = .ok (.lookupswitch 29 #[(32768, 25), (40960, 27)], 25) := by decide +kernel
theorem d_Re_kindOf_32 : decode c_Re_kindOf 32 = .ok (.iconst 1, 1) := by decide +kernel
theorem d_Re_kindOf_33 : decode c_Re_kindOf 33 = .ok (.ireturn, 1) := by decide +kernel
theorem d_Re_kindOf_34 : decode c_Re_kindOf 34 = .ok (.iconst 3, 1) := by decide +kernel
theorem d_Re_kindOf_35 : decode c_Re_kindOf 35 = .ok (.ireturn, 1) := by decide +kernel
theorem d_Re_kindOf_36 : decode c_Re_kindOf 36 = .ok (.iconst 0, 1) := by decide +kernel
theorem d_Re_kindOf_37 : decode c_Re_kindOf 37 = .ok (.ireturn, 1) := by decide +kernel
theorem d_Re_begin_0 : decode c_Re_begin 0 = .ok (.aload_n 0, 1) := by decide +kernel
theorem d_Re_begin_1 : decode c_Re_begin 1 = .ok (.iload_n 1, 1) := by decide +kernel
theorem d_Re_begin_2 : decode c_Re_begin 2 = .ok (.iconst 0, 1) := by decide +kernel
theorem d_Re_begin_3 : decode c_Re_begin 3 = .ok (.iconst 2, 1) := by decide +kernel
theorem d_Re_begin_4 : decode c_Re_begin 4 = .ok (.iload_n 2, 1) := by decide +kernel
theorem d_Re_begin_5 : decode c_Re_begin 5 = .ok (.iconst 3, 1) := by decide +kernel
theorem d_Re_begin_6 : decode c_Re_begin 6 = .ok (.if_icmp .ne 8, 3) := by decide +kernel
theorem d_Re_begin_9 : decode c_Re_begin 9 = .ok (.ldc 19, 2) := by decide +kernel
theorem d_Re_begin_11 : decode c_Re_begin 11 = .ok (.goto 5, 3) := by decide +kernel
theorem d_Re_begin_14 : decode c_Re_begin 14 = .ok (.ldc 20, 2) := by decide +kernel
theorem d_Re_begin_16 : decode c_Re_begin 16 = .ok (.invokevirtual 21, 3) := by decide +kernel
theorem d_Re_begin_19 : decode c_Re_begin 19 = .ok (.aload_n 0, 1) := by decide +kernel
theorem d_Re_begin_20 : decode c_Re_begin 20 = .ok (.iload_n 1, 1) := by decide +kernel
theorem d_Re_begin_21 : decode c_Re_begin 21 = .ok (.iload_n 3, 1) := by decide +kernel
theorem d_Re_begin_22 : decode c_Re_begin 22 = .ok (.invokevirtual 25, 3) := by decide +kernel
theorem d_Re_begin_25 : decode c_Re_begin 25 = .ok (.return_, 1) := by decide +kernel
theorem d_Re_setLinks_0 : decode c_Re_setLinks 0 = .ok (.aload_n 0, 1) := by decide +kernel
theorem d_Re_setLinks_1 : decode c_Re_setLinks 1 = .ok (.iload_n 1, 1) := by decide +kernel
theorem d_Re_setLinks_2 : decode c_Re_setLinks 2 = .ok (.bipush 26, 2) := by decide +kernel
theorem d_Re_setLinks_4 : decode c_Re_setLinks 4 = .ok (.iconst 2, 1) := by decide +kernel
theorem d_Re_setLinks_5 : decode c_Re_setLinks 5 = .ok (.iload_n 2, 1) := by decide +kernel
theorem d_Re_setLinks_6 : decode c_Re_setLinks 6 = .ok (.invokevirtual 21, 3) := by decide +kernel
theorem d_Re_setLinks_9 : decode c_Re_setLinks 9 = .ok (.return_, 1) := by decide +kernel
theorem d_Wa_add_0 : decode c_Wa_add 0 = .ok (.aload_n 0, 1) := by decide +kernel
theorem d_Wa_add_1 : decode c_Wa_add 1 = .ok (.getfield 15, 3) := by decide +kernel
theorem d_Wa_add_4 : decode c_Wa_add 4 = .ok (.iload_n 1, 1) := by decide +kernel
theorem d_Wa_add_5 : decode c_Wa_add 5 = .ok (.aload_n 0, 1) := by decide +kernel
theorem d_Wa_add_6 : decode c_Wa_add 6 = .ok (.invokevirtual 25, 3) := by decide +kernel
theorem d_Wa_add_9 : decode c_Wa_add 9 = .ok (.invokevirtual 35, 3) := by decide +kernel
theorem d_Wa_add_12 : decode c_Wa_add 12 = .ok (.aload_n 0, 1) := by decide +kernel
theorem d_Wa_add_13 : decode c_Wa_add 13 = .ok (.iload_n 1, 1) := by decide +kernel
theorem d_Wa_add_14 : decode c_Wa_add 14 = .ok (.invokevirtual 39, 3) := by decide +kernel
theorem d_Wa_add_17 : decode c_Wa_add 17 = .ok (.return_, 1) := by decide +kernel
theorem d_Db_howManyFree_0 : decode c_Db_howManyFree 0 = .ok (.aload_n 0, 1) := by decide +kernel
theorem d_Db_howManyFree_1 : decode c_Db_howManyFree 1 = .ok (.getfield 21, 3) := by decide +kernel
theorem d_Db_howManyFree_4 : decode c_Db_howManyFree 4 = .ok (.ireturn, 1) := by decide +kernel
theorem d_Re_setSize_0 : decode c_Re_setSize 0 = .ok (.aload_n 0, 1) := by decide +kernel
theorem d_Re_setSize_1 : decode c_Re_setSize 1 = .ok (.iload_n 1, 1) := by decide +kernel
theorem d_Re_setSize_2 : decode c_Re_setSize 2 = .ok (.iconst 4, 1) := by decide +kernel
theorem d_Re_setSize_3 : decode c_Re_setSize 3 = .ok (.iconst 4, 1) := by decide +kernel
theorem d_Re_setSize_4 : decode c_Re_setSize 4 = .ok (.iload_n 2, 1) := by decide +kernel
theorem d_Re_setSize_5 : decode c_Re_setSize 5 = .ok (.invokevirtual 21, 3) := by decide +kernel
theorem d_Re_setSize_8 : decode c_Re_setSize 8 = .ok (.return_, 1) := by decide +kernel
theorem d_Re_hasTarget_0 : decode c_Re_hasTarget 0 = .ok (.aload_n 0, 1) := by decide +kernel
theorem d_Re_hasTarget_1 : decode c_Re_hasTarget 1 = .ok (.iload_n 1, 1) := by decide +kernel
theorem d_Re_hasTarget_2 : decode c_Re_hasTarget 2 = .ok (.invokevirtual 15, 3) := by decide +kernel
theorem d_Re_hasTarget_5 : decode c_Re_hasTarget 5 = .ok (.iconst 3, 1) := by decide +kernel
theorem d_Re_hasTarget_6 : decode c_Re_hasTarget 6 = .ok (.if_icmp .ne 17, 3) := by decide +kernel
theorem d_Re_hasTarget_9 : decode c_Re_hasTarget 9 = .ok (.aload_n 0, 1) := by decide +kernel
theorem d_Re_hasTarget_10 : decode c_Re_hasTarget 10 = .ok (.iload_n 1, 1) := by decide +kernel
theorem d_Re_hasTarget_11 : decode c_Re_hasTarget 11 = .ok (.invokevirtual 33, 3) := by decide +kernel
theorem d_Re_hasTarget_14 : decode c_Re_hasTarget 14 = .ok (.bipush 59, 2) := by decide +kernel
theorem d_Re_hasTarget_16 : decode c_Re_hasTarget 16 = .ok (.if_icmp .gt 7, 3) := by decide +kernel
theorem d_Re_hasTarget_19 : decode c_Re_hasTarget 19 = .ok (.iconst 1, 1) := by decide +kernel
theorem d_Re_hasTarget_20 : decode c_Re_hasTarget 20 = .ok (.goto 4, 3) := by decide +kernel
theorem d_Re_hasTarget_23 : decode c_Re_hasTarget 23 = .ok (.iconst 0, 1) := by decide +kernel
theorem d_Re_hasTarget_24 : decode c_Re_hasTarget 24 = .ok (.ireturn, 1) := by decide +kernel
theorem d_Re_sizeOf_0 : decode c_Re_sizeOf 0 = .ok (.aload_n 0, 1) := by decide +kernel
theorem d_Re_sizeOf_1 : decode c_Re_sizeOf 1 = .ok (.iload_n 1, 1) := by decide +kernel
theorem d_Re_sizeOf_2 : decode c_Re_sizeOf 2 = .ok (.iconst 4, 1) := by decide +kernel
theorem d_Re_sizeOf_3 : decode c_Re_sizeOf 3 = .ok (.iconst 4, 1) := by decide +kernel
theorem d_Re_sizeOf_4 : decode c_Re_sizeOf 4 = .ok (.invokevirtual 29, 3) := by decide +kernel
theorem d_Re_sizeOf_7 : decode c_Re_sizeOf 7 = .ok (.ireturn, 1) := by decide +kernel
theorem d_Ma_floorMod_0 : decode c_Ma_floorMod 0 = .ok (.iload_n 0, 1) := by decide +kernel
theorem d_Ma_floorMod_1 : decode c_Ma_floorMod 1 = .ok (.iload_n 1, 1) := by decide +kernel
theorem d_Ma_floorMod_2 : decode c_Ma_floorMod 2 = .ok (.irem, 1) := by decide +kernel
theorem d_Ma_floorMod_3 : decode c_Ma_floorMod 3 = .ok (.istore_n 2, 1) := by decide +kernel
theorem d_Ma_floorMod_4 : decode c_Ma_floorMod 4 = .ok (.iload_n 0, 1) := by decide +kernel
theorem d_Ma_floorMod_5 : decode c_Ma_floorMod 5 = .ok (.iload_n 1, 1) := by decide +kernel
theorem d_Ma_floorMod_6 : decode c_Ma_floorMod 6 = .ok (.ixor, 1) := by decide +kernel
theorem d_Ma_floorMod_7 : decode c_Ma_floorMod 7 = .ok (.ifCond .ge 11, 3) := by decide +kernel
theorem d_Ma_floorMod_10 : decode c_Ma_floorMod 10 = .ok (.iload_n 2, 1) := by decide +kernel
theorem d_Ma_floorMod_11 : decode c_Ma_floorMod 11 = .ok (.ifCond .eq 7, 3) := by decide +kernel
theorem d_Ma_floorMod_14 : decode c_Ma_floorMod 14 = .ok (.iload_n 2, 1) := by decide +kernel
theorem d_Ma_floorMod_15 : decode c_Ma_floorMod 15 = .ok (.iload_n 1, 1) := by decide +kernel
theorem d_Ma_floorMod_16 : decode c_Ma_floorMod 16 = .ok (.iadd, 1) := by decide +kernel
theorem d_Ma_floorMod_17 : decode c_Ma_floorMod 17 = .ok (.ireturn, 1) := by decide +kernel
theorem d_Ma_floorMod_18 : decode c_Ma_floorMod 18 = .ok (.iload_n 2, 1) := by decide +kernel
theorem d_Ma_floorMod_19 : decode c_Ma_floorMod 19 = .ok (.ireturn, 1) := by decide +kernel
theorem d_Re_setTargetByte_0 : decode c_Re_setTargetByte 0 = .ok (.aload_n 0, 1) := by decide +kernel
theorem d_Re_setTargetByte_1 : decode c_Re_setTargetByte 1 = .ok (.iload_n 1, 1) := by decide +kernel
theorem d_Re_setTargetByte_2 : decode c_Re_setTargetByte 2 = .ok (.bipush 40, 2) := by decide +kernel
theorem d_Re_setTargetByte_4 : decode c_Re_setTargetByte 4 = .ok (.iload_n 2, 1) := by decide +kernel
theorem d_Re_setTargetByte_5 : decode c_Re_setTargetByte 5 = .ok (.iadd, 1) := by decide +kernel
theorem d_Re_setTargetByte_6 : decode c_Re_setTargetByte 6 = .ok (.iconst 1, 1) := by decide +kernel
theorem d_Re_setTargetByte_7 : decode c_Re_setTargetByte 7 = .ok (.iload_n 3, 1) := by decide +kernel
theorem d_Re_setTargetByte_8 : decode c_Re_setTargetByte 8 = .ok (.invokevirtual 21, 3) := by decide +kernel
theorem d_Re_setTargetByte_11 : decode c_Re_setTargetByte 11 = .ok (.return_, 1) := by decide +kernel
theorem d_Db_take_0 : decode c_Db_take 0 = .ok (.aload_n 0, 1) := by decide +kernel
theorem d_Db_take_1 : decode c_Db_take 1 = .ok (.iload_n 1, 1) := by decide +kernel
theorem d_Db_take_2 : decode c_Db_take 2 = .ok (.invokevirtual 25, 3) := by decide +kernel
theorem d_Db_take_5 : decode c_Db_take 5 = .ok (.istore_n 2, 1) := by decide +kernel
theorem d_Db_take_6 : decode c_Db_take 6 = .ok (.iload_n 2, 1) := by decide +kernel
theorem d_Db_take_7 : decode c_Db_take 7 = .ok (.ifCond .ne 9, 3) := by decide +kernel
theorem d_Db_take_10 : decode c_Db_take 10 = .ok (.aload_n 0, 1) := by decide +kernel
theorem d_Db_take_11 : decode c_Db_take 11 = .ok (.iconst 4, 1) := by decide +kernel
theorem d_Db_take_12 : decode c_Db_take 12 = .ok (.invokevirtual 25, 3) := by decide +kernel
theorem d_Db_take_15 : decode c_Db_take 15 = .ok (.istore_n 2, 1) := by decide +kernel
theorem d_Db_take_16 : decode c_Db_take 16 = .ok (.iload_n 2, 1) := by decide +kernel
theorem d_Db_take_17 : decode c_Db_take 17 = .ok (.ifCond .ne 5, 3) := by decide +kernel
theorem d_Db_take_20 : decode c_Db_take 20 = .ok (.iconst 0, 1) := by decide +kernel
theorem d_Db_take_21 : decode c_Db_take 21 = .ok (.ireturn, 1) := by decide +kernel
theorem d_Db_take_22 : decode c_Db_take 22 = .ok (.aload_n 0, 1) := by decide +kernel
theorem d_Db_take_23 : decode c_Db_take 23 = .ok (.getfield 11, 3) := by decide +kernel
theorem d_Db_take_26 : decode c_Db_take 26 = .ok (.iload_n 2, 1) := by decide +kernel
theorem d_Db_take_27 : decode c_Db_take 27 = .ok (.aaload, 1) := by decide +kernel
theorem d_Db_take_28 : decode c_Db_take 28 = .ok (.ifnonnull 17, 3) := by decide +kernel
theorem d_Db_take_31 : decode c_Db_take 31 = .ok (.aload_n 0, 1) := by decide +kernel
theorem d_Db_take_32 : decode c_Db_take 32 = .ok (.getfield 11, 3) := by decide +kernel
theorem d_Db_take_35 : decode c_Db_take 35 = .ok (.iload_n 2, 1) := by decide +kernel
theorem d_Db_take_36 : decode c_Db_take 36 = .ok (.sipush 1024, 3) := by decide +kernel
theorem d_Db_take_39 : decode c_Db_take 39 = .ok (.newarray .byte, 2) := by decide +kernel
theorem d_Db_take_41 : decode c_Db_take 41 = .ok (.aastore, 1) := by decide +kernel
theorem d_Db_take_42 : decode c_Db_take 42 = .ok (.goto 13, 3) := by decide +kernel
theorem d_Db_take_45 : decode c_Db_take 45 = .ok (.aload_n 0, 1) := by decide +kernel
theorem d_Db_take_46 : decode c_Db_take 46 = .ok (.getfield 11, 3) := by decide +kernel
theorem d_Db_take_49 : decode c_Db_take 49 = .ok (.iload_n 2, 1) := by decide +kernel
theorem d_Db_take_50 : decode c_Db_take 50 = .ok (.aaload, 1) := by decide +kernel
theorem d_Db_take_51 : decode c_Db_take 51 = .ok (.iconst 0, 1) := by decide +kernel
theorem d_Db_take_52 : decode c_Db_take 52 = .ok (.invokestatic 29, 3) := by decide +kernel
theorem d_Db_take_55 : decode c_Db_take 55 = .ok (.aload_n 0, 1) := by decide +kernel
theorem d_Db_take_56 : decode c_Db_take 56 = .ok (.getfield 17, 3) := by decide +kernel
theorem d_Db_take_59 : decode c_Db_take 59 = .ok (.iload_n 2, 1) := by decide +kernel
theorem d_Db_take_60 : decode c_Db_take 60 = .ok (.iconst 1, 1) := by decide +kernel
theorem d_Db_take_61 : decode c_Db_take 61 = .ok (.bastore, 1) := by decide +kernel
theorem d_Db_take_62 : decode c_Db_take 62 = .ok (.aload_n 0, 1) := by decide +kernel
theorem d_Db_take_63 : decode c_Db_take 63 = .ok (.dup, 1) := by decide +kernel
theorem d_Db_take_64 : decode c_Db_take 64 = .ok (.getfield 21, 3) := by decide +kernel
theorem d_Db_take_67 : decode c_Db_take 67 = .ok (.iconst 1, 1) := by decide +kernel
theorem d_Db_take_68 : decode c_Db_take 68 = .ok (.isub, 1) := by decide +kernel
theorem d_Db_take_69 : decode c_Db_take 69 = .ok (.putfield 21, 3) := by decide +kernel
theorem d_Db_take_72 : decode c_Db_take 72 = .ok (.iload_n 2, 1) := by decide +kernel
theorem d_Db_take_73 : decode c_Db_take 73 = .ok (.ireturn, 1) := by decide +kernel
theorem d_Db_leastFree_0 : decode c_Db_leastFree 0 = .ok (.iload_n 1, 1) := by decide +kernel
theorem d_Db_leastFree_1 : decode c_Db_leastFree 1 = .ok (.iconst 4, 1) := by decide +kernel
theorem d_Db_leastFree_2 : decode c_Db_leastFree 2 = .ok (.invokestatic 42, 3) := by decide +kernel
theorem d_Db_leastFree_5 : decode c_Db_leastFree 5 = .ok (.istore_n 2, 1) := by decide +kernel
theorem d_Db_leastFree_6 : decode c_Db_leastFree 6 = .ok (.iload_n 2, 1) := by decide +kernel
theorem d_Db_leastFree_7 : decode c_Db_leastFree 7 = .ok (.sipush 128, 3) := by decide +kernel
theorem d_Db_leastFree_10 : decode c_Db_leastFree 10 = .ok (.if_icmp .ge 20, 3) := by decide +kernel
theorem d_Db_leastFree_13 : decode c_Db_leastFree 13 = .ok (.aload_n 0, 1) := by decide +kernel
theorem d_Db_leastFree_14 : decode c_Db_leastFree 14 = .ok (.getfield 17, 3) := by decide +kernel
theorem d_Db_leastFree_17 : decode c_Db_leastFree 17 = .ok (.iload_n 2, 1) := by decide +kernel
theorem d_Db_leastFree_18 : decode c_Db_leastFree 18 = .ok (.baload, 1) := by decide +kernel
theorem d_Db_leastFree_19 : decode c_Db_leastFree 19 = .ok (.ifCond .ne 5, 3) := by decide +kernel
theorem d_Db_leastFree_22 : decode c_Db_leastFree 22 = .ok (.iload_n 2, 1) := by decide +kernel
theorem d_Db_leastFree_23 : decode c_Db_leastFree 23 = .ok (.ireturn, 1) := by decide +kernel
theorem d_Db_leastFree_24 : decode c_Db_leastFree 24 = .ok (.iinc 2 1, 3) := by decide +kernel
theorem d_Db_leastFree_27 : decode c_Db_leastFree 27 = .ok (.goto (-21), 3) := by decide +kernel
theorem d_Db_leastFree_30 : decode c_Db_leastFree 30 = .ok (.iconst 0, 1) := by decide +kernel
theorem d_Db_leastFree_31 : decode c_Db_leastFree 31 = .ok (.ireturn, 1) := by decide +kernel
theorem d_Ar_fill_0 : decode c_Ar_fill 0 = .ok (.iconst 0, 1) := by decide +kernel
theorem d_Ar_fill_1 : decode c_Ar_fill 1 = .ok (.istore_n 2, 1) := by decide +kernel
theorem d_Ar_fill_2 : decode c_Ar_fill 2 = .ok (.aload_n 0, 1) := by decide +kernel
theorem d_Ar_fill_3 : decode c_Ar_fill 3 = .ok (.arraylength, 1) := by decide +kernel
theorem d_Ar_fill_4 : decode c_Ar_fill 4 = .ok (.istore_n 3, 1) := by decide +kernel
theorem d_Ar_fill_5 : decode c_Ar_fill 5 = .ok (.iload_n 2, 1) := by decide +kernel
theorem d_Ar_fill_6 : decode c_Ar_fill 6 = .ok (.iload_n 3, 1) := by decide +kernel
theorem d_Ar_fill_7 : decode c_Ar_fill 7 = .ok (.if_icmp .ge 13, 3) := by decide +kernel
theorem d_Ar_fill_10 : decode c_Ar_fill 10 = .ok (.aload_n 0, 1) := by decide +kernel
theorem d_Ar_fill_11 : decode c_Ar_fill 11 = .ok (.iload_n 2, 1) := by decide +kernel
theorem d_Ar_fill_12 : decode c_Ar_fill 12 = .ok (.iload_n 1, 1) := by decide +kernel
theorem d_Ar_fill_13 : decode c_Ar_fill 13 = .ok (.bastore, 1) := by decide +kernel
theorem d_Ar_fill_14 : decode c_Ar_fill 14 = .ok (.iinc 2 1, 3) := by decide +kernel
theorem d_Ar_fill_17 : decode c_Ar_fill 17 = .ok (.goto (-12), 3) := by decide +kernel
theorem d_Ar_fill_20 : decode c_Ar_fill 20 = .ok (.return_, 1) := by decide +kernel
theorem d_Re_addBlock_0 : decode c_Re_addBlock 0 = .ok (.aload_n 0, 1) := by decide +kernel
theorem d_Re_addBlock_1 : decode c_Re_addBlock 1 = .ok (.iload_n 1, 1) := by decide +kernel
theorem d_Re_addBlock_2 : decode c_Re_addBlock 2 = .ok (.bipush 40, 2) := by decide +kernel
theorem d_Re_addBlock_4 : decode c_Re_addBlock 4 = .ok (.iconst 4, 1) := by decide +kernel
theorem d_Re_addBlock_5 : decode c_Re_addBlock 5 = .ok (.iload_n 2, 1) := by decide +kernel
theorem d_Re_addBlock_6 : decode c_Re_addBlock 6 = .ok (.imul, 1) := by decide +kernel
theorem d_Re_addBlock_7 : decode c_Re_addBlock 7 = .ok (.iadd, 1) := by decide +kernel
theorem d_Re_addBlock_8 : decode c_Re_addBlock 8 = .ok (.iconst 4, 1) := by decide +kernel
theorem d_Re_addBlock_9 : decode c_Re_addBlock 9 = .ok (.iload_n 3, 1) := by decide +kernel
theorem d_Re_addBlock_10 : decode c_Re_addBlock 10 = .ok (.invokevirtual 21, 3) := by decide +kernel
theorem d_Re_addBlock_13 : decode c_Re_addBlock 13 = .ok (.aload_n 0, 1) := by decide +kernel
theorem d_Re_addBlock_14 : decode c_Re_addBlock 14 = .ok (.iload_n 1, 1) := by decide +kernel
theorem d_Re_addBlock_15 : decode c_Re_addBlock 15 = .ok (.bipush 28, 2) := by decide +kernel
theorem d_Re_addBlock_17 : decode c_Re_addBlock 17 = .ok (.iconst 4, 1) := by decide +kernel
theorem d_Re_addBlock_18 : decode c_Re_addBlock 18 = .ok (.iconst 2, 1) := by decide +kernel
theorem d_Re_addBlock_19 : decode c_Re_addBlock 19 = .ok (.aload_n 0, 1) := by decide +kernel
theorem d_Re_addBlock_20 : decode c_Re_addBlock 20 = .ok (.iload_n 1, 1) := by decide +kernel
theorem d_Re_addBlock_21 : decode c_Re_addBlock 21 = .ok (.invokevirtual 36, 3) := by decide +kernel
theorem d_Re_addBlock_24 : decode c_Re_addBlock 24 = .ok (.iconst 1, 1) := by decide +kernel
theorem d_Re_addBlock_25 : decode c_Re_addBlock 25 = .ok (.iadd, 1) := by decide +kernel
theorem d_Re_addBlock_26 : decode c_Re_addBlock 26 = .ok (.imul, 1) := by decide +kernel
theorem d_Re_addBlock_27 : decode c_Re_addBlock 27 = .ok (.invokevirtual 21, 3) := by decide +kernel
theorem d_Re_addBlock_30 : decode c_Re_addBlock 30 = .ok (.return_, 1) := by decide +kernel
theorem d_Db_setByte_0 : decode c_Db_setByte 0 = .ok (.aload_n 0, 1) := by decide +kernel
theorem d_Db_setByte_1 : decode c_Db_setByte 1 = .ok (.iload_n 1, 1) := by decide +kernel
theorem d_Db_setByte_2 : decode c_Db_setByte 2 = .ok (.iload_n 2, 1) := by decide +kernel
theorem d_Db_setByte_3 : decode c_Db_setByte 3 = .ok (.iload_n 2, 1) := by decide +kernel
theorem d_Db_setByte_4 : decode c_Db_setByte 4 = .ok (.iconst 1, 1) := by decide +kernel
theorem d_Db_setByte_5 : decode c_Db_setByte 5 = .ok (.iadd, 1) := by decide +kernel
theorem d_Db_setByte_6 : decode c_Db_setByte 6 = .ok (.invokevirtual 35, 3) := by decide +kernel
theorem d_Db_setByte_9 : decode c_Db_setByte 9 = .ok (.ifCond .eq 13, 3) := by decide +kernel
theorem d_Db_setByte_12 : decode c_Db_setByte 12 = .ok (.aload_n 0, 1) := by decide +kernel
theorem d_Db_setByte_13 : decode c_Db_setByte 13 = .ok (.getfield 11, 3) := by decide +kernel
theorem d_Db_setByte_16 : decode c_Db_setByte 16 = .ok (.iload_n 1, 1) := by decide +kernel
theorem d_Db_setByte_17 : decode c_Db_setByte 17 = .ok (.aaload, 1) := by decide +kernel
theorem d_Db_setByte_18 : decode c_Db_setByte 18 = .ok (.iload_n 2, 1) := by decide +kernel
theorem d_Db_setByte_19 : decode c_Db_setByte 19 = .ok (.iload_n 3, 1) := by decide +kernel
theorem d_Db_setByte_20 : decode c_Db_setByte 20 = .ok (.i2b, 1) := by decide +kernel
theorem d_Db_setByte_21 : decode c_Db_setByte 21 = .ok (.bastore, 1) := by decide +kernel
theorem d_Db_setByte_22 : decode c_Db_setByte 22 = .ok (.return_, 1) := by decide +kernel
theorem d_Db_hasSpan_0 : decode c_Db_hasSpan 0 = .ok (.iload_n 1, 1) := by decide +kernel
theorem d_Db_hasSpan_1 : decode c_Db_hasSpan 1 = .ok (.ifCond .lt 39, 3) := by decide +kernel
theorem d_Db_hasSpan_4 : decode c_Db_hasSpan 4 = .ok (.iload_n 1, 1) := by decide +kernel
theorem d_Db_hasSpan_5 : decode c_Db_hasSpan 5 = .ok (.sipush 128, 3) := by decide +kernel
theorem d_Db_hasSpan_8 : decode c_Db_hasSpan 8 = .ok (.if_icmp .ge 32, 3) := by decide +kernel
theorem d_Db_hasSpan_11 : decode c_Db_hasSpan 11 = .ok (.aload_n 0, 1) := by decide +kernel
theorem d_Db_hasSpan_12 : decode c_Db_hasSpan 12 = .ok (.getfield 11, 3) := by decide +kernel
theorem d_Db_hasSpan_15 : decode c_Db_hasSpan 15 = .ok (.iload_n 1, 1) := by decide +kernel
theorem d_Db_hasSpan_16 : decode c_Db_hasSpan 16 = .ok (.aaload, 1) := by decide +kernel
theorem d_Db_hasSpan_17 : decode c_Db_hasSpan 17 = .ok (.ifnull 23, 3) := by decide +kernel
theorem d_Db_hasSpan_20 : decode c_Db_hasSpan 20 = .ok (.iload_n 2, 1) := by decide +kernel
theorem d_Db_hasSpan_21 : decode c_Db_hasSpan 21 = .ok (.ifCond .lt 19, 3) := by decide +kernel
theorem d_Db_hasSpan_24 : decode c_Db_hasSpan 24 = .ok (.iload_n 2, 1) := by decide +kernel
theorem d_Db_hasSpan_25 : decode c_Db_hasSpan 25 = .ok (.iload_n 3, 1) := by decide +kernel
theorem d_Db_hasSpan_26 : decode c_Db_hasSpan 26 = .ok (.if_icmp .gt 14, 3) := by decide +kernel
theorem d_Db_hasSpan_29 : decode c_Db_hasSpan 29 = .ok (.iload_n 3, 1) := by decide +kernel
theorem d_Db_hasSpan_30 : decode c_Db_hasSpan 30 = .ok (.sipush 1024, 3) := by decide +kernel
theorem d_Db_hasSpan_33 : decode c_Db_hasSpan 33 = .ok (.if_icmp .gt 7, 3) := by decide +kernel
theorem d_Db_hasSpan_36 : decode c_Db_hasSpan 36 = .ok (.iconst 1, 1) := by decide +kernel
theorem d_Db_hasSpan_37 : decode c_Db_hasSpan 37 = .ok (.goto 4, 3) := by decide +kernel
theorem d_Db_hasSpan_40 : decode c_Db_hasSpan 40 = .ok (.iconst 0, 1) := by decide +kernel
theorem d_Db_hasSpan_41 : decode c_Db_hasSpan 41 = .ok (.ireturn, 1) := by decide +kernel
theorem d_Db_setPattern_0 : decode c_Db_setPattern 0 = .ok (.aload_n 0, 1) := by decide +kernel
theorem d_Db_setPattern_1 : decode c_Db_setPattern 1 = .ok (.iload_n 1, 1) := by decide +kernel
theorem d_Db_setPattern_2 : decode c_Db_setPattern 2 = .ok (.iload_n 2, 1) := by decide +kernel
theorem d_Db_setPattern_3 : decode c_Db_setPattern 3 = .ok (.iload_n 3, 1) := by decide +kernel
theorem d_Db_setPattern_4 : decode c_Db_setPattern 4 = .ok (.invokevirtual 35, 3) := by decide +kernel
theorem d_Db_setPattern_7 : decode c_Db_setPattern 7 = .ok (.ifCond .ne 4, 3) := by decide +kernel
theorem d_Db_setPattern_10 : decode c_Db_setPattern 10 = .ok (.return_, 1) := by decide +kernel
theorem d_Db_setPattern_11 : decode c_Db_setPattern 11 = .ok (.aload_n 0, 1) := by decide +kernel
theorem d_Db_setPattern_12 : decode c_Db_setPattern 12 = .ok (.getfield 11, 3) := by decide +kernel
theorem d_Db_setPattern_15 : decode c_Db_setPattern 15 = .ok (.iload_n 1, 1) := by decide +kernel
theorem d_Db_setPattern_16 : decode c_Db_setPattern 16 = .ok (.aaload, 1) := by decide +kernel
theorem d_Db_setPattern_17 : decode c_Db_setPattern 17 = .ok (.astore 5, 2) := by decide +kernel
theorem d_Db_setPattern_19 : decode c_Db_setPattern 19 = .ok (.iload 4, 2) := by decide +kernel
theorem d_Db_setPattern_21 : decode c_Db_setPattern 21 = .ok (.istore 6, 2) := by decide +kernel
theorem d_Db_setPattern_23 : decode c_Db_setPattern 23 = .ok (.iload_n 2, 1) := by decide +kernel
theorem d_Db_setPattern_24 : decode c_Db_setPattern 24 = .ok (.istore 7, 2) := by decide +kernel
theorem d_Db_setPattern_26 : decode c_Db_setPattern 26 = .ok (.iload 7, 2) := by decide +kernel
theorem d_Db_setPattern_28 : decode c_Db_setPattern 28 = .ok (.iload_n 3, 1) := by decide +kernel
theorem d_Db_setPattern_29 : decode c_Db_setPattern 29 = .ok (.if_icmp .ge 20, 3) := by decide +kernel
theorem d_Db_setPattern_32 : decode c_Db_setPattern 32 = .ok (.aload 5, 2) := by decide +kernel
theorem d_Db_setPattern_34 : decode c_Db_setPattern 34 = .ok (.iload 7, 2) := by decide +kernel
theorem d_Db_setPattern_36 : decode c_Db_setPattern 36 = .ok (.iload 6, 2) := by decide +kernel
theorem d_Db_setPattern_38 : decode c_Db_setPattern 38 = .ok (.i2b, 1) := by decide +kernel
theorem d_Db_setPattern_39 : decode c_Db_setPattern 39 = .ok (.bastore, 1) := by decide +kernel
theorem d_Db_setPattern_40 : decode c_Db_setPattern 40 = .ok (.iinc 6 7, 3) := by decide +kernel
theorem d_Db_setPattern_43 : decode c_Db_setPattern 43 = .ok (.iinc 7 1, 3) := by decide +kernel
theorem d_Db_setPattern_46 : decode c_Db_setPattern 46 = .ok (.goto (-20), 3) := by decide +kernel
theorem d_Db_setPattern_49 : decode c_Db_setPattern 49 = .ok (.return_, 1) := by decide +kernel
theorem d_Re_targetByte_0 : decode c_Re_targetByte 0 = .ok (.aload_n 0, 1) := by decide +kernel
theorem d_Re_targetByte_1 : decode c_Re_targetByte 1 = .ok (.iload_n 1, 1) := by decide +kernel
theorem d_Re_targetByte_2 : decode c_Re_targetByte 2 = .ok (.bipush 40, 2) := by decide +kernel
theorem d_Re_targetByte_4 : decode c_Re_targetByte 4 = .ok (.iload_n 2, 1) := by decide +kernel
theorem d_Re_targetByte_5 : decode c_Re_targetByte 5 = .ok (.iadd, 1) := by decide +kernel
theorem d_Re_targetByte_6 : decode c_Re_targetByte 6 = .ok (.iconst 1, 1) := by decide +kernel
theorem d_Re_targetByte_7 : decode c_Re_targetByte 7 = .ok (.invokevirtual 29, 3) := by decide +kernel
theorem d_Re_targetByte_10 : decode c_Re_targetByte 10 = .ok (.ireturn, 1) := by decide +kernel
theorem d_Db_byteAt_0 : decode c_Db_byteAt 0 = .ok (.aload_n 0, 1) := by decide +kernel
theorem d_Db_byteAt_1 : decode c_Db_byteAt 1 = .ok (.iload_n 1, 1) := by decide +kernel
theorem d_Db_byteAt_2 : decode c_Db_byteAt 2 = .ok (.iload_n 2, 1) := by decide +kernel
theorem d_Db_byteAt_3 : decode c_Db_byteAt 3 = .ok (.iload_n 2, 1) := by decide +kernel
theorem d_Db_byteAt_4 : decode c_Db_byteAt 4 = .ok (.iconst 1, 1) := by decide +kernel
theorem d_Db_byteAt_5 : decode c_Db_byteAt 5 = .ok (.iadd, 1) := by decide +kernel
theorem d_Db_byteAt_6 : decode c_Db_byteAt 6 = .ok (.invokevirtual 35, 3) := by decide +kernel
theorem d_Db_byteAt_9 : decode c_Db_byteAt 9 = .ok (.ifCond .eq 18, 3) := by decide +kernel
theorem d_Db_byteAt_12 : decode c_Db_byteAt 12 = .ok (.aload_n 0, 1) := by decide +kernel
theorem d_Db_byteAt_13 : decode c_Db_byteAt 13 = .ok (.getfield 11, 3) := by decide +kernel
theorem d_Db_byteAt_16 : decode c_Db_byteAt 16 = .ok (.iload_n 1, 1) := by decide +kernel
theorem d_Db_byteAt_17 : decode c_Db_byteAt 17 = .ok (.aaload, 1) := by decide +kernel
theorem d_Db_byteAt_18 : decode c_Db_byteAt 18 = .ok (.iload_n 2, 1) := by decide +kernel
theorem d_Db_byteAt_19 : decode c_Db_byteAt 19 = .ok (.baload, 1) := by decide +kernel
theorem d_Db_byteAt_20 : decode c_Db_byteAt 20 = .ok (.sipush 255, 3) := by decide +kernel
theorem d_Db_byteAt_23 : decode c_Db_byteAt 23 = .ok (.iand, 1) := by decide +kernel
theorem d_Db_byteAt_24 : decode c_Db_byteAt 24 = .ok (.goto 4, 3) := by decide +kernel
theorem d_Db_byteAt_27 : decode c_Db_byteAt 27 = .ok (.iconst 0, 1) := by decide +kernel
theorem d_Db_byteAt_28 : decode c_Db_byteAt 28 = .ok (.ireturn, 1) := by decide +kernel
theorem d_Db_clear_0 : decode c_Db_clear 0 = .ok (.aload_n 0, 1) := by decide +kernel
theorem d_Db_clear_1 : decode c_Db_clear 1 = .ok (.iload_n 1, 1) := by decide +kernel
theorem d_Db_clear_2 : decode c_Db_clear 2 = .ok (.iload_n 2, 1) := by decide +kernel
theorem d_Db_clear_3 : decode c_Db_clear 3 = .ok (.iload_n 3, 1) := by decide +kernel
theorem d_Db_clear_4 : decode c_Db_clear 4 = .ok (.invokevirtual 35, 3) := by decide +kernel
theorem d_Db_clear_7 : decode c_Db_clear 7 = .ok (.ifCond .eq 15, 3) := by decide +kernel
theorem d_Db_clear_10 : decode c_Db_clear 10 = .ok (.aload_n 0, 1) := by decide +kernel
theorem d_Db_clear_11 : decode c_Db_clear 11 = .ok (.getfield 11, 3) := by decide +kernel
theorem d_Db_clear_14 : decode c_Db_clear 14 = .ok (.iload_n 1, 1) := by decide +kernel
theorem d_Db_clear_15 : decode c_Db_clear 15 = .ok (.aaload, 1) := by decide +kernel
theorem d_Db_clear_16 : decode c_Db_clear 16 = .ok (.iload_n 2, 1) := by decide +kernel
theorem d_Db_clear_17 : decode c_Db_clear 17 = .ok (.iload_n 3, 1) := by decide +kernel
theorem d_Db_clear_18 : decode c_Db_clear 18 = .ok (.iconst 0, 1) := by decide +kernel
theorem d_Db_clear_19 : decode c_Db_clear 19 = .ok (.invokestatic 39, 3) := by decide +kernel
theorem d_Db_clear_22 : decode c_Db_clear 22 = .ok (.return_, 1) := by decide +kernel
theorem d_Ar_fill4_0 : decode c_Ar_fill4 0 = .ok (.aload_n 0, 1) := by decide +kernel
theorem d_Ar_fill4_1 : decode c_Ar_fill4 1 = .ok (.arraylength, 1) := by decide +kernel
theorem d_Ar_fill4_2 : decode c_Ar_fill4 2 = .ok (.iload_n 1, 1) := by decide +kernel
theorem d_Ar_fill4_3 : decode c_Ar_fill4 3 = .ok (.iload_n 2, 1) := by decide +kernel
theorem d_Ar_fill4_4 : decode c_Ar_fill4 4 = .ok (.invokestatic 13, 3) := by decide +kernel
theorem d_Ar_fill4_7 : decode c_Ar_fill4 7 = .ok (.iload_n 1, 1) := by decide +kernel
theorem d_Ar_fill4_8 : decode c_Ar_fill4 8 = .ok (.istore 4, 2) := by decide +kernel
theorem d_Ar_fill4_10 : decode c_Ar_fill4 10 = .ok (.iload 4, 2) := by decide +kernel
theorem d_Ar_fill4_12 : decode c_Ar_fill4 12 = .ok (.iload_n 2, 1) := by decide +kernel
theorem d_Ar_fill4_13 : decode c_Ar_fill4 13 = .ok (.if_icmp .ge 14, 3) := by decide +kernel
theorem d_Ar_fill4_16 : decode c_Ar_fill4 16 = .ok (.aload_n 0, 1) := by decide +kernel
theorem d_Ar_fill4_17 : decode c_Ar_fill4 17 = .ok (.iload 4, 2) := by decide +kernel
theorem d_Ar_fill4_19 : decode c_Ar_fill4 19 = .ok (.iload_n 3, 1) := by decide +kernel
theorem d_Ar_fill4_20 : decode c_Ar_fill4 20 = .ok (.bastore, 1) := by decide +kernel
theorem d_Ar_fill4_21 : decode c_Ar_fill4 21 = .ok (.iinc 4 1, 3) := by decide +kernel
theorem d_Ar_fill4_24 : decode c_Ar_fill4 24 = .ok (.goto (-14), 3) := by decide +kernel
theorem d_Ar_fill4_27 : decode c_Ar_fill4 27 = .ok (.return_, 1) := by decide +kernel
theorem d_Ar_rangeCheck_0 : decode c_Ar_rangeCheck 0 = .ok (.iload_n 1, 1) := by decide +kernel
theorem d_Ar_rangeCheck_1 : decode c_Ar_rangeCheck 1 = .ok (.iload_n 2, 1) := by decide +kernel
theorem d_Ar_rangeCheck_2 : decode c_Ar_rangeCheck 2 = .ok (.if_icmp .le 44, 3) := by decide +kernel
theorem d_Ar_rangeCheck_5 : decode c_Ar_rangeCheck 5 = .ok (.new 43, 3) := by decide +kernel
theorem d_Ar_rangeCheck_8 : decode c_Ar_rangeCheck 8 = .ok (.dup, 1) := by decide +kernel
theorem d_Ar_rangeCheck_9 : decode c_Ar_rangeCheck 9 = .ok (.new 45, 3) := by decide +kernel
theorem d_Ar_rangeCheck_12 : decode c_Ar_rangeCheck 12 = .ok (.dup, 1) := by decide +kernel
theorem d_Ar_rangeCheck_13 : decode c_Ar_rangeCheck 13 = .ok (.invokespecial 47, 3) := by decide +kernel
theorem d_Ar_rangeCheck_16 : decode c_Ar_rangeCheck 16 = .ok (.ldc 48, 2) := by decide +kernel
theorem d_Ar_rangeCheck_18 : decode c_Ar_rangeCheck 18 = .ok (.invokevirtual 50, 3) := by decide +kernel
theorem d_Ar_rangeCheck_21 : decode c_Ar_rangeCheck 21 = .ok (.iload_n 1, 1) := by decide +kernel
theorem d_Ar_rangeCheck_22 : decode c_Ar_rangeCheck 22 = .ok (.invokevirtual 54, 3) := by decide +kernel
theorem d_Ar_rangeCheck_25 : decode c_Ar_rangeCheck 25 = .ok (.ldc 57, 2) := by decide +kernel
theorem d_Ar_rangeCheck_27 : decode c_Ar_rangeCheck 27 = .ok (.invokevirtual 50, 3) := by decide +kernel
theorem d_Ar_rangeCheck_30 : decode c_Ar_rangeCheck 30 = .ok (.iload_n 2, 1) := by decide +kernel
theorem d_Ar_rangeCheck_31 : decode c_Ar_rangeCheck 31 = .ok (.invokevirtual 54, 3) := by decide +kernel
theorem d_Ar_rangeCheck_34 : decode c_Ar_rangeCheck 34 = .ok (.ldc 59, 2) := by decide +kernel
theorem d_Ar_rangeCheck_36 : decode c_Ar_rangeCheck 36 = .ok (.invokevirtual 50, 3) := by decide +kernel
theorem d_Ar_rangeCheck_39 : decode c_Ar_rangeCheck 39 = .ok (.invokevirtual 61, 3) := by decide +kernel
theorem d_Ar_rangeCheck_42 : decode c_Ar_rangeCheck 42 = .ok (.invokespecial 65, 3) := by decide +kernel
theorem d_Ar_rangeCheck_45 : decode c_Ar_rangeCheck 45 = .ok (.athrow, 1) := by decide +kernel
theorem d_Ar_rangeCheck_46 : decode c_Ar_rangeCheck 46 = .ok (.iload_n 1, 1) := by decide +kernel
theorem d_Ar_rangeCheck_47 : decode c_Ar_rangeCheck 47 = .ok (.ifCond .ge 12, 3) := by decide +kernel
theorem d_Ar_rangeCheck_50 : decode c_Ar_rangeCheck 50 = .ok (.new 68, 3) := by decide +kernel
theorem d_Ar_rangeCheck_53 : decode c_Ar_rangeCheck 53 = .ok (.dup, 1) := by decide +kernel
theorem d_Ar_rangeCheck_54 : decode c_Ar_rangeCheck 54 = .ok (.iload_n 1, 1) := by decide +kernel
theorem d_Ar_rangeCheck_55 : decode c_Ar_rangeCheck 55 = .ok (.invokespecial 70, 3) := by decide +kernel
theorem d_Ar_rangeCheck_58 : decode c_Ar_rangeCheck 58 = .ok (.athrow, 1) := by decide +kernel
theorem d_Ar_rangeCheck_59 : decode c_Ar_rangeCheck 59 = .ok (.iload_n 2, 1) := by decide +kernel
theorem d_Ar_rangeCheck_60 : decode c_Ar_rangeCheck 60 = .ok (.iload_n 0, 1) := by decide +kernel
theorem d_Ar_rangeCheck_61 : decode c_Ar_rangeCheck 61 = .ok (.if_icmp .le 12, 3) := by decide +kernel
theorem d_Ar_rangeCheck_64 : decode c_Ar_rangeCheck 64 = .ok (.new 68, 3) := by decide +kernel
theorem d_Ar_rangeCheck_67 : decode c_Ar_rangeCheck 67 = .ok (.dup, 1) := by decide +kernel
theorem d_Ar_rangeCheck_68 : decode c_Ar_rangeCheck 68 = .ok (.iload_n 2, 1) := by decide +kernel
theorem d_Ar_rangeCheck_69 : decode c_Ar_rangeCheck 69 = .ok (.invokespecial 70, 3) := by decide +kernel
theorem d_Ar_rangeCheck_72 : decode c_Ar_rangeCheck 72 = .ok (.athrow, 1) := by decide +kernel
theorem d_Ar_rangeCheck_73 : decode c_Ar_rangeCheck 73 = .ok (.return_, 1) := by decide +kernel
theorem d_Re_linksOf_0 : decode c_Re_linksOf 0 = .ok (.aload_n 0, 1) := by decide +kernel
theorem d_Re_linksOf_1 : decode c_Re_linksOf 1 = .ok (.iload_n 1, 1) := by decide +kernel
theorem d_Re_linksOf_2 : decode c_Re_linksOf 2 = .ok (.bipush 26, 2) := by decide +kernel
theorem d_Re_linksOf_4 : decode c_Re_linksOf 4 = .ok (.iconst 2, 1) := by decide +kernel
theorem d_Re_linksOf_5 : decode c_Re_linksOf 5 = .ok (.invokevirtual 29, 3) := by decide +kernel
theorem d_Re_linksOf_8 : decode c_Re_linksOf 8 = .ok (.ireturn, 1) := by decide +kernel
theorem d_Re_howManyThere_0 : decode c_Re_howManyThere 0 = .ok (.iconst 0, 1) := by decide +kernel
theorem d_Re_howManyThere_1 : decode c_Re_howManyThere 1 = .ok (.istore_n 1, 1) := by decide +kernel
theorem d_Re_howManyThere_2 : decode c_Re_howManyThere 2 = .ok (.iconst 1, 1) := by decide +kernel
theorem d_Re_howManyThere_3 : decode c_Re_howManyThere 3 = .ok (.istore_n 2, 1) := by decide +kernel
theorem d_Re_howManyThere_4 : decode c_Re_howManyThere 4 = .ok (.iload_n 2, 1) := by decide +kernel
theorem d_Re_howManyThere_5 : decode c_Re_howManyThere 5 = .ok (.bipush 12, 2) := by decide +kernel
theorem d_Re_howManyThere_7 : decode c_Re_howManyThere 7 = .ok (.if_icmp .gt 20, 3) := by decide +kernel
theorem d_Re_howManyThere_10 : decode c_Re_howManyThere 10 = .ok (.aload_n 0, 1) := by decide +kernel
theorem d_Re_howManyThere_11 : decode c_Re_howManyThere 11 = .ok (.iload_n 2, 1) := by decide +kernel
theorem d_Re_howManyThere_12 : decode c_Re_howManyThere 12 = .ok (.invokevirtual 15, 3) := by decide +kernel
theorem d_Re_howManyThere_15 : decode c_Re_howManyThere 15 = .ok (.ifCond .eq 6, 3) := by decide +kernel
theorem d_Re_howManyThere_18 : decode c_Re_howManyThere 18 = .ok (.iinc 1 1, 3) := by decide +kernel
theorem d_Re_howManyThere_21 : decode c_Re_howManyThere 21 = .ok (.iinc 2 1, 3) := by decide +kernel
theorem d_Re_howManyThere_24 : decode c_Re_howManyThere 24 = .ok (.goto (-20), 3) := by decide +kernel
theorem d_Re_howManyThere_27 : decode c_Re_howManyThere 27 = .ok (.iload_n 1, 1) := by decide +kernel
theorem d_Re_howManyThere_28 : decode c_Re_howManyThere 28 = .ok (.ireturn, 1) := by decide +kernel
theorem d_Wa_howMany_0 : decode c_Wa_howMany 0 = .ok (.aload_n 0, 1) := by decide +kernel
theorem d_Wa_howMany_1 : decode c_Wa_howMany 1 = .ok (.invokevirtual 25, 3) := by decide +kernel
theorem d_Wa_howMany_4 : decode c_Wa_howMany 4 = .ok (.istore_n 1, 1) := by decide +kernel
theorem d_Wa_howMany_5 : decode c_Wa_howMany 5 = .ok (.iconst 0, 1) := by decide +kernel
theorem d_Wa_howMany_6 : decode c_Wa_howMany 6 = .ok (.istore_n 2, 1) := by decide +kernel
theorem d_Wa_howMany_7 : decode c_Wa_howMany 7 = .ok (.iload_n 2, 1) := by decide +kernel
theorem d_Wa_howMany_8 : decode c_Wa_howMany 8 = .ok (.bipush 12, 2) := by decide +kernel
theorem d_Wa_howMany_10 : decode c_Wa_howMany 10 = .ok (.if_icmp .ge 22, 3) := by decide +kernel
theorem d_Wa_howMany_13 : decode c_Wa_howMany 13 = .ok (.iload_n 1, 1) := by decide +kernel
theorem d_Wa_howMany_14 : decode c_Wa_howMany 14 = .ok (.ifCond .eq 18, 3) := by decide +kernel
theorem d_Wa_howMany_17 : decode c_Wa_howMany 17 = .ok (.aload_n 0, 1) := by decide +kernel
theorem d_Wa_howMany_18 : decode c_Wa_howMany 18 = .ok (.getfield 15, 3) := by decide +kernel
theorem d_Wa_howMany_21 : decode c_Wa_howMany 21 = .ok (.iload_n 1, 1) := by decide +kernel
theorem d_Wa_howMany_22 : decode c_Wa_howMany 22 = .ok (.invokevirtual 29, 3) := by decide +kernel
theorem d_Wa_howMany_25 : decode c_Wa_howMany 25 = .ok (.istore_n 1, 1) := by decide +kernel
theorem d_Wa_howMany_26 : decode c_Wa_howMany 26 = .ok (.iinc 2 1, 3) := by decide +kernel
theorem d_Wa_howMany_29 : decode c_Wa_howMany 29 = .ok (.goto (-22), 3) := by decide +kernel
theorem d_Wa_howMany_32 : decode c_Wa_howMany 32 = .ok (.iload_n 2, 1) := by decide +kernel
theorem d_Wa_howMany_33 : decode c_Wa_howMany 33 = .ok (.ireturn, 1) := by decide +kernel
