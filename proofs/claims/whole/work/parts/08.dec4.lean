theorem d_Lw_make_0 : decode c_Lw_make 0 = .ok (.aload_n 2, 1) := by decide +kernel
theorem d_Lw_make_1 : decode c_Lw_make 1 = .ok (.iconst 0, 1) := by decide +kernel
theorem d_Lw_make_2 : decode c_Lw_make 2 = .ok (.aload_n 0, 1) := by decide +kernel
theorem d_Lw_make_3 : decode c_Lw_make 3 = .ok (.iload_n 1, 1) := by decide +kernel
theorem d_Lw_make_4 : decode c_Lw_make 4 = .ok (.invokevirtual 7, 3) := by decide +kernel
theorem d_Lw_make_7 : decode c_Lw_make 7 = .ok (.i2l, 1) := by decide +kernel
theorem d_Lw_make_8 : decode c_Lw_make 8 = .ok (.lastore, 1) := by decide +kernel
theorem d_Lw_make_9 : decode c_Lw_make 9 = .ok (.goto 9, 3) := by decide +kernel
theorem d_Lw_make_12 : decode c_Lw_make 12 = .ok (.astore_n 3, 1) := by decide +kernel
theorem d_Lw_make_13 : decode c_Lw_make 13 = .ok (.iconst 1, 1) := by decide +kernel
theorem d_Lw_make_14 : decode c_Lw_make 14 = .ok (.ireturn, 1) := by decide +kernel
theorem d_Lw_make_15 : decode c_Lw_make 15 = .ok (.astore_n 3, 1) := by decide +kernel
theorem d_Lw_make_16 : decode c_Lw_make 16 = .ok (.iconst 2, 1) := by decide +kernel
theorem d_Lw_make_17 : decode c_Lw_make 17 = .ok (.ireturn, 1) := by decide +kernel
theorem d_Lw_make_18 : decode c_Lw_make 18 = .ok (.iconst 0, 1) := by decide +kernel
theorem d_Lw_make_19 : decode c_Lw_make 19 = .ok (.ireturn, 1) := by decide +kernel
theorem d_Lw_link_0 : decode c_Lw_link 0 = .ok (.aload_n 3, 1) := by decide +kernel
theorem d_Lw_link_1 : decode c_Lw_link 1 = .ok (.iconst 0, 1) := by decide +kernel
theorem d_Lw_link_2 : decode c_Lw_link 2 = .ok (.aload_n 0, 1) := by decide +kernel
theorem d_Lw_link_3 : decode c_Lw_link 3 = .ok (.iload_n 1, 1) := by decide +kernel
theorem d_Lw_link_4 : decode c_Lw_link 4 = .ok (.iload_n 2, 1) := by decide +kernel
theorem d_Lw_link_5 : decode c_Lw_link 5 = .ok (.invokevirtual 17, 3) := by decide +kernel
theorem d_Lw_link_8 : decode c_Lw_link 8 = .ok (.i2l, 1) := by decide +kernel
theorem d_Lw_link_9 : decode c_Lw_link 9 = .ok (.lastore, 1) := by decide +kernel
theorem d_Lw_link_10 : decode c_Lw_link 10 = .ok (.goto 11, 3) := by decide +kernel
theorem d_Lw_link_13 : decode c_Lw_link 13 = .ok (.astore 4, 2) := by decide +kernel
theorem d_Lw_link_15 : decode c_Lw_link 15 = .ok (.iconst 1, 1) := by decide +kernel
theorem d_Lw_link_16 : decode c_Lw_link 16 = .ok (.ireturn, 1) := by decide +kernel
theorem d_Lw_link_17 : decode c_Lw_link 17 = .ok (.astore 4, 2) := by decide +kernel
theorem d_Lw_link_19 : decode c_Lw_link 19 = .ok (.iconst 2, 1) := by decide +kernel
theorem d_Lw_link_20 : decode c_Lw_link 20 = .ok (.ireturn, 1) := by decide +kernel
theorem d_Lw_link_21 : decode c_Lw_link 21 = .ok (.iconst 0, 1) := by decide +kernel
theorem d_Lw_link_22 : decode c_Lw_link 22 = .ok (.ireturn, 1) := by decide +kernel
theorem d_Lw_write_0 : decode c_Lw_write 0 = .ok (.aload 6, 2) := by decide +kernel
theorem d_Lw_write_2 : decode c_Lw_write 2 = .ok (.iconst 0, 1) := by decide +kernel
theorem d_Lw_write_3 : decode c_Lw_write 3 = .ok (.aload_n 0, 1) := by decide +kernel
theorem d_Lw_write_4 : decode c_Lw_write 4 = .ok (.iload_n 1, 1) := by decide +kernel
theorem d_Lw_write_5 : decode c_Lw_write 5 = .ok (.iload_n 2, 1) := by decide +kernel
theorem d_Lw_write_6 : decode c_Lw_write 6 = .ok (.lload_n 3, 1) := by decide +kernel
theorem d_Lw_write_7 : decode c_Lw_write 7 = .ok (.iload 5, 2) := by decide +kernel
theorem d_Lw_write_9 : decode c_Lw_write 9 = .ok (.invokevirtual 21, 3) := by decide +kernel
theorem d_Lw_write_12 : decode c_Lw_write 12 = .ok (.i2l, 1) := by decide +kernel
theorem d_Lw_write_13 : decode c_Lw_write 13 = .ok (.lastore, 1) := by decide +kernel
theorem d_Lw_write_14 : decode c_Lw_write 14 = .ok (.goto 11, 3) := by decide +kernel
theorem d_Lw_write_17 : decode c_Lw_write 17 = .ok (.astore 7, 2) := by decide +kernel
theorem d_Lw_write_19 : decode c_Lw_write 19 = .ok (.iconst 1, 1) := by decide +kernel
theorem d_Lw_write_20 : decode c_Lw_write 20 = .ok (.ireturn, 1) := by decide +kernel
theorem d_Lw_write_21 : decode c_Lw_write 21 = .ok (.astore 7, 2) := by decide +kernel
theorem d_Lw_write_23 : decode c_Lw_write 23 = .ok (.iconst 2, 1) := by decide +kernel
theorem d_Lw_write_24 : decode c_Lw_write 24 = .ok (.ireturn, 1) := by decide +kernel
theorem d_Lw_write_25 : decode c_Lw_write 25 = .ok (.iconst 0, 1) := by decide +kernel
theorem d_Lw_write_26 : decode c_Lw_write 26 = .ok (.ireturn, 1) := by decide +kernel
theorem d_Lw_paint_0 : decode c_Lw_paint 0 = .ok (.aload 5, 2) := by decide +kernel
theorem d_Lw_paint_2 : decode c_Lw_paint 2 = .ok (.iconst 0, 1) := by decide +kernel
theorem d_Lw_paint_3 : decode c_Lw_paint 3 = .ok (.aload_n 0, 1) := by decide +kernel
theorem d_Lw_paint_4 : decode c_Lw_paint 4 = .ok (.iload_n 1, 1) := by decide +kernel
theorem d_Lw_paint_5 : decode c_Lw_paint 5 = .ok (.iload_n 2, 1) := by decide +kernel
theorem d_Lw_paint_6 : decode c_Lw_paint 6 = .ok (.iload_n 3, 1) := by decide +kernel
theorem d_Lw_paint_7 : decode c_Lw_paint 7 = .ok (.iload 4, 2) := by decide +kernel
theorem d_Lw_paint_9 : decode c_Lw_paint 9 = .ok (.invokevirtual 25, 3) := by decide +kernel
theorem d_Lw_paint_12 : decode c_Lw_paint 12 = .ok (.i2l, 1) := by decide +kernel
theorem d_Lw_paint_13 : decode c_Lw_paint 13 = .ok (.lastore, 1) := by decide +kernel
theorem d_Lw_paint_14 : decode c_Lw_paint 14 = .ok (.goto 11, 3) := by decide +kernel
theorem d_Lw_paint_17 : decode c_Lw_paint 17 = .ok (.astore 6, 2) := by decide +kernel
theorem d_Lw_paint_19 : decode c_Lw_paint 19 = .ok (.iconst 1, 1) := by decide +kernel
theorem d_Lw_paint_20 : decode c_Lw_paint 20 = .ok (.ireturn, 1) := by decide +kernel
theorem d_Lw_paint_21 : decode c_Lw_paint 21 = .ok (.astore 6, 2) := by decide +kernel
theorem d_Lw_paint_23 : decode c_Lw_paint 23 = .ok (.iconst 2, 1) := by decide +kernel
theorem d_Lw_paint_24 : decode c_Lw_paint 24 = .ok (.ireturn, 1) := by decide +kernel
theorem d_Lw_paint_25 : decode c_Lw_paint 25 = .ok (.iconst 0, 1) := by decide +kernel
theorem d_Lw_paint_26 : decode c_Lw_paint 26 = .ok (.ireturn, 1) := by decide +kernel
theorem d_Lw_read_0 : decode c_Lw_read 0 = .ok (.aload_n 3, 1) := by decide +kernel
theorem d_Lw_read_1 : decode c_Lw_read 1 = .ok (.iconst 0, 1) := by decide +kernel
theorem d_Lw_read_2 : decode c_Lw_read 2 = .ok (.aload_n 0, 1) := by decide +kernel
theorem d_Lw_read_3 : decode c_Lw_read 3 = .ok (.iload_n 1, 1) := by decide +kernel
theorem d_Lw_read_4 : decode c_Lw_read 4 = .ok (.iload_n 2, 1) := by decide +kernel
theorem d_Lw_read_5 : decode c_Lw_read 5 = .ok (.invokevirtual 29, 3) := by decide +kernel
theorem d_Lw_read_8 : decode c_Lw_read 8 = .ok (.i2l, 1) := by decide +kernel
theorem d_Lw_read_9 : decode c_Lw_read 9 = .ok (.lastore, 1) := by decide +kernel
theorem d_Lw_read_10 : decode c_Lw_read 10 = .ok (.goto 11, 3) := by decide +kernel
theorem d_Lw_read_13 : decode c_Lw_read 13 = .ok (.astore 4, 2) := by decide +kernel
theorem d_Lw_read_15 : decode c_Lw_read 15 = .ok (.iconst 1, 1) := by decide +kernel
theorem d_Lw_read_16 : decode c_Lw_read 16 = .ok (.ireturn, 1) := by decide +kernel
theorem d_Lw_read_17 : decode c_Lw_read 17 = .ok (.astore 4, 2) := by decide +kernel
theorem d_Lw_read_19 : decode c_Lw_read 19 = .ok (.iconst 2, 1) := by decide +kernel
theorem d_Lw_read_20 : decode c_Lw_read 20 = .ok (.ireturn, 1) := by decide +kernel
theorem d_Lw_read_21 : decode c_Lw_read 21 = .ok (.iconst 0, 1) := by decide +kernel
theorem d_Lw_read_22 : decode c_Lw_read 22 = .ok (.ireturn, 1) := by decide +kernel
theorem d_Lw_cut_0 : decode c_Lw_cut 0 = .ok (.aload_n 3, 1) := by decide +kernel
theorem d_Lw_cut_1 : decode c_Lw_cut 1 = .ok (.iconst 0, 1) := by decide +kernel
theorem d_Lw_cut_2 : decode c_Lw_cut 2 = .ok (.aload_n 0, 1) := by decide +kernel
theorem d_Lw_cut_3 : decode c_Lw_cut 3 = .ok (.iload_n 1, 1) := by decide +kernel
theorem d_Lw_cut_4 : decode c_Lw_cut 4 = .ok (.iload_n 2, 1) := by decide +kernel
theorem d_Lw_cut_5 : decode c_Lw_cut 5 = .ok (.invokevirtual 34, 3) := by decide +kernel
theorem d_Lw_cut_8 : decode c_Lw_cut 8 = .ok (.i2l, 1) := by decide +kernel
theorem d_Lw_cut_9 : decode c_Lw_cut 9 = .ok (.lastore, 1) := by decide +kernel
theorem d_Lw_cut_10 : decode c_Lw_cut 10 = .ok (.goto 7, 3) := by decide +kernel
theorem d_Lw_cut_13 : decode c_Lw_cut 13 = .ok (.astore 4, 2) := by decide +kernel
theorem d_Lw_cut_15 : decode c_Lw_cut 15 = .ok (.iconst 1, 1) := by decide +kernel
theorem d_Lw_cut_16 : decode c_Lw_cut 16 = .ok (.ireturn, 1) := by decide +kernel
theorem d_Lw_cut_17 : decode c_Lw_cut 17 = .ok (.iconst 0, 1) := by decide +kernel
theorem d_Lw_cut_18 : decode c_Lw_cut 18 = .ok (.ireturn, 1) := by decide +kernel
theorem d_Lw_links_0 : decode c_Lw_links 0 = .ok (.aload_n 3, 1) := by decide +kernel
theorem d_Lw_links_1 : decode c_Lw_links 1 = .ok (.iconst 0, 1) := by decide +kernel
theorem d_Lw_links_2 : decode c_Lw_links 2 = .ok (.aload_n 0, 1) := by decide +kernel
theorem d_Lw_links_3 : decode c_Lw_links 3 = .ok (.iload_n 1, 1) := by decide +kernel
theorem d_Lw_links_4 : decode c_Lw_links 4 = .ok (.iload_n 2, 1) := by decide +kernel
theorem d_Lw_links_5 : decode c_Lw_links 5 = .ok (.invokevirtual 37, 3) := by decide +kernel
theorem d_Lw_links_8 : decode c_Lw_links 8 = .ok (.i2l, 1) := by decide +kernel
theorem d_Lw_links_9 : decode c_Lw_links 9 = .ok (.lastore, 1) := by decide +kernel
theorem d_Lw_links_10 : decode c_Lw_links 10 = .ok (.goto 7, 3) := by decide +kernel
theorem d_Lw_links_13 : decode c_Lw_links 13 = .ok (.astore 4, 2) := by decide +kernel
theorem d_Lw_links_15 : decode c_Lw_links 15 = .ok (.iconst 1, 1) := by decide +kernel
theorem d_Lw_links_16 : decode c_Lw_links 16 = .ok (.ireturn, 1) := by decide +kernel
theorem d_Lw_links_17 : decode c_Lw_links 17 = .ok (.iconst 0, 1) := by decide +kernel
theorem d_Lw_links_18 : decode c_Lw_links 18 = .ok (.ireturn, 1) := by decide +kernel
theorem d_Lw_drop_0 : decode c_Lw_drop 0 = .ok (.aload_n 2, 1) := by decide +kernel
theorem d_Lw_drop_1 : decode c_Lw_drop 1 = .ok (.iconst 0, 1) := by decide +kernel
theorem d_Lw_drop_2 : decode c_Lw_drop 2 = .ok (.aload_n 0, 1) := by decide +kernel
theorem d_Lw_drop_3 : decode c_Lw_drop 3 = .ok (.iload_n 1, 1) := by decide +kernel
theorem d_Lw_drop_4 : decode c_Lw_drop 4 = .ok (.invokevirtual 40, 3) := by decide +kernel
theorem d_Lw_drop_7 : decode c_Lw_drop 7 = .ok (.i2l, 1) := by decide +kernel
theorem d_Lw_drop_8 : decode c_Lw_drop 8 = .ok (.lastore, 1) := by decide +kernel
theorem d_Lw_drop_9 : decode c_Lw_drop 9 = .ok (.goto 9, 3) := by decide +kernel
theorem d_Lw_drop_12 : decode c_Lw_drop 12 = .ok (.astore_n 3, 1) := by decide +kernel
theorem d_Lw_drop_13 : decode c_Lw_drop 13 = .ok (.iconst 1, 1) := by decide +kernel
theorem d_Lw_drop_14 : decode c_Lw_drop 14 = .ok (.ireturn, 1) := by decide +kernel
theorem d_Lw_drop_15 : decode c_Lw_drop 15 = .ok (.astore_n 3, 1) := by decide +kernel
theorem d_Lw_drop_16 : decode c_Lw_drop 16 = .ok (.iconst 2, 1) := by decide +kernel
theorem d_Lw_drop_17 : decode c_Lw_drop 17 = .ok (.ireturn, 1) := by decide +kernel
theorem d_Lw_drop_18 : decode c_Lw_drop 18 = .ok (.iconst 0, 1) := by decide +kernel
theorem d_Lw_drop_19 : decode c_Lw_drop 19 = .ok (.ireturn, 1) := by decide +kernel
theorem d_Lw_about_0 : decode c_Lw_about 0 = .ok (.aload_n 3, 1) := by decide +kernel
theorem d_Lw_about_1 : decode c_Lw_about 1 = .ok (.iconst 0, 1) := by decide +kernel
theorem d_Lw_about_2 : decode c_Lw_about 2 = .ok (.aload_n 0, 1) := by decide +kernel
theorem d_Lw_about_3 : decode c_Lw_about 3 = .ok (.iload_n 1, 1) := by decide +kernel
theorem d_Lw_about_4 : decode c_Lw_about 4 = .ok (.iload_n 2, 1) := by decide +kernel
theorem d_Lw_about_5 : decode c_Lw_about 5 = .ok (.invokevirtual 43, 3) := by decide +kernel
theorem d_Lw_about_8 : decode c_Lw_about 8 = .ok (.i2l, 1) := by decide +kernel
theorem d_Lw_about_9 : decode c_Lw_about 9 = .ok (.lastore, 1) := by decide +kernel
theorem d_Lw_about_10 : decode c_Lw_about 10 = .ok (.goto 7, 3) := by decide +kernel
theorem d_Lw_about_13 : decode c_Lw_about 13 = .ok (.astore 4, 2) := by decide +kernel
theorem d_Lw_about_15 : decode c_Lw_about 15 = .ok (.iconst 1, 1) := by decide +kernel
theorem d_Lw_about_16 : decode c_Lw_about 16 = .ok (.ireturn, 1) := by decide +kernel
theorem d_Lw_about_17 : decode c_Lw_about 17 = .ok (.iconst 0, 1) := by decide +kernel
theorem d_Lw_about_18 : decode c_Lw_about 18 = .ok (.ireturn, 1) := by decide +kernel
theorem d_Lw_block_0 : decode c_Lw_block 0 = .ok (.aload_n 3, 1) := by decide +kernel
theorem d_Lw_block_1 : decode c_Lw_block 1 = .ok (.iconst 0, 1) := by decide +kernel
theorem d_Lw_block_2 : decode c_Lw_block 2 = .ok (.aload_n 0, 1) := by decide +kernel
theorem d_Lw_block_3 : decode c_Lw_block 3 = .ok (.iload_n 1, 1) := by decide +kernel
theorem d_Lw_block_4 : decode c_Lw_block 4 = .ok (.iload_n 2, 1) := by decide +kernel
theorem d_Lw_block_5 : decode c_Lw_block 5 = .ok (.invokevirtual 46, 3) := by decide +kernel
theorem d_Lw_block_8 : decode c_Lw_block 8 = .ok (.i2l, 1) := by decide +kernel
theorem d_Lw_block_9 : decode c_Lw_block 9 = .ok (.lastore, 1) := by decide +kernel
theorem d_Lw_block_10 : decode c_Lw_block 10 = .ok (.goto 7, 3) := by decide +kernel
theorem d_Lw_block_13 : decode c_Lw_block 13 = .ok (.astore 4, 2) := by decide +kernel
theorem d_Lw_block_15 : decode c_Lw_block 15 = .ok (.iconst 1, 1) := by decide +kernel
theorem d_Lw_block_16 : decode c_Lw_block 16 = .ok (.ireturn, 1) := by decide +kernel
theorem d_Lw_block_17 : decode c_Lw_block 17 = .ok (.iconst 0, 1) := by decide +kernel
theorem d_Lw_block_18 : decode c_Lw_block 18 = .ok (.ireturn, 1) := by decide +kernel
theorem d_Lw_count_0 : decode c_Lw_count 0 = .ok (.aload_n 2, 1) := by decide +kernel
theorem d_Lw_count_1 : decode c_Lw_count 1 = .ok (.iconst 0, 1) := by decide +kernel
theorem d_Lw_count_2 : decode c_Lw_count 2 = .ok (.aload_n 0, 1) := by decide +kernel
theorem d_Lw_count_3 : decode c_Lw_count 3 = .ok (.iload_n 1, 1) := by decide +kernel
theorem d_Lw_count_4 : decode c_Lw_count 4 = .ok (.invokevirtual 49, 3) := by decide +kernel
theorem d_Lw_count_7 : decode c_Lw_count 7 = .ok (.i2l, 1) := by decide +kernel
theorem d_Lw_count_8 : decode c_Lw_count 8 = .ok (.lastore, 1) := by decide +kernel
theorem d_Lw_count_9 : decode c_Lw_count 9 = .ok (.goto 6, 3) := by decide +kernel
theorem d_Lw_count_12 : decode c_Lw_count 12 = .ok (.astore_n 3, 1) := by decide +kernel
theorem d_Lw_count_13 : decode c_Lw_count 13 = .ok (.iconst 1, 1) := by decide +kernel
theorem d_Lw_count_14 : decode c_Lw_count 14 = .ok (.ireturn, 1) := by decide +kernel
theorem d_Lw_count_15 : decode c_Lw_count 15 = .ok (.iconst 0, 1) := by decide +kernel
theorem d_Lw_count_16 : decode c_Lw_count 16 = .ok (.ireturn, 1) := by decide +kernel
theorem d_Lw_byteOf_0 : decode c_Lw_byteOf 0 = .ok (.aload_n 3, 1) := by decide +kernel
theorem d_Lw_byteOf_1 : decode c_Lw_byteOf 1 = .ok (.iconst 0, 1) := by decide +kernel
theorem d_Lw_byteOf_2 : decode c_Lw_byteOf 2 = .ok (.aload_n 0, 1) := by decide +kernel
theorem d_Lw_byteOf_3 : decode c_Lw_byteOf 3 = .ok (.iload_n 1, 1) := by decide +kernel
theorem d_Lw_byteOf_4 : decode c_Lw_byteOf 4 = .ok (.iload_n 2, 1) := by decide +kernel
theorem d_Lw_byteOf_5 : decode c_Lw_byteOf 5 = .ok (.invokevirtual 52, 3) := by decide +kernel
theorem d_Lw_byteOf_8 : decode c_Lw_byteOf 8 = .ok (.i2l, 1) := by decide +kernel
theorem d_Lw_byteOf_9 : decode c_Lw_byteOf 9 = .ok (.lastore, 1) := by decide +kernel
theorem d_Lw_byteOf_10 : decode c_Lw_byteOf 10 = .ok (.goto 7, 3) := by decide +kernel
theorem d_Lw_byteOf_13 : decode c_Lw_byteOf 13 = .ok (.astore 4, 2) := by decide +kernel
theorem d_Lw_byteOf_15 : decode c_Lw_byteOf 15 = .ok (.iconst 1, 1) := by decide +kernel
theorem d_Lw_byteOf_16 : decode c_Lw_byteOf 16 = .ok (.ireturn, 1) := by decide +kernel
theorem d_Lw_byteOf_17 : decode c_Lw_byteOf 17 = .ok (.iconst 0, 1) := by decide +kernel
theorem d_Lw_byteOf_18 : decode c_Lw_byteOf 18 = .ok (.ireturn, 1) := by decide +kernel
theorem d_Lw_law_0 : decode c_Lw_law 0 = .ok (.new 8, 3) := by decide +kernel
theorem d_Lw_law_3 : decode c_Lw_law 3 = .ok (.dup, 1) := by decide +kernel
theorem d_Lw_law_4 : decode c_Lw_law 4 = .ok (.invokespecial 55, 3) := by decide +kernel
theorem d_Lw_law_7 : decode c_Lw_law 7 = .ok (.astore_n 1, 1) := by decide +kernel
theorem d_Lw_law_8 : decode c_Lw_law 8 = .ok (.new 56, 3) := by decide +kernel
theorem d_Lw_law_11 : decode c_Lw_law 11 = .ok (.dup, 1) := by decide +kernel
theorem d_Lw_law_12 : decode c_Lw_law 12 = .ok (.invokespecial 58, 3) := by decide +kernel
theorem d_Lw_law_15 : decode c_Lw_law 15 = .ok (.astore_n 2, 1) := by decide +kernel
theorem d_Lw_law_16 : decode c_Lw_law 16 = .ok (.iconst 1, 1) := by decide +kernel
theorem d_Lw_law_17 : decode c_Lw_law 17 = .ok (.newarray .long, 2) := by decide +kernel
theorem d_Lw_law_19 : decode c_Lw_law 19 = .ok (.astore_n 3, 1) := by decide +kernel
theorem d_Lw_law_20 : decode c_Lw_law 20 = .ok (.iconst 0, 1) := by decide +kernel
theorem d_Lw_law_21 : decode c_Lw_law 21 = .ok (.istore 4, 2) := by decide +kernel
theorem d_Lw_law_23 : decode c_Lw_law 23 = .ok (.iload 4, 2) := by decide +kernel
theorem d_Lw_law_25 : decode c_Lw_law 25 = .ok (.aload_n 0, 1) := by decide +kernel
theorem d_Lw_law_26 : decode c_Lw_law 26 = .ok (.arraylength, 1) := by decide +kernel
theorem d_Lw_law_27 : decode c_Lw_law 27 = .ok (.bipush 6, 2) := by decide +kernel
theorem d_Lw_law_29 : decode c_Lw_law 29 = .ok (.isub, 1) := by decide +kernel
theorem d_Lw_law_30 : decode c_Lw_law 30 = .ok (.if_icmp .gt 957, 3) := by decide +kernel
theorem d_Lw_law_33 : decode c_Lw_law 33 = .ok (.aload_n 0, 1) := by decide +kernel
theorem d_Lw_law_34 : decode c_Lw_law 34 = .ok (.iload 4, 2) := by decide +kernel
theorem d_Lw_law_36 : decode c_Lw_law 36 = .ok (.iaload, 1) := by decide +kernel
theorem d_Lw_law_37 : decode c_Lw_law 37 = .ok (.bipush 15, 2) := by decide +kernel
theorem d_Lw_law_39 : decode c_Lw_law 39 = .ok (.iand, 1) := by decide +kernel
theorem d_Lw_law_40 : decode c_Lw_law 40 = .ok (.tableswitch 941 0 12 #[68, 124, 192, 316, 408, 476, 544, 612, 668, 681, 749, 817, 873], 68) := by decide +kernel
theorem d_Lw_law_108 : decode c_Lw_law 108 = .ok (.aload_n 1, 1) := by decide +kernel
theorem d_Lw_law_109 : decode c_Lw_law 109 = .ok (.aload_n 0, 1) := by decide +kernel
theorem d_Lw_law_110 : decode c_Lw_law 110 = .ok (.iload 4, 2) := by decide +kernel
theorem d_Lw_law_112 : decode c_Lw_law 112 = .ok (.iconst 1, 1) := by decide +kernel
theorem d_Lw_law_113 : decode c_Lw_law 113 = .ok (.iadd, 1) := by decide +kernel
theorem d_Lw_law_114 : decode c_Lw_law 114 = .ok (.iaload, 1) := by decide +kernel
theorem d_Lw_law_115 : decode c_Lw_law 115 = .ok (.aload_n 3, 1) := by decide +kernel
theorem d_Lw_law_116 : decode c_Lw_law 116 = .ok (.invokestatic 59, 3) := by decide +kernel
theorem d_Lw_law_119 : decode c_Lw_law 119 = .ok (.istore 5, 2) := by decide +kernel
theorem d_Lw_law_121 : decode c_Lw_law 121 = .ok (.aload_n 2, 1) := by decide +kernel
theorem d_Lw_law_122 : decode c_Lw_law 122 = .ok (.aload_n 0, 1) := by decide +kernel
theorem d_Lw_law_123 : decode c_Lw_law 123 = .ok (.iload 4, 2) := by decide +kernel
theorem d_Lw_law_125 : decode c_Lw_law 125 = .ok (.iconst 1, 1) := by decide +kernel
theorem d_Lw_law_126 : decode c_Lw_law 126 = .ok (.iadd, 1) := by decide +kernel
theorem d_Lw_law_127 : decode c_Lw_law 127 = .ok (.iaload, 1) := by decide +kernel
theorem d_Lw_law_128 : decode c_Lw_law 128 = .ok (.invokevirtual 64, 3) := by decide +kernel
theorem d_Lw_law_131 : decode c_Lw_law 131 = .ok (.istore 6, 2) := by decide +kernel
theorem d_Lw_law_133 : decode c_Lw_law 133 = .ok (.aload_n 2, 1) := by decide +kernel
theorem d_Lw_law_134 : decode c_Lw_law 134 = .ok (.invokevirtual 65, 3) := by decide +kernel
theorem d_Lw_law_137 : decode c_Lw_law 137 = .ok (.iload 5, 2) := by decide +kernel
theorem d_Lw_law_139 : decode c_Lw_law 139 = .ok (.if_icmp .eq 5, 3) := by decide +kernel
theorem d_Lw_law_142 : decode c_Lw_law 142 = .ok (.iconst 0, 1) := by decide +kernel
theorem d_Lw_law_143 : decode c_Lw_law 143 = .ok (.ireturn, 1) := by decide +kernel
theorem d_Lw_law_144 : decode c_Lw_law 144 = .ok (.iload 5, 2) := by decide +kernel
theorem d_Lw_law_146 : decode c_Lw_law 146 = .ok (.ifCond .ne 15, 3) := by decide +kernel
theorem d_Lw_law_149 : decode c_Lw_law 149 = .ok (.aload_n 3, 1) := by decide +kernel
theorem d_Lw_law_150 : decode c_Lw_law 150 = .ok (.iconst 0, 1) := by decide +kernel
theorem d_Lw_law_151 : decode c_Lw_law 151 = .ok (.laload, 1) := by decide +kernel
theorem d_Lw_law_152 : decode c_Lw_law 152 = .ok (.iload 6, 2) := by decide +kernel
theorem d_Lw_law_154 : decode c_Lw_law 154 = .ok (.i2l, 1) := by decide +kernel
theorem d_Lw_law_155 : decode c_Lw_law 155 = .ok (.lcmp, 1) := by decide +kernel
theorem d_Lw_law_156 : decode c_Lw_law 156 = .ok (.ifCond .eq 5, 3) := by decide +kernel
theorem d_Lw_law_159 : decode c_Lw_law 159 = .ok (.iconst 0, 1) := by decide +kernel
theorem d_Lw_law_160 : decode c_Lw_law 160 = .ok (.ireturn, 1) := by decide +kernel
theorem d_Lw_law_161 : decode c_Lw_law 161 = .ok (.goto 820, 3) := by decide +kernel
theorem d_Lw_law_164 : decode c_Lw_law 164 = .ok (.aload_n 1, 1) := by decide +kernel
theorem d_Lw_law_165 : decode c_Lw_law 165 = .ok (.aload_n 0, 1) := by decide +kernel
theorem d_Lw_law_166 : decode c_Lw_law 166 = .ok (.iload 4, 2) := by decide +kernel
theorem d_Lw_law_168 : decode c_Lw_law 168 = .ok (.iconst 1, 1) := by decide +kernel
theorem d_Lw_law_169 : decode c_Lw_law 169 = .ok (.iadd, 1) := by decide +kernel
theorem d_Lw_law_170 : decode c_Lw_law 170 = .ok (.iaload, 1) := by decide +kernel
theorem d_Lw_law_171 : decode c_Lw_law 171 = .ok (.aload_n 0, 1) := by decide +kernel
theorem d_Lw_law_172 : decode c_Lw_law 172 = .ok (.iload 4, 2) := by decide +kernel
theorem d_Lw_law_174 : decode c_Lw_law 174 = .ok (.iconst 2, 1) := by decide +kernel
theorem d_Lw_law_175 : decode c_Lw_law 175 = .ok (.iadd, 1) := by decide +kernel
theorem d_Lw_law_176 : decode c_Lw_law 176 = .ok (.iaload, 1) := by decide +kernel
theorem d_Lw_law_177 : decode c_Lw_law 177 = .ok (.aload_n 3, 1) := by decide +kernel
theorem d_Lw_law_178 : decode c_Lw_law 178 = .ok (.invokestatic 69, 3) := by decide +kernel
theorem d_Lw_law_181 : decode c_Lw_law 181 = .ok (.istore 5, 2) := by decide +kernel
theorem d_Lw_law_183 : decode c_Lw_law 183 = .ok (.aload_n 2, 1) := by decide +kernel
theorem d_Lw_law_184 : decode c_Lw_law 184 = .ok (.aload_n 0, 1) := by decide +kernel
theorem d_Lw_law_185 : decode c_Lw_law 185 = .ok (.iload 4, 2) := by decide +kernel
theorem d_Lw_law_187 : decode c_Lw_law 187 = .ok (.iconst 1, 1) := by decide +kernel
theorem d_Lw_law_188 : decode c_Lw_law 188 = .ok (.iadd, 1) := by decide +kernel
theorem d_Lw_law_189 : decode c_Lw_law 189 = .ok (.iaload, 1) := by decide +kernel
theorem d_Lw_law_190 : decode c_Lw_law 190 = .ok (.aload_n 0, 1) := by decide +kernel
theorem d_Lw_law_191 : decode c_Lw_law 191 = .ok (.iload 4, 2) := by decide +kernel
theorem d_Lw_law_193 : decode c_Lw_law 193 = .ok (.iconst 2, 1) := by decide +kernel
theorem d_Lw_law_194 : decode c_Lw_law 194 = .ok (.iadd, 1) := by decide +kernel
theorem d_Lw_law_195 : decode c_Lw_law 195 = .ok (.iaload, 1) := by decide +kernel
theorem d_Lw_law_196 : decode c_Lw_law 196 = .ok (.invokevirtual 72, 3) := by decide +kernel
theorem d_Lw_law_199 : decode c_Lw_law 199 = .ok (.istore 6, 2) := by decide +kernel
theorem d_Lw_law_201 : decode c_Lw_law 201 = .ok (.aload_n 2, 1) := by decide +kernel
theorem d_Lw_law_202 : decode c_Lw_law 202 = .ok (.invokevirtual 65, 3) := by decide +kernel
theorem d_Lw_law_205 : decode c_Lw_law 205 = .ok (.iload 5, 2) := by decide +kernel
theorem d_Lw_law_207 : decode c_Lw_law 207 = .ok (.if_icmp .eq 5, 3) := by decide +kernel
theorem d_Lw_law_210 : decode c_Lw_law 210 = .ok (.iconst 0, 1) := by decide +kernel
theorem d_Lw_law_211 : decode c_Lw_law 211 = .ok (.ireturn, 1) := by decide +kernel
theorem d_Lw_law_212 : decode c_Lw_law 212 = .ok (.iload 5, 2) := by decide +kernel
theorem d_Lw_law_214 : decode c_Lw_law 214 = .ok (.ifCond .ne 15, 3) := by decide +kernel
theorem d_Lw_law_217 : decode c_Lw_law 217 = .ok (.aload_n 3, 1) := by decide +kernel
theorem d_Lw_law_218 : decode c_Lw_law 218 = .ok (.iconst 0, 1) := by decide +kernel
theorem d_Lw_law_219 : decode c_Lw_law 219 = .ok (.laload, 1) := by decide +kernel
theorem d_Lw_law_220 : decode c_Lw_law 220 = .ok (.iload 6, 2) := by decide +kernel
theorem d_Lw_law_222 : decode c_Lw_law 222 = .ok (.i2l, 1) := by decide +kernel
theorem d_Lw_law_223 : decode c_Lw_law 223 = .ok (.lcmp, 1) := by decide +kernel
theorem d_Lw_law_224 : decode c_Lw_law 224 = .ok (.ifCond .eq 5, 3) := by decide +kernel
theorem d_Lw_law_227 : decode c_Lw_law 227 = .ok (.iconst 0, 1) := by decide +kernel
theorem d_Lw_law_228 : decode c_Lw_law 228 = .ok (.ireturn, 1) := by decide +kernel
theorem d_Lw_law_229 : decode c_Lw_law 229 = .ok (.goto 752, 3) := by decide +kernel
theorem d_Lw_law_232 : decode c_Lw_law 232 = .ok (.aload_n 1, 1) := by decide +kernel
theorem d_Lw_law_233 : decode c_Lw_law 233 = .ok (.aload_n 0, 1) := by decide +kernel
theorem d_Lw_law_234 : decode c_Lw_law 234 = .ok (.iload 4, 2) := by decide +kernel
theorem d_Lw_law_236 : decode c_Lw_law 236 = .ok (.iconst 1, 1) := by decide +kernel
theorem d_Lw_law_237 : decode c_Lw_law 237 = .ok (.iadd, 1) := by decide +kernel
theorem d_Lw_law_238 : decode c_Lw_law 238 = .ok (.iaload, 1) := by decide +kernel
theorem d_Lw_law_239 : decode c_Lw_law 239 = .ok (.aload_n 0, 1) := by decide +kernel
theorem d_Lw_law_240 : decode c_Lw_law 240 = .ok (.iload 4, 2) := by decide +kernel
theorem d_Lw_law_242 : decode c_Lw_law 242 = .ok (.iconst 2, 1) := by decide +kernel
theorem d_Lw_law_243 : decode c_Lw_law 243 = .ok (.iadd, 1) := by decide +kernel
theorem d_Lw_law_244 : decode c_Lw_law 244 = .ok (.iaload, 1) := by decide +kernel
theorem d_Lw_law_245 : decode c_Lw_law 245 = .ok (.aload_n 0, 1) := by decide +kernel
theorem d_Lw_law_246 : decode c_Lw_law 246 = .ok (.iload 4, 2) := by decide +kernel
theorem d_Lw_law_248 : decode c_Lw_law 248 = .ok (.iconst 3, 1) := by decide +kernel
theorem d_Lw_law_249 : decode c_Lw_law 249 = .ok (.iadd, 1) := by decide +kernel
theorem d_Lw_law_250 : decode c_Lw_law 250 = .ok (.iaload, 1) := by decide +kernel
theorem d_Lw_law_251 : decode c_Lw_law 251 = .ok (.i2l, 1) := by decide +kernel
theorem d_Lw_law_252 : decode c_Lw_law 252 = .ok (.bipush 32, 2) := by decide +kernel
theorem d_Lw_law_254 : decode c_Lw_law 254 = .ok (.lshl, 1) := by decide +kernel
theorem d_Lw_law_255 : decode c_Lw_law 255 = .ok (.aload_n 0, 1) := by decide +kernel
theorem d_Lw_law_256 : decode c_Lw_law 256 = .ok (.iload 4, 2) := by decide +kernel
theorem d_Lw_law_258 : decode c_Lw_law 258 = .ok (.iconst 4, 1) := by decide +kernel
theorem d_Lw_law_259 : decode c_Lw_law 259 = .ok (.iadd, 1) := by decide +kernel
theorem d_Lw_law_260 : decode c_Lw_law 260 = .ok (.iaload, 1) := by decide +kernel
theorem d_Lw_law_261 : decode c_Lw_law 261 = .ok (.i2l, 1) := by decide +kernel
theorem d_Lw_law_262 : decode c_Lw_law 262 = .ok (.ldc2_w 73, 3) := by decide +kernel
theorem d_Lw_law_265 : decode c_Lw_law 265 = .ok (.land, 1) := by decide +kernel
theorem d_Lw_law_266 : decode c_Lw_law 266 = .ok (.lor, 1) := by decide +kernel
theorem d_Lw_law_267 : decode c_Lw_law 267 = .ok (.aload_n 0, 1) := by decide +kernel
theorem d_Lw_law_268 : decode c_Lw_law 268 = .ok (.iload 4, 2) := by decide +kernel
theorem d_Lw_law_270 : decode c_Lw_law 270 = .ok (.iconst 5, 1) := by decide +kernel
theorem d_Lw_law_271 : decode c_Lw_law 271 = .ok (.iadd, 1) := by decide +kernel
theorem d_Lw_law_272 : decode c_Lw_law 272 = .ok (.iaload, 1) := by decide +kernel
theorem d_Lw_law_273 : decode c_Lw_law 273 = .ok (.aload_n 3, 1) := by decide +kernel
theorem d_Lw_law_274 : decode c_Lw_law 274 = .ok (.invokestatic 75, 3) := by decide +kernel
theorem d_Lw_law_277 : decode c_Lw_law 277 = .ok (.istore 5, 2) := by decide +kernel
theorem d_Lw_law_279 : decode c_Lw_law 279 = .ok (.aload_n 2, 1) := by decide +kernel
theorem d_Lw_law_280 : decode c_Lw_law 280 = .ok (.aload_n 0, 1) := by decide +kernel
theorem d_Lw_law_281 : decode c_Lw_law 281 = .ok (.iload 4, 2) := by decide +kernel
theorem d_Lw_law_283 : decode c_Lw_law 283 = .ok (.iconst 1, 1) := by decide +kernel
theorem d_Lw_law_284 : decode c_Lw_law 284 = .ok (.iadd, 1) := by decide +kernel
theorem d_Lw_law_285 : decode c_Lw_law 285 = .ok (.iaload, 1) := by decide +kernel
theorem d_Lw_law_286 : decode c_Lw_law 286 = .ok (.aload_n 0, 1) := by decide +kernel
theorem d_Lw_law_287 : decode c_Lw_law 287 = .ok (.iload 4, 2) := by decide +kernel
theorem d_Lw_law_289 : decode c_Lw_law 289 = .ok (.iconst 2, 1) := by decide +kernel
theorem d_Lw_law_290 : decode c_Lw_law 290 = .ok (.iadd, 1) := by decide +kernel
theorem d_Lw_law_291 : decode c_Lw_law 291 = .ok (.iaload, 1) := by decide +kernel
theorem d_Lw_law_292 : decode c_Lw_law 292 = .ok (.aload_n 0, 1) := by decide +kernel
theorem d_Lw_law_293 : decode c_Lw_law 293 = .ok (.iload 4, 2) := by decide +kernel
theorem d_Lw_law_295 : decode c_Lw_law 295 = .ok (.iconst 3, 1) := by decide +kernel
theorem d_Lw_law_296 : decode c_Lw_law 296 = .ok (.iadd, 1) := by decide +kernel
theorem d_Lw_law_297 : decode c_Lw_law 297 = .ok (.iaload, 1) := by decide +kernel
theorem d_Lw_law_298 : decode c_Lw_law 298 = .ok (.i2l, 1) := by decide +kernel
theorem d_Lw_law_299 : decode c_Lw_law 299 = .ok (.bipush 32, 2) := by decide +kernel
theorem d_Lw_law_301 : decode c_Lw_law 301 = .ok (.lshl, 1) := by decide +kernel
theorem d_Lw_law_302 : decode c_Lw_law 302 = .ok (.aload_n 0, 1) := by decide +kernel
theorem d_Lw_law_303 : decode c_Lw_law 303 = .ok (.iload 4, 2) := by decide +kernel
theorem d_Lw_law_305 : decode c_Lw_law 305 = .ok (.iconst 4, 1) := by decide +kernel
theorem d_Lw_law_306 : decode c_Lw_law 306 = .ok (.iadd, 1) := by decide +kernel
theorem d_Lw_law_307 : decode c_Lw_law 307 = .ok (.iaload, 1) := by decide +kernel
theorem d_Lw_law_308 : decode c_Lw_law 308 = .ok (.i2l, 1) := by decide +kernel
theorem d_Lw_law_309 : decode c_Lw_law 309 = .ok (.ldc2_w 73, 3) := by decide +kernel
theorem d_Lw_law_312 : decode c_Lw_law 312 = .ok (.land, 1) := by decide +kernel
theorem d_Lw_law_313 : decode c_Lw_law 313 = .ok (.lor, 1) := by decide +kernel
theorem d_Lw_law_314 : decode c_Lw_law 314 = .ok (.aload_n 0, 1) := by decide +kernel
theorem d_Lw_law_315 : decode c_Lw_law 315 = .ok (.iload 4, 2) := by decide +kernel
theorem d_Lw_law_317 : decode c_Lw_law 317 = .ok (.iconst 5, 1) := by decide +kernel
theorem d_Lw_law_318 : decode c_Lw_law 318 = .ok (.iadd, 1) := by decide +kernel
theorem d_Lw_law_319 : decode c_Lw_law 319 = .ok (.iaload, 1) := by decide +kernel
theorem d_Lw_law_320 : decode c_Lw_law 320 = .ok (.invokevirtual 78, 3) := by decide +kernel
theorem d_Lw_law_323 : decode c_Lw_law 323 = .ok (.istore 6, 2) := by decide +kernel
theorem d_Lw_law_325 : decode c_Lw_law 325 = .ok (.aload_n 2, 1) := by decide +kernel
theorem d_Lw_law_326 : decode c_Lw_law 326 = .ok (.invokevirtual 65, 3) := by decide +kernel
theorem d_Lw_law_329 : decode c_Lw_law 329 = .ok (.iload 5, 2) := by decide +kernel
theorem d_Lw_law_331 : decode c_Lw_law 331 = .ok (.if_icmp .eq 5, 3) := by decide +kernel
theorem d_Lw_law_334 : decode c_Lw_law 334 = .ok (.iconst 0, 1) := by decide +kernel
theorem d_Lw_law_335 : decode c_Lw_law 335 = .ok (.ireturn, 1) := by decide +kernel
theorem d_Lw_law_336 : decode c_Lw_law 336 = .ok (.iload 5, 2) := by decide +kernel
theorem d_Lw_law_338 : decode c_Lw_law 338 = .ok (.ifCond .ne 15, 3) := by decide +kernel
theorem d_Lw_law_341 : decode c_Lw_law 341 = .ok (.aload_n 3, 1) := by decide +kernel
theorem d_Lw_law_342 : decode c_Lw_law 342 = .ok (.iconst 0, 1) := by decide +kernel
theorem d_Lw_law_343 : decode c_Lw_law 343 = .ok (.laload, 1) := by decide +kernel
theorem d_Lw_law_344 : decode c_Lw_law 344 = .ok (.iload 6, 2) := by decide +kernel
theorem d_Lw_law_346 : decode c_Lw_law 346 = .ok (.i2l, 1) := by decide +kernel
theorem d_Lw_law_347 : decode c_Lw_law 347 = .ok (.lcmp, 1) := by decide +kernel
theorem d_Lw_law_348 : decode c_Lw_law 348 = .ok (.ifCond .eq 5, 3) := by decide +kernel
theorem d_Lw_law_351 : decode c_Lw_law 351 = .ok (.iconst 0, 1) := by decide +kernel
theorem d_Lw_law_352 : decode c_Lw_law 352 = .ok (.ireturn, 1) := by decide +kernel
theorem d_Lw_law_353 : decode c_Lw_law 353 = .ok (.goto 628, 3) := by decide +kernel
theorem d_Lw_law_356 : decode c_Lw_law 356 = .ok (.aload_n 1, 1) := by decide +kernel
theorem d_Lw_law_357 : decode c_Lw_law 357 = .ok (.aload_n 0, 1) := by decide +kernel
theorem d_Lw_law_358 : decode c_Lw_law 358 = .ok (.iload 4, 2) := by decide +kernel
theorem d_Lw_law_360 : decode c_Lw_law 360 = .ok (.iconst 1, 1) := by decide +kernel
theorem d_Lw_law_361 : decode c_Lw_law 361 = .ok (.iadd, 1) := by decide +kernel
theorem d_Lw_law_362 : decode c_Lw_law 362 = .ok (.iaload, 1) := by decide +kernel
theorem d_Lw_law_363 : decode c_Lw_law 363 = .ok (.aload_n 0, 1) := by decide +kernel
theorem d_Lw_law_364 : decode c_Lw_law 364 = .ok (.iload 4, 2) := by decide +kernel
theorem d_Lw_law_366 : decode c_Lw_law 366 = .ok (.iconst 2, 1) := by decide +kernel
theorem d_Lw_law_367 : decode c_Lw_law 367 = .ok (.iadd, 1) := by decide +kernel
theorem d_Lw_law_368 : decode c_Lw_law 368 = .ok (.iaload, 1) := by decide +kernel
theorem d_Lw_law_369 : decode c_Lw_law 369 = .ok (.aload_n 0, 1) := by decide +kernel
theorem d_Lw_law_370 : decode c_Lw_law 370 = .ok (.iload 4, 2) := by decide +kernel
theorem d_Lw_law_372 : decode c_Lw_law 372 = .ok (.iconst 3, 1) := by decide +kernel
theorem d_Lw_law_373 : decode c_Lw_law 373 = .ok (.iadd, 1) := by decide +kernel
theorem d_Lw_law_374 : decode c_Lw_law 374 = .ok (.iaload, 1) := by decide +kernel
theorem d_Lw_law_375 : decode c_Lw_law 375 = .ok (.aload_n 0, 1) := by decide +kernel
theorem d_Lw_law_376 : decode c_Lw_law 376 = .ok (.iload 4, 2) := by decide +kernel
theorem d_Lw_law_378 : decode c_Lw_law 378 = .ok (.iconst 4, 1) := by decide +kernel
theorem d_Lw_law_379 : decode c_Lw_law 379 = .ok (.iadd, 1) := by decide +kernel
theorem d_Lw_law_380 : decode c_Lw_law 380 = .ok (.iaload, 1) := by decide +kernel
theorem d_Lw_law_381 : decode c_Lw_law 381 = .ok (.aload_n 3, 1) := by decide +kernel
theorem d_Lw_law_382 : decode c_Lw_law 382 = .ok (.invokestatic 79, 3) := by decide +kernel
theorem d_Lw_law_385 : decode c_Lw_law 385 = .ok (.istore 5, 2) := by decide +kernel
theorem d_Lw_law_387 : decode c_Lw_law 387 = .ok (.aload_n 2, 1) := by decide +kernel
theorem d_Lw_law_388 : decode c_Lw_law 388 = .ok (.aload_n 0, 1) := by decide +kernel
theorem d_Lw_law_389 : decode c_Lw_law 389 = .ok (.iload 4, 2) := by decide +kernel
theorem d_Lw_law_391 : decode c_Lw_law 391 = .ok (.iconst 1, 1) := by decide +kernel
theorem d_Lw_law_392 : decode c_Lw_law 392 = .ok (.iadd, 1) := by decide +kernel
theorem d_Lw_law_393 : decode c_Lw_law 393 = .ok (.iaload, 1) := by decide +kernel
theorem d_Lw_law_394 : decode c_Lw_law 394 = .ok (.aload_n 0, 1) := by decide +kernel
theorem d_Lw_law_395 : decode c_Lw_law 395 = .ok (.iload 4, 2) := by decide +kernel
theorem d_Lw_law_397 : decode c_Lw_law 397 = .ok (.iconst 2, 1) := by decide +kernel
theorem d_Lw_law_398 : decode c_Lw_law 398 = .ok (.iadd, 1) := by decide +kernel
theorem d_Lw_law_399 : decode c_Lw_law 399 = .ok (.iaload, 1) := by decide +kernel
theorem d_Lw_law_400 : decode c_Lw_law 400 = .ok (.aload_n 0, 1) := by decide +kernel
theorem d_Lw_law_401 : decode c_Lw_law 401 = .ok (.iload 4, 2) := by decide +kernel
theorem d_Lw_law_403 : decode c_Lw_law 403 = .ok (.iconst 3, 1) := by decide +kernel
theorem d_Lw_law_404 : decode c_Lw_law 404 = .ok (.iadd, 1) := by decide +kernel
theorem d_Lw_law_405 : decode c_Lw_law 405 = .ok (.iaload, 1) := by decide +kernel
theorem d_Lw_law_406 : decode c_Lw_law 406 = .ok (.aload_n 0, 1) := by decide +kernel
theorem d_Lw_law_407 : decode c_Lw_law 407 = .ok (.iload 4, 2) := by decide +kernel
theorem d_Lw_law_409 : decode c_Lw_law 409 = .ok (.iconst 4, 1) := by decide +kernel
theorem d_Lw_law_410 : decode c_Lw_law 410 = .ok (.iadd, 1) := by decide +kernel
theorem d_Lw_law_411 : decode c_Lw_law 411 = .ok (.iaload, 1) := by decide +kernel
theorem d_Lw_law_412 : decode c_Lw_law 412 = .ok (.invokevirtual 82, 3) := by decide +kernel
theorem d_Lw_law_415 : decode c_Lw_law 415 = .ok (.istore 6, 2) := by decide +kernel
theorem d_Lw_law_417 : decode c_Lw_law 417 = .ok (.aload_n 2, 1) := by decide +kernel
theorem d_Lw_law_418 : decode c_Lw_law 418 = .ok (.invokevirtual 65, 3) := by decide +kernel
theorem d_Lw_law_421 : decode c_Lw_law 421 = .ok (.iload 5, 2) := by decide +kernel
theorem d_Lw_law_423 : decode c_Lw_law 423 = .ok (.if_icmp .eq 5, 3) := by decide +kernel
theorem d_Lw_law_426 : decode c_Lw_law 426 = .ok (.iconst 0, 1) := by decide +kernel
theorem d_Lw_law_427 : decode c_Lw_law 427 = .ok (.ireturn, 1) := by decide +kernel
theorem d_Lw_law_428 : decode c_Lw_law 428 = .ok (.iload 5, 2) := by decide +kernel
theorem d_Lw_law_430 : decode c_Lw_law 430 = .ok (.ifCond .ne 15, 3) := by decide +kernel
theorem d_Lw_law_433 : decode c_Lw_law 433 = .ok (.aload_n 3, 1) := by decide +kernel
theorem d_Lw_law_434 : decode c_Lw_law 434 = .ok (.iconst 0, 1) := by decide +kernel
theorem d_Lw_law_435 : decode c_Lw_law 435 = .ok (.laload, 1) := by decide +kernel
theorem d_Lw_law_436 : decode c_Lw_law 436 = .ok (.iload 6, 2) := by decide +kernel
theorem d_Lw_law_438 : decode c_Lw_law 438 = .ok (.i2l, 1) := by decide +kernel
theorem d_Lw_law_439 : decode c_Lw_law 439 = .ok (.lcmp, 1) := by decide +kernel
theorem d_Lw_law_440 : decode c_Lw_law 440 = .ok (.ifCond .eq 5, 3) := by decide +kernel
theorem d_Lw_law_443 : decode c_Lw_law 443 = .ok (.iconst 0, 1) := by decide +kernel
theorem d_Lw_law_444 : decode c_Lw_law 444 = .ok (.ireturn, 1) := by decide +kernel
theorem d_Lw_law_445 : decode c_Lw_law 445 = .ok (.goto 536, 3) := by decide +kernel
theorem d_Lw_law_448 : decode c_Lw_law 448 = .ok (.aload_n 1, 1) := by decide +kernel
theorem d_Lw_law_449 : decode c_Lw_law 449 = .ok (.aload_n 0, 1) := by decide +kernel
theorem d_Lw_law_450 : decode c_Lw_law 450 = .ok (.iload 4, 2) := by decide +kernel
theorem d_Lw_law_452 : decode c_Lw_law 452 = .ok (.iconst 1, 1) := by decide +kernel
theorem d_Lw_law_453 : decode c_Lw_law 453 = .ok (.iadd, 1) := by decide +kernel
theorem d_Lw_law_454 : decode c_Lw_law 454 = .ok (.iaload, 1) := by decide +kernel
theorem d_Lw_law_455 : decode c_Lw_law 455 = .ok (.aload_n 0, 1) := by decide +kernel
theorem d_Lw_law_456 : decode c_Lw_law 456 = .ok (.iload 4, 2) := by decide +kernel
theorem d_Lw_law_458 : decode c_Lw_law 458 = .ok (.iconst 2, 1) := by decide +kernel
theorem d_Lw_law_459 : decode c_Lw_law 459 = .ok (.iadd, 1) := by decide +kernel
theorem d_Lw_law_460 : decode c_Lw_law 460 = .ok (.iaload, 1) := by decide +kernel
theorem d_Lw_law_461 : decode c_Lw_law 461 = .ok (.aload_n 3, 1) := by decide +kernel
theorem d_Lw_law_462 : decode c_Lw_law 462 = .ok (.invokestatic 83, 3) := by decide +kernel
theorem d_Lw_law_465 : decode c_Lw_law 465 = .ok (.istore 5, 2) := by decide +kernel
theorem d_Lw_law_467 : decode c_Lw_law 467 = .ok (.aload_n 2, 1) := by decide +kernel
theorem d_Lw_law_468 : decode c_Lw_law 468 = .ok (.aload_n 0, 1) := by decide +kernel
theorem d_Lw_law_469 : decode c_Lw_law 469 = .ok (.iload 4, 2) := by decide +kernel
theorem d_Lw_law_471 : decode c_Lw_law 471 = .ok (.iconst 1, 1) := by decide +kernel
theorem d_Lw_law_472 : decode c_Lw_law 472 = .ok (.iadd, 1) := by decide +kernel
theorem d_Lw_law_473 : decode c_Lw_law 473 = .ok (.iaload, 1) := by decide +kernel
theorem d_Lw_law_474 : decode c_Lw_law 474 = .ok (.aload_n 0, 1) := by decide +kernel
theorem d_Lw_law_475 : decode c_Lw_law 475 = .ok (.iload 4, 2) := by decide +kernel
theorem d_Lw_law_477 : decode c_Lw_law 477 = .ok (.iconst 2, 1) := by decide +kernel
theorem d_Lw_law_478 : decode c_Lw_law 478 = .ok (.iadd, 1) := by decide +kernel
theorem d_Lw_law_479 : decode c_Lw_law 479 = .ok (.iaload, 1) := by decide +kernel
theorem d_Lw_law_480 : decode c_Lw_law 480 = .ok (.invokevirtual 85, 3) := by decide +kernel
theorem d_Lw_law_483 : decode c_Lw_law 483 = .ok (.istore 6, 2) := by decide +kernel
theorem d_Lw_law_485 : decode c_Lw_law 485 = .ok (.aload_n 2, 1) := by decide +kernel
theorem d_Lw_law_486 : decode c_Lw_law 486 = .ok (.invokevirtual 65, 3) := by decide +kernel
theorem d_Lw_law_489 : decode c_Lw_law 489 = .ok (.iload 5, 2) := by decide +kernel
theorem d_Lw_law_491 : decode c_Lw_law 491 = .ok (.if_icmp .eq 5, 3) := by decide +kernel
theorem d_Lw_law_494 : decode c_Lw_law 494 = .ok (.iconst 0, 1) := by decide +kernel
theorem d_Lw_law_495 : decode c_Lw_law 495 = .ok (.ireturn, 1) := by decide +kernel
theorem d_Lw_law_496 : decode c_Lw_law 496 = .ok (.iload 5, 2) := by decide +kernel
theorem d_Lw_law_498 : decode c_Lw_law 498 = .ok (.ifCond .ne 15, 3) := by decide +kernel
theorem d_Lw_law_501 : decode c_Lw_law 501 = .ok (.aload_n 3, 1) := by decide +kernel
theorem d_Lw_law_502 : decode c_Lw_law 502 = .ok (.iconst 0, 1) := by decide +kernel
theorem d_Lw_law_503 : decode c_Lw_law 503 = .ok (.laload, 1) := by decide +kernel
theorem d_Lw_law_504 : decode c_Lw_law 504 = .ok (.iload 6, 2) := by decide +kernel
theorem d_Lw_law_506 : decode c_Lw_law 506 = .ok (.i2l, 1) := by decide +kernel
theorem d_Lw_law_507 : decode c_Lw_law 507 = .ok (.lcmp, 1) := by decide +kernel
theorem d_Lw_law_508 : decode c_Lw_law 508 = .ok (.ifCond .eq 5, 3) := by decide +kernel
theorem d_Lw_law_511 : decode c_Lw_law 511 = .ok (.iconst 0, 1) := by decide +kernel
theorem d_Lw_law_512 : decode c_Lw_law 512 = .ok (.ireturn, 1) := by decide +kernel
theorem d_Lw_law_513 : decode c_Lw_law 513 = .ok (.goto 468, 3) := by decide +kernel
theorem d_Lw_law_516 : decode c_Lw_law 516 = .ok (.aload_n 1, 1) := by decide +kernel
theorem d_Lw_law_517 : decode c_Lw_law 517 = .ok (.aload_n 0, 1) := by decide +kernel
theorem d_Lw_law_518 : decode c_Lw_law 518 = .ok (.iload 4, 2) := by decide +kernel
theorem d_Lw_law_520 : decode c_Lw_law 520 = .ok (.iconst 1, 1) := by decide +kernel
theorem d_Lw_law_521 : decode c_Lw_law 521 = .ok (.iadd, 1) := by decide +kernel
theorem d_Lw_law_522 : decode c_Lw_law 522 = .ok (.iaload, 1) := by decide +kernel
theorem d_Lw_law_523 : decode c_Lw_law 523 = .ok (.aload_n 0, 1) := by decide +kernel
theorem d_Lw_law_524 : decode c_Lw_law 524 = .ok (.iload 4, 2) := by decide +kernel
theorem d_Lw_law_526 : decode c_Lw_law 526 = .ok (.iconst 2, 1) := by decide +kernel
theorem d_Lw_law_527 : decode c_Lw_law 527 = .ok (.iadd, 1) := by decide +kernel
theorem d_Lw_law_528 : decode c_Lw_law 528 = .ok (.iaload, 1) := by decide +kernel
theorem d_Lw_law_529 : decode c_Lw_law 529 = .ok (.aload_n 3, 1) := by decide +kernel
theorem d_Lw_law_530 : decode c_Lw_law 530 = .ok (.invokestatic 86, 3) := by decide +kernel
theorem d_Lw_law_533 : decode c_Lw_law 533 = .ok (.istore 5, 2) := by decide +kernel
theorem d_Lw_law_535 : decode c_Lw_law 535 = .ok (.aload_n 2, 1) := by decide +kernel
theorem d_Lw_law_536 : decode c_Lw_law 536 = .ok (.aload_n 0, 1) := by decide +kernel
theorem d_Lw_law_537 : decode c_Lw_law 537 = .ok (.iload 4, 2) := by decide +kernel
theorem d_Lw_law_539 : decode c_Lw_law 539 = .ok (.iconst 1, 1) := by decide +kernel
theorem d_Lw_law_540 : decode c_Lw_law 540 = .ok (.iadd, 1) := by decide +kernel
theorem d_Lw_law_541 : decode c_Lw_law 541 = .ok (.iaload, 1) := by decide +kernel
theorem d_Lw_law_542 : decode c_Lw_law 542 = .ok (.aload_n 0, 1) := by decide +kernel
theorem d_Lw_law_543 : decode c_Lw_law 543 = .ok (.iload 4, 2) := by decide +kernel
theorem d_Lw_law_545 : decode c_Lw_law 545 = .ok (.iconst 2, 1) := by decide +kernel
theorem d_Lw_law_546 : decode c_Lw_law 546 = .ok (.iadd, 1) := by decide +kernel
theorem d_Lw_law_547 : decode c_Lw_law 547 = .ok (.iaload, 1) := by decide +kernel
theorem d_Lw_law_548 : decode c_Lw_law 548 = .ok (.invokevirtual 88, 3) := by decide +kernel
theorem d_Lw_law_551 : decode c_Lw_law 551 = .ok (.istore 6, 2) := by decide +kernel
theorem d_Lw_law_553 : decode c_Lw_law 553 = .ok (.aload_n 2, 1) := by decide +kernel
theorem d_Lw_law_554 : decode c_Lw_law 554 = .ok (.invokevirtual 65, 3) := by decide +kernel
theorem d_Lw_law_557 : decode c_Lw_law 557 = .ok (.iload 5, 2) := by decide +kernel
theorem d_Lw_law_559 : decode c_Lw_law 559 = .ok (.if_icmp .eq 5, 3) := by decide +kernel
theorem d_Lw_law_562 : decode c_Lw_law 562 = .ok (.iconst 0, 1) := by decide +kernel
theorem d_Lw_law_563 : decode c_Lw_law 563 = .ok (.ireturn, 1) := by decide +kernel
theorem d_Lw_law_564 : decode c_Lw_law 564 = .ok (.iload 5, 2) := by decide +kernel
theorem d_Lw_law_566 : decode c_Lw_law 566 = .ok (.ifCond .ne 15, 3) := by decide +kernel
theorem d_Lw_law_569 : decode c_Lw_law 569 = .ok (.aload_n 3, 1) := by decide +kernel
theorem d_Lw_law_570 : decode c_Lw_law 570 = .ok (.iconst 0, 1) := by decide +kernel
theorem d_Lw_law_571 : decode c_Lw_law 571 = .ok (.laload, 1) := by decide +kernel
theorem d_Lw_law_572 : decode c_Lw_law 572 = .ok (.iload 6, 2) := by decide +kernel
theorem d_Lw_law_574 : decode c_Lw_law 574 = .ok (.i2l, 1) := by decide +kernel
theorem d_Lw_law_575 : decode c_Lw_law 575 = .ok (.lcmp, 1) := by decide +kernel
theorem d_Lw_law_576 : decode c_Lw_law 576 = .ok (.ifCond .eq 5, 3) := by decide +kernel
theorem d_Lw_law_579 : decode c_Lw_law 579 = .ok (.iconst 0, 1) := by decide +kernel
theorem d_Lw_law_580 : decode c_Lw_law 580 = .ok (.ireturn, 1) := by decide +kernel
theorem d_Lw_law_581 : decode c_Lw_law 581 = .ok (.goto 400, 3) := by decide +kernel
theorem d_Lw_law_584 : decode c_Lw_law 584 = .ok (.aload_n 1, 1) := by decide +kernel
theorem d_Lw_law_585 : decode c_Lw_law 585 = .ok (.aload_n 0, 1) := by decide +kernel
theorem d_Lw_law_586 : decode c_Lw_law 586 = .ok (.iload 4, 2) := by decide +kernel
theorem d_Lw_law_588 : decode c_Lw_law 588 = .ok (.iconst 1, 1) := by decide +kernel
theorem d_Lw_law_589 : decode c_Lw_law 589 = .ok (.iadd, 1) := by decide +kernel
theorem d_Lw_law_590 : decode c_Lw_law 590 = .ok (.iaload, 1) := by decide +kernel
theorem d_Lw_law_591 : decode c_Lw_law 591 = .ok (.aload_n 0, 1) := by decide +kernel
theorem d_Lw_law_592 : decode c_Lw_law 592 = .ok (.iload 4, 2) := by decide +kernel
theorem d_Lw_law_594 : decode c_Lw_law 594 = .ok (.iconst 2, 1) := by decide +kernel
theorem d_Lw_law_595 : decode c_Lw_law 595 = .ok (.iadd, 1) := by decide +kernel
theorem d_Lw_law_596 : decode c_Lw_law 596 = .ok (.iaload, 1) := by decide +kernel
theorem d_Lw_law_597 : decode c_Lw_law 597 = .ok (.aload_n 3, 1) := by decide +kernel
theorem d_Lw_law_598 : decode c_Lw_law 598 = .ok (.invokestatic 89, 3) := by decide +kernel
theorem d_Lw_law_601 : decode c_Lw_law 601 = .ok (.istore 5, 2) := by decide +kernel
theorem d_Lw_law_603 : decode c_Lw_law 603 = .ok (.aload_n 2, 1) := by decide +kernel
theorem d_Lw_law_604 : decode c_Lw_law 604 = .ok (.aload_n 0, 1) := by decide +kernel
theorem d_Lw_law_605 : decode c_Lw_law 605 = .ok (.iload 4, 2) := by decide +kernel
theorem d_Lw_law_607 : decode c_Lw_law 607 = .ok (.iconst 1, 1) := by decide +kernel
theorem d_Lw_law_608 : decode c_Lw_law 608 = .ok (.iadd, 1) := by decide +kernel
theorem d_Lw_law_609 : decode c_Lw_law 609 = .ok (.iaload, 1) := by decide +kernel
theorem d_Lw_law_610 : decode c_Lw_law 610 = .ok (.aload_n 0, 1) := by decide +kernel
theorem d_Lw_law_611 : decode c_Lw_law 611 = .ok (.iload 4, 2) := by decide +kernel
theorem d_Lw_law_613 : decode c_Lw_law 613 = .ok (.iconst 2, 1) := by decide +kernel
theorem d_Lw_law_614 : decode c_Lw_law 614 = .ok (.iadd, 1) := by decide +kernel
theorem d_Lw_law_615 : decode c_Lw_law 615 = .ok (.iaload, 1) := by decide +kernel
theorem d_Lw_law_616 : decode c_Lw_law 616 = .ok (.invokevirtual 91, 3) := by decide +kernel
theorem d_Lw_law_619 : decode c_Lw_law 619 = .ok (.istore 6, 2) := by decide +kernel
theorem d_Lw_law_621 : decode c_Lw_law 621 = .ok (.aload_n 2, 1) := by decide +kernel
theorem d_Lw_law_622 : decode c_Lw_law 622 = .ok (.invokevirtual 65, 3) := by decide +kernel
theorem d_Lw_law_625 : decode c_Lw_law 625 = .ok (.iload 5, 2) := by decide +kernel
theorem d_Lw_law_627 : decode c_Lw_law 627 = .ok (.if_icmp .eq 5, 3) := by decide +kernel
theorem d_Lw_law_630 : decode c_Lw_law 630 = .ok (.iconst 0, 1) := by decide +kernel
theorem d_Lw_law_631 : decode c_Lw_law 631 = .ok (.ireturn, 1) := by decide +kernel
theorem d_Lw_law_632 : decode c_Lw_law 632 = .ok (.iload 5, 2) := by decide +kernel
theorem d_Lw_law_634 : decode c_Lw_law 634 = .ok (.ifCond .ne 15, 3) := by decide +kernel
theorem d_Lw_law_637 : decode c_Lw_law 637 = .ok (.aload_n 3, 1) := by decide +kernel
theorem d_Lw_law_638 : decode c_Lw_law 638 = .ok (.iconst 0, 1) := by decide +kernel
theorem d_Lw_law_639 : decode c_Lw_law 639 = .ok (.laload, 1) := by decide +kernel
theorem d_Lw_law_640 : decode c_Lw_law 640 = .ok (.iload 6, 2) := by decide +kernel
theorem d_Lw_law_642 : decode c_Lw_law 642 = .ok (.i2l, 1) := by decide +kernel
theorem d_Lw_law_643 : decode c_Lw_law 643 = .ok (.lcmp, 1) := by decide +kernel
theorem d_Lw_law_644 : decode c_Lw_law 644 = .ok (.ifCond .eq 5, 3) := by decide +kernel
theorem d_Lw_law_647 : decode c_Lw_law 647 = .ok (.iconst 0, 1) := by decide +kernel
theorem d_Lw_law_648 : decode c_Lw_law 648 = .ok (.ireturn, 1) := by decide +kernel
theorem d_Lw_law_649 : decode c_Lw_law 649 = .ok (.goto 332, 3) := by decide +kernel
theorem d_Lw_law_652 : decode c_Lw_law 652 = .ok (.aload_n 1, 1) := by decide +kernel
theorem d_Lw_law_653 : decode c_Lw_law 653 = .ok (.aload_n 0, 1) := by decide +kernel
theorem d_Lw_law_654 : decode c_Lw_law 654 = .ok (.iload 4, 2) := by decide +kernel
theorem d_Lw_law_656 : decode c_Lw_law 656 = .ok (.iconst 1, 1) := by decide +kernel
theorem d_Lw_law_657 : decode c_Lw_law 657 = .ok (.iadd, 1) := by decide +kernel
theorem d_Lw_law_658 : decode c_Lw_law 658 = .ok (.iaload, 1) := by decide +kernel
theorem d_Lw_law_659 : decode c_Lw_law 659 = .ok (.aload_n 3, 1) := by decide +kernel
theorem d_Lw_law_660 : decode c_Lw_law 660 = .ok (.invokestatic 92, 3) := by decide +kernel
theorem d_Lw_law_663 : decode c_Lw_law 663 = .ok (.istore 5, 2) := by decide +kernel
theorem d_Lw_law_665 : decode c_Lw_law 665 = .ok (.aload_n 2, 1) := by decide +kernel
theorem d_Lw_law_666 : decode c_Lw_law 666 = .ok (.aload_n 0, 1) := by decide +kernel
theorem d_Lw_law_667 : decode c_Lw_law 667 = .ok (.iload 4, 2) := by decide +kernel
theorem d_Lw_law_669 : decode c_Lw_law 669 = .ok (.iconst 1, 1) := by decide +kernel
theorem d_Lw_law_670 : decode c_Lw_law 670 = .ok (.iadd, 1) := by decide +kernel
theorem d_Lw_law_671 : decode c_Lw_law 671 = .ok (.iaload, 1) := by decide +kernel
theorem d_Lw_law_672 : decode c_Lw_law 672 = .ok (.invokevirtual 94, 3) := by decide +kernel
theorem d_Lw_law_675 : decode c_Lw_law 675 = .ok (.istore 6, 2) := by decide +kernel
theorem d_Lw_law_677 : decode c_Lw_law 677 = .ok (.aload_n 2, 1) := by decide +kernel
theorem d_Lw_law_678 : decode c_Lw_law 678 = .ok (.invokevirtual 65, 3) := by decide +kernel
theorem d_Lw_law_681 : decode c_Lw_law 681 = .ok (.iload 5, 2) := by decide +kernel
theorem d_Lw_law_683 : decode c_Lw_law 683 = .ok (.if_icmp .eq 5, 3) := by decide +kernel
theorem d_Lw_law_686 : decode c_Lw_law 686 = .ok (.iconst 0, 1) := by decide +kernel
theorem d_Lw_law_687 : decode c_Lw_law 687 = .ok (.ireturn, 1) := by decide +kernel
theorem d_Lw_law_688 : decode c_Lw_law 688 = .ok (.iload 5, 2) := by decide +kernel
theorem d_Lw_law_690 : decode c_Lw_law 690 = .ok (.ifCond .ne 15, 3) := by decide +kernel
theorem d_Lw_law_693 : decode c_Lw_law 693 = .ok (.aload_n 3, 1) := by decide +kernel
theorem d_Lw_law_694 : decode c_Lw_law 694 = .ok (.iconst 0, 1) := by decide +kernel
theorem d_Lw_law_695 : decode c_Lw_law 695 = .ok (.laload, 1) := by decide +kernel
theorem d_Lw_law_696 : decode c_Lw_law 696 = .ok (.iload 6, 2) := by decide +kernel
theorem d_Lw_law_698 : decode c_Lw_law 698 = .ok (.i2l, 1) := by decide +kernel
theorem d_Lw_law_699 : decode c_Lw_law 699 = .ok (.lcmp, 1) := by decide +kernel
theorem d_Lw_law_700 : decode c_Lw_law 700 = .ok (.ifCond .eq 5, 3) := by decide +kernel
theorem d_Lw_law_703 : decode c_Lw_law 703 = .ok (.iconst 0, 1) := by decide +kernel
theorem d_Lw_law_704 : decode c_Lw_law 704 = .ok (.ireturn, 1) := by decide +kernel
theorem d_Lw_law_705 : decode c_Lw_law 705 = .ok (.goto 276, 3) := by decide +kernel
theorem d_Lw_law_708 : decode c_Lw_law 708 = .ok (.aload_n 1, 1) := by decide +kernel
theorem d_Lw_law_709 : decode c_Lw_law 709 = .ok (.invokevirtual 95, 3) := by decide +kernel
theorem d_Lw_law_712 : decode c_Lw_law 712 = .ok (.aload_n 2, 1) := by decide +kernel
theorem d_Lw_law_713 : decode c_Lw_law 713 = .ok (.invokevirtual 98, 3) := by decide +kernel
theorem d_Lw_law_716 : decode c_Lw_law 716 = .ok (.if_icmp .eq 265, 3) := by decide +kernel
theorem d_Lw_law_719 : decode c_Lw_law 719 = .ok (.iconst 0, 1) := by decide +kernel
theorem d_Lw_law_720 : decode c_Lw_law 720 = .ok (.ireturn, 1) := by decide +kernel
theorem d_Lw_law_721 : decode c_Lw_law 721 = .ok (.aload_n 1, 1) := by decide +kernel
theorem d_Lw_law_722 : decode c_Lw_law 722 = .ok (.aload_n 0, 1) := by decide +kernel
theorem d_Lw_law_723 : decode c_Lw_law 723 = .ok (.iload 4, 2) := by decide +kernel
theorem d_Lw_law_725 : decode c_Lw_law 725 = .ok (.iconst 1, 1) := by decide +kernel
theorem d_Lw_law_726 : decode c_Lw_law 726 = .ok (.iadd, 1) := by decide +kernel
theorem d_Lw_law_727 : decode c_Lw_law 727 = .ok (.iaload, 1) := by decide +kernel
theorem d_Lw_law_728 : decode c_Lw_law 728 = .ok (.aload_n 0, 1) := by decide +kernel
theorem d_Lw_law_729 : decode c_Lw_law 729 = .ok (.iload 4, 2) := by decide +kernel
theorem d_Lw_law_731 : decode c_Lw_law 731 = .ok (.iconst 2, 1) := by decide +kernel
theorem d_Lw_law_732 : decode c_Lw_law 732 = .ok (.iadd, 1) := by decide +kernel
theorem d_Lw_law_733 : decode c_Lw_law 733 = .ok (.iaload, 1) := by decide +kernel
theorem d_Lw_law_734 : decode c_Lw_law 734 = .ok (.aload_n 3, 1) := by decide +kernel
theorem d_Lw_law_735 : decode c_Lw_law 735 = .ok (.invokestatic 99, 3) := by decide +kernel
theorem d_Lw_law_738 : decode c_Lw_law 738 = .ok (.istore 5, 2) := by decide +kernel
theorem d_Lw_law_740 : decode c_Lw_law 740 = .ok (.aload_n 2, 1) := by decide +kernel
theorem d_Lw_law_741 : decode c_Lw_law 741 = .ok (.aload_n 0, 1) := by decide +kernel
theorem d_Lw_law_742 : decode c_Lw_law 742 = .ok (.iload 4, 2) := by decide +kernel
theorem d_Lw_law_744 : decode c_Lw_law 744 = .ok (.iconst 1, 1) := by decide +kernel
theorem d_Lw_law_745 : decode c_Lw_law 745 = .ok (.iadd, 1) := by decide +kernel
theorem d_Lw_law_746 : decode c_Lw_law 746 = .ok (.iaload, 1) := by decide +kernel
theorem d_Lw_law_747 : decode c_Lw_law 747 = .ok (.aload_n 0, 1) := by decide +kernel
theorem d_Lw_law_748 : decode c_Lw_law 748 = .ok (.iload 4, 2) := by decide +kernel
theorem d_Lw_law_750 : decode c_Lw_law 750 = .ok (.iconst 2, 1) := by decide +kernel
theorem d_Lw_law_751 : decode c_Lw_law 751 = .ok (.iadd, 1) := by decide +kernel
theorem d_Lw_law_752 : decode c_Lw_law 752 = .ok (.iaload, 1) := by decide +kernel
theorem d_Lw_law_753 : decode c_Lw_law 753 = .ok (.invokevirtual 101, 3) := by decide +kernel
theorem d_Lw_law_756 : decode c_Lw_law 756 = .ok (.istore 6, 2) := by decide +kernel
theorem d_Lw_law_758 : decode c_Lw_law 758 = .ok (.aload_n 2, 1) := by decide +kernel
theorem d_Lw_law_759 : decode c_Lw_law 759 = .ok (.invokevirtual 65, 3) := by decide +kernel
theorem d_Lw_law_762 : decode c_Lw_law 762 = .ok (.iload 5, 2) := by decide +kernel
theorem d_Lw_law_764 : decode c_Lw_law 764 = .ok (.if_icmp .eq 5, 3) := by decide +kernel
theorem d_Lw_law_767 : decode c_Lw_law 767 = .ok (.iconst 0, 1) := by decide +kernel
theorem d_Lw_law_768 : decode c_Lw_law 768 = .ok (.ireturn, 1) := by decide +kernel
theorem d_Lw_law_769 : decode c_Lw_law 769 = .ok (.iload 5, 2) := by decide +kernel
theorem d_Lw_law_771 : decode c_Lw_law 771 = .ok (.ifCond .ne 15, 3) := by decide +kernel
theorem d_Lw_law_774 : decode c_Lw_law 774 = .ok (.aload_n 3, 1) := by decide +kernel
theorem d_Lw_law_775 : decode c_Lw_law 775 = .ok (.iconst 0, 1) := by decide +kernel
theorem d_Lw_law_776 : decode c_Lw_law 776 = .ok (.laload, 1) := by decide +kernel
theorem d_Lw_law_777 : decode c_Lw_law 777 = .ok (.iload 6, 2) := by decide +kernel
theorem d_Lw_law_779 : decode c_Lw_law 779 = .ok (.i2l, 1) := by decide +kernel
theorem d_Lw_law_780 : decode c_Lw_law 780 = .ok (.lcmp, 1) := by decide +kernel
theorem d_Lw_law_781 : decode c_Lw_law 781 = .ok (.ifCond .eq 5, 3) := by decide +kernel
theorem d_Lw_law_784 : decode c_Lw_law 784 = .ok (.iconst 0, 1) := by decide +kernel
theorem d_Lw_law_785 : decode c_Lw_law 785 = .ok (.ireturn, 1) := by decide +kernel
theorem d_Lw_law_786 : decode c_Lw_law 786 = .ok (.goto 195, 3) := by decide +kernel
theorem d_Lw_law_789 : decode c_Lw_law 789 = .ok (.aload_n 1, 1) := by decide +kernel
theorem d_Lw_law_790 : decode c_Lw_law 790 = .ok (.aload_n 0, 1) := by decide +kernel
theorem d_Lw_law_791 : decode c_Lw_law 791 = .ok (.iload 4, 2) := by decide +kernel
theorem d_Lw_law_793 : decode c_Lw_law 793 = .ok (.iconst 1, 1) := by decide +kernel
theorem d_Lw_law_794 : decode c_Lw_law 794 = .ok (.iadd, 1) := by decide +kernel
theorem d_Lw_law_795 : decode c_Lw_law 795 = .ok (.iaload, 1) := by decide +kernel
theorem d_Lw_law_796 : decode c_Lw_law 796 = .ok (.aload_n 0, 1) := by decide +kernel
theorem d_Lw_law_797 : decode c_Lw_law 797 = .ok (.iload 4, 2) := by decide +kernel
theorem d_Lw_law_799 : decode c_Lw_law 799 = .ok (.iconst 2, 1) := by decide +kernel
theorem d_Lw_law_800 : decode c_Lw_law 800 = .ok (.iadd, 1) := by decide +kernel
theorem d_Lw_law_801 : decode c_Lw_law 801 = .ok (.iaload, 1) := by decide +kernel
theorem d_Lw_law_802 : decode c_Lw_law 802 = .ok (.aload_n 3, 1) := by decide +kernel
theorem d_Lw_law_803 : decode c_Lw_law 803 = .ok (.invokestatic 102, 3) := by decide +kernel
theorem d_Lw_law_806 : decode c_Lw_law 806 = .ok (.istore 5, 2) := by decide +kernel
theorem d_Lw_law_808 : decode c_Lw_law 808 = .ok (.aload_n 2, 1) := by decide +kernel
theorem d_Lw_law_809 : decode c_Lw_law 809 = .ok (.aload_n 0, 1) := by decide +kernel
theorem d_Lw_law_810 : decode c_Lw_law 810 = .ok (.iload 4, 2) := by decide +kernel
theorem d_Lw_law_812 : decode c_Lw_law 812 = .ok (.iconst 1, 1) := by decide +kernel
theorem d_Lw_law_813 : decode c_Lw_law 813 = .ok (.iadd, 1) := by decide +kernel
theorem d_Lw_law_814 : decode c_Lw_law 814 = .ok (.iaload, 1) := by decide +kernel
theorem d_Lw_law_815 : decode c_Lw_law 815 = .ok (.aload_n 0, 1) := by decide +kernel
theorem d_Lw_law_816 : decode c_Lw_law 816 = .ok (.iload 4, 2) := by decide +kernel
theorem d_Lw_law_818 : decode c_Lw_law 818 = .ok (.iconst 2, 1) := by decide +kernel
theorem d_Lw_law_819 : decode c_Lw_law 819 = .ok (.iadd, 1) := by decide +kernel
theorem d_Lw_law_820 : decode c_Lw_law 820 = .ok (.iaload, 1) := by decide +kernel
theorem d_Lw_law_821 : decode c_Lw_law 821 = .ok (.invokevirtual 104, 3) := by decide +kernel
theorem d_Lw_law_824 : decode c_Lw_law 824 = .ok (.istore 6, 2) := by decide +kernel
theorem d_Lw_law_826 : decode c_Lw_law 826 = .ok (.aload_n 2, 1) := by decide +kernel
theorem d_Lw_law_827 : decode c_Lw_law 827 = .ok (.invokevirtual 65, 3) := by decide +kernel
theorem d_Lw_law_830 : decode c_Lw_law 830 = .ok (.iload 5, 2) := by decide +kernel
theorem d_Lw_law_832 : decode c_Lw_law 832 = .ok (.if_icmp .eq 5, 3) := by decide +kernel
theorem d_Lw_law_835 : decode c_Lw_law 835 = .ok (.iconst 0, 1) := by decide +kernel
theorem d_Lw_law_836 : decode c_Lw_law 836 = .ok (.ireturn, 1) := by decide +kernel
theorem d_Lw_law_837 : decode c_Lw_law 837 = .ok (.iload 5, 2) := by decide +kernel
theorem d_Lw_law_839 : decode c_Lw_law 839 = .ok (.ifCond .ne 15, 3) := by decide +kernel
theorem d_Lw_law_842 : decode c_Lw_law 842 = .ok (.aload_n 3, 1) := by decide +kernel
theorem d_Lw_law_843 : decode c_Lw_law 843 = .ok (.iconst 0, 1) := by decide +kernel
theorem d_Lw_law_844 : decode c_Lw_law 844 = .ok (.laload, 1) := by decide +kernel
theorem d_Lw_law_845 : decode c_Lw_law 845 = .ok (.iload 6, 2) := by decide +kernel
theorem d_Lw_law_847 : decode c_Lw_law 847 = .ok (.i2l, 1) := by decide +kernel
theorem d_Lw_law_848 : decode c_Lw_law 848 = .ok (.lcmp, 1) := by decide +kernel
theorem d_Lw_law_849 : decode c_Lw_law 849 = .ok (.ifCond .eq 5, 3) := by decide +kernel
theorem d_Lw_law_852 : decode c_Lw_law 852 = .ok (.iconst 0, 1) := by decide +kernel
theorem d_Lw_law_853 : decode c_Lw_law 853 = .ok (.ireturn, 1) := by decide +kernel
theorem d_Lw_law_854 : decode c_Lw_law 854 = .ok (.goto 127, 3) := by decide +kernel
theorem d_Lw_law_857 : decode c_Lw_law 857 = .ok (.aload_n 1, 1) := by decide +kernel
theorem d_Lw_law_858 : decode c_Lw_law 858 = .ok (.aload_n 0, 1) := by decide +kernel
theorem d_Lw_law_859 : decode c_Lw_law 859 = .ok (.iload 4, 2) := by decide +kernel
theorem d_Lw_law_861 : decode c_Lw_law 861 = .ok (.iconst 1, 1) := by decide +kernel
theorem d_Lw_law_862 : decode c_Lw_law 862 = .ok (.iadd, 1) := by decide +kernel
theorem d_Lw_law_863 : decode c_Lw_law 863 = .ok (.iaload, 1) := by decide +kernel
theorem d_Lw_law_864 : decode c_Lw_law 864 = .ok (.aload_n 3, 1) := by decide +kernel
theorem d_Lw_law_865 : decode c_Lw_law 865 = .ok (.invokestatic 105, 3) := by decide +kernel
theorem d_Lw_law_868 : decode c_Lw_law 868 = .ok (.istore 5, 2) := by decide +kernel
theorem d_Lw_law_870 : decode c_Lw_law 870 = .ok (.aload_n 2, 1) := by decide +kernel
theorem d_Lw_law_871 : decode c_Lw_law 871 = .ok (.aload_n 0, 1) := by decide +kernel
theorem d_Lw_law_872 : decode c_Lw_law 872 = .ok (.iload 4, 2) := by decide +kernel
theorem d_Lw_law_874 : decode c_Lw_law 874 = .ok (.iconst 1, 1) := by decide +kernel
theorem d_Lw_law_875 : decode c_Lw_law 875 = .ok (.iadd, 1) := by decide +kernel
theorem d_Lw_law_876 : decode c_Lw_law 876 = .ok (.iaload, 1) := by decide +kernel
theorem d_Lw_law_877 : decode c_Lw_law 877 = .ok (.invokevirtual 107, 3) := by decide +kernel
theorem d_Lw_law_880 : decode c_Lw_law 880 = .ok (.istore 6, 2) := by decide +kernel
theorem d_Lw_law_882 : decode c_Lw_law 882 = .ok (.aload_n 2, 1) := by decide +kernel
theorem d_Lw_law_883 : decode c_Lw_law 883 = .ok (.invokevirtual 65, 3) := by decide +kernel
theorem d_Lw_law_886 : decode c_Lw_law 886 = .ok (.iload 5, 2) := by decide +kernel
theorem d_Lw_law_888 : decode c_Lw_law 888 = .ok (.if_icmp .eq 5, 3) := by decide +kernel
theorem d_Lw_law_891 : decode c_Lw_law 891 = .ok (.iconst 0, 1) := by decide +kernel
theorem d_Lw_law_892 : decode c_Lw_law 892 = .ok (.ireturn, 1) := by decide +kernel
theorem d_Lw_law_893 : decode c_Lw_law 893 = .ok (.iload 5, 2) := by decide +kernel
theorem d_Lw_law_895 : decode c_Lw_law 895 = .ok (.ifCond .ne 15, 3) := by decide +kernel
theorem d_Lw_law_898 : decode c_Lw_law 898 = .ok (.aload_n 3, 1) := by decide +kernel
theorem d_Lw_law_899 : decode c_Lw_law 899 = .ok (.iconst 0, 1) := by decide +kernel
theorem d_Lw_law_900 : decode c_Lw_law 900 = .ok (.laload, 1) := by decide +kernel
theorem d_Lw_law_901 : decode c_Lw_law 901 = .ok (.iload 6, 2) := by decide +kernel
theorem d_Lw_law_903 : decode c_Lw_law 903 = .ok (.i2l, 1) := by decide +kernel
theorem d_Lw_law_904 : decode c_Lw_law 904 = .ok (.lcmp, 1) := by decide +kernel
theorem d_Lw_law_905 : decode c_Lw_law 905 = .ok (.ifCond .eq 5, 3) := by decide +kernel
theorem d_Lw_law_908 : decode c_Lw_law 908 = .ok (.iconst 0, 1) := by decide +kernel
theorem d_Lw_law_909 : decode c_Lw_law 909 = .ok (.ireturn, 1) := by decide +kernel
theorem d_Lw_law_910 : decode c_Lw_law 910 = .ok (.goto 71, 3) := by decide +kernel
theorem d_Lw_law_913 : decode c_Lw_law 913 = .ok (.aload_n 1, 1) := by decide +kernel
theorem d_Lw_law_914 : decode c_Lw_law 914 = .ok (.aload_n 0, 1) := by decide +kernel
theorem d_Lw_law_915 : decode c_Lw_law 915 = .ok (.iload 4, 2) := by decide +kernel
theorem d_Lw_law_917 : decode c_Lw_law 917 = .ok (.iconst 1, 1) := by decide +kernel
theorem d_Lw_law_918 : decode c_Lw_law 918 = .ok (.iadd, 1) := by decide +kernel
theorem d_Lw_law_919 : decode c_Lw_law 919 = .ok (.iaload, 1) := by decide +kernel
theorem d_Lw_law_920 : decode c_Lw_law 920 = .ok (.aload_n 0, 1) := by decide +kernel
theorem d_Lw_law_921 : decode c_Lw_law 921 = .ok (.iload 4, 2) := by decide +kernel
theorem d_Lw_law_923 : decode c_Lw_law 923 = .ok (.iconst 2, 1) := by decide +kernel
theorem d_Lw_law_924 : decode c_Lw_law 924 = .ok (.iadd, 1) := by decide +kernel
theorem d_Lw_law_925 : decode c_Lw_law 925 = .ok (.iaload, 1) := by decide +kernel
theorem d_Lw_law_926 : decode c_Lw_law 926 = .ok (.aload_n 3, 1) := by decide +kernel
theorem d_Lw_law_927 : decode c_Lw_law 927 = .ok (.invokestatic 108, 3) := by decide +kernel
theorem d_Lw_law_930 : decode c_Lw_law 930 = .ok (.istore 5, 2) := by decide +kernel
theorem d_Lw_law_932 : decode c_Lw_law 932 = .ok (.aload_n 2, 1) := by decide +kernel
theorem d_Lw_law_933 : decode c_Lw_law 933 = .ok (.aload_n 0, 1) := by decide +kernel
theorem d_Lw_law_934 : decode c_Lw_law 934 = .ok (.iload 4, 2) := by decide +kernel
theorem d_Lw_law_936 : decode c_Lw_law 936 = .ok (.iconst 1, 1) := by decide +kernel
theorem d_Lw_law_937 : decode c_Lw_law 937 = .ok (.iadd, 1) := by decide +kernel
theorem d_Lw_law_938 : decode c_Lw_law 938 = .ok (.iaload, 1) := by decide +kernel
theorem d_Lw_law_939 : decode c_Lw_law 939 = .ok (.aload_n 0, 1) := by decide +kernel
theorem d_Lw_law_940 : decode c_Lw_law 940 = .ok (.iload 4, 2) := by decide +kernel
theorem d_Lw_law_942 : decode c_Lw_law 942 = .ok (.iconst 2, 1) := by decide +kernel
theorem d_Lw_law_943 : decode c_Lw_law 943 = .ok (.iadd, 1) := by decide +kernel
theorem d_Lw_law_944 : decode c_Lw_law 944 = .ok (.iaload, 1) := by decide +kernel
theorem d_Lw_law_945 : decode c_Lw_law 945 = .ok (.invokevirtual 110, 3) := by decide +kernel
theorem d_Lw_law_948 : decode c_Lw_law 948 = .ok (.istore 6, 2) := by decide +kernel
theorem d_Lw_law_950 : decode c_Lw_law 950 = .ok (.aload_n 2, 1) := by decide +kernel
theorem d_Lw_law_951 : decode c_Lw_law 951 = .ok (.invokevirtual 65, 3) := by decide +kernel
theorem d_Lw_law_954 : decode c_Lw_law 954 = .ok (.iload 5, 2) := by decide +kernel
theorem d_Lw_law_956 : decode c_Lw_law 956 = .ok (.if_icmp .eq 5, 3) := by decide +kernel
theorem d_Lw_law_959 : decode c_Lw_law 959 = .ok (.iconst 0, 1) := by decide +kernel
theorem d_Lw_law_960 : decode c_Lw_law 960 = .ok (.ireturn, 1) := by decide +kernel
theorem d_Lw_law_961 : decode c_Lw_law 961 = .ok (.iload 5, 2) := by decide +kernel
theorem d_Lw_law_963 : decode c_Lw_law 963 = .ok (.ifCond .ne 15, 3) := by decide +kernel
theorem d_Lw_law_966 : decode c_Lw_law 966 = .ok (.aload_n 3, 1) := by decide +kernel
theorem d_Lw_law_967 : decode c_Lw_law 967 = .ok (.iconst 0, 1) := by decide +kernel
theorem d_Lw_law_968 : decode c_Lw_law 968 = .ok (.laload, 1) := by decide +kernel
theorem d_Lw_law_969 : decode c_Lw_law 969 = .ok (.iload 6, 2) := by decide +kernel
theorem d_Lw_law_971 : decode c_Lw_law 971 = .ok (.i2l, 1) := by decide +kernel
theorem d_Lw_law_972 : decode c_Lw_law 972 = .ok (.lcmp, 1) := by decide +kernel
theorem d_Lw_law_973 : decode c_Lw_law 973 = .ok (.ifCond .eq 5, 3) := by decide +kernel
theorem d_Lw_law_976 : decode c_Lw_law 976 = .ok (.iconst 0, 1) := by decide +kernel
theorem d_Lw_law_977 : decode c_Lw_law 977 = .ok (.ireturn, 1) := by decide +kernel
theorem d_Lw_law_978 : decode c_Lw_law 978 = .ok (.goto 3, 3) := by decide +kernel
theorem d_Lw_law_981 : decode c_Lw_law 981 = .ok (.iinc 4 6, 3) := by decide +kernel
theorem d_Lw_law_984 : decode c_Lw_law 984 = .ok (.goto (-961), 3) := by decide +kernel
theorem d_Lw_law_987 : decode c_Lw_law 987 = .ok (.iconst 1, 1) := by decide +kernel
theorem d_Lw_law_988 : decode c_Lw_law 988 = .ok (.ireturn, 1) := by decide +kernel
