theorem d_T_init_0 : decode b_T_init 0 = .ok (.aload_n 0, 1) := by decide +kernel
theorem d_T_init_1 : decode b_T_init 1 = .ok (.invokespecial 3, 3) := by decide +kernel
theorem d_T_init_4 : decode b_T_init 4 = .ok (.aload_n 0, 1) := by decide +kernel
theorem d_T_init_5 : decode b_T_init 5 = .ok (.sipush 2080, 3) := by decide +kernel
theorem d_T_init_8 : decode b_T_init 8 = .ok (.newarray .int, 2) := by decide +kernel
theorem d_T_init_10 : decode b_T_init 10 = .ok (.putfield 9, 3) := by decide +kernel
theorem d_T_init_13 : decode b_T_init 13 = .ok (.aload_n 0, 1) := by decide +kernel
theorem d_T_init_14 : decode b_T_init 14 = .ok (.bipush 16, 2) := by decide +kernel
theorem d_T_init_16 : decode b_T_init 16 = .ok (.newarray .int, 2) := by decide +kernel
theorem d_T_init_18 : decode b_T_init 18 = .ok (.putfield 13, 3) := by decide +kernel
theorem d_T_init_21 : decode b_T_init 21 = .ok (.aload_n 0, 1) := by decide +kernel
theorem d_T_init_22 : decode b_T_init 22 = .ok (.bipush 64, 2) := by decide +kernel
theorem d_T_init_24 : decode b_T_init 24 = .ok (.newarray .int, 2) := by decide +kernel
theorem d_T_init_26 : decode b_T_init 26 = .ok (.putfield 16, 3) := by decide +kernel
theorem d_T_init_29 : decode b_T_init 29 = .ok (.aload_n 0, 1) := by decide +kernel
theorem d_T_init_30 : decode b_T_init 30 = .ok (.bipush 16, 2) := by decide +kernel
theorem d_T_init_32 : decode b_T_init 32 = .ok (.newarray .int, 2) := by decide +kernel
theorem d_T_init_34 : decode b_T_init 34 = .ok (.putfield 19, 3) := by decide +kernel
theorem d_T_init_37 : decode b_T_init 37 = .ok (.aload_n 0, 1) := by decide +kernel
theorem d_T_init_38 : decode b_T_init 38 = .ok (.bipush 16, 2) := by decide +kernel
theorem d_T_init_40 : decode b_T_init 40 = .ok (.newarray .boolean, 2) := by decide +kernel
theorem d_T_init_42 : decode b_T_init 42 = .ok (.putfield 22, 3) := by decide +kernel
theorem d_T_init_45 : decode b_T_init 45 = .ok (.aload_n 0, 1) := by decide +kernel
theorem d_T_init_46 : decode b_T_init 46 = .ok (.iconst 4, 1) := by decide +kernel
theorem d_T_init_47 : decode b_T_init 47 = .ok (.newarray .int, 2) := by decide +kernel
theorem d_T_init_49 : decode b_T_init 49 = .ok (.putfield 26, 3) := by decide +kernel
theorem d_T_init_52 : decode b_T_init 52 = .ok (.aload_n 0, 1) := by decide +kernel
theorem d_T_init_53 : decode b_T_init 53 = .ok (.iconst 4, 1) := by decide +kernel
theorem d_T_init_54 : decode b_T_init 54 = .ok (.newarray .int, 2) := by decide +kernel
theorem d_T_init_56 : decode b_T_init 56 = .ok (.putfield 29, 3) := by decide +kernel
theorem d_T_init_59 : decode b_T_init 59 = .ok (.aload_n 0, 1) := by decide +kernel
theorem d_T_init_60 : decode b_T_init 60 = .ok (.iconst 4, 1) := by decide +kernel
theorem d_T_init_61 : decode b_T_init 61 = .ok (.newarray .boolean, 2) := by decide +kernel
theorem d_T_init_63 : decode b_T_init 63 = .ok (.putfield 32, 3) := by decide +kernel
theorem d_T_init_66 : decode b_T_init 66 = .ok (.iconst 0, 1) := by decide +kernel
theorem d_T_init_67 : decode b_T_init 67 = .ok (.istore_n 1, 1) := by decide +kernel
theorem d_T_init_68 : decode b_T_init 68 = .ok (.iload_n 1, 1) := by decide +kernel
theorem d_T_init_69 : decode b_T_init 69 = .ok (.bipush 16, 2) := by decide +kernel
theorem d_T_init_71 : decode b_T_init 71 = .ok (.if_icmp .ge 16, 3) := by decide +kernel
theorem d_T_init_74 : decode b_T_init 74 = .ok (.aload_n 0, 1) := by decide +kernel
theorem d_T_init_75 : decode b_T_init 75 = .ok (.getfield 13, 3) := by decide +kernel
theorem d_T_init_78 : decode b_T_init 78 = .ok (.iload_n 1, 1) := by decide +kernel
theorem d_T_init_79 : decode b_T_init 79 = .ok (.iconst (-1), 1) := by decide +kernel
theorem d_T_init_80 : decode b_T_init 80 = .ok (.iastore, 1) := by decide +kernel
theorem d_T_init_81 : decode b_T_init 81 = .ok (.iinc 1 1, 3) := by decide +kernel
theorem d_T_init_84 : decode b_T_init 84 = .ok (.goto (-16), 3) := by decide +kernel
theorem d_T_init_87 : decode b_T_init 87 = .ok (.iconst 0, 1) := by decide +kernel
theorem d_T_init_88 : decode b_T_init 88 = .ok (.istore_n 1, 1) := by decide +kernel
theorem d_T_init_89 : decode b_T_init 89 = .ok (.iload_n 1, 1) := by decide +kernel
theorem d_T_init_90 : decode b_T_init 90 = .ok (.iconst 4, 1) := by decide +kernel
theorem d_T_init_91 : decode b_T_init 91 = .ok (.if_icmp .ge 16, 3) := by decide +kernel
theorem d_T_init_94 : decode b_T_init 94 = .ok (.aload_n 0, 1) := by decide +kernel
theorem d_T_init_95 : decode b_T_init 95 = .ok (.getfield 26, 3) := by decide +kernel
theorem d_T_init_98 : decode b_T_init 98 = .ok (.iload_n 1, 1) := by decide +kernel
theorem d_T_init_99 : decode b_T_init 99 = .ok (.iconst (-1), 1) := by decide +kernel
theorem d_T_init_100 : decode b_T_init 100 = .ok (.iastore, 1) := by decide +kernel
theorem d_T_init_101 : decode b_T_init 101 = .ok (.iinc 1 1, 3) := by decide +kernel
theorem d_T_init_104 : decode b_T_init 104 = .ok (.goto (-15), 3) := by decide +kernel
theorem d_T_init_107 : decode b_T_init 107 = .ok (.return_, 1) := by decide +kernel
theorem d_T_read_0 : decode b_T_read 0 = .ok (.iload_n 1, 1) := by decide +kernel
theorem d_T_read_1 : decode b_T_read 1 = .ok (.invokestatic 35, 3) := by decide +kernel
theorem d_T_read_4 : decode b_T_read 4 = .ok (.aload_n 0, 1) := by decide +kernel
theorem d_T_read_5 : decode b_T_read 5 = .ok (.iload_n 1, 1) := by decide +kernel
theorem d_T_read_6 : decode b_T_read 6 = .ok (.invokestatic 39, 3) := by decide +kernel
theorem d_T_read_9 : decode b_T_read 9 = .ok (.invokevirtual 43, 3) := by decide +kernel
theorem d_T_read_12 : decode b_T_read 12 = .ok (.aload_n 0, 1) := by decide +kernel
theorem d_T_read_13 : decode b_T_read 13 = .ok (.getfield 16, 3) := by decide +kernel
theorem d_T_read_16 : decode b_T_read 16 = .ok (.iload_n 1, 1) := by decide +kernel
theorem d_T_read_17 : decode b_T_read 17 = .ok (.invokestatic 46, 3) := by decide +kernel
theorem d_T_read_20 : decode b_T_read 20 = .ok (.iaload, 1) := by decide +kernel
theorem d_T_read_21 : decode b_T_read 21 = .ok (.ireturn, 1) := by decide +kernel
theorem d_T_tag_0 : decode b_T_tag 0 = .ok (.iload_n 1, 1) := by decide +kernel
theorem d_T_tag_1 : decode b_T_tag 1 = .ok (.invokestatic 35, 3) := by decide +kernel
theorem d_T_tag_4 : decode b_T_tag 4 = .ok (.iload_n 1, 1) := by decide +kernel
theorem d_T_tag_5 : decode b_T_tag 5 = .ok (.invokestatic 49, 3) := by decide +kernel
theorem d_T_tag_8 : decode b_T_tag 8 = .ok (.istore_n 2, 1) := by decide +kernel
theorem d_T_tag_9 : decode b_T_tag 9 = .ok (.aload_n 0, 1) := by decide +kernel
theorem d_T_tag_10 : decode b_T_tag 10 = .ok (.iload_n 2, 1) := by decide +kernel
theorem d_T_tag_11 : decode b_T_tag 11 = .ok (.invokestatic 52, 3) := by decide +kernel
theorem d_T_tag_14 : decode b_T_tag 14 = .ok (.invokevirtual 43, 3) := by decide +kernel
theorem d_T_tag_17 : decode b_T_tag 17 = .ok (.aload_n 0, 1) := by decide +kernel
theorem d_T_tag_18 : decode b_T_tag 18 = .ok (.iload_n 2, 1) := by decide +kernel
theorem d_T_tag_19 : decode b_T_tag 19 = .ok (.invokevirtual 55, 3) := by decide +kernel
theorem d_T_tag_22 : decode b_T_tag 22 = .ok (.ireturn, 1) := by decide +kernel
theorem d_T_write_0 : decode b_T_write 0 = .ok (.iload_n 1, 1) := by decide +kernel
theorem d_T_write_1 : decode b_T_write 1 = .ok (.invokestatic 35, 3) := by decide +kernel
theorem d_T_write_4 : decode b_T_write 4 = .ok (.aload_n 0, 1) := by decide +kernel
theorem d_T_write_5 : decode b_T_write 5 = .ok (.iload_n 1, 1) := by decide +kernel
theorem d_T_write_6 : decode b_T_write 6 = .ok (.invokestatic 39, 3) := by decide +kernel
theorem d_T_write_9 : decode b_T_write 9 = .ok (.invokevirtual 43, 3) := by decide +kernel
theorem d_T_write_12 : decode b_T_write 12 = .ok (.aload_n 0, 1) := by decide +kernel
theorem d_T_write_13 : decode b_T_write 13 = .ok (.getfield 16, 3) := by decide +kernel
theorem d_T_write_16 : decode b_T_write 16 = .ok (.iload_n 1, 1) := by decide +kernel
theorem d_T_write_17 : decode b_T_write 17 = .ok (.invokestatic 46, 3) := by decide +kernel
theorem d_T_write_20 : decode b_T_write 20 = .ok (.iaload, 1) := by decide +kernel
theorem d_T_write_21 : decode b_T_write 21 = .ok (.istore_n 3, 1) := by decide +kernel
theorem d_T_write_22 : decode b_T_write 22 = .ok (.aload_n 0, 1) := by decide +kernel
theorem d_T_write_23 : decode b_T_write 23 = .ok (.iload_n 1, 1) := by decide +kernel
theorem d_T_write_24 : decode b_T_write 24 = .ok (.iload_n 2, 1) := by decide +kernel
theorem d_T_write_25 : decode b_T_write 25 = .ok (.invokevirtual 59, 3) := by decide +kernel
theorem d_T_write_28 : decode b_T_write 28 = .ok (.iload_n 3, 1) := by decide +kernel
theorem d_T_write_29 : decode b_T_write 29 = .ok (.ireturn, 1) := by decide +kernel
theorem d_T_part_0 : decode b_T_part 0 = .ok (.iload_n 1, 1) := by decide +kernel
theorem d_T_part_1 : decode b_T_part 1 = .ok (.invokestatic 35, 3) := by decide +kernel
theorem d_T_part_4 : decode b_T_part 4 = .ok (.iload_n 2, 1) := by decide +kernel
theorem d_T_part_5 : decode b_T_part 5 = .ok (.iload_n 3, 1) := by decide +kernel
theorem d_T_part_6 : decode b_T_part 6 = .ok (.invokestatic 63, 3) := by decide +kernel
theorem d_T_part_9 : decode b_T_part 9 = .ok (.aload_n 0, 1) := by decide +kernel
theorem d_T_part_10 : decode b_T_part 10 = .ok (.iload_n 1, 1) := by decide +kernel
theorem d_T_part_11 : decode b_T_part 11 = .ok (.invokestatic 39, 3) := by decide +kernel
theorem d_T_part_14 : decode b_T_part 14 = .ok (.invokevirtual 43, 3) := by decide +kernel
theorem d_T_part_17 : decode b_T_part 17 = .ok (.bipush 8, 2) := by decide +kernel
theorem d_T_part_19 : decode b_T_part 19 = .ok (.iload_n 2, 1) := by decide +kernel
theorem d_T_part_20 : decode b_T_part 20 = .ok (.imul, 1) := by decide +kernel
theorem d_T_part_21 : decode b_T_part 21 = .ok (.istore 5, 2) := by decide +kernel
theorem d_T_part_23 : decode b_T_part 23 = .ok (.iload_n 3, 1) := by decide +kernel
theorem d_T_part_24 : decode b_T_part 24 = .ok (.iconst 1, 1) := by decide +kernel
theorem d_T_part_25 : decode b_T_part 25 = .ok (.if_icmp .ne 9, 3) := by decide +kernel
theorem d_T_part_28 : decode b_T_part 28 = .ok (.sipush 255, 3) := by decide +kernel
theorem d_T_part_31 : decode b_T_part 31 = .ok (.goto 5, 3) := by decide +kernel
theorem d_T_part_34 : decode b_T_part 34 = .ok (.ldc 66, 2) := by decide +kernel
theorem d_T_part_36 : decode b_T_part 36 = .ok (.istore 6, 2) := by decide +kernel
theorem d_T_part_38 : decode b_T_part 38 = .ok (.aload_n 0, 1) := by decide +kernel
theorem d_T_part_39 : decode b_T_part 39 = .ok (.getfield 16, 3) := by decide +kernel
theorem d_T_part_42 : decode b_T_part 42 = .ok (.iload_n 1, 1) := by decide +kernel
theorem d_T_part_43 : decode b_T_part 43 = .ok (.invokestatic 46, 3) := by decide +kernel
theorem d_T_part_46 : decode b_T_part 46 = .ok (.iaload, 1) := by decide +kernel
theorem d_T_part_47 : decode b_T_part 47 = .ok (.iload 6, 2) := by decide +kernel
theorem d_T_part_49 : decode b_T_part 49 = .ok (.iload 5, 2) := by decide +kernel
theorem d_T_part_51 : decode b_T_part 51 = .ok (.ishl, 1) := by decide +kernel
theorem d_T_part_52 : decode b_T_part 52 = .ok (.iconst (-1), 1) := by decide +kernel
theorem d_T_part_53 : decode b_T_part 53 = .ok (.ixor, 1) := by decide +kernel
theorem d_T_part_54 : decode b_T_part 54 = .ok (.iand, 1) := by decide +kernel
theorem d_T_part_55 : decode b_T_part 55 = .ok (.istore 7, 2) := by decide +kernel
theorem d_T_part_57 : decode b_T_part 57 = .ok (.iload 7, 2) := by decide +kernel
theorem d_T_part_59 : decode b_T_part 59 = .ok (.iload 4, 2) := by decide +kernel
theorem d_T_part_61 : decode b_T_part 61 = .ok (.iload 6, 2) := by decide +kernel
theorem d_T_part_63 : decode b_T_part 63 = .ok (.iand, 1) := by decide +kernel
theorem d_T_part_64 : decode b_T_part 64 = .ok (.iload 5, 2) := by decide +kernel
theorem d_T_part_66 : decode b_T_part 66 = .ok (.ishl, 1) := by decide +kernel
theorem d_T_part_67 : decode b_T_part 67 = .ok (.ior, 1) := by decide +kernel
theorem d_T_part_68 : decode b_T_part 68 = .ok (.istore 8, 2) := by decide +kernel
theorem d_T_part_70 : decode b_T_part 70 = .ok (.aload_n 0, 1) := by decide +kernel
theorem d_T_part_71 : decode b_T_part 71 = .ok (.iload_n 1, 1) := by decide +kernel
theorem d_T_part_72 : decode b_T_part 72 = .ok (.iload 8, 2) := by decide +kernel
theorem d_T_part_74 : decode b_T_part 74 = .ok (.invokevirtual 59, 3) := by decide +kernel
theorem d_T_part_77 : decode b_T_part 77 = .ok (.iload 8, 2) := by decide +kernel
theorem d_T_part_79 : decode b_T_part 79 = .ok (.ireturn, 1) := by decide +kernel
theorem d_T_put_0 : decode b_T_put 0 = .ok (.iload_n 1, 1) := by decide +kernel
theorem d_T_put_1 : decode b_T_put 1 = .ok (.invokestatic 67, 3) := by decide +kernel
theorem d_T_put_4 : decode b_T_put 4 = .ok (.aload_n 0, 1) := by decide +kernel
theorem d_T_put_5 : decode b_T_put 5 = .ok (.iload_n 1, 1) := by decide +kernel
theorem d_T_put_6 : decode b_T_put 6 = .ok (.invokestatic 52, 3) := by decide +kernel
theorem d_T_put_9 : decode b_T_put 9 = .ok (.invokevirtual 43, 3) := by decide +kernel
theorem d_T_put_12 : decode b_T_put 12 = .ok (.aload_n 0, 1) := by decide +kernel
theorem d_T_put_13 : decode b_T_put 13 = .ok (.iload_n 1, 1) := by decide +kernel
theorem d_T_put_14 : decode b_T_put 14 = .ok (.iload_n 2, 1) := by decide +kernel
theorem d_T_put_15 : decode b_T_put 15 = .ok (.iload_n 3, 1) := by decide +kernel
theorem d_T_put_16 : decode b_T_put 16 = .ok (.iload 4, 2) := by decide +kernel
theorem d_T_put_18 : decode b_T_put 18 = .ok (.invokevirtual 70, 3) := by decide +kernel
theorem d_T_put_21 : decode b_T_put 21 = .ok (.return_, 1) := by decide +kernel
theorem d_T_copy_0 : decode b_T_copy 0 = .ok (.iload_n 2, 1) := by decide +kernel
theorem d_T_copy_1 : decode b_T_copy 1 = .ok (.invokestatic 67, 3) := by decide +kernel
theorem d_T_copy_4 : decode b_T_copy 4 = .ok (.iload_n 1, 1) := by decide +kernel
theorem d_T_copy_5 : decode b_T_copy 5 = .ok (.invokestatic 67, 3) := by decide +kernel
theorem d_T_copy_8 : decode b_T_copy 8 = .ok (.aload_n 0, 1) := by decide +kernel
theorem d_T_copy_9 : decode b_T_copy 9 = .ok (.iload_n 2, 1) := by decide +kernel
theorem d_T_copy_10 : decode b_T_copy 10 = .ok (.invokestatic 52, 3) := by decide +kernel
theorem d_T_copy_13 : decode b_T_copy 13 = .ok (.invokevirtual 43, 3) := by decide +kernel
theorem d_T_copy_16 : decode b_T_copy 16 = .ok (.aload_n 0, 1) := by decide +kernel
theorem d_T_copy_17 : decode b_T_copy 17 = .ok (.getfield 16, 3) := by decide +kernel
theorem d_T_copy_20 : decode b_T_copy 20 = .ok (.iconst 2, 1) := by decide +kernel
theorem d_T_copy_21 : decode b_T_copy 21 = .ok (.iload_n 2, 1) := by decide +kernel
theorem d_T_copy_22 : decode b_T_copy 22 = .ok (.imul, 1) := by decide +kernel
theorem d_T_copy_23 : decode b_T_copy 23 = .ok (.invokestatic 46, 3) := by decide +kernel
theorem d_T_copy_26 : decode b_T_copy 26 = .ok (.iaload, 1) := by decide +kernel
theorem d_T_copy_27 : decode b_T_copy 27 = .ok (.istore_n 3, 1) := by decide +kernel
theorem d_T_copy_28 : decode b_T_copy 28 = .ok (.aload_n 0, 1) := by decide +kernel
theorem d_T_copy_29 : decode b_T_copy 29 = .ok (.getfield 16, 3) := by decide +kernel
theorem d_T_copy_32 : decode b_T_copy 32 = .ok (.iconst 2, 1) := by decide +kernel
theorem d_T_copy_33 : decode b_T_copy 33 = .ok (.iload_n 2, 1) := by decide +kernel
theorem d_T_copy_34 : decode b_T_copy 34 = .ok (.imul, 1) := by decide +kernel
theorem d_T_copy_35 : decode b_T_copy 35 = .ok (.iconst 1, 1) := by decide +kernel
theorem d_T_copy_36 : decode b_T_copy 36 = .ok (.iadd, 1) := by decide +kernel
theorem d_T_copy_37 : decode b_T_copy 37 = .ok (.invokestatic 46, 3) := by decide +kernel
theorem d_T_copy_40 : decode b_T_copy 40 = .ok (.iaload, 1) := by decide +kernel
theorem d_T_copy_41 : decode b_T_copy 41 = .ok (.istore 4, 2) := by decide +kernel
theorem d_T_copy_43 : decode b_T_copy 43 = .ok (.aload_n 0, 1) := by decide +kernel
theorem d_T_copy_44 : decode b_T_copy 44 = .ok (.iload_n 2, 1) := by decide +kernel
theorem d_T_copy_45 : decode b_T_copy 45 = .ok (.invokevirtual 55, 3) := by decide +kernel
theorem d_T_copy_48 : decode b_T_copy 48 = .ok (.istore 5, 2) := by decide +kernel
theorem d_T_copy_50 : decode b_T_copy 50 = .ok (.aload_n 0, 1) := by decide +kernel
theorem d_T_copy_51 : decode b_T_copy 51 = .ok (.iload_n 1, 1) := by decide +kernel
theorem d_T_copy_52 : decode b_T_copy 52 = .ok (.invokestatic 52, 3) := by decide +kernel
theorem d_T_copy_55 : decode b_T_copy 55 = .ok (.invokevirtual 43, 3) := by decide +kernel
theorem d_T_copy_58 : decode b_T_copy 58 = .ok (.aload_n 0, 1) := by decide +kernel
theorem d_T_copy_59 : decode b_T_copy 59 = .ok (.iload_n 1, 1) := by decide +kernel
theorem d_T_copy_60 : decode b_T_copy 60 = .ok (.iload_n 3, 1) := by decide +kernel
theorem d_T_copy_61 : decode b_T_copy 61 = .ok (.iload 4, 2) := by decide +kernel
theorem d_T_copy_63 : decode b_T_copy 63 = .ok (.iload 5, 2) := by decide +kernel
theorem d_T_copy_65 : decode b_T_copy 65 = .ok (.invokevirtual 70, 3) := by decide +kernel
theorem d_T_copy_68 : decode b_T_copy 68 = .ok (.iload 5, 2) := by decide +kernel
theorem d_T_copy_70 : decode b_T_copy 70 = .ok (.ireturn, 1) := by decide +kernel
theorem d_T_drop_0 : decode b_T_drop 0 = .ok (.iload_n 1, 1) := by decide +kernel
theorem d_T_drop_1 : decode b_T_drop 1 = .ok (.ifCond .lt 9, 3) := by decide +kernel
theorem d_T_drop_4 : decode b_T_drop 4 = .ok (.iload_n 1, 1) := by decide +kernel
theorem d_T_drop_5 : decode b_T_drop 5 = .ok (.bipush 16, 2) := by decide +kernel
theorem d_T_drop_7 : decode b_T_drop 7 = .ok (.if_icmp .lt 13, 3) := by decide +kernel
theorem d_T_drop_10 : decode b_T_drop 10 = .ok (.new 74, 3) := by decide +kernel
theorem d_T_drop_13 : decode b_T_drop 13 = .ok (.dup, 1) := by decide +kernel
theorem d_T_drop_14 : decode b_T_drop 14 = .ok (.ldc 76, 2) := by decide +kernel
theorem d_T_drop_16 : decode b_T_drop 16 = .ok (.invokespecial 78, 3) := by decide +kernel
theorem d_T_drop_19 : decode b_T_drop 19 = .ok (.athrow, 1) := by decide +kernel
theorem d_T_drop_20 : decode b_T_drop 20 = .ok (.aload_n 0, 1) := by decide +kernel
theorem d_T_drop_21 : decode b_T_drop 21 = .ok (.getfield 13, 3) := by decide +kernel
theorem d_T_drop_24 : decode b_T_drop 24 = .ok (.iload_n 1, 1) := by decide +kernel
theorem d_T_drop_25 : decode b_T_drop 25 = .ok (.iaload, 1) := by decide +kernel
theorem d_T_drop_26 : decode b_T_drop 26 = .ok (.iconst (-1), 1) := by decide +kernel
theorem d_T_drop_27 : decode b_T_drop 27 = .ok (.if_icmp .ne 5, 3) := by decide +kernel
theorem d_T_drop_30 : decode b_T_drop 30 = .ok (.iconst (-1), 1) := by decide +kernel
theorem d_T_drop_31 : decode b_T_drop 31 = .ok (.ireturn, 1) := by decide +kernel
theorem d_T_drop_32 : decode b_T_drop 32 = .ok (.aload_n 0, 1) := by decide +kernel
theorem d_T_drop_33 : decode b_T_drop 33 = .ok (.iload_n 1, 1) := by decide +kernel
theorem d_T_drop_34 : decode b_T_drop 34 = .ok (.invokevirtual 81, 3) := by decide +kernel
theorem d_T_drop_37 : decode b_T_drop 37 = .ok (.ifCond .eq 7, 3) := by decide +kernel
theorem d_T_drop_40 : decode b_T_drop 40 = .ok (.iconst 1, 1) := by decide +kernel
theorem d_T_drop_41 : decode b_T_drop 41 = .ok (.goto 4, 3) := by decide +kernel
theorem d_T_drop_44 : decode b_T_drop 44 = .ok (.iconst 0, 1) := by decide +kernel
theorem d_T_drop_45 : decode b_T_drop 45 = .ok (.ireturn, 1) := by decide +kernel
theorem d_T_flush_0 : decode b_T_flush 0 = .ok (.iconst 0, 1) := by decide +kernel
theorem d_T_flush_1 : decode b_T_flush 1 = .ok (.istore_n 1, 1) := by decide +kernel
theorem d_T_flush_2 : decode b_T_flush 2 = .ok (.iconst 0, 1) := by decide +kernel
theorem d_T_flush_3 : decode b_T_flush 3 = .ok (.istore_n 2, 1) := by decide +kernel
theorem d_T_flush_4 : decode b_T_flush 4 = .ok (.iload_n 2, 1) := by decide +kernel
theorem d_T_flush_5 : decode b_T_flush 5 = .ok (.bipush 16, 2) := by decide +kernel
theorem d_T_flush_7 : decode b_T_flush 7 = .ok (.if_icmp .ge 20, 3) := by decide +kernel
theorem d_T_flush_10 : decode b_T_flush 10 = .ok (.aload_n 0, 1) := by decide +kernel
theorem d_T_flush_11 : decode b_T_flush 11 = .ok (.iload_n 2, 1) := by decide +kernel
theorem d_T_flush_12 : decode b_T_flush 12 = .ok (.invokevirtual 81, 3) := by decide +kernel
theorem d_T_flush_15 : decode b_T_flush 15 = .ok (.ifCond .eq 6, 3) := by decide +kernel
theorem d_T_flush_18 : decode b_T_flush 18 = .ok (.iinc 1 1, 3) := by decide +kernel
theorem d_T_flush_21 : decode b_T_flush 21 = .ok (.iinc 2 1, 3) := by decide +kernel
theorem d_T_flush_24 : decode b_T_flush 24 = .ok (.goto (-20), 3) := by decide +kernel
theorem d_T_flush_27 : decode b_T_flush 27 = .ok (.iconst 0, 1) := by decide +kernel
theorem d_T_flush_28 : decode b_T_flush 28 = .ok (.istore_n 2, 1) := by decide +kernel
theorem d_T_flush_29 : decode b_T_flush 29 = .ok (.iload_n 2, 1) := by decide +kernel
theorem d_T_flush_30 : decode b_T_flush 30 = .ok (.iconst 4, 1) := by decide +kernel
theorem d_T_flush_31 : decode b_T_flush 31 = .ok (.if_icmp .ge 14, 3) := by decide +kernel
theorem d_T_flush_34 : decode b_T_flush 34 = .ok (.aload_n 0, 1) := by decide +kernel
theorem d_T_flush_35 : decode b_T_flush 35 = .ok (.iload_n 2, 1) := by decide +kernel
theorem d_T_flush_36 : decode b_T_flush 36 = .ok (.invokevirtual 84, 3) := by decide +kernel
theorem d_T_flush_39 : decode b_T_flush 39 = .ok (.iinc 2 1, 3) := by decide +kernel
theorem d_T_flush_42 : decode b_T_flush 42 = .ok (.goto (-13), 3) := by decide +kernel
theorem d_T_flush_45 : decode b_T_flush 45 = .ok (.iload_n 1, 1) := by decide +kernel
theorem d_T_flush_46 : decode b_T_flush 46 = .ok (.ireturn, 1) := by decide +kernel
theorem d_T_store_0 : decode b_T_store 0 = .ok (.iload_n 1, 1) := by decide +kernel
theorem d_T_store_1 : decode b_T_store 1 = .ok (.ifCond .lt 10, 3) := by decide +kernel
theorem d_T_store_4 : decode b_T_store 4 = .ok (.iload_n 1, 1) := by decide +kernel
theorem d_T_store_5 : decode b_T_store 5 = .ok (.sipush 2080, 3) := by decide +kernel
theorem d_T_store_8 : decode b_T_store 8 = .ok (.if_icmp .lt 13, 3) := by decide +kernel
theorem d_T_store_11 : decode b_T_store 11 = .ok (.new 74, 3) := by decide +kernel
theorem d_T_store_14 : decode b_T_store 14 = .ok (.dup, 1) := by decide +kernel
theorem d_T_store_15 : decode b_T_store 15 = .ok (.ldc 87, 2) := by decide +kernel
theorem d_T_store_17 : decode b_T_store 17 = .ok (.invokespecial 78, 3) := by decide +kernel
theorem d_T_store_20 : decode b_T_store 20 = .ok (.athrow, 1) := by decide +kernel
theorem d_T_store_21 : decode b_T_store 21 = .ok (.aload_n 0, 1) := by decide +kernel
theorem d_T_store_22 : decode b_T_store 22 = .ok (.getfield 9, 3) := by decide +kernel
theorem d_T_store_25 : decode b_T_store 25 = .ok (.iload_n 1, 1) := by decide +kernel
theorem d_T_store_26 : decode b_T_store 26 = .ok (.iaload, 1) := by decide +kernel
theorem d_T_store_27 : decode b_T_store 27 = .ok (.ireturn, 1) := by decide +kernel
theorem d_T_kept_0 : decode b_T_kept 0 = .ok (.iload_n 1, 1) := by decide +kernel
theorem d_T_kept_1 : decode b_T_kept 1 = .ok (.ifCond .lt 9, 3) := by decide +kernel
theorem d_T_kept_4 : decode b_T_kept 4 = .ok (.iload_n 1, 1) := by decide +kernel
theorem d_T_kept_5 : decode b_T_kept 5 = .ok (.bipush 20, 2) := by decide +kernel
theorem d_T_kept_7 : decode b_T_kept 7 = .ok (.if_icmp .lt 13, 3) := by decide +kernel
theorem d_T_kept_10 : decode b_T_kept 10 = .ok (.new 74, 3) := by decide +kernel
theorem d_T_kept_13 : decode b_T_kept 13 = .ok (.dup, 1) := by decide +kernel
theorem d_T_kept_14 : decode b_T_kept 14 = .ok (.ldc 89, 2) := by decide +kernel
theorem d_T_kept_16 : decode b_T_kept 16 = .ok (.invokespecial 78, 3) := by decide +kernel
theorem d_T_kept_19 : decode b_T_kept 19 = .ok (.athrow, 1) := by decide +kernel
theorem d_T_kept_20 : decode b_T_kept 20 = .ok (.iload_n 1, 1) := by decide +kernel
theorem d_T_kept_21 : decode b_T_kept 21 = .ok (.bipush 16, 2) := by decide +kernel
theorem d_T_kept_23 : decode b_T_kept 23 = .ok (.if_icmp .ge 12, 3) := by decide +kernel
theorem d_T_kept_26 : decode b_T_kept 26 = .ok (.aload_n 0, 1) := by decide +kernel
theorem d_T_kept_27 : decode b_T_kept 27 = .ok (.getfield 13, 3) := by decide +kernel
theorem d_T_kept_30 : decode b_T_kept 30 = .ok (.iload_n 1, 1) := by decide +kernel
theorem d_T_kept_31 : decode b_T_kept 31 = .ok (.iaload, 1) := by decide +kernel
theorem d_T_kept_32 : decode b_T_kept 32 = .ok (.goto 12, 3) := by decide +kernel
theorem d_T_kept_35 : decode b_T_kept 35 = .ok (.aload_n 0, 1) := by decide +kernel
theorem d_T_kept_36 : decode b_T_kept 36 = .ok (.getfield 26, 3) := by decide +kernel
theorem d_T_kept_39 : decode b_T_kept 39 = .ok (.iload_n 1, 1) := by decide +kernel
theorem d_T_kept_40 : decode b_T_kept 40 = .ok (.bipush 16, 2) := by decide +kernel
theorem d_T_kept_42 : decode b_T_kept 42 = .ok (.isub, 1) := by decide +kernel
theorem d_T_kept_43 : decode b_T_kept 43 = .ok (.iaload, 1) := by decide +kernel
theorem d_T_kept_44 : decode b_T_kept 44 = .ok (.ireturn, 1) := by decide +kernel
theorem d_T_count_0 : decode b_T_count 0 = .ok (.iload_n 1, 1) := by decide +kernel
theorem d_T_count_1 : decode b_T_count 1 = .ok (.tableswitch 108 0 8 #[51, 56, 61, 66, 71, 76, 84, 92, 100], 51) := by decide +kernel
theorem d_T_count_52 : decode b_T_count 52 = .ok (.aload_n 0, 1) := by decide +kernel
theorem d_T_count_53 : decode b_T_count 53 = .ok (.getfield 91, 3) := by decide +kernel
theorem d_T_count_56 : decode b_T_count 56 = .ok (.ireturn, 1) := by decide +kernel
theorem d_T_count_57 : decode b_T_count 57 = .ok (.aload_n 0, 1) := by decide +kernel
theorem d_T_count_58 : decode b_T_count 58 = .ok (.getfield 95, 3) := by decide +kernel
theorem d_T_count_61 : decode b_T_count 61 = .ok (.ireturn, 1) := by decide +kernel
theorem d_T_count_62 : decode b_T_count 62 = .ok (.aload_n 0, 1) := by decide +kernel
theorem d_T_count_63 : decode b_T_count 63 = .ok (.getfield 98, 3) := by decide +kernel
theorem d_T_count_66 : decode b_T_count 66 = .ok (.ireturn, 1) := by decide +kernel
theorem d_T_count_67 : decode b_T_count 67 = .ok (.aload_n 0, 1) := by decide +kernel
theorem d_T_count_68 : decode b_T_count 68 = .ok (.getfield 101, 3) := by decide +kernel
theorem d_T_count_71 : decode b_T_count 71 = .ok (.ireturn, 1) := by decide +kernel
theorem d_T_count_72 : decode b_T_count 72 = .ok (.aload_n 0, 1) := by decide +kernel
theorem d_T_count_73 : decode b_T_count 73 = .ok (.invokevirtual 104, 3) := by decide +kernel
theorem d_T_count_76 : decode b_T_count 76 = .ok (.ireturn, 1) := by decide +kernel
theorem d_T_count_77 : decode b_T_count 77 = .ok (.aload_n 0, 1) := by decide +kernel
theorem d_T_count_78 : decode b_T_count 78 = .ok (.getfield 13, 3) := by decide +kernel
theorem d_T_count_81 : decode b_T_count 81 = .ok (.invokestatic 108, 3) := by decide +kernel
theorem d_T_count_84 : decode b_T_count 84 = .ok (.ireturn, 1) := by decide +kernel
theorem d_T_count_85 : decode b_T_count 85 = .ok (.aload_n 0, 1) := by decide +kernel
theorem d_T_count_86 : decode b_T_count 86 = .ok (.getfield 22, 3) := by decide +kernel
theorem d_T_count_89 : decode b_T_count 89 = .ok (.invokestatic 112, 3) := by decide +kernel
theorem d_T_count_92 : decode b_T_count 92 = .ok (.ireturn, 1) := by decide +kernel
theorem d_T_count_93 : decode b_T_count 93 = .ok (.aload_n 0, 1) := by decide +kernel
theorem d_T_count_94 : decode b_T_count 94 = .ok (.getfield 26, 3) := by decide +kernel
theorem d_T_count_97 : decode b_T_count 97 = .ok (.invokestatic 108, 3) := by decide +kernel
theorem d_T_count_100 : decode b_T_count 100 = .ok (.ireturn, 1) := by decide +kernel
theorem d_T_count_101 : decode b_T_count 101 = .ok (.aload_n 0, 1) := by decide +kernel
theorem d_T_count_102 : decode b_T_count 102 = .ok (.getfield 32, 3) := by decide +kernel
theorem d_T_count_105 : decode b_T_count 105 = .ok (.invokestatic 112, 3) := by decide +kernel
theorem d_T_count_108 : decode b_T_count 108 = .ok (.ireturn, 1) := by decide +kernel
theorem d_T_count_109 : decode b_T_count 109 = .ok (.new 116, 3) := by decide +kernel
theorem d_T_count_112 : decode b_T_count 112 = .ok (.dup, 1) := by decide +kernel
theorem d_T_count_113 : decode b_T_count 113 = .ok (.ldc 118, 2) := by decide +kernel
theorem d_T_count_115 : decode b_T_count 115 = .ok (.invokespecial 120, 3) := by decide +kernel
theorem d_T_count_118 : decode b_T_count 118 = .ok (.athrow, 1) := by decide +kernel
theorem d_T_check_0 : decode b_T_check 0 = .ok (.iconst 0, 1) := by decide +kernel
theorem d_T_check_1 : decode b_T_check 1 = .ok (.istore_n 1, 1) := by decide +kernel
theorem d_T_check_2 : decode b_T_check 2 = .ok (.iconst 0, 1) := by decide +kernel
theorem d_T_check_3 : decode b_T_check 3 = .ok (.istore_n 2, 1) := by decide +kernel
theorem d_T_check_4 : decode b_T_check 4 = .ok (.iload_n 2, 1) := by decide +kernel
theorem d_T_check_5 : decode b_T_check 5 = .ok (.bipush 16, 2) := by decide +kernel
theorem d_T_check_7 : decode b_T_check 7 = .ok (.if_icmp .ge 30, 3) := by decide +kernel
theorem d_T_check_10 : decode b_T_check 10 = .ok (.aload_n 0, 1) := by decide +kernel
theorem d_T_check_11 : decode b_T_check 11 = .ok (.getfield 13, 3) := by decide +kernel
theorem d_T_check_14 : decode b_T_check 14 = .ok (.iload_n 2, 1) := by decide +kernel
theorem d_T_check_15 : decode b_T_check 15 = .ok (.iaload, 1) := by decide +kernel
theorem d_T_check_16 : decode b_T_check 16 = .ok (.iconst (-1), 1) := by decide +kernel
theorem d_T_check_17 : decode b_T_check 17 = .ok (.if_icmp .eq 14, 3) := by decide +kernel
theorem d_T_check_20 : decode b_T_check 20 = .ok (.aload_n 0, 1) := by decide +kernel
theorem d_T_check_21 : decode b_T_check 21 = .ok (.iload_n 2, 1) := by decide +kernel
theorem d_T_check_22 : decode b_T_check 22 = .ok (.invokevirtual 121, 3) := by decide +kernel
theorem d_T_check_25 : decode b_T_check 25 = .ok (.ifCond .eq 6, 3) := by decide +kernel
theorem d_T_check_28 : decode b_T_check 28 = .ok (.iinc 1 1, 3) := by decide +kernel
theorem d_T_check_31 : decode b_T_check 31 = .ok (.iinc 2 1, 3) := by decide +kernel
theorem d_T_check_34 : decode b_T_check 34 = .ok (.goto (-30), 3) := by decide +kernel
theorem d_T_check_37 : decode b_T_check 37 = .ok (.iconst 0, 1) := by decide +kernel
theorem d_T_check_38 : decode b_T_check 38 = .ok (.istore_n 2, 1) := by decide +kernel
theorem d_T_check_39 : decode b_T_check 39 = .ok (.iload_n 2, 1) := by decide +kernel
theorem d_T_check_40 : decode b_T_check 40 = .ok (.iconst 4, 1) := by decide +kernel
theorem d_T_check_41 : decode b_T_check 41 = .ok (.if_icmp .ge 30, 3) := by decide +kernel
theorem d_T_check_44 : decode b_T_check 44 = .ok (.aload_n 0, 1) := by decide +kernel
theorem d_T_check_45 : decode b_T_check 45 = .ok (.getfield 26, 3) := by decide +kernel
theorem d_T_check_48 : decode b_T_check 48 = .ok (.iload_n 2, 1) := by decide +kernel
theorem d_T_check_49 : decode b_T_check 49 = .ok (.iaload, 1) := by decide +kernel
theorem d_T_check_50 : decode b_T_check 50 = .ok (.iconst (-1), 1) := by decide +kernel
theorem d_T_check_51 : decode b_T_check 51 = .ok (.if_icmp .eq 14, 3) := by decide +kernel
theorem d_T_check_54 : decode b_T_check 54 = .ok (.aload_n 0, 1) := by decide +kernel
theorem d_T_check_55 : decode b_T_check 55 = .ok (.iload_n 2, 1) := by decide +kernel
theorem d_T_check_56 : decode b_T_check 56 = .ok (.invokevirtual 124, 3) := by decide +kernel
theorem d_T_check_59 : decode b_T_check 59 = .ok (.ifCond .eq 6, 3) := by decide +kernel
theorem d_T_check_62 : decode b_T_check 62 = .ok (.iinc 1 1, 3) := by decide +kernel
theorem d_T_check_65 : decode b_T_check 65 = .ok (.iinc 2 1, 3) := by decide +kernel
theorem d_T_check_68 : decode b_T_check 68 = .ok (.goto (-29), 3) := by decide +kernel
theorem d_T_check_71 : decode b_T_check 71 = .ok (.iload_n 1, 1) := by decide +kernel
theorem d_T_check_72 : decode b_T_check 72 = .ok (.ireturn, 1) := by decide +kernel
theorem d_T_refuseNoWord_0 : decode b_T_refuseNoWord 0 = .ok (.iload_n 0, 1) := by decide +kernel
theorem d_T_refuseNoWord_1 : decode b_T_refuseNoWord 1 = .ok (.ifCond .lt 10, 3) := by decide +kernel
theorem d_T_refuseNoWord_4 : decode b_T_refuseNoWord 4 = .ok (.iload_n 0, 1) := by decide +kernel
theorem d_T_refuseNoWord_5 : decode b_T_refuseNoWord 5 = .ok (.sipush 2048, 3) := by decide +kernel
theorem d_T_refuseNoWord_8 : decode b_T_refuseNoWord 8 = .ok (.if_icmp .lt 13, 3) := by decide +kernel
theorem d_T_refuseNoWord_11 : decode b_T_refuseNoWord 11 = .ok (.new 74, 3) := by decide +kernel
theorem d_T_refuseNoWord_14 : decode b_T_refuseNoWord 14 = .ok (.dup, 1) := by decide +kernel
theorem d_T_refuseNoWord_15 : decode b_T_refuseNoWord 15 = .ok (.ldc 127, 2) := by decide +kernel
theorem d_T_refuseNoWord_17 : decode b_T_refuseNoWord 17 = .ok (.invokespecial 78, 3) := by decide +kernel
theorem d_T_refuseNoWord_20 : decode b_T_refuseNoWord 20 = .ok (.athrow, 1) := by decide +kernel
theorem d_T_refuseNoWord_21 : decode b_T_refuseNoWord 21 = .ok (.return_, 1) := by decide +kernel
theorem d_T_refuseNoGranule_0 : decode b_T_refuseNoGranule 0 = .ok (.iload_n 0, 1) := by decide +kernel
theorem d_T_refuseNoGranule_1 : decode b_T_refuseNoGranule 1 = .ok (.ifCond .lt 10, 3) := by decide +kernel
theorem d_T_refuseNoGranule_4 : decode b_T_refuseNoGranule 4 = .ok (.iload_n 0, 1) := by decide +kernel
theorem d_T_refuseNoGranule_5 : decode b_T_refuseNoGranule 5 = .ok (.sipush 1024, 3) := by decide +kernel
theorem d_T_refuseNoGranule_8 : decode b_T_refuseNoGranule 8 = .ok (.if_icmp .lt 13, 3) := by decide +kernel
theorem d_T_refuseNoGranule_11 : decode b_T_refuseNoGranule 11 = .ok (.new 74, 3) := by decide +kernel
theorem d_T_refuseNoGranule_14 : decode b_T_refuseNoGranule 14 = .ok (.dup, 1) := by decide +kernel
theorem d_T_refuseNoGranule_15 : decode b_T_refuseNoGranule 15 = .ok (.ldc 129, 2) := by decide +kernel
theorem d_T_refuseNoGranule_17 : decode b_T_refuseNoGranule 17 = .ok (.invokespecial 78, 3) := by decide +kernel
theorem d_T_refuseNoGranule_20 : decode b_T_refuseNoGranule 20 = .ok (.athrow, 1) := by decide +kernel
theorem d_T_refuseNoGranule_21 : decode b_T_refuseNoGranule 21 = .ok (.return_, 1) := by decide +kernel
theorem d_T_refuseNoPart_0 : decode b_T_refuseNoPart 0 = .ok (.iload_n 1, 1) := by decide +kernel
theorem d_T_refuseNoPart_1 : decode b_T_refuseNoPart 1 = .ok (.iconst 1, 1) := by decide +kernel
theorem d_T_refuseNoPart_2 : decode b_T_refuseNoPart 2 = .ok (.if_icmp .eq 18, 3) := by decide +kernel
theorem d_T_refuseNoPart_5 : decode b_T_refuseNoPart 5 = .ok (.iload_n 1, 1) := by decide +kernel
theorem d_T_refuseNoPart_6 : decode b_T_refuseNoPart 6 = .ok (.iconst 2, 1) := by decide +kernel
theorem d_T_refuseNoPart_7 : decode b_T_refuseNoPart 7 = .ok (.if_icmp .eq 13, 3) := by decide +kernel
theorem d_T_refuseNoPart_10 : decode b_T_refuseNoPart 10 = .ok (.new 116, 3) := by decide +kernel
theorem d_T_refuseNoPart_13 : decode b_T_refuseNoPart 13 = .ok (.dup, 1) := by decide +kernel
theorem d_T_refuseNoPart_14 : decode b_T_refuseNoPart 14 = .ok (.ldc 131, 2) := by decide +kernel
theorem d_T_refuseNoPart_16 : decode b_T_refuseNoPart 16 = .ok (.invokespecial 120, 3) := by decide +kernel
theorem d_T_refuseNoPart_19 : decode b_T_refuseNoPart 19 = .ok (.athrow, 1) := by decide +kernel
theorem d_T_refuseNoPart_20 : decode b_T_refuseNoPart 20 = .ok (.iload_n 0, 1) := by decide +kernel
theorem d_T_refuseNoPart_21 : decode b_T_refuseNoPart 21 = .ok (.ifCond .lt 14, 3) := by decide +kernel
theorem d_T_refuseNoPart_24 : decode b_T_refuseNoPart 24 = .ok (.iload_n 0, 1) := by decide +kernel
theorem d_T_refuseNoPart_25 : decode b_T_refuseNoPart 25 = .ok (.iconst 3, 1) := by decide +kernel
theorem d_T_refuseNoPart_26 : decode b_T_refuseNoPart 26 = .ok (.if_icmp .gt 9, 3) := by decide +kernel
theorem d_T_refuseNoPart_29 : decode b_T_refuseNoPart 29 = .ok (.iload_n 0, 1) := by decide +kernel
theorem d_T_refuseNoPart_30 : decode b_T_refuseNoPart 30 = .ok (.iload_n 1, 1) := by decide +kernel
theorem d_T_refuseNoPart_31 : decode b_T_refuseNoPart 31 = .ok (.irem, 1) := by decide +kernel
theorem d_T_refuseNoPart_32 : decode b_T_refuseNoPart 32 = .ok (.ifCond .eq 13, 3) := by decide +kernel
theorem d_T_refuseNoPart_35 : decode b_T_refuseNoPart 35 = .ok (.new 116, 3) := by decide +kernel
theorem d_T_refuseNoPart_38 : decode b_T_refuseNoPart 38 = .ok (.dup, 1) := by decide +kernel
theorem d_T_refuseNoPart_39 : decode b_T_refuseNoPart 39 = .ok (.ldc 133, 2) := by decide +kernel
theorem d_T_refuseNoPart_41 : decode b_T_refuseNoPart 41 = .ok (.invokespecial 120, 3) := by decide +kernel
theorem d_T_refuseNoPart_44 : decode b_T_refuseNoPart 44 = .ok (.athrow, 1) := by decide +kernel
theorem d_T_refuseNoPart_45 : decode b_T_refuseNoPart 45 = .ok (.return_, 1) := by decide +kernel
theorem d_T_granuleOfWord_0 : decode b_T_granuleOfWord 0 = .ok (.iload_n 0, 1) := by decide +kernel
theorem d_T_granuleOfWord_1 : decode b_T_granuleOfWord 1 = .ok (.iconst 2, 1) := by decide +kernel
theorem d_T_granuleOfWord_2 : decode b_T_granuleOfWord 2 = .ok (.idiv, 1) := by decide +kernel
theorem d_T_granuleOfWord_3 : decode b_T_granuleOfWord 3 = .ok (.ireturn, 1) := by decide +kernel
theorem d_T_lineOfWord_0 : decode b_T_lineOfWord 0 = .ok (.iload_n 0, 1) := by decide +kernel
theorem d_T_lineOfWord_1 : decode b_T_lineOfWord 1 = .ok (.iconst 4, 1) := by decide +kernel
theorem d_T_lineOfWord_2 : decode b_T_lineOfWord 2 = .ok (.idiv, 1) := by decide +kernel
theorem d_T_lineOfWord_3 : decode b_T_lineOfWord 3 = .ok (.ireturn, 1) := by decide +kernel
theorem d_T_lineOfGranule_0 : decode b_T_lineOfGranule 0 = .ok (.iload_n 0, 1) := by decide +kernel
theorem d_T_lineOfGranule_1 : decode b_T_lineOfGranule 1 = .ok (.iconst 2, 1) := by decide +kernel
theorem d_T_lineOfGranule_2 : decode b_T_lineOfGranule 2 = .ok (.idiv, 1) := by decide +kernel
theorem d_T_lineOfGranule_3 : decode b_T_lineOfGranule 3 = .ok (.ireturn, 1) := by decide +kernel
theorem d_T_rowOfLine_0 : decode b_T_rowOfLine 0 = .ok (.iload_n 0, 1) := by decide +kernel
theorem d_T_rowOfLine_1 : decode b_T_rowOfLine 1 = .ok (.bipush 16, 2) := by decide +kernel
theorem d_T_rowOfLine_3 : decode b_T_rowOfLine 3 = .ok (.idiv, 1) := by decide +kernel
theorem d_T_rowOfLine_4 : decode b_T_rowOfLine 4 = .ok (.ireturn, 1) := by decide +kernel
theorem d_T_placeOfLine_0 : decode b_T_placeOfLine 0 = .ok (.iload_n 0, 1) := by decide +kernel
theorem d_T_placeOfLine_1 : decode b_T_placeOfLine 1 = .ok (.bipush 16, 2) := by decide +kernel
theorem d_T_placeOfLine_3 : decode b_T_placeOfLine 3 = .ok (.irem, 1) := by decide +kernel
theorem d_T_placeOfLine_4 : decode b_T_placeOfLine 4 = .ok (.ireturn, 1) := by decide +kernel
theorem d_T_placeOfRow_0 : decode b_T_placeOfRow 0 = .ok (.iload_n 0, 1) := by decide +kernel
theorem d_T_placeOfRow_1 : decode b_T_placeOfRow 1 = .ok (.iconst 4, 1) := by decide +kernel
theorem d_T_placeOfRow_2 : decode b_T_placeOfRow 2 = .ok (.irem, 1) := by decide +kernel
theorem d_T_placeOfRow_3 : decode b_T_placeOfRow 3 = .ok (.ireturn, 1) := by decide +kernel
theorem d_T_slotOfWord_0 : decode b_T_slotOfWord 0 = .ok (.iload_n 0, 1) := by decide +kernel
theorem d_T_slotOfWord_1 : decode b_T_slotOfWord 1 = .ok (.bipush 64, 2) := by decide +kernel
theorem d_T_slotOfWord_3 : decode b_T_slotOfWord 3 = .ok (.irem, 1) := by decide +kernel
theorem d_T_slotOfWord_4 : decode b_T_slotOfWord 4 = .ok (.ireturn, 1) := by decide +kernel
theorem d_T_firstTagBit_0 : decode b_T_firstTagBit 0 = .ok (.iload_n 0, 1) := by decide +kernel
theorem d_T_firstTagBit_1 : decode b_T_firstTagBit 1 = .ok (.bipush 16, 2) := by decide +kernel
theorem d_T_firstTagBit_3 : decode b_T_firstTagBit 3 = .ok (.irem, 1) := by decide +kernel
theorem d_T_firstTagBit_4 : decode b_T_firstTagBit 4 = .ok (.iconst 2, 1) := by decide +kernel
theorem d_T_firstTagBit_5 : decode b_T_firstTagBit 5 = .ok (.imul, 1) := by decide +kernel
theorem d_T_firstTagBit_6 : decode b_T_firstTagBit 6 = .ok (.ireturn, 1) := by decide +kernel
theorem d_T_tagsOfLine_0 : decode b_T_tagsOfLine 0 = .ok (.iload_n 1, 1) := by decide +kernel
theorem d_T_tagsOfLine_1 : decode b_T_tagsOfLine 1 = .ok (.iload_n 0, 1) := by decide +kernel
theorem d_T_tagsOfLine_2 : decode b_T_tagsOfLine 2 = .ok (.invokestatic 135, 3) := by decide +kernel
theorem d_T_tagsOfLine_5 : decode b_T_tagsOfLine 5 = .ok (.iushr, 1) := by decide +kernel
theorem d_T_tagsOfLine_6 : decode b_T_tagsOfLine 6 = .ok (.iconst 3, 1) := by decide +kernel
theorem d_T_tagsOfLine_7 : decode b_T_tagsOfLine 7 = .ok (.iand, 1) := by decide +kernel
theorem d_T_tagsOfLine_8 : decode b_T_tagsOfLine 8 = .ok (.ireturn, 1) := by decide +kernel
theorem d_T_tagBit_0 : decode b_T_tagBit 0 = .ok (.iconst 1, 1) := by decide +kernel
theorem d_T_tagBit_1 : decode b_T_tagBit 1 = .ok (.iload_n 0, 1) := by decide +kernel
theorem d_T_tagBit_2 : decode b_T_tagBit 2 = .ok (.iconst 2, 1) := by decide +kernel
theorem d_T_tagBit_3 : decode b_T_tagBit 3 = .ok (.irem, 1) := by decide +kernel
theorem d_T_tagBit_4 : decode b_T_tagBit 4 = .ok (.ishl, 1) := by decide +kernel
theorem d_T_tagBit_5 : decode b_T_tagBit 5 = .ok (.ireturn, 1) := by decide +kernel
theorem d_T_keptTag_0 : decode b_T_keptTag 0 = .ok (.aload_n 0, 1) := by decide +kernel
theorem d_T_keptTag_1 : decode b_T_keptTag 1 = .ok (.getfield 19, 3) := by decide +kernel
theorem d_T_keptTag_4 : decode b_T_keptTag 4 = .ok (.iload_n 1, 1) := by decide +kernel
theorem d_T_keptTag_5 : decode b_T_keptTag 5 = .ok (.invokestatic 52, 3) := by decide +kernel
theorem d_T_keptTag_8 : decode b_T_keptTag 8 = .ok (.invokestatic 138, 3) := by decide +kernel
theorem d_T_keptTag_11 : decode b_T_keptTag 11 = .ok (.iaload, 1) := by decide +kernel
theorem d_T_keptTag_12 : decode b_T_keptTag 12 = .ok (.iload_n 1, 1) := by decide +kernel
theorem d_T_keptTag_13 : decode b_T_keptTag 13 = .ok (.invokestatic 141, 3) := by decide +kernel
theorem d_T_keptTag_16 : decode b_T_keptTag 16 = .ok (.iand, 1) := by decide +kernel
theorem d_T_keptTag_17 : decode b_T_keptTag 17 = .ok (.ifCond .eq 7, 3) := by decide +kernel
theorem d_T_keptTag_20 : decode b_T_keptTag 20 = .ok (.iconst 1, 1) := by decide +kernel
theorem d_T_keptTag_21 : decode b_T_keptTag 21 = .ok (.goto 4, 3) := by decide +kernel
theorem d_T_keptTag_24 : decode b_T_keptTag 24 = .ok (.iconst 0, 1) := by decide +kernel
theorem d_T_keptTag_25 : decode b_T_keptTag 25 = .ok (.ireturn, 1) := by decide +kernel
theorem d_T_changeWord_0 : decode b_T_changeWord 0 = .ok (.aload_n 0, 1) := by decide +kernel
theorem d_T_changeWord_1 : decode b_T_changeWord 1 = .ok (.getfield 16, 3) := by decide +kernel
theorem d_T_changeWord_4 : decode b_T_changeWord 4 = .ok (.iload_n 1, 1) := by decide +kernel
theorem d_T_changeWord_5 : decode b_T_changeWord 5 = .ok (.invokestatic 46, 3) := by decide +kernel
theorem d_T_changeWord_8 : decode b_T_changeWord 8 = .ok (.iload_n 2, 1) := by decide +kernel
theorem d_T_changeWord_9 : decode b_T_changeWord 9 = .ok (.iastore, 1) := by decide +kernel
theorem d_T_changeWord_10 : decode b_T_changeWord 10 = .ok (.aload_n 0, 1) := by decide +kernel
theorem d_T_changeWord_11 : decode b_T_changeWord 11 = .ok (.iload_n 1, 1) := by decide +kernel
theorem d_T_changeWord_12 : decode b_T_changeWord 12 = .ok (.invokestatic 49, 3) := by decide +kernel
theorem d_T_changeWord_15 : decode b_T_changeWord 15 = .ok (.iconst 0, 1) := by decide +kernel
theorem d_T_changeWord_16 : decode b_T_changeWord 16 = .ok (.invokevirtual 144, 3) := by decide +kernel
theorem d_T_changeWord_19 : decode b_T_changeWord 19 = .ok (.return_, 1) := by decide +kernel
theorem d_T_changeGranule_0 : decode b_T_changeGranule 0 = .ok (.aload_n 0, 1) := by decide +kernel
theorem d_T_changeGranule_1 : decode b_T_changeGranule 1 = .ok (.getfield 16, 3) := by decide +kernel
theorem d_T_changeGranule_4 : decode b_T_changeGranule 4 = .ok (.iconst 2, 1) := by decide +kernel
theorem d_T_changeGranule_5 : decode b_T_changeGranule 5 = .ok (.iload_n 1, 1) := by decide +kernel
theorem d_T_changeGranule_6 : decode b_T_changeGranule 6 = .ok (.imul, 1) := by decide +kernel
theorem d_T_changeGranule_7 : decode b_T_changeGranule 7 = .ok (.invokestatic 46, 3) := by decide +kernel
theorem d_T_changeGranule_10 : decode b_T_changeGranule 10 = .ok (.iload_n 2, 1) := by decide +kernel
theorem d_T_changeGranule_11 : decode b_T_changeGranule 11 = .ok (.iastore, 1) := by decide +kernel
theorem d_T_changeGranule_12 : decode b_T_changeGranule 12 = .ok (.aload_n 0, 1) := by decide +kernel
theorem d_T_changeGranule_13 : decode b_T_changeGranule 13 = .ok (.getfield 16, 3) := by decide +kernel
theorem d_T_changeGranule_16 : decode b_T_changeGranule 16 = .ok (.iconst 2, 1) := by decide +kernel
theorem d_T_changeGranule_17 : decode b_T_changeGranule 17 = .ok (.iload_n 1, 1) := by decide +kernel
theorem d_T_changeGranule_18 : decode b_T_changeGranule 18 = .ok (.imul, 1) := by decide +kernel
theorem d_T_changeGranule_19 : decode b_T_changeGranule 19 = .ok (.iconst 1, 1) := by decide +kernel
theorem d_T_changeGranule_20 : decode b_T_changeGranule 20 = .ok (.iadd, 1) := by decide +kernel
theorem d_T_changeGranule_21 : decode b_T_changeGranule 21 = .ok (.invokestatic 46, 3) := by decide +kernel
theorem d_T_changeGranule_24 : decode b_T_changeGranule 24 = .ok (.iload_n 3, 1) := by decide +kernel
theorem d_T_changeGranule_25 : decode b_T_changeGranule 25 = .ok (.iastore, 1) := by decide +kernel
theorem d_T_changeGranule_26 : decode b_T_changeGranule 26 = .ok (.aload_n 0, 1) := by decide +kernel
theorem d_T_changeGranule_27 : decode b_T_changeGranule 27 = .ok (.iload_n 1, 1) := by decide +kernel
theorem d_T_changeGranule_28 : decode b_T_changeGranule 28 = .ok (.iload 4, 2) := by decide +kernel
theorem d_T_changeGranule_30 : decode b_T_changeGranule 30 = .ok (.invokevirtual 144, 3) := by decide +kernel
theorem d_T_changeGranule_33 : decode b_T_changeGranule 33 = .ok (.return_, 1) := by decide +kernel
theorem d_T_changeTag_0 : decode b_T_changeTag 0 = .ok (.iload_n 1, 1) := by decide +kernel
theorem d_T_changeTag_1 : decode b_T_changeTag 1 = .ok (.invokestatic 52, 3) := by decide +kernel
theorem d_T_changeTag_4 : decode b_T_changeTag 4 = .ok (.invokestatic 138, 3) := by decide +kernel
theorem d_T_changeTag_7 : decode b_T_changeTag 7 = .ok (.istore_n 3, 1) := by decide +kernel
theorem d_T_changeTag_8 : decode b_T_changeTag 8 = .ok (.aload_n 0, 1) := by decide +kernel
theorem d_T_changeTag_9 : decode b_T_changeTag 9 = .ok (.getfield 19, 3) := by decide +kernel
theorem d_T_changeTag_12 : decode b_T_changeTag 12 = .ok (.iload_n 3, 1) := by decide +kernel
theorem d_T_changeTag_13 : decode b_T_changeTag 13 = .ok (.iaload, 1) := by decide +kernel
theorem d_T_changeTag_14 : decode b_T_changeTag 14 = .ok (.iload_n 1, 1) := by decide +kernel
theorem d_T_changeTag_15 : decode b_T_changeTag 15 = .ok (.invokestatic 141, 3) := by decide +kernel
theorem d_T_changeTag_18 : decode b_T_changeTag 18 = .ok (.iconst (-1), 1) := by decide +kernel
theorem d_T_changeTag_19 : decode b_T_changeTag 19 = .ok (.ixor, 1) := by decide +kernel
theorem d_T_changeTag_20 : decode b_T_changeTag 20 = .ok (.iand, 1) := by decide +kernel
theorem d_T_changeTag_21 : decode b_T_changeTag 21 = .ok (.istore 4, 2) := by decide +kernel
theorem d_T_changeTag_23 : decode b_T_changeTag 23 = .ok (.aload_n 0, 1) := by decide +kernel
theorem d_T_changeTag_24 : decode b_T_changeTag 24 = .ok (.getfield 19, 3) := by decide +kernel
theorem d_T_changeTag_27 : decode b_T_changeTag 27 = .ok (.iload_n 3, 1) := by decide +kernel
theorem d_T_changeTag_28 : decode b_T_changeTag 28 = .ok (.iload_n 2, 1) := by decide +kernel
theorem d_T_changeTag_29 : decode b_T_changeTag 29 = .ok (.ifCond .eq 13, 3) := by decide +kernel
theorem d_T_changeTag_32 : decode b_T_changeTag 32 = .ok (.iload 4, 2) := by decide +kernel
theorem d_T_changeTag_34 : decode b_T_changeTag 34 = .ok (.iload_n 1, 1) := by decide +kernel
theorem d_T_changeTag_35 : decode b_T_changeTag 35 = .ok (.invokestatic 141, 3) := by decide +kernel
theorem d_T_changeTag_38 : decode b_T_changeTag 38 = .ok (.ior, 1) := by decide +kernel
theorem d_T_changeTag_39 : decode b_T_changeTag 39 = .ok (.goto 5, 3) := by decide +kernel
theorem d_T_changeTag_42 : decode b_T_changeTag 42 = .ok (.iload 4, 2) := by decide +kernel
theorem d_T_changeTag_44 : decode b_T_changeTag 44 = .ok (.iastore, 1) := by decide +kernel
theorem d_T_changeTag_45 : decode b_T_changeTag 45 = .ok (.aload_n 0, 1) := by decide +kernel
theorem d_T_changeTag_46 : decode b_T_changeTag 46 = .ok (.getfield 22, 3) := by decide +kernel
theorem d_T_changeTag_49 : decode b_T_changeTag 49 = .ok (.iload_n 3, 1) := by decide +kernel
theorem d_T_changeTag_50 : decode b_T_changeTag 50 = .ok (.iconst 1, 1) := by decide +kernel
theorem d_T_changeTag_51 : decode b_T_changeTag 51 = .ok (.bastore, 1) := by decide +kernel
theorem d_T_changeTag_52 : decode b_T_changeTag 52 = .ok (.return_, 1) := by decide +kernel
theorem d_T_wantLine_0 : decode b_T_wantLine 0 = .ok (.iload_n 1, 1) := by decide +kernel
theorem d_T_wantLine_1 : decode b_T_wantLine 1 = .ok (.invokestatic 138, 3) := by decide +kernel
theorem d_T_wantLine_4 : decode b_T_wantLine 4 = .ok (.istore_n 2, 1) := by decide +kernel
theorem d_T_wantLine_5 : decode b_T_wantLine 5 = .ok (.aload_n 0, 1) := by decide +kernel
theorem d_T_wantLine_6 : decode b_T_wantLine 6 = .ok (.getfield 13, 3) := by decide +kernel
theorem d_T_wantLine_9 : decode b_T_wantLine 9 = .ok (.iload_n 2, 1) := by decide +kernel
theorem d_T_wantLine_10 : decode b_T_wantLine 10 = .ok (.iaload, 1) := by decide +kernel
theorem d_T_wantLine_11 : decode b_T_wantLine 11 = .ok (.iload_n 1, 1) := by decide +kernel
theorem d_T_wantLine_12 : decode b_T_wantLine 12 = .ok (.if_icmp .eq 15, 3) := by decide +kernel
theorem d_T_wantLine_15 : decode b_T_wantLine 15 = .ok (.aload_n 0, 1) := by decide +kernel
theorem d_T_wantLine_16 : decode b_T_wantLine 16 = .ok (.iload_n 2, 1) := by decide +kernel
theorem d_T_wantLine_17 : decode b_T_wantLine 17 = .ok (.invokevirtual 81, 3) := by decide +kernel
theorem d_T_wantLine_20 : decode b_T_wantLine 20 = .ok (.pop, 1) := by decide +kernel
theorem d_T_wantLine_21 : decode b_T_wantLine 21 = .ok (.aload_n 0, 1) := by decide +kernel
theorem d_T_wantLine_22 : decode b_T_wantLine 22 = .ok (.iload_n 1, 1) := by decide +kernel
theorem d_T_wantLine_23 : decode b_T_wantLine 23 = .ok (.iload_n 2, 1) := by decide +kernel
theorem d_T_wantLine_24 : decode b_T_wantLine 24 = .ok (.invokevirtual 148, 3) := by decide +kernel
theorem d_T_wantLine_27 : decode b_T_wantLine 27 = .ok (.return_, 1) := by decide +kernel
theorem d_T_bringLine_0 : decode b_T_bringLine 0 = .ok (.aload_n 0, 1) := by decide +kernel
theorem d_T_bringLine_1 : decode b_T_bringLine 1 = .ok (.getfield 9, 3) := by decide +kernel
theorem d_T_bringLine_4 : decode b_T_bringLine 4 = .ok (.iload_n 1, 1) := by decide +kernel
theorem d_T_bringLine_5 : decode b_T_bringLine 5 = .ok (.iconst 4, 1) := by decide +kernel
theorem d_T_bringLine_6 : decode b_T_bringLine 6 = .ok (.imul, 1) := by decide +kernel
theorem d_T_bringLine_7 : decode b_T_bringLine 7 = .ok (.aload_n 0, 1) := by decide +kernel
theorem d_T_bringLine_8 : decode b_T_bringLine 8 = .ok (.getfield 16, 3) := by decide +kernel
theorem d_T_bringLine_11 : decode b_T_bringLine 11 = .ok (.iload_n 2, 1) := by decide +kernel
theorem d_T_bringLine_12 : decode b_T_bringLine 12 = .ok (.iconst 4, 1) := by decide +kernel
theorem d_T_bringLine_13 : decode b_T_bringLine 13 = .ok (.imul, 1) := by decide +kernel
theorem d_T_bringLine_14 : decode b_T_bringLine 14 = .ok (.iconst 4, 1) := by decide +kernel
theorem d_T_bringLine_15 : decode b_T_bringLine 15 = .ok (.invokestatic 151, 3) := by decide +kernel
theorem d_T_bringLine_18 : decode b_T_bringLine 18 = .ok (.aload_n 0, 1) := by decide +kernel
theorem d_T_bringLine_19 : decode b_T_bringLine 19 = .ok (.iload_n 1, 1) := by decide +kernel
theorem d_T_bringLine_20 : decode b_T_bringLine 20 = .ok (.invokestatic 157, 3) := by decide +kernel
theorem d_T_bringLine_23 : decode b_T_bringLine 23 = .ok (.invokevirtual 160, 3) := by decide +kernel
theorem d_T_bringLine_26 : decode b_T_bringLine 26 = .ok (.istore_n 3, 1) := by decide +kernel
theorem d_T_bringLine_27 : decode b_T_bringLine 27 = .ok (.aload_n 0, 1) := by decide +kernel
theorem d_T_bringLine_28 : decode b_T_bringLine 28 = .ok (.getfield 19, 3) := by decide +kernel
theorem d_T_bringLine_31 : decode b_T_bringLine 31 = .ok (.iload_n 2, 1) := by decide +kernel
theorem d_T_bringLine_32 : decode b_T_bringLine 32 = .ok (.iload_n 1, 1) := by decide +kernel
theorem d_T_bringLine_33 : decode b_T_bringLine 33 = .ok (.aload_n 0, 1) := by decide +kernel
theorem d_T_bringLine_34 : decode b_T_bringLine 34 = .ok (.getfield 29, 3) := by decide +kernel
theorem d_T_bringLine_37 : decode b_T_bringLine 37 = .ok (.iload_n 3, 1) := by decide +kernel
theorem d_T_bringLine_38 : decode b_T_bringLine 38 = .ok (.iaload, 1) := by decide +kernel
theorem d_T_bringLine_39 : decode b_T_bringLine 39 = .ok (.invokestatic 163, 3) := by decide +kernel
theorem d_T_bringLine_42 : decode b_T_bringLine 42 = .ok (.iastore, 1) := by decide +kernel
theorem d_T_bringLine_43 : decode b_T_bringLine 43 = .ok (.aload_n 0, 1) := by decide +kernel
theorem d_T_bringLine_44 : decode b_T_bringLine 44 = .ok (.getfield 13, 3) := by decide +kernel
theorem d_T_bringLine_47 : decode b_T_bringLine 47 = .ok (.iload_n 2, 1) := by decide +kernel
theorem d_T_bringLine_48 : decode b_T_bringLine 48 = .ok (.iload_n 1, 1) := by decide +kernel
theorem d_T_bringLine_49 : decode b_T_bringLine 49 = .ok (.iastore, 1) := by decide +kernel
theorem d_T_bringLine_50 : decode b_T_bringLine 50 = .ok (.aload_n 0, 1) := by decide +kernel
theorem d_T_bringLine_51 : decode b_T_bringLine 51 = .ok (.getfield 22, 3) := by decide +kernel
theorem d_T_bringLine_54 : decode b_T_bringLine 54 = .ok (.iload_n 2, 1) := by decide +kernel
theorem d_T_bringLine_55 : decode b_T_bringLine 55 = .ok (.iconst 0, 1) := by decide +kernel
theorem d_T_bringLine_56 : decode b_T_bringLine 56 = .ok (.bastore, 1) := by decide +kernel
theorem d_T_bringLine_57 : decode b_T_bringLine 57 = .ok (.aload_n 0, 1) := by decide +kernel
theorem d_T_bringLine_58 : decode b_T_bringLine 58 = .ok (.dup, 1) := by decide +kernel
theorem d_T_bringLine_59 : decode b_T_bringLine 59 = .ok (.getfield 91, 3) := by decide +kernel
theorem d_T_bringLine_62 : decode b_T_bringLine 62 = .ok (.iconst 1, 1) := by decide +kernel
theorem d_T_bringLine_63 : decode b_T_bringLine 63 = .ok (.iadd, 1) := by decide +kernel
theorem d_T_bringLine_64 : decode b_T_bringLine 64 = .ok (.putfield 91, 3) := by decide +kernel
theorem d_T_bringLine_67 : decode b_T_bringLine 67 = .ok (.return_, 1) := by decide +kernel
theorem d_T_letLineGo_0 : decode b_T_letLineGo 0 = .ok (.aload_n 0, 1) := by decide +kernel
theorem d_T_letLineGo_1 : decode b_T_letLineGo 1 = .ok (.getfield 13, 3) := by decide +kernel
theorem d_T_letLineGo_4 : decode b_T_letLineGo 4 = .ok (.iload_n 1, 1) := by decide +kernel
theorem d_T_letLineGo_5 : decode b_T_letLineGo 5 = .ok (.iaload, 1) := by decide +kernel
theorem d_T_letLineGo_6 : decode b_T_letLineGo 6 = .ok (.iconst (-1), 1) := by decide +kernel
theorem d_T_letLineGo_7 : decode b_T_letLineGo 7 = .ok (.if_icmp .eq 16, 3) := by decide +kernel
theorem d_T_letLineGo_10 : decode b_T_letLineGo 10 = .ok (.aload_n 0, 1) := by decide +kernel
theorem d_T_letLineGo_11 : decode b_T_letLineGo 11 = .ok (.getfield 22, 3) := by decide +kernel
theorem d_T_letLineGo_14 : decode b_T_letLineGo 14 = .ok (.iload_n 1, 1) := by decide +kernel
theorem d_T_letLineGo_15 : decode b_T_letLineGo 15 = .ok (.baload, 1) := by decide +kernel
theorem d_T_letLineGo_16 : decode b_T_letLineGo 16 = .ok (.ifCond .eq 7, 3) := by decide +kernel
theorem d_T_letLineGo_19 : decode b_T_letLineGo 19 = .ok (.iconst 1, 1) := by decide +kernel
theorem d_T_letLineGo_20 : decode b_T_letLineGo 20 = .ok (.goto 4, 3) := by decide +kernel
theorem d_T_letLineGo_23 : decode b_T_letLineGo 23 = .ok (.iconst 0, 1) := by decide +kernel
theorem d_T_letLineGo_24 : decode b_T_letLineGo 24 = .ok (.istore_n 2, 1) := by decide +kernel
theorem d_T_letLineGo_25 : decode b_T_letLineGo 25 = .ok (.iload_n 2, 1) := by decide +kernel
theorem d_T_letLineGo_26 : decode b_T_letLineGo 26 = .ok (.ifCond .eq 14, 3) := by decide +kernel
theorem d_T_letLineGo_29 : decode b_T_letLineGo 29 = .ok (.aload_n 0, 1) := by decide +kernel
theorem d_T_letLineGo_30 : decode b_T_letLineGo 30 = .ok (.aload_n 0, 1) := by decide +kernel
theorem d_T_letLineGo_31 : decode b_T_letLineGo 31 = .ok (.getfield 13, 3) := by decide +kernel
theorem d_T_letLineGo_34 : decode b_T_letLineGo 34 = .ok (.iload_n 1, 1) := by decide +kernel
theorem d_T_letLineGo_35 : decode b_T_letLineGo 35 = .ok (.iaload, 1) := by decide +kernel
theorem d_T_letLineGo_36 : decode b_T_letLineGo 36 = .ok (.iload_n 1, 1) := by decide +kernel
theorem d_T_letLineGo_37 : decode b_T_letLineGo 37 = .ok (.invokevirtual 167, 3) := by decide +kernel
theorem d_T_letLineGo_40 : decode b_T_letLineGo 40 = .ok (.aload_n 0, 1) := by decide +kernel
theorem d_T_letLineGo_41 : decode b_T_letLineGo 41 = .ok (.getfield 13, 3) := by decide +kernel
theorem d_T_letLineGo_44 : decode b_T_letLineGo 44 = .ok (.iload_n 1, 1) := by decide +kernel
theorem d_T_letLineGo_45 : decode b_T_letLineGo 45 = .ok (.iconst (-1), 1) := by decide +kernel
theorem d_T_letLineGo_46 : decode b_T_letLineGo 46 = .ok (.iastore, 1) := by decide +kernel
theorem d_T_letLineGo_47 : decode b_T_letLineGo 47 = .ok (.aload_n 0, 1) := by decide +kernel
theorem d_T_letLineGo_48 : decode b_T_letLineGo 48 = .ok (.getfield 22, 3) := by decide +kernel
theorem d_T_letLineGo_51 : decode b_T_letLineGo 51 = .ok (.iload_n 1, 1) := by decide +kernel
theorem d_T_letLineGo_52 : decode b_T_letLineGo 52 = .ok (.iconst 0, 1) := by decide +kernel
theorem d_T_letLineGo_53 : decode b_T_letLineGo 53 = .ok (.bastore, 1) := by decide +kernel
theorem d_T_letLineGo_54 : decode b_T_letLineGo 54 = .ok (.iload_n 2, 1) := by decide +kernel
theorem d_T_letLineGo_55 : decode b_T_letLineGo 55 = .ok (.ireturn, 1) := by decide +kernel
theorem d_T_writeLineBack_0 : decode b_T_writeLineBack 0 = .ok (.aload_n 0, 1) := by decide +kernel
theorem d_T_writeLineBack_1 : decode b_T_writeLineBack 1 = .ok (.getfield 16, 3) := by decide +kernel
theorem d_T_writeLineBack_4 : decode b_T_writeLineBack 4 = .ok (.iload_n 2, 1) := by decide +kernel
theorem d_T_writeLineBack_5 : decode b_T_writeLineBack 5 = .ok (.iconst 4, 1) := by decide +kernel
theorem d_T_writeLineBack_6 : decode b_T_writeLineBack 6 = .ok (.imul, 1) := by decide +kernel
theorem d_T_writeLineBack_7 : decode b_T_writeLineBack 7 = .ok (.aload_n 0, 1) := by decide +kernel
theorem d_T_writeLineBack_8 : decode b_T_writeLineBack 8 = .ok (.getfield 9, 3) := by decide +kernel
theorem d_T_writeLineBack_11 : decode b_T_writeLineBack 11 = .ok (.iload_n 1, 1) := by decide +kernel
theorem d_T_writeLineBack_12 : decode b_T_writeLineBack 12 = .ok (.iconst 4, 1) := by decide +kernel
theorem d_T_writeLineBack_13 : decode b_T_writeLineBack 13 = .ok (.imul, 1) := by decide +kernel
theorem d_T_writeLineBack_14 : decode b_T_writeLineBack 14 = .ok (.iconst 4, 1) := by decide +kernel
theorem d_T_writeLineBack_15 : decode b_T_writeLineBack 15 = .ok (.invokestatic 151, 3) := by decide +kernel
theorem d_T_writeLineBack_18 : decode b_T_writeLineBack 18 = .ok (.aload_n 0, 1) := by decide +kernel
theorem d_T_writeLineBack_19 : decode b_T_writeLineBack 19 = .ok (.iload_n 1, 1) := by decide +kernel
theorem d_T_writeLineBack_20 : decode b_T_writeLineBack 20 = .ok (.invokestatic 157, 3) := by decide +kernel
theorem d_T_writeLineBack_23 : decode b_T_writeLineBack 23 = .ok (.invokevirtual 160, 3) := by decide +kernel
theorem d_T_writeLineBack_26 : decode b_T_writeLineBack 26 = .ok (.istore_n 3, 1) := by decide +kernel
theorem d_T_writeLineBack_27 : decode b_T_writeLineBack 27 = .ok (.aload_n 0, 1) := by decide +kernel
theorem d_T_writeLineBack_28 : decode b_T_writeLineBack 28 = .ok (.getfield 29, 3) := by decide +kernel
theorem d_T_writeLineBack_31 : decode b_T_writeLineBack 31 = .ok (.iload_n 3, 1) := by decide +kernel
theorem d_T_writeLineBack_32 : decode b_T_writeLineBack 32 = .ok (.iaload, 1) := by decide +kernel
theorem d_T_writeLineBack_33 : decode b_T_writeLineBack 33 = .ok (.iconst 3, 1) := by decide +kernel
theorem d_T_writeLineBack_34 : decode b_T_writeLineBack 34 = .ok (.iload_n 1, 1) := by decide +kernel
theorem d_T_writeLineBack_35 : decode b_T_writeLineBack 35 = .ok (.invokestatic 135, 3) := by decide +kernel
theorem d_T_writeLineBack_38 : decode b_T_writeLineBack 38 = .ok (.ishl, 1) := by decide +kernel
theorem d_T_writeLineBack_39 : decode b_T_writeLineBack 39 = .ok (.iconst (-1), 1) := by decide +kernel
theorem d_T_writeLineBack_40 : decode b_T_writeLineBack 40 = .ok (.ixor, 1) := by decide +kernel
theorem d_T_writeLineBack_41 : decode b_T_writeLineBack 41 = .ok (.iand, 1) := by decide +kernel
theorem d_T_writeLineBack_42 : decode b_T_writeLineBack 42 = .ok (.istore 4, 2) := by decide +kernel
theorem d_T_writeLineBack_44 : decode b_T_writeLineBack 44 = .ok (.aload_n 0, 1) := by decide +kernel
theorem d_T_writeLineBack_45 : decode b_T_writeLineBack 45 = .ok (.getfield 29, 3) := by decide +kernel
theorem d_T_writeLineBack_48 : decode b_T_writeLineBack 48 = .ok (.iload_n 3, 1) := by decide +kernel
theorem d_T_writeLineBack_49 : decode b_T_writeLineBack 49 = .ok (.iload 4, 2) := by decide +kernel
theorem d_T_writeLineBack_51 : decode b_T_writeLineBack 51 = .ok (.aload_n 0, 1) := by decide +kernel
theorem d_T_writeLineBack_52 : decode b_T_writeLineBack 52 = .ok (.getfield 19, 3) := by decide +kernel
theorem d_T_writeLineBack_55 : decode b_T_writeLineBack 55 = .ok (.iload_n 2, 1) := by decide +kernel
theorem d_T_writeLineBack_56 : decode b_T_writeLineBack 56 = .ok (.iaload, 1) := by decide +kernel
theorem d_T_writeLineBack_57 : decode b_T_writeLineBack 57 = .ok (.iload_n 1, 1) := by decide +kernel
theorem d_T_writeLineBack_58 : decode b_T_writeLineBack 58 = .ok (.invokestatic 135, 3) := by decide +kernel
theorem d_T_writeLineBack_61 : decode b_T_writeLineBack 61 = .ok (.ishl, 1) := by decide +kernel
theorem d_T_writeLineBack_62 : decode b_T_writeLineBack 62 = .ok (.ior, 1) := by decide +kernel
theorem d_T_writeLineBack_63 : decode b_T_writeLineBack 63 = .ok (.iastore, 1) := by decide +kernel
theorem d_T_writeLineBack_64 : decode b_T_writeLineBack 64 = .ok (.aload_n 0, 1) := by decide +kernel
theorem d_T_writeLineBack_65 : decode b_T_writeLineBack 65 = .ok (.getfield 32, 3) := by decide +kernel
theorem d_T_writeLineBack_68 : decode b_T_writeLineBack 68 = .ok (.iload_n 3, 1) := by decide +kernel
theorem d_T_writeLineBack_69 : decode b_T_writeLineBack 69 = .ok (.iconst 1, 1) := by decide +kernel
theorem d_T_writeLineBack_70 : decode b_T_writeLineBack 70 = .ok (.bastore, 1) := by decide +kernel
theorem d_T_writeLineBack_71 : decode b_T_writeLineBack 71 = .ok (.aload_n 0, 1) := by decide +kernel
theorem d_T_writeLineBack_72 : decode b_T_writeLineBack 72 = .ok (.dup, 1) := by decide +kernel
theorem d_T_writeLineBack_73 : decode b_T_writeLineBack 73 = .ok (.getfield 95, 3) := by decide +kernel
theorem d_T_writeLineBack_76 : decode b_T_writeLineBack 76 = .ok (.iconst 1, 1) := by decide +kernel
theorem d_T_writeLineBack_77 : decode b_T_writeLineBack 77 = .ok (.iadd, 1) := by decide +kernel
theorem d_T_writeLineBack_78 : decode b_T_writeLineBack 78 = .ok (.putfield 95, 3) := by decide +kernel
theorem d_T_writeLineBack_81 : decode b_T_writeLineBack 81 = .ok (.return_, 1) := by decide +kernel
theorem d_T_wantRow_0 : decode b_T_wantRow 0 = .ok (.iload_n 1, 1) := by decide +kernel
theorem d_T_wantRow_1 : decode b_T_wantRow 1 = .ok (.invokestatic 170, 3) := by decide +kernel
theorem d_T_wantRow_4 : decode b_T_wantRow 4 = .ok (.istore_n 2, 1) := by decide +kernel
theorem d_T_wantRow_5 : decode b_T_wantRow 5 = .ok (.aload_n 0, 1) := by decide +kernel
theorem d_T_wantRow_6 : decode b_T_wantRow 6 = .ok (.getfield 26, 3) := by decide +kernel
theorem d_T_wantRow_9 : decode b_T_wantRow 9 = .ok (.iload_n 2, 1) := by decide +kernel
theorem d_T_wantRow_10 : decode b_T_wantRow 10 = .ok (.iaload, 1) := by decide +kernel
theorem d_T_wantRow_11 : decode b_T_wantRow 11 = .ok (.iload_n 1, 1) := by decide +kernel
theorem d_T_wantRow_12 : decode b_T_wantRow 12 = .ok (.if_icmp .eq 41, 3) := by decide +kernel
theorem d_T_wantRow_15 : decode b_T_wantRow 15 = .ok (.aload_n 0, 1) := by decide +kernel
theorem d_T_wantRow_16 : decode b_T_wantRow 16 = .ok (.iload_n 2, 1) := by decide +kernel
theorem d_T_wantRow_17 : decode b_T_wantRow 17 = .ok (.invokevirtual 84, 3) := by decide +kernel
theorem d_T_wantRow_20 : decode b_T_wantRow 20 = .ok (.aload_n 0, 1) := by decide +kernel
theorem d_T_wantRow_21 : decode b_T_wantRow 21 = .ok (.getfield 29, 3) := by decide +kernel
theorem d_T_wantRow_24 : decode b_T_wantRow 24 = .ok (.iload_n 2, 1) := by decide +kernel
theorem d_T_wantRow_25 : decode b_T_wantRow 25 = .ok (.aload_n 0, 1) := by decide +kernel
theorem d_T_wantRow_26 : decode b_T_wantRow 26 = .ok (.getfield 9, 3) := by decide +kernel
theorem d_T_wantRow_29 : decode b_T_wantRow 29 = .ok (.sipush 2048, 3) := by decide +kernel
theorem d_T_wantRow_32 : decode b_T_wantRow 32 = .ok (.iload_n 1, 1) := by decide +kernel
theorem d_T_wantRow_33 : decode b_T_wantRow 33 = .ok (.iadd, 1) := by decide +kernel
theorem d_T_wantRow_34 : decode b_T_wantRow 34 = .ok (.iaload, 1) := by decide +kernel
theorem d_T_wantRow_35 : decode b_T_wantRow 35 = .ok (.iastore, 1) := by decide +kernel
theorem d_T_wantRow_36 : decode b_T_wantRow 36 = .ok (.aload_n 0, 1) := by decide +kernel
theorem d_T_wantRow_37 : decode b_T_wantRow 37 = .ok (.getfield 26, 3) := by decide +kernel
theorem d_T_wantRow_40 : decode b_T_wantRow 40 = .ok (.iload_n 2, 1) := by decide +kernel
theorem d_T_wantRow_41 : decode b_T_wantRow 41 = .ok (.iload_n 1, 1) := by decide +kernel
theorem d_T_wantRow_42 : decode b_T_wantRow 42 = .ok (.iastore, 1) := by decide +kernel
theorem d_T_wantRow_43 : decode b_T_wantRow 43 = .ok (.aload_n 0, 1) := by decide +kernel
theorem d_T_wantRow_44 : decode b_T_wantRow 44 = .ok (.dup, 1) := by decide +kernel
theorem d_T_wantRow_45 : decode b_T_wantRow 45 = .ok (.getfield 98, 3) := by decide +kernel
theorem d_T_wantRow_48 : decode b_T_wantRow 48 = .ok (.iconst 1, 1) := by decide +kernel
theorem d_T_wantRow_49 : decode b_T_wantRow 49 = .ok (.iadd, 1) := by decide +kernel
theorem d_T_wantRow_50 : decode b_T_wantRow 50 = .ok (.putfield 98, 3) := by decide +kernel
theorem d_T_wantRow_53 : decode b_T_wantRow 53 = .ok (.iload_n 2, 1) := by decide +kernel
theorem d_T_wantRow_54 : decode b_T_wantRow 54 = .ok (.ireturn, 1) := by decide +kernel
theorem d_T_letRowGo_0 : decode b_T_letRowGo 0 = .ok (.aload_n 0, 1) := by decide +kernel
theorem d_T_letRowGo_1 : decode b_T_letRowGo 1 = .ok (.getfield 26, 3) := by decide +kernel
theorem d_T_letRowGo_4 : decode b_T_letRowGo 4 = .ok (.iload_n 1, 1) := by decide +kernel
theorem d_T_letRowGo_5 : decode b_T_letRowGo 5 = .ok (.iaload, 1) := by decide +kernel
theorem d_T_letRowGo_6 : decode b_T_letRowGo 6 = .ok (.iconst (-1), 1) := by decide +kernel
theorem d_T_letRowGo_7 : decode b_T_letRowGo 7 = .ok (.if_icmp .eq 43, 3) := by decide +kernel
theorem d_T_letRowGo_10 : decode b_T_letRowGo 10 = .ok (.aload_n 0, 1) := by decide +kernel
theorem d_T_letRowGo_11 : decode b_T_letRowGo 11 = .ok (.getfield 32, 3) := by decide +kernel
theorem d_T_letRowGo_14 : decode b_T_letRowGo 14 = .ok (.iload_n 1, 1) := by decide +kernel
theorem d_T_letRowGo_15 : decode b_T_letRowGo 15 = .ok (.baload, 1) := by decide +kernel
theorem d_T_letRowGo_16 : decode b_T_letRowGo 16 = .ok (.ifCond .eq 34, 3) := by decide +kernel
theorem d_T_letRowGo_19 : decode b_T_letRowGo 19 = .ok (.aload_n 0, 1) := by decide +kernel
theorem d_T_letRowGo_20 : decode b_T_letRowGo 20 = .ok (.getfield 9, 3) := by decide +kernel
theorem d_T_letRowGo_23 : decode b_T_letRowGo 23 = .ok (.sipush 2048, 3) := by decide +kernel
theorem d_T_letRowGo_26 : decode b_T_letRowGo 26 = .ok (.aload_n 0, 1) := by decide +kernel
theorem d_T_letRowGo_27 : decode b_T_letRowGo 27 = .ok (.getfield 26, 3) := by decide +kernel
theorem d_T_letRowGo_30 : decode b_T_letRowGo 30 = .ok (.iload_n 1, 1) := by decide +kernel
theorem d_T_letRowGo_31 : decode b_T_letRowGo 31 = .ok (.iaload, 1) := by decide +kernel
theorem d_T_letRowGo_32 : decode b_T_letRowGo 32 = .ok (.iadd, 1) := by decide +kernel
theorem d_T_letRowGo_33 : decode b_T_letRowGo 33 = .ok (.aload_n 0, 1) := by decide +kernel
theorem d_T_letRowGo_34 : decode b_T_letRowGo 34 = .ok (.getfield 29, 3) := by decide +kernel
theorem d_T_letRowGo_37 : decode b_T_letRowGo 37 = .ok (.iload_n 1, 1) := by decide +kernel
theorem d_T_letRowGo_38 : decode b_T_letRowGo 38 = .ok (.iaload, 1) := by decide +kernel
theorem d_T_letRowGo_39 : decode b_T_letRowGo 39 = .ok (.iastore, 1) := by decide +kernel
theorem d_T_letRowGo_40 : decode b_T_letRowGo 40 = .ok (.aload_n 0, 1) := by decide +kernel
theorem d_T_letRowGo_41 : decode b_T_letRowGo 41 = .ok (.dup, 1) := by decide +kernel
theorem d_T_letRowGo_42 : decode b_T_letRowGo 42 = .ok (.getfield 101, 3) := by decide +kernel
theorem d_T_letRowGo_45 : decode b_T_letRowGo 45 = .ok (.iconst 1, 1) := by decide +kernel
theorem d_T_letRowGo_46 : decode b_T_letRowGo 46 = .ok (.iadd, 1) := by decide +kernel
theorem d_T_letRowGo_47 : decode b_T_letRowGo 47 = .ok (.putfield 101, 3) := by decide +kernel
theorem d_T_letRowGo_50 : decode b_T_letRowGo 50 = .ok (.aload_n 0, 1) := by decide +kernel
theorem d_T_letRowGo_51 : decode b_T_letRowGo 51 = .ok (.getfield 26, 3) := by decide +kernel
theorem d_T_letRowGo_54 : decode b_T_letRowGo 54 = .ok (.iload_n 1, 1) := by decide +kernel
theorem d_T_letRowGo_55 : decode b_T_letRowGo 55 = .ok (.iconst (-1), 1) := by decide +kernel
theorem d_T_letRowGo_56 : decode b_T_letRowGo 56 = .ok (.iastore, 1) := by decide +kernel
theorem d_T_letRowGo_57 : decode b_T_letRowGo 57 = .ok (.aload_n 0, 1) := by decide +kernel
theorem d_T_letRowGo_58 : decode b_T_letRowGo 58 = .ok (.getfield 32, 3) := by decide +kernel
theorem d_T_letRowGo_61 : decode b_T_letRowGo 61 = .ok (.iload_n 1, 1) := by decide +kernel
theorem d_T_letRowGo_62 : decode b_T_letRowGo 62 = .ok (.iconst 0, 1) := by decide +kernel
theorem d_T_letRowGo_63 : decode b_T_letRowGo 63 = .ok (.bastore, 1) := by decide +kernel
theorem d_T_letRowGo_64 : decode b_T_letRowGo 64 = .ok (.return_, 1) := by decide +kernel
theorem d_T_peekRow_0 : decode b_T_peekRow 0 = .ok (.iload_n 1, 1) := by decide +kernel
theorem d_T_peekRow_1 : decode b_T_peekRow 1 = .ok (.invokestatic 170, 3) := by decide +kernel
theorem d_T_peekRow_4 : decode b_T_peekRow 4 = .ok (.istore_n 2, 1) := by decide +kernel
theorem d_T_peekRow_5 : decode b_T_peekRow 5 = .ok (.aload_n 0, 1) := by decide +kernel
theorem d_T_peekRow_6 : decode b_T_peekRow 6 = .ok (.getfield 26, 3) := by decide +kernel
theorem d_T_peekRow_9 : decode b_T_peekRow 9 = .ok (.iload_n 2, 1) := by decide +kernel
theorem d_T_peekRow_10 : decode b_T_peekRow 10 = .ok (.iaload, 1) := by decide +kernel
theorem d_T_peekRow_11 : decode b_T_peekRow 11 = .ok (.iload_n 1, 1) := by decide +kernel
theorem d_T_peekRow_12 : decode b_T_peekRow 12 = .ok (.if_icmp .ne 12, 3) := by decide +kernel
theorem d_T_peekRow_15 : decode b_T_peekRow 15 = .ok (.aload_n 0, 1) := by decide +kernel
theorem d_T_peekRow_16 : decode b_T_peekRow 16 = .ok (.getfield 29, 3) := by decide +kernel
theorem d_T_peekRow_19 : decode b_T_peekRow 19 = .ok (.iload_n 2, 1) := by decide +kernel
theorem d_T_peekRow_20 : decode b_T_peekRow 20 = .ok (.iaload, 1) := by decide +kernel
theorem d_T_peekRow_21 : decode b_T_peekRow 21 = .ok (.goto 13, 3) := by decide +kernel
theorem d_T_peekRow_24 : decode b_T_peekRow 24 = .ok (.aload_n 0, 1) := by decide +kernel
theorem d_T_peekRow_25 : decode b_T_peekRow 25 = .ok (.getfield 9, 3) := by decide +kernel
theorem d_T_peekRow_28 : decode b_T_peekRow 28 = .ok (.sipush 2048, 3) := by decide +kernel
theorem d_T_peekRow_31 : decode b_T_peekRow 31 = .ok (.iload_n 1, 1) := by decide +kernel
theorem d_T_peekRow_32 : decode b_T_peekRow 32 = .ok (.iadd, 1) := by decide +kernel
theorem d_T_peekRow_33 : decode b_T_peekRow 33 = .ok (.iaload, 1) := by decide +kernel
theorem d_T_peekRow_34 : decode b_T_peekRow 34 = .ok (.ireturn, 1) := by decide +kernel
theorem d_T_allTags_0 : decode b_T_allTags 0 = .ok (.iconst 0, 1) := by decide +kernel
theorem d_T_allTags_1 : decode b_T_allTags 1 = .ok (.istore_n 1, 1) := by decide +kernel
