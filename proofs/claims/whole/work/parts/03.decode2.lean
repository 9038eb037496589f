theorem d_M_flush_9 : decode b_M_flush 9 = .ok (.iload_n 2, 1) := by decide +kernel
theorem d_M_flush_10 : decode b_M_flush 10 = .ok (.bipush 16, 2) := by decide +kernel
theorem d_M_flush_12 : decode b_M_flush 12 = .ok (.if_icmp .ge 20, 3) := by decide +kernel
theorem d_M_flush_15 : decode b_M_flush 15 = .ok (.aload_n 0, 1) := by decide +kernel
theorem d_M_flush_16 : decode b_M_flush 16 = .ok (.iload_n 2, 1) := by decide +kernel
theorem d_M_flush_17 : decode b_M_flush 17 = .ok (.invokevirtual 49, 3) := by decide +kernel
theorem d_M_flush_20 : decode b_M_flush 20 = .ok (.ifCond .eq 6, 3) := by decide +kernel
theorem d_M_flush_23 : decode b_M_flush 23 = .ok (.iinc 1 1, 3) := by decide +kernel
theorem d_M_flush_26 : decode b_M_flush 26 = .ok (.iinc 2 1, 3) := by decide +kernel
theorem d_M_flush_29 : decode b_M_flush 29 = .ok (.goto (-20), 3) := by decide +kernel
theorem d_M_flush_32 : decode b_M_flush 32 = .ok (.iconst 0, 1) := by decide +kernel
theorem d_M_flush_33 : decode b_M_flush 33 = .ok (.istore_n 2, 1) := by decide +kernel
theorem d_M_flush_34 : decode b_M_flush 34 = .ok (.iload_n 2, 1) := by decide +kernel
theorem d_M_flush_35 : decode b_M_flush 35 = .ok (.iconst 4, 1) := by decide +kernel
theorem d_M_flush_36 : decode b_M_flush 36 = .ok (.if_icmp .ge 14, 3) := by decide +kernel
theorem d_M_flush_39 : decode b_M_flush 39 = .ok (.aload_n 0, 1) := by decide +kernel
theorem d_M_flush_40 : decode b_M_flush 40 = .ok (.iload_n 2, 1) := by decide +kernel
theorem d_M_flush_41 : decode b_M_flush 41 = .ok (.invokevirtual 42, 3) := by decide +kernel
theorem d_M_flush_44 : decode b_M_flush 44 = .ok (.iinc 2 1, 3) := by decide +kernel
theorem d_M_flush_47 : decode b_M_flush 47 = .ok (.goto (-13), 3) := by decide +kernel
theorem d_M_flush_50 : decode b_M_flush 50 = .ok (.iload_n 1, 1) := by decide +kernel
theorem d_M_flush_51 : decode b_M_flush 51 = .ok (.ireturn, 1) := by decide +kernel
theorem d_M_store_0 : decode b_M_store 0 = .ok (.aload_n 0, 1) := by decide +kernel
theorem d_M_store_1 : decode b_M_store 1 = .ok (.iload_n 1, 1) := by decide +kernel
theorem d_M_store_2 : decode b_M_store 2 = .ok (.ifCond .lt 10, 3) := by decide +kernel
theorem d_M_store_5 : decode b_M_store 5 = .ok (.iload_n 1, 1) := by decide +kernel
theorem d_M_store_6 : decode b_M_store 6 = .ok (.sipush 2079, 3) := by decide +kernel
theorem d_M_store_9 : decode b_M_store 9 = .ok (.if_icmp .le 7, 3) := by decide +kernel
theorem d_M_store_12 : decode b_M_store 12 = .ok (.iconst 1, 1) := by decide +kernel
theorem d_M_store_13 : decode b_M_store 13 = .ok (.goto 4, 3) := by decide +kernel
theorem d_M_store_16 : decode b_M_store 16 = .ok (.iconst 0, 1) := by decide +kernel
theorem d_M_store_17 : decode b_M_store 17 = .ok (.iconst 1, 1) := by decide +kernel
theorem d_M_store_18 : decode b_M_store 18 = .ok (.invokevirtual 56, 3) := by decide +kernel
theorem d_M_store_21 : decode b_M_store 21 = .ok (.ifCond .eq 7, 3) := by decide +kernel
theorem d_M_store_24 : decode b_M_store 24 = .ok (.iconst 0, 1) := by decide +kernel
theorem d_M_store_25 : decode b_M_store 25 = .ok (.goto 9, 3) := by decide +kernel
theorem d_M_store_28 : decode b_M_store 28 = .ok (.aload_n 0, 1) := by decide +kernel
theorem d_M_store_29 : decode b_M_store 29 = .ok (.getfield 17, 3) := by decide +kernel
theorem d_M_store_32 : decode b_M_store 32 = .ok (.iload_n 1, 1) := by decide +kernel
theorem d_M_store_33 : decode b_M_store 33 = .ok (.iaload, 1) := by decide +kernel
theorem d_M_store_34 : decode b_M_store 34 = .ok (.ireturn, 1) := by decide +kernel
theorem d_M_kept_0 : decode b_M_kept 0 = .ok (.aload_n 0, 1) := by decide +kernel
theorem d_M_kept_1 : decode b_M_kept 1 = .ok (.iload_n 1, 1) := by decide +kernel
theorem d_M_kept_2 : decode b_M_kept 2 = .ok (.ifCond .lt 9, 3) := by decide +kernel
theorem d_M_kept_5 : decode b_M_kept 5 = .ok (.iload_n 1, 1) := by decide +kernel
theorem d_M_kept_6 : decode b_M_kept 6 = .ok (.bipush 19, 2) := by decide +kernel
theorem d_M_kept_8 : decode b_M_kept 8 = .ok (.if_icmp .le 7, 3) := by decide +kernel
theorem d_M_kept_11 : decode b_M_kept 11 = .ok (.iconst 1, 1) := by decide +kernel
theorem d_M_kept_12 : decode b_M_kept 12 = .ok (.goto 4, 3) := by decide +kernel
theorem d_M_kept_15 : decode b_M_kept 15 = .ok (.iconst 0, 1) := by decide +kernel
theorem d_M_kept_16 : decode b_M_kept 16 = .ok (.iconst 1, 1) := by decide +kernel
theorem d_M_kept_17 : decode b_M_kept 17 = .ok (.invokevirtual 56, 3) := by decide +kernel
theorem d_M_kept_20 : decode b_M_kept 20 = .ok (.ifCond .eq 7, 3) := by decide +kernel
theorem d_M_kept_23 : decode b_M_kept 23 = .ok (.iconst 0, 1) := by decide +kernel
theorem d_M_kept_24 : decode b_M_kept 24 = .ok (.goto 27, 3) := by decide +kernel
theorem d_M_kept_27 : decode b_M_kept 27 = .ok (.iload_n 1, 1) := by decide +kernel
theorem d_M_kept_28 : decode b_M_kept 28 = .ok (.bipush 16, 2) := by decide +kernel
theorem d_M_kept_30 : decode b_M_kept 30 = .ok (.if_icmp .ge 12, 3) := by decide +kernel
theorem d_M_kept_33 : decode b_M_kept 33 = .ok (.aload_n 0, 1) := by decide +kernel
theorem d_M_kept_34 : decode b_M_kept 34 = .ok (.getfield 23, 3) := by decide +kernel
theorem d_M_kept_37 : decode b_M_kept 37 = .ok (.iload_n 1, 1) := by decide +kernel
theorem d_M_kept_38 : decode b_M_kept 38 = .ok (.iaload, 1) := by decide +kernel
theorem d_M_kept_39 : decode b_M_kept 39 = .ok (.goto 12, 3) := by decide +kernel
theorem d_M_kept_42 : decode b_M_kept 42 = .ok (.aload_n 0, 1) := by decide +kernel
theorem d_M_kept_43 : decode b_M_kept 43 = .ok (.getfield 29, 3) := by decide +kernel
theorem d_M_kept_46 : decode b_M_kept 46 = .ok (.iload_n 1, 1) := by decide +kernel
theorem d_M_kept_47 : decode b_M_kept 47 = .ok (.bipush 16, 2) := by decide +kernel
theorem d_M_kept_49 : decode b_M_kept 49 = .ok (.isub, 1) := by decide +kernel
theorem d_M_kept_50 : decode b_M_kept 50 = .ok (.iaload, 1) := by decide +kernel
theorem d_M_kept_51 : decode b_M_kept 51 = .ok (.ireturn, 1) := by decide +kernel
theorem d_M_count_0 : decode b_M_count 0 = .ok (.aload_n 0, 1) := by decide +kernel
theorem d_M_count_1 : decode b_M_count 1 = .ok (.iload_n 1, 1) := by decide +kernel
theorem d_M_count_2 : decode b_M_count 2 = .ok (.ifCond .lt 9, 3) := by decide +kernel
theorem d_M_count_5 : decode b_M_count 5 = .ok (.iload_n 1, 1) := by decide +kernel
theorem d_M_count_6 : decode b_M_count 6 = .ok (.bipush 8, 2) := by decide +kernel
theorem d_M_count_8 : decode b_M_count 8 = .ok (.if_icmp .le 7, 3) := by decide +kernel
theorem d_M_count_11 : decode b_M_count 11 = .ok (.iconst 1, 1) := by decide +kernel
theorem d_M_count_12 : decode b_M_count 12 = .ok (.goto 4, 3) := by decide +kernel
theorem d_M_count_15 : decode b_M_count 15 = .ok (.iconst 0, 1) := by decide +kernel
theorem d_M_count_16 : decode b_M_count 16 = .ok (.iconst 1, 1) := by decide +kernel
theorem d_M_count_17 : decode b_M_count 17 = .ok (.invokevirtual 56, 3) := by decide +kernel
theorem d_M_count_20 : decode b_M_count 20 = .ok (.ifCond .eq 5, 3) := by decide +kernel
theorem d_M_count_23 : decode b_M_count 23 = .ok (.iconst 0, 1) := by decide +kernel
theorem d_M_count_24 : decode b_M_count 24 = .ok (.ireturn, 1) := by decide +kernel
theorem d_M_count_25 : decode b_M_count 25 = .ok (.iload_n 1, 1) := by decide +kernel
theorem d_M_count_26 : decode b_M_count 26 = .ok (.iconst 4, 1) := by decide +kernel
theorem d_M_count_27 : decode b_M_count 27 = .ok (.if_icmp .ge 10, 3) := by decide +kernel
theorem d_M_count_30 : decode b_M_count 30 = .ok (.aload_n 0, 1) := by decide +kernel
theorem d_M_count_31 : decode b_M_count 31 = .ok (.getfield 35, 3) := by decide +kernel
theorem d_M_count_34 : decode b_M_count 34 = .ok (.iload_n 1, 1) := by decide +kernel
theorem d_M_count_35 : decode b_M_count 35 = .ok (.iaload, 1) := by decide +kernel
theorem d_M_count_36 : decode b_M_count 36 = .ok (.ireturn, 1) := by decide +kernel
theorem d_M_count_37 : decode b_M_count 37 = .ok (.iconst 0, 1) := by decide +kernel
theorem d_M_count_38 : decode b_M_count 38 = .ok (.istore_n 2, 1) := by decide +kernel
theorem d_M_count_39 : decode b_M_count 39 = .ok (.iload_n 1, 1) := by decide +kernel
theorem d_M_count_40 : decode b_M_count 40 = .ok (.iconst 4, 1) := by decide +kernel
theorem d_M_count_41 : decode b_M_count 41 = .ok (.if_icmp .ne 30, 3) := by decide +kernel
theorem d_M_count_44 : decode b_M_count 44 = .ok (.iconst 0, 1) := by decide +kernel
theorem d_M_count_45 : decode b_M_count 45 = .ok (.istore_n 3, 1) := by decide +kernel
theorem d_M_count_46 : decode b_M_count 46 = .ok (.iload_n 3, 1) := by decide +kernel
theorem d_M_count_47 : decode b_M_count 47 = .ok (.sipush 1024, 3) := by decide +kernel
theorem d_M_count_50 : decode b_M_count 50 = .ok (.if_icmp .ge 21, 3) := by decide +kernel
theorem d_M_count_53 : decode b_M_count 53 = .ok (.aload_n 0, 1) := by decide +kernel
theorem d_M_count_54 : decode b_M_count 54 = .ok (.getfield 13, 3) := by decide +kernel
theorem d_M_count_57 : decode b_M_count 57 = .ok (.iload_n 3, 1) := by decide +kernel
theorem d_M_count_58 : decode b_M_count 58 = .ok (.baload, 1) := by decide +kernel
theorem d_M_count_59 : decode b_M_count 59 = .ok (.ifCond .eq 6, 3) := by decide +kernel
theorem d_M_count_62 : decode b_M_count 62 = .ok (.iinc 2 1, 3) := by decide +kernel
theorem d_M_count_65 : decode b_M_count 65 = .ok (.iinc 3 1, 3) := by decide +kernel
theorem d_M_count_68 : decode b_M_count 68 = .ok (.goto (-22), 3) := by decide +kernel
theorem d_M_count_71 : decode b_M_count 71 = .ok (.iconst 0, 1) := by decide +kernel
theorem d_M_count_72 : decode b_M_count 72 = .ok (.istore_n 3, 1) := by decide +kernel
theorem d_M_count_73 : decode b_M_count 73 = .ok (.iload_n 1, 1) := by decide +kernel
theorem d_M_count_74 : decode b_M_count 74 = .ok (.iconst 5, 1) := by decide +kernel
theorem d_M_count_75 : decode b_M_count 75 = .ok (.if_icmp .ne 27, 3) := by decide +kernel
theorem d_M_count_78 : decode b_M_count 78 = .ok (.iload_n 3, 1) := by decide +kernel
theorem d_M_count_79 : decode b_M_count 79 = .ok (.bipush 16, 2) := by decide +kernel
theorem d_M_count_81 : decode b_M_count 81 = .ok (.if_icmp .ge 21, 3) := by decide +kernel
theorem d_M_count_84 : decode b_M_count 84 = .ok (.aload_n 0, 1) := by decide +kernel
theorem d_M_count_85 : decode b_M_count 85 = .ok (.getfield 23, 3) := by decide +kernel
theorem d_M_count_88 : decode b_M_count 88 = .ok (.iload_n 3, 1) := by decide +kernel
theorem d_M_count_89 : decode b_M_count 89 = .ok (.iaload, 1) := by decide +kernel
theorem d_M_count_90 : decode b_M_count 90 = .ok (.ifCond .lt 6, 3) := by decide +kernel
theorem d_M_count_93 : decode b_M_count 93 = .ok (.iinc 2 1, 3) := by decide +kernel
theorem d_M_count_96 : decode b_M_count 96 = .ok (.iinc 3 1, 3) := by decide +kernel
theorem d_M_count_99 : decode b_M_count 99 = .ok (.goto (-26), 3) := by decide +kernel
theorem d_M_count_102 : decode b_M_count 102 = .ok (.iconst 0, 1) := by decide +kernel
theorem d_M_count_103 : decode b_M_count 103 = .ok (.istore_n 3, 1) := by decide +kernel
theorem d_M_count_104 : decode b_M_count 104 = .ok (.iload_n 1, 1) := by decide +kernel
theorem d_M_count_105 : decode b_M_count 105 = .ok (.bipush 6, 2) := by decide +kernel
theorem d_M_count_107 : decode b_M_count 107 = .ok (.if_icmp .ne 27, 3) := by decide +kernel
theorem d_M_count_110 : decode b_M_count 110 = .ok (.iload_n 3, 1) := by decide +kernel
theorem d_M_count_111 : decode b_M_count 111 = .ok (.bipush 16, 2) := by decide +kernel
theorem d_M_count_113 : decode b_M_count 113 = .ok (.if_icmp .ge 21, 3) := by decide +kernel
theorem d_M_count_116 : decode b_M_count 116 = .ok (.aload_n 0, 1) := by decide +kernel
theorem d_M_count_117 : decode b_M_count 117 = .ok (.getfield 26, 3) := by decide +kernel
theorem d_M_count_120 : decode b_M_count 120 = .ok (.iload_n 3, 1) := by decide +kernel
theorem d_M_count_121 : decode b_M_count 121 = .ok (.baload, 1) := by decide +kernel
theorem d_M_count_122 : decode b_M_count 122 = .ok (.ifCond .eq 6, 3) := by decide +kernel
theorem d_M_count_125 : decode b_M_count 125 = .ok (.iinc 2 1, 3) := by decide +kernel
theorem d_M_count_128 : decode b_M_count 128 = .ok (.iinc 3 1, 3) := by decide +kernel
theorem d_M_count_131 : decode b_M_count 131 = .ok (.goto (-27), 3) := by decide +kernel
theorem d_M_count_134 : decode b_M_count 134 = .ok (.iconst 0, 1) := by decide +kernel
theorem d_M_count_135 : decode b_M_count 135 = .ok (.istore_n 3, 1) := by decide +kernel
theorem d_M_count_136 : decode b_M_count 136 = .ok (.iload_n 1, 1) := by decide +kernel
theorem d_M_count_137 : decode b_M_count 137 = .ok (.bipush 7, 2) := by decide +kernel
theorem d_M_count_139 : decode b_M_count 139 = .ok (.if_icmp .ne 26, 3) := by decide +kernel
theorem d_M_count_142 : decode b_M_count 142 = .ok (.iload_n 3, 1) := by decide +kernel
theorem d_M_count_143 : decode b_M_count 143 = .ok (.iconst 4, 1) := by decide +kernel
theorem d_M_count_144 : decode b_M_count 144 = .ok (.if_icmp .ge 21, 3) := by decide +kernel
theorem d_M_count_147 : decode b_M_count 147 = .ok (.aload_n 0, 1) := by decide +kernel
theorem d_M_count_148 : decode b_M_count 148 = .ok (.getfield 29, 3) := by decide +kernel
theorem d_M_count_151 : decode b_M_count 151 = .ok (.iload_n 3, 1) := by decide +kernel
theorem d_M_count_152 : decode b_M_count 152 = .ok (.iaload, 1) := by decide +kernel
theorem d_M_count_153 : decode b_M_count 153 = .ok (.ifCond .lt 6, 3) := by decide +kernel
theorem d_M_count_156 : decode b_M_count 156 = .ok (.iinc 2 1, 3) := by decide +kernel
theorem d_M_count_159 : decode b_M_count 159 = .ok (.iinc 3 1, 3) := by decide +kernel
theorem d_M_count_162 : decode b_M_count 162 = .ok (.goto (-26), 3) := by decide +kernel
theorem d_M_count_165 : decode b_M_count 165 = .ok (.iconst 0, 1) := by decide +kernel
theorem d_M_count_166 : decode b_M_count 166 = .ok (.istore_n 3, 1) := by decide +kernel
theorem d_M_count_167 : decode b_M_count 167 = .ok (.iload_n 1, 1) := by decide +kernel
theorem d_M_count_168 : decode b_M_count 168 = .ok (.bipush 8, 2) := by decide +kernel
theorem d_M_count_170 : decode b_M_count 170 = .ok (.if_icmp .ne 26, 3) := by decide +kernel
theorem d_M_count_173 : decode b_M_count 173 = .ok (.iload_n 3, 1) := by decide +kernel
theorem d_M_count_174 : decode b_M_count 174 = .ok (.iconst 4, 1) := by decide +kernel
theorem d_M_count_175 : decode b_M_count 175 = .ok (.if_icmp .ge 21, 3) := by decide +kernel
theorem d_M_count_178 : decode b_M_count 178 = .ok (.aload_n 0, 1) := by decide +kernel
theorem d_M_count_179 : decode b_M_count 179 = .ok (.getfield 32, 3) := by decide +kernel
theorem d_M_count_182 : decode b_M_count 182 = .ok (.iload_n 3, 1) := by decide +kernel
theorem d_M_count_183 : decode b_M_count 183 = .ok (.baload, 1) := by decide +kernel
theorem d_M_count_184 : decode b_M_count 184 = .ok (.ifCond .eq 6, 3) := by decide +kernel
theorem d_M_count_187 : decode b_M_count 187 = .ok (.iinc 2 1, 3) := by decide +kernel
theorem d_M_count_190 : decode b_M_count 190 = .ok (.iinc 3 1, 3) := by decide +kernel
theorem d_M_count_193 : decode b_M_count 193 = .ok (.goto (-26), 3) := by decide +kernel
theorem d_M_count_196 : decode b_M_count 196 = .ok (.iload_n 2, 1) := by decide +kernel
theorem d_M_count_197 : decode b_M_count 197 = .ok (.ireturn, 1) := by decide +kernel
theorem d_M_check_0 : decode b_M_check 0 = .ok (.aload_n 0, 1) := by decide +kernel
theorem d_M_check_1 : decode b_M_check 1 = .ok (.iconst 0, 1) := by decide +kernel
theorem d_M_check_2 : decode b_M_check 2 = .ok (.putfield 38, 3) := by decide +kernel
theorem d_M_check_5 : decode b_M_check 5 = .ok (.iconst 0, 1) := by decide +kernel
theorem d_M_check_6 : decode b_M_check 6 = .ok (.ireturn, 1) := by decide +kernel
theorem d_L_read_0 : decode b_L_read 0 = .ok (.aload_n 2, 1) := by decide +kernel
theorem d_L_read_1 : decode b_L_read 1 = .ok (.iconst 0, 1) := by decide +kernel
theorem d_L_read_2 : decode b_L_read 2 = .ok (.aload_n 0, 1) := by decide +kernel
theorem d_L_read_3 : decode b_L_read 3 = .ok (.iload_n 1, 1) := by decide +kernel
theorem d_L_read_4 : decode b_L_read 4 = .ok (.invokevirtual 7, 3) := by decide +kernel
theorem d_L_read_7 : decode b_L_read 7 = .ok (.i2l, 1) := by decide +kernel
theorem d_L_read_8 : decode b_L_read 8 = .ok (.lastore, 1) := by decide +kernel
theorem d_L_read_9 : decode b_L_read 9 = .ok (.goto 6, 3) := by decide +kernel
theorem d_L_read_12 : decode b_L_read 12 = .ok (.astore_n 3, 1) := by decide +kernel
theorem d_L_read_13 : decode b_L_read 13 = .ok (.iconst 1, 1) := by decide +kernel
theorem d_L_read_14 : decode b_L_read 14 = .ok (.ireturn, 1) := by decide +kernel
theorem d_L_read_15 : decode b_L_read 15 = .ok (.iconst 0, 1) := by decide +kernel
theorem d_L_read_16 : decode b_L_read 16 = .ok (.ireturn, 1) := by decide +kernel
theorem d_L_tag_0 : decode b_L_tag 0 = .ok (.aload_n 2, 1) := by decide +kernel
theorem d_L_tag_1 : decode b_L_tag 1 = .ok (.iconst 0, 1) := by decide +kernel
theorem d_L_tag_2 : decode b_L_tag 2 = .ok (.aload_n 0, 1) := by decide +kernel
theorem d_L_tag_3 : decode b_L_tag 3 = .ok (.iload_n 1, 1) := by decide +kernel
theorem d_L_tag_4 : decode b_L_tag 4 = .ok (.invokevirtual 15, 3) := by decide +kernel
theorem d_L_tag_7 : decode b_L_tag 7 = .ok (.ifCond .eq 7, 3) := by decide +kernel
theorem d_L_tag_10 : decode b_L_tag 10 = .ok (.lconst 1, 1) := by decide +kernel
theorem d_L_tag_11 : decode b_L_tag 11 = .ok (.goto 4, 3) := by decide +kernel
theorem d_L_tag_14 : decode b_L_tag 14 = .ok (.lconst 0, 1) := by decide +kernel
theorem d_L_tag_15 : decode b_L_tag 15 = .ok (.lastore, 1) := by decide +kernel
theorem d_L_tag_16 : decode b_L_tag 16 = .ok (.goto 6, 3) := by decide +kernel
theorem d_L_tag_19 : decode b_L_tag 19 = .ok (.astore_n 3, 1) := by decide +kernel
theorem d_L_tag_20 : decode b_L_tag 20 = .ok (.iconst 1, 1) := by decide +kernel
theorem d_L_tag_21 : decode b_L_tag 21 = .ok (.ireturn, 1) := by decide +kernel
theorem d_L_tag_22 : decode b_L_tag 22 = .ok (.iconst 0, 1) := by decide +kernel
theorem d_L_tag_23 : decode b_L_tag 23 = .ok (.ireturn, 1) := by decide +kernel
theorem d_L_write_0 : decode b_L_write 0 = .ok (.aload_n 3, 1) := by decide +kernel
theorem d_L_write_1 : decode b_L_write 1 = .ok (.iconst 0, 1) := by decide +kernel
theorem d_L_write_2 : decode b_L_write 2 = .ok (.aload_n 0, 1) := by decide +kernel
theorem d_L_write_3 : decode b_L_write 3 = .ok (.iload_n 1, 1) := by decide +kernel
theorem d_L_write_4 : decode b_L_write 4 = .ok (.iload_n 2, 1) := by decide +kernel
theorem d_L_write_5 : decode b_L_write 5 = .ok (.invokevirtual 19, 3) := by decide +kernel
theorem d_L_write_8 : decode b_L_write 8 = .ok (.i2l, 1) := by decide +kernel
theorem d_L_write_9 : decode b_L_write 9 = .ok (.lastore, 1) := by decide +kernel
theorem d_L_write_10 : decode b_L_write 10 = .ok (.goto 7, 3) := by decide +kernel
theorem d_L_write_13 : decode b_L_write 13 = .ok (.astore 4, 2) := by decide +kernel
theorem d_L_write_15 : decode b_L_write 15 = .ok (.iconst 1, 1) := by decide +kernel
theorem d_L_write_16 : decode b_L_write 16 = .ok (.ireturn, 1) := by decide +kernel
theorem d_L_write_17 : decode b_L_write 17 = .ok (.iconst 0, 1) := by decide +kernel
theorem d_L_write_18 : decode b_L_write 18 = .ok (.ireturn, 1) := by decide +kernel
theorem d_L_part_0 : decode b_L_part 0 = .ok (.aload 5, 2) := by decide +kernel
theorem d_L_part_2 : decode b_L_part 2 = .ok (.iconst 0, 1) := by decide +kernel
theorem d_L_part_3 : decode b_L_part 3 = .ok (.aload_n 0, 1) := by decide +kernel
theorem d_L_part_4 : decode b_L_part 4 = .ok (.iload_n 1, 1) := by decide +kernel
theorem d_L_part_5 : decode b_L_part 5 = .ok (.iload_n 2, 1) := by decide +kernel
theorem d_L_part_6 : decode b_L_part 6 = .ok (.iload_n 3, 1) := by decide +kernel
theorem d_L_part_7 : decode b_L_part 7 = .ok (.iload 4, 2) := by decide +kernel
theorem d_L_part_9 : decode b_L_part 9 = .ok (.invokevirtual 23, 3) := by decide +kernel
theorem d_L_part_12 : decode b_L_part 12 = .ok (.i2l, 1) := by decide +kernel
theorem d_L_part_13 : decode b_L_part 13 = .ok (.lastore, 1) := by decide +kernel
theorem d_L_part_14 : decode b_L_part 14 = .ok (.goto 11, 3) := by decide +kernel
theorem d_L_part_17 : decode b_L_part 17 = .ok (.astore 6, 2) := by decide +kernel
theorem d_L_part_19 : decode b_L_part 19 = .ok (.iconst 1, 1) := by decide +kernel
theorem d_L_part_20 : decode b_L_part 20 = .ok (.ireturn, 1) := by decide +kernel
theorem d_L_part_21 : decode b_L_part 21 = .ok (.astore 6, 2) := by decide +kernel
theorem d_L_part_23 : decode b_L_part 23 = .ok (.iconst 2, 1) := by decide +kernel
theorem d_L_part_24 : decode b_L_part 24 = .ok (.ireturn, 1) := by decide +kernel
theorem d_L_part_25 : decode b_L_part 25 = .ok (.iconst 0, 1) := by decide +kernel
theorem d_L_part_26 : decode b_L_part 26 = .ok (.ireturn, 1) := by decide +kernel
theorem d_L_put_0 : decode b_L_put 0 = .ok (.aload_n 0, 1) := by decide +kernel
theorem d_L_put_1 : decode b_L_put 1 = .ok (.iload_n 1, 1) := by decide +kernel
theorem d_L_put_2 : decode b_L_put 2 = .ok (.iload_n 2, 1) := by decide +kernel
theorem d_L_put_3 : decode b_L_put 3 = .ok (.iload_n 3, 1) := by decide +kernel
theorem d_L_put_4 : decode b_L_put 4 = .ok (.iload 4, 2) := by decide +kernel
theorem d_L_put_6 : decode b_L_put 6 = .ok (.invokevirtual 29, 3) := by decide +kernel
theorem d_L_put_9 : decode b_L_put 9 = .ok (.goto 7, 3) := by decide +kernel
theorem d_L_put_12 : decode b_L_put 12 = .ok (.astore 5, 2) := by decide +kernel
theorem d_L_put_14 : decode b_L_put 14 = .ok (.iconst 1, 1) := by decide +kernel
theorem d_L_put_15 : decode b_L_put 15 = .ok (.ireturn, 1) := by decide +kernel
theorem d_L_put_16 : decode b_L_put 16 = .ok (.iconst 0, 1) := by decide +kernel
theorem d_L_put_17 : decode b_L_put 17 = .ok (.ireturn, 1) := by decide +kernel
theorem d_L_copy_0 : decode b_L_copy 0 = .ok (.aload_n 3, 1) := by decide +kernel
theorem d_L_copy_1 : decode b_L_copy 1 = .ok (.iconst 0, 1) := by decide +kernel
theorem d_L_copy_2 : decode b_L_copy 2 = .ok (.aload_n 0, 1) := by decide +kernel
theorem d_L_copy_3 : decode b_L_copy 3 = .ok (.iload_n 1, 1) := by decide +kernel
theorem d_L_copy_4 : decode b_L_copy 4 = .ok (.iload_n 2, 1) := by decide +kernel
theorem d_L_copy_5 : decode b_L_copy 5 = .ok (.invokevirtual 33, 3) := by decide +kernel
theorem d_L_copy_8 : decode b_L_copy 8 = .ok (.ifCond .eq 7, 3) := by decide +kernel
theorem d_L_copy_11 : decode b_L_copy 11 = .ok (.lconst 1, 1) := by decide +kernel
theorem d_L_copy_12 : decode b_L_copy 12 = .ok (.goto 4, 3) := by decide +kernel
theorem d_L_copy_15 : decode b_L_copy 15 = .ok (.lconst 0, 1) := by decide +kernel
theorem d_L_copy_16 : decode b_L_copy 16 = .ok (.lastore, 1) := by decide +kernel
theorem d_L_copy_17 : decode b_L_copy 17 = .ok (.goto 7, 3) := by decide +kernel
theorem d_L_copy_20 : decode b_L_copy 20 = .ok (.astore 4, 2) := by decide +kernel
theorem d_L_copy_22 : decode b_L_copy 22 = .ok (.iconst 1, 1) := by decide +kernel
theorem d_L_copy_23 : decode b_L_copy 23 = .ok (.ireturn, 1) := by decide +kernel
theorem d_L_copy_24 : decode b_L_copy 24 = .ok (.iconst 0, 1) := by decide +kernel
theorem d_L_copy_25 : decode b_L_copy 25 = .ok (.ireturn, 1) := by decide +kernel
theorem d_L_drop_0 : decode b_L_drop 0 = .ok (.aload_n 2, 1) := by decide +kernel
theorem d_L_drop_1 : decode b_L_drop 1 = .ok (.iconst 0, 1) := by decide +kernel
theorem d_L_drop_2 : decode b_L_drop 2 = .ok (.aload_n 0, 1) := by decide +kernel
theorem d_L_drop_3 : decode b_L_drop 3 = .ok (.iload_n 1, 1) := by decide +kernel
theorem d_L_drop_4 : decode b_L_drop 4 = .ok (.invokevirtual 37, 3) := by decide +kernel
theorem d_L_drop_7 : decode b_L_drop 7 = .ok (.i2l, 1) := by decide +kernel
theorem d_L_drop_8 : decode b_L_drop 8 = .ok (.lastore, 1) := by decide +kernel
theorem d_L_drop_9 : decode b_L_drop 9 = .ok (.goto 6, 3) := by decide +kernel
theorem d_L_drop_12 : decode b_L_drop 12 = .ok (.astore_n 3, 1) := by decide +kernel
theorem d_L_drop_13 : decode b_L_drop 13 = .ok (.iconst 1, 1) := by decide +kernel
theorem d_L_drop_14 : decode b_L_drop 14 = .ok (.ireturn, 1) := by decide +kernel
theorem d_L_drop_15 : decode b_L_drop 15 = .ok (.iconst 0, 1) := by decide +kernel
theorem d_L_drop_16 : decode b_L_drop 16 = .ok (.ireturn, 1) := by decide +kernel
theorem d_L_store_0 : decode b_L_store 0 = .ok (.aload_n 2, 1) := by decide +kernel
theorem d_L_store_1 : decode b_L_store 1 = .ok (.iconst 0, 1) := by decide +kernel
theorem d_L_store_2 : decode b_L_store 2 = .ok (.aload_n 0, 1) := by decide +kernel
theorem d_L_store_3 : decode b_L_store 3 = .ok (.iload_n 1, 1) := by decide +kernel
theorem d_L_store_4 : decode b_L_store 4 = .ok (.invokevirtual 40, 3) := by decide +kernel
theorem d_L_store_7 : decode b_L_store 7 = .ok (.i2l, 1) := by decide +kernel
theorem d_L_store_8 : decode b_L_store 8 = .ok (.lastore, 1) := by decide +kernel
theorem d_L_store_9 : decode b_L_store 9 = .ok (.goto 6, 3) := by decide +kernel
theorem d_L_store_12 : decode b_L_store 12 = .ok (.astore_n 3, 1) := by decide +kernel
theorem d_L_store_13 : decode b_L_store 13 = .ok (.iconst 1, 1) := by decide +kernel
theorem d_L_store_14 : decode b_L_store 14 = .ok (.ireturn, 1) := by decide +kernel
theorem d_L_store_15 : decode b_L_store 15 = .ok (.iconst 0, 1) := by decide +kernel
theorem d_L_store_16 : decode b_L_store 16 = .ok (.ireturn, 1) := by decide +kernel
theorem d_L_kept_0 : decode b_L_kept 0 = .ok (.aload_n 2, 1) := by decide +kernel
theorem d_L_kept_1 : decode b_L_kept 1 = .ok (.iconst 0, 1) := by decide +kernel
theorem d_L_kept_2 : decode b_L_kept 2 = .ok (.aload_n 0, 1) := by decide +kernel
theorem d_L_kept_3 : decode b_L_kept 3 = .ok (.iload_n 1, 1) := by decide +kernel
theorem d_L_kept_4 : decode b_L_kept 4 = .ok (.invokevirtual 43, 3) := by decide +kernel
theorem d_L_kept_7 : decode b_L_kept 7 = .ok (.i2l, 1) := by decide +kernel
theorem d_L_kept_8 : decode b_L_kept 8 = .ok (.lastore, 1) := by decide +kernel
theorem d_L_kept_9 : decode b_L_kept 9 = .ok (.goto 6, 3) := by decide +kernel
theorem d_L_kept_12 : decode b_L_kept 12 = .ok (.astore_n 3, 1) := by decide +kernel
theorem d_L_kept_13 : decode b_L_kept 13 = .ok (.iconst 1, 1) := by decide +kernel
theorem d_L_kept_14 : decode b_L_kept 14 = .ok (.ireturn, 1) := by decide +kernel
theorem d_L_kept_15 : decode b_L_kept 15 = .ok (.iconst 0, 1) := by decide +kernel
theorem d_L_kept_16 : decode b_L_kept 16 = .ok (.ireturn, 1) := by decide +kernel
theorem d_L_count_0 : decode b_L_count 0 = .ok (.aload_n 2, 1) := by decide +kernel
theorem d_L_count_1 : decode b_L_count 1 = .ok (.iconst 0, 1) := by decide +kernel
theorem d_L_count_2 : decode b_L_count 2 = .ok (.aload_n 0, 1) := by decide +kernel
theorem d_L_count_3 : decode b_L_count 3 = .ok (.iload_n 1, 1) := by decide +kernel
theorem d_L_count_4 : decode b_L_count 4 = .ok (.invokevirtual 46, 3) := by decide +kernel
theorem d_L_count_7 : decode b_L_count 7 = .ok (.i2l, 1) := by decide +kernel
theorem d_L_count_8 : decode b_L_count 8 = .ok (.lastore, 1) := by decide +kernel
theorem d_L_count_9 : decode b_L_count 9 = .ok (.goto 6, 3) := by decide +kernel
theorem d_L_count_12 : decode b_L_count 12 = .ok (.astore_n 3, 1) := by decide +kernel
theorem d_L_count_13 : decode b_L_count 13 = .ok (.iconst 1, 1) := by decide +kernel
theorem d_L_count_14 : decode b_L_count 14 = .ok (.ireturn, 1) := by decide +kernel
theorem d_L_count_15 : decode b_L_count 15 = .ok (.iconst 0, 1) := by decide +kernel
theorem d_L_count_16 : decode b_L_count 16 = .ok (.ireturn, 1) := by decide +kernel
theorem d_L_law_0 : decode b_L_law 0 = .ok (.new 8, 3) := by decide +kernel
theorem d_L_law_3 : decode b_L_law 3 = .ok (.dup, 1) := by decide +kernel
theorem d_L_law_4 : decode b_L_law 4 = .ok (.invokespecial 49, 3) := by decide +kernel
theorem d_L_law_7 : decode b_L_law 7 = .ok (.astore_n 1, 1) := by decide +kernel
theorem d_L_law_8 : decode b_L_law 8 = .ok (.new 50, 3) := by decide +kernel
theorem d_L_law_11 : decode b_L_law 11 = .ok (.dup, 1) := by decide +kernel
theorem d_L_law_12 : decode b_L_law 12 = .ok (.invokespecial 52, 3) := by decide +kernel
theorem d_L_law_15 : decode b_L_law 15 = .ok (.astore_n 2, 1) := by decide +kernel
theorem d_L_law_16 : decode b_L_law 16 = .ok (.iconst 1, 1) := by decide +kernel
theorem d_L_law_17 : decode b_L_law 17 = .ok (.newarray .long, 2) := by decide +kernel
theorem d_L_law_19 : decode b_L_law 19 = .ok (.astore_n 3, 1) := by decide +kernel
theorem d_L_law_20 : decode b_L_law 20 = .ok (.iconst 0, 1) := by decide +kernel
theorem d_L_law_21 : decode b_L_law 21 = .ok (.istore 4, 2) := by decide +kernel
theorem d_L_law_23 : decode b_L_law 23 = .ok (.iload 4, 2) := by decide +kernel
theorem d_L_law_25 : decode b_L_law 25 = .ok (.aload_n 0, 1) := by decide +kernel
theorem d_L_law_26 : decode b_L_law 26 = .ok (.arraylength, 1) := by decide +kernel
theorem d_L_law_27 : decode b_L_law 27 = .ok (.iconst 5, 1) := by decide +kernel
theorem d_L_law_28 : decode b_L_law 28 = .ok (.isub, 1) := by decide +kernel
theorem d_L_law_29 : decode b_L_law 29 = .ok (.if_icmp .gt 769, 3) := by decide +kernel
theorem d_L_law_32 : decode b_L_law 32 = .ok (.aload_n 0, 1) := by decide +kernel
theorem d_L_law_33 : decode b_L_law 33 = .ok (.iload 4, 2) := by decide +kernel
theorem d_L_law_35 : decode b_L_law 35 = .ok (.iaload, 1) := by decide +kernel
theorem d_L_law_36 : decode b_L_law 36 = .ok (.bipush 15, 2) := by decide +kernel
theorem d_L_law_38 : decode b_L_law 38 = .ok (.iand, 1) := by decide +kernel
theorem d_L_law_39 : decode b_L_law 39 = .ok (.tableswitch 753 0 11 #[61, 117, 180, 248, 340, 428, 503, 559, 572, 628, 684, 740], 61) := by decide +kernel
theorem d_L_law_100 : decode b_L_law 100 = .ok (.aload_n 1, 1) := by decide +kernel
theorem d_L_law_101 : decode b_L_law 101 = .ok (.aload_n 0, 1) := by decide +kernel
theorem d_L_law_102 : decode b_L_law 102 = .ok (.iload 4, 2) := by decide +kernel
theorem d_L_law_104 : decode b_L_law 104 = .ok (.iconst 1, 1) := by decide +kernel
theorem d_L_law_105 : decode b_L_law 105 = .ok (.iadd, 1) := by decide +kernel
theorem d_L_law_106 : decode b_L_law 106 = .ok (.iaload, 1) := by decide +kernel
theorem d_L_law_107 : decode b_L_law 107 = .ok (.aload_n 3, 1) := by decide +kernel
theorem d_L_law_108 : decode b_L_law 108 = .ok (.invokestatic 53, 3) := by decide +kernel
theorem d_L_law_111 : decode b_L_law 111 = .ok (.istore 5, 2) := by decide +kernel
theorem d_L_law_113 : decode b_L_law 113 = .ok (.aload_n 2, 1) := by decide +kernel
theorem d_L_law_114 : decode b_L_law 114 = .ok (.aload_n 0, 1) := by decide +kernel
theorem d_L_law_115 : decode b_L_law 115 = .ok (.iload 4, 2) := by decide +kernel
theorem d_L_law_117 : decode b_L_law 117 = .ok (.iconst 1, 1) := by decide +kernel
theorem d_L_law_118 : decode b_L_law 118 = .ok (.iadd, 1) := by decide +kernel
theorem d_L_law_119 : decode b_L_law 119 = .ok (.iaload, 1) := by decide +kernel
theorem d_L_law_120 : decode b_L_law 120 = .ok (.invokevirtual 58, 3) := by decide +kernel
theorem d_L_law_123 : decode b_L_law 123 = .ok (.istore 6, 2) := by decide +kernel
theorem d_L_law_125 : decode b_L_law 125 = .ok (.aload_n 2, 1) := by decide +kernel
theorem d_L_law_126 : decode b_L_law 126 = .ok (.invokevirtual 59, 3) := by decide +kernel
theorem d_L_law_129 : decode b_L_law 129 = .ok (.iload 5, 2) := by decide +kernel
theorem d_L_law_131 : decode b_L_law 131 = .ok (.if_icmp .eq 5, 3) := by decide +kernel
theorem d_L_law_134 : decode b_L_law 134 = .ok (.iconst 0, 1) := by decide +kernel
theorem d_L_law_135 : decode b_L_law 135 = .ok (.ireturn, 1) := by decide +kernel
theorem d_L_law_136 : decode b_L_law 136 = .ok (.iload 5, 2) := by decide +kernel
theorem d_L_law_138 : decode b_L_law 138 = .ok (.ifCond .ne 15, 3) := by decide +kernel
theorem d_L_law_141 : decode b_L_law 141 = .ok (.aload_n 3, 1) := by decide +kernel
theorem d_L_law_142 : decode b_L_law 142 = .ok (.iconst 0, 1) := by decide +kernel
theorem d_L_law_143 : decode b_L_law 143 = .ok (.laload, 1) := by decide +kernel
theorem d_L_law_144 : decode b_L_law 144 = .ok (.iload 6, 2) := by decide +kernel
theorem d_L_law_146 : decode b_L_law 146 = .ok (.i2l, 1) := by decide +kernel
theorem d_L_law_147 : decode b_L_law 147 = .ok (.lcmp, 1) := by decide +kernel
theorem d_L_law_148 : decode b_L_law 148 = .ok (.ifCond .eq 5, 3) := by decide +kernel
theorem d_L_law_151 : decode b_L_law 151 = .ok (.iconst 0, 1) := by decide +kernel
theorem d_L_law_152 : decode b_L_law 152 = .ok (.ireturn, 1) := by decide +kernel
theorem d_L_law_153 : decode b_L_law 153 = .ok (.goto 639, 3) := by decide +kernel
theorem d_L_law_156 : decode b_L_law 156 = .ok (.aload_n 1, 1) := by decide +kernel
theorem d_L_law_157 : decode b_L_law 157 = .ok (.aload_n 0, 1) := by decide +kernel
theorem d_L_law_158 : decode b_L_law 158 = .ok (.iload 4, 2) := by decide +kernel
theorem d_L_law_160 : decode b_L_law 160 = .ok (.iconst 1, 1) := by decide +kernel
theorem d_L_law_161 : decode b_L_law 161 = .ok (.iadd, 1) := by decide +kernel
theorem d_L_law_162 : decode b_L_law 162 = .ok (.iaload, 1) := by decide +kernel
theorem d_L_law_163 : decode b_L_law 163 = .ok (.aload_n 3, 1) := by decide +kernel
theorem d_L_law_164 : decode b_L_law 164 = .ok (.invokestatic 63, 3) := by decide +kernel
theorem d_L_law_167 : decode b_L_law 167 = .ok (.istore 5, 2) := by decide +kernel
theorem d_L_law_169 : decode b_L_law 169 = .ok (.aload_n 2, 1) := by decide +kernel
theorem d_L_law_170 : decode b_L_law 170 = .ok (.aload_n 0, 1) := by decide +kernel
theorem d_L_law_171 : decode b_L_law 171 = .ok (.iload 4, 2) := by decide +kernel
theorem d_L_law_173 : decode b_L_law 173 = .ok (.iconst 1, 1) := by decide +kernel
theorem d_L_law_174 : decode b_L_law 174 = .ok (.iadd, 1) := by decide +kernel
theorem d_L_law_175 : decode b_L_law 175 = .ok (.iaload, 1) := by decide +kernel
theorem d_L_law_176 : decode b_L_law 176 = .ok (.invokevirtual 65, 3) := by decide +kernel
theorem d_L_law_179 : decode b_L_law 179 = .ok (.istore 6, 2) := by decide +kernel
theorem d_L_law_181 : decode b_L_law 181 = .ok (.aload_n 2, 1) := by decide +kernel
theorem d_L_law_182 : decode b_L_law 182 = .ok (.invokevirtual 59, 3) := by decide +kernel
theorem d_L_law_185 : decode b_L_law 185 = .ok (.iload 5, 2) := by decide +kernel
theorem d_L_law_187 : decode b_L_law 187 = .ok (.if_icmp .eq 5, 3) := by decide +kernel
theorem d_L_law_190 : decode b_L_law 190 = .ok (.iconst 0, 1) := by decide +kernel
theorem d_L_law_191 : decode b_L_law 191 = .ok (.ireturn, 1) := by decide +kernel
theorem d_L_law_192 : decode b_L_law 192 = .ok (.iload 5, 2) := by decide +kernel
theorem d_L_law_194 : decode b_L_law 194 = .ok (.ifCond .ne 22, 3) := by decide +kernel
theorem d_L_law_197 : decode b_L_law 197 = .ok (.aload_n 3, 1) := by decide +kernel
theorem d_L_law_198 : decode b_L_law 198 = .ok (.iconst 0, 1) := by decide +kernel
theorem d_L_law_199 : decode b_L_law 199 = .ok (.laload, 1) := by decide +kernel
theorem d_L_law_200 : decode b_L_law 200 = .ok (.iload 6, 2) := by decide +kernel
theorem d_L_law_202 : decode b_L_law 202 = .ok (.ifCond .eq 7, 3) := by decide +kernel
theorem d_L_law_205 : decode b_L_law 205 = .ok (.lconst 1, 1) := by decide +kernel
theorem d_L_law_206 : decode b_L_law 206 = .ok (.goto 4, 3) := by decide +kernel
theorem d_L_law_209 : decode b_L_law 209 = .ok (.lconst 0, 1) := by decide +kernel
theorem d_L_law_210 : decode b_L_law 210 = .ok (.lcmp, 1) := by decide +kernel
theorem d_L_law_211 : decode b_L_law 211 = .ok (.ifCond .eq 5, 3) := by decide +kernel
theorem d_L_law_214 : decode b_L_law 214 = .ok (.iconst 0, 1) := by decide +kernel
theorem d_L_law_215 : decode b_L_law 215 = .ok (.ireturn, 1) := by decide +kernel
theorem d_L_law_216 : decode b_L_law 216 = .ok (.goto 576, 3) := by decide +kernel
theorem d_L_law_219 : decode b_L_law 219 = .ok (.aload_n 1, 1) := by decide +kernel
theorem d_L_law_220 : decode b_L_law 220 = .ok (.aload_n 0, 1) := by decide +kernel
theorem d_L_law_221 : decode b_L_law 221 = .ok (.iload 4, 2) := by decide +kernel
theorem d_L_law_223 : decode b_L_law 223 = .ok (.iconst 1, 1) := by decide +kernel
theorem d_L_law_224 : decode b_L_law 224 = .ok (.iadd, 1) := by decide +kernel
theorem d_L_law_225 : decode b_L_law 225 = .ok (.iaload, 1) := by decide +kernel
theorem d_L_law_226 : decode b_L_law 226 = .ok (.aload_n 0, 1) := by decide +kernel
theorem d_L_law_227 : decode b_L_law 227 = .ok (.iload 4, 2) := by decide +kernel
theorem d_L_law_229 : decode b_L_law 229 = .ok (.iconst 2, 1) := by decide +kernel
theorem d_L_law_230 : decode b_L_law 230 = .ok (.iadd, 1) := by decide +kernel
theorem d_L_law_231 : decode b_L_law 231 = .ok (.iaload, 1) := by decide +kernel
theorem d_L_law_232 : decode b_L_law 232 = .ok (.aload_n 3, 1) := by decide +kernel
theorem d_L_law_233 : decode b_L_law 233 = .ok (.invokestatic 66, 3) := by decide +kernel
theorem d_L_law_236 : decode b_L_law 236 = .ok (.istore 5, 2) := by decide +kernel
theorem d_L_law_238 : decode b_L_law 238 = .ok (.aload_n 2, 1) := by decide +kernel
theorem d_L_law_239 : decode b_L_law 239 = .ok (.aload_n 0, 1) := by decide +kernel
theorem d_L_law_240 : decode b_L_law 240 = .ok (.iload 4, 2) := by decide +kernel
theorem d_L_law_242 : decode b_L_law 242 = .ok (.iconst 1, 1) := by decide +kernel
theorem d_L_law_243 : decode b_L_law 243 = .ok (.iadd, 1) := by decide +kernel
theorem d_L_law_244 : decode b_L_law 244 = .ok (.iaload, 1) := by decide +kernel
theorem d_L_law_245 : decode b_L_law 245 = .ok (.aload_n 0, 1) := by decide +kernel
theorem d_L_law_246 : decode b_L_law 246 = .ok (.iload 4, 2) := by decide +kernel
theorem d_L_law_248 : decode b_L_law 248 = .ok (.iconst 2, 1) := by decide +kernel
theorem d_L_law_249 : decode b_L_law 249 = .ok (.iadd, 1) := by decide +kernel
theorem d_L_law_250 : decode b_L_law 250 = .ok (.iaload, 1) := by decide +kernel
theorem d_L_law_251 : decode b_L_law 251 = .ok (.invokevirtual 69, 3) := by decide +kernel
theorem d_L_law_254 : decode b_L_law 254 = .ok (.istore 6, 2) := by decide +kernel
theorem d_L_law_256 : decode b_L_law 256 = .ok (.aload_n 2, 1) := by decide +kernel
theorem d_L_law_257 : decode b_L_law 257 = .ok (.invokevirtual 59, 3) := by decide +kernel
theorem d_L_law_260 : decode b_L_law 260 = .ok (.iload 5, 2) := by decide +kernel
theorem d_L_law_262 : decode b_L_law 262 = .ok (.if_icmp .eq 5, 3) := by decide +kernel
theorem d_L_law_265 : decode b_L_law 265 = .ok (.iconst 0, 1) := by decide +kernel
theorem d_L_law_266 : decode b_L_law 266 = .ok (.ireturn, 1) := by decide +kernel
theorem d_L_law_267 : decode b_L_law 267 = .ok (.iload 5, 2) := by decide +kernel
theorem d_L_law_269 : decode b_L_law 269 = .ok (.ifCond .ne 15, 3) := by decide +kernel
theorem d_L_law_272 : decode b_L_law 272 = .ok (.aload_n 3, 1) := by decide +kernel
theorem d_L_law_273 : decode b_L_law 273 = .ok (.iconst 0, 1) := by decide +kernel
theorem d_L_law_274 : decode b_L_law 274 = .ok (.laload, 1) := by decide +kernel
theorem d_L_law_275 : decode b_L_law 275 = .ok (.iload 6, 2) := by decide +kernel
theorem d_L_law_277 : decode b_L_law 277 = .ok (.i2l, 1) := by decide +kernel
theorem d_L_law_278 : decode b_L_law 278 = .ok (.lcmp, 1) := by decide +kernel
theorem d_L_law_279 : decode b_L_law 279 = .ok (.ifCond .eq 5, 3) := by decide +kernel
theorem d_L_law_282 : decode b_L_law 282 = .ok (.iconst 0, 1) := by decide +kernel
theorem d_L_law_283 : decode b_L_law 283 = .ok (.ireturn, 1) := by decide +kernel
theorem d_L_law_284 : decode b_L_law 284 = .ok (.goto 508, 3) := by decide +kernel
theorem d_L_law_287 : decode b_L_law 287 = .ok (.aload_n 1, 1) := by decide +kernel
theorem d_L_law_288 : decode b_L_law 288 = .ok (.aload_n 0, 1) := by decide +kernel
theorem d_L_law_289 : decode b_L_law 289 = .ok (.iload 4, 2) := by decide +kernel
theorem d_L_law_291 : decode b_L_law 291 = .ok (.iconst 1, 1) := by decide +kernel
theorem d_L_law_292 : decode b_L_law 292 = .ok (.iadd, 1) := by decide +kernel
theorem d_L_law_293 : decode b_L_law 293 = .ok (.iaload, 1) := by decide +kernel
theorem d_L_law_294 : decode b_L_law 294 = .ok (.aload_n 0, 1) := by decide +kernel
theorem d_L_law_295 : decode b_L_law 295 = .ok (.iload 4, 2) := by decide +kernel
theorem d_L_law_297 : decode b_L_law 297 = .ok (.iconst 2, 1) := by decide +kernel
theorem d_L_law_298 : decode b_L_law 298 = .ok (.iadd, 1) := by decide +kernel
theorem d_L_law_299 : decode b_L_law 299 = .ok (.iaload, 1) := by decide +kernel
theorem d_L_law_300 : decode b_L_law 300 = .ok (.aload_n 0, 1) := by decide +kernel
theorem d_L_law_301 : decode b_L_law 301 = .ok (.iload 4, 2) := by decide +kernel
theorem d_L_law_303 : decode b_L_law 303 = .ok (.iconst 3, 1) := by decide +kernel
theorem d_L_law_304 : decode b_L_law 304 = .ok (.iadd, 1) := by decide +kernel
theorem d_L_law_305 : decode b_L_law 305 = .ok (.iaload, 1) := by decide +kernel
theorem d_L_law_306 : decode b_L_law 306 = .ok (.aload_n 0, 1) := by decide +kernel
theorem d_L_law_307 : decode b_L_law 307 = .ok (.iload 4, 2) := by decide +kernel
theorem d_L_law_309 : decode b_L_law 309 = .ok (.iconst 4, 1) := by decide +kernel
theorem d_L_law_310 : decode b_L_law 310 = .ok (.iadd, 1) := by decide +kernel
theorem d_L_law_311 : decode b_L_law 311 = .ok (.iaload, 1) := by decide +kernel
theorem d_L_law_312 : decode b_L_law 312 = .ok (.aload_n 3, 1) := by decide +kernel
theorem d_L_law_313 : decode b_L_law 313 = .ok (.invokestatic 70, 3) := by decide +kernel
theorem d_L_law_316 : decode b_L_law 316 = .ok (.istore 5, 2) := by decide +kernel
theorem d_L_law_318 : decode b_L_law 318 = .ok (.aload_n 2, 1) := by decide +kernel
theorem d_L_law_319 : decode b_L_law 319 = .ok (.aload_n 0, 1) := by decide +kernel
theorem d_L_law_320 : decode b_L_law 320 = .ok (.iload 4, 2) := by decide +kernel
theorem d_L_law_322 : decode b_L_law 322 = .ok (.iconst 1, 1) := by decide +kernel
theorem d_L_law_323 : decode b_L_law 323 = .ok (.iadd, 1) := by decide +kernel
theorem d_L_law_324 : decode b_L_law 324 = .ok (.iaload, 1) := by decide +kernel
theorem d_L_law_325 : decode b_L_law 325 = .ok (.aload_n 0, 1) := by decide +kernel
theorem d_L_law_326 : decode b_L_law 326 = .ok (.iload 4, 2) := by decide +kernel
theorem d_L_law_328 : decode b_L_law 328 = .ok (.iconst 2, 1) := by decide +kernel
theorem d_L_law_329 : decode b_L_law 329 = .ok (.iadd, 1) := by decide +kernel
theorem d_L_law_330 : decode b_L_law 330 = .ok (.iaload, 1) := by decide +kernel
theorem d_L_law_331 : decode b_L_law 331 = .ok (.aload_n 0, 1) := by decide +kernel
theorem d_L_law_332 : decode b_L_law 332 = .ok (.iload 4, 2) := by decide +kernel
theorem d_L_law_334 : decode b_L_law 334 = .ok (.iconst 3, 1) := by decide +kernel
theorem d_L_law_335 : decode b_L_law 335 = .ok (.iadd, 1) := by decide +kernel
theorem d_L_law_336 : decode b_L_law 336 = .ok (.iaload, 1) := by decide +kernel
theorem d_L_law_337 : decode b_L_law 337 = .ok (.aload_n 0, 1) := by decide +kernel
theorem d_L_law_338 : decode b_L_law 338 = .ok (.iload 4, 2) := by decide +kernel
theorem d_L_law_340 : decode b_L_law 340 = .ok (.iconst 4, 1) := by decide +kernel
theorem d_L_law_341 : decode b_L_law 341 = .ok (.iadd, 1) := by decide +kernel
theorem d_L_law_342 : decode b_L_law 342 = .ok (.iaload, 1) := by decide +kernel
theorem d_L_law_343 : decode b_L_law 343 = .ok (.invokevirtual 73, 3) := by decide +kernel
theorem d_L_law_346 : decode b_L_law 346 = .ok (.istore 6, 2) := by decide +kernel
theorem d_L_law_348 : decode b_L_law 348 = .ok (.aload_n 2, 1) := by decide +kernel
theorem d_L_law_349 : decode b_L_law 349 = .ok (.invokevirtual 59, 3) := by decide +kernel
theorem d_L_law_352 : decode b_L_law 352 = .ok (.iload 5, 2) := by decide +kernel
theorem d_L_law_354 : decode b_L_law 354 = .ok (.if_icmp .eq 5, 3) := by decide +kernel
theorem d_L_law_357 : decode b_L_law 357 = .ok (.iconst 0, 1) := by decide +kernel
theorem d_L_law_358 : decode b_L_law 358 = .ok (.ireturn, 1) := by decide +kernel
theorem d_L_law_359 : decode b_L_law 359 = .ok (.iload 5, 2) := by decide +kernel
theorem d_L_law_361 : decode b_L_law 361 = .ok (.ifCond .ne 15, 3) := by decide +kernel
theorem d_L_law_364 : decode b_L_law 364 = .ok (.aload_n 3, 1) := by decide +kernel
theorem d_L_law_365 : decode b_L_law 365 = .ok (.iconst 0, 1) := by decide +kernel
theorem d_L_law_366 : decode b_L_law 366 = .ok (.laload, 1) := by decide +kernel
theorem d_L_law_367 : decode b_L_law 367 = .ok (.iload 6, 2) := by decide +kernel
theorem d_L_law_369 : decode b_L_law 369 = .ok (.i2l, 1) := by decide +kernel
theorem d_L_law_370 : decode b_L_law 370 = .ok (.lcmp, 1) := by decide +kernel
theorem d_L_law_371 : decode b_L_law 371 = .ok (.ifCond .eq 5, 3) := by decide +kernel
theorem d_L_law_374 : decode b_L_law 374 = .ok (.iconst 0, 1) := by decide +kernel
theorem d_L_law_375 : decode b_L_law 375 = .ok (.ireturn, 1) := by decide +kernel
theorem d_L_law_376 : decode b_L_law 376 = .ok (.goto 416, 3) := by decide +kernel
theorem d_L_law_379 : decode b_L_law 379 = .ok (.aload_n 1, 1) := by decide +kernel
theorem d_L_law_380 : decode b_L_law 380 = .ok (.aload_n 0, 1) := by decide +kernel
theorem d_L_law_381 : decode b_L_law 381 = .ok (.iload 4, 2) := by decide +kernel
theorem d_L_law_383 : decode b_L_law 383 = .ok (.iconst 1, 1) := by decide +kernel
theorem d_L_law_384 : decode b_L_law 384 = .ok (.iadd, 1) := by decide +kernel
theorem d_L_law_385 : decode b_L_law 385 = .ok (.iaload, 1) := by decide +kernel
theorem d_L_law_386 : decode b_L_law 386 = .ok (.aload_n 0, 1) := by decide +kernel
theorem d_L_law_387 : decode b_L_law 387 = .ok (.iload 4, 2) := by decide +kernel
theorem d_L_law_389 : decode b_L_law 389 = .ok (.iconst 2, 1) := by decide +kernel
theorem d_L_law_390 : decode b_L_law 390 = .ok (.iadd, 1) := by decide +kernel
theorem d_L_law_391 : decode b_L_law 391 = .ok (.iaload, 1) := by decide +kernel
theorem d_L_law_392 : decode b_L_law 392 = .ok (.aload_n 0, 1) := by decide +kernel
theorem d_L_law_393 : decode b_L_law 393 = .ok (.iload 4, 2) := by decide +kernel
theorem d_L_law_395 : decode b_L_law 395 = .ok (.iconst 3, 1) := by decide +kernel
theorem d_L_law_396 : decode b_L_law 396 = .ok (.iadd, 1) := by decide +kernel
theorem d_L_law_397 : decode b_L_law 397 = .ok (.iaload, 1) := by decide +kernel
theorem d_L_law_398 : decode b_L_law 398 = .ok (.aload_n 0, 1) := by decide +kernel
theorem d_L_law_399 : decode b_L_law 399 = .ok (.iload 4, 2) := by decide +kernel
theorem d_L_law_401 : decode b_L_law 401 = .ok (.iconst 4, 1) := by decide +kernel
theorem d_L_law_402 : decode b_L_law 402 = .ok (.iadd, 1) := by decide +kernel
theorem d_L_law_403 : decode b_L_law 403 = .ok (.iaload, 1) := by decide +kernel
theorem d_L_law_404 : decode b_L_law 404 = .ok (.ifCond .eq 7, 3) := by decide +kernel
theorem d_L_law_407 : decode b_L_law 407 = .ok (.iconst 1, 1) := by decide +kernel
theorem d_L_law_408 : decode b_L_law 408 = .ok (.goto 4, 3) := by decide +kernel
theorem d_L_law_411 : decode b_L_law 411 = .ok (.iconst 0, 1) := by decide +kernel
theorem d_L_law_412 : decode b_L_law 412 = .ok (.invokestatic 74, 3) := by decide +kernel
theorem d_L_law_415 : decode b_L_law 415 = .ok (.istore 5, 2) := by decide +kernel
theorem d_L_law_417 : decode b_L_law 417 = .ok (.aload_n 2, 1) := by decide +kernel
theorem d_L_law_418 : decode b_L_law 418 = .ok (.aload_n 0, 1) := by decide +kernel
theorem d_L_law_419 : decode b_L_law 419 = .ok (.iload 4, 2) := by decide +kernel
theorem d_L_law_421 : decode b_L_law 421 = .ok (.iconst 1, 1) := by decide +kernel
theorem d_L_law_422 : decode b_L_law 422 = .ok (.iadd, 1) := by decide +kernel
theorem d_L_law_423 : decode b_L_law 423 = .ok (.iaload, 1) := by decide +kernel
theorem d_L_law_424 : decode b_L_law 424 = .ok (.aload_n 0, 1) := by decide +kernel
theorem d_L_law_425 : decode b_L_law 425 = .ok (.iload 4, 2) := by decide +kernel
theorem d_L_law_427 : decode b_L_law 427 = .ok (.iconst 2, 1) := by decide +kernel
theorem d_L_law_428 : decode b_L_law 428 = .ok (.iadd, 1) := by decide +kernel
theorem d_L_law_429 : decode b_L_law 429 = .ok (.iaload, 1) := by decide +kernel
theorem d_L_law_430 : decode b_L_law 430 = .ok (.aload_n 0, 1) := by decide +kernel
theorem d_L_law_431 : decode b_L_law 431 = .ok (.iload 4, 2) := by decide +kernel
theorem d_L_law_433 : decode b_L_law 433 = .ok (.iconst 3, 1) := by decide +kernel
theorem d_L_law_434 : decode b_L_law 434 = .ok (.iadd, 1) := by decide +kernel
theorem d_L_law_435 : decode b_L_law 435 = .ok (.iaload, 1) := by decide +kernel
theorem d_L_law_436 : decode b_L_law 436 = .ok (.aload_n 0, 1) := by decide +kernel
theorem d_L_law_437 : decode b_L_law 437 = .ok (.iload 4, 2) := by decide +kernel
theorem d_L_law_439 : decode b_L_law 439 = .ok (.iconst 4, 1) := by decide +kernel
theorem d_L_law_440 : decode b_L_law 440 = .ok (.iadd, 1) := by decide +kernel
theorem d_L_law_441 : decode b_L_law 441 = .ok (.iaload, 1) := by decide +kernel
theorem d_L_law_442 : decode b_L_law 442 = .ok (.ifCond .eq 7, 3) := by decide +kernel
theorem d_L_law_445 : decode b_L_law 445 = .ok (.iconst 1, 1) := by decide +kernel
theorem d_L_law_446 : decode b_L_law 446 = .ok (.goto 4, 3) := by decide +kernel
theorem d_L_law_449 : decode b_L_law 449 = .ok (.iconst 0, 1) := by decide +kernel
theorem d_L_law_450 : decode b_L_law 450 = .ok (.invokevirtual 77, 3) := by decide +kernel
theorem d_L_law_453 : decode b_L_law 453 = .ok (.aload_n 2, 1) := by decide +kernel
theorem d_L_law_454 : decode b_L_law 454 = .ok (.invokevirtual 59, 3) := by decide +kernel
theorem d_L_law_457 : decode b_L_law 457 = .ok (.iload 5, 2) := by decide +kernel
theorem d_L_law_459 : decode b_L_law 459 = .ok (.if_icmp .eq 5, 3) := by decide +kernel
theorem d_L_law_462 : decode b_L_law 462 = .ok (.iconst 0, 1) := by decide +kernel
theorem d_L_law_463 : decode b_L_law 463 = .ok (.ireturn, 1) := by decide +kernel
theorem d_L_law_464 : decode b_L_law 464 = .ok (.goto 328, 3) := by decide +kernel
theorem d_L_law_467 : decode b_L_law 467 = .ok (.aload_n 1, 1) := by decide +kernel
theorem d_L_law_468 : decode b_L_law 468 = .ok (.aload_n 0, 1) := by decide +kernel
theorem d_L_law_469 : decode b_L_law 469 = .ok (.iload 4, 2) := by decide +kernel
theorem d_L_law_471 : decode b_L_law 471 = .ok (.iconst 1, 1) := by decide +kernel
theorem d_L_law_472 : decode b_L_law 472 = .ok (.iadd, 1) := by decide +kernel
theorem d_L_law_473 : decode b_L_law 473 = .ok (.iaload, 1) := by decide +kernel
theorem d_L_law_474 : decode b_L_law 474 = .ok (.aload_n 0, 1) := by decide +kernel
theorem d_L_law_475 : decode b_L_law 475 = .ok (.iload 4, 2) := by decide +kernel
theorem d_L_law_477 : decode b_L_law 477 = .ok (.iconst 2, 1) := by decide +kernel
theorem d_L_law_478 : decode b_L_law 478 = .ok (.iadd, 1) := by decide +kernel
theorem d_L_law_479 : decode b_L_law 479 = .ok (.iaload, 1) := by decide +kernel
theorem d_L_law_480 : decode b_L_law 480 = .ok (.aload_n 3, 1) := by decide +kernel
theorem d_L_law_481 : decode b_L_law 481 = .ok (.invokestatic 78, 3) := by decide +kernel
theorem d_L_law_484 : decode b_L_law 484 = .ok (.istore 5, 2) := by decide +kernel
theorem d_L_law_486 : decode b_L_law 486 = .ok (.aload_n 2, 1) := by decide +kernel
theorem d_L_law_487 : decode b_L_law 487 = .ok (.aload_n 0, 1) := by decide +kernel
theorem d_L_law_488 : decode b_L_law 488 = .ok (.iload 4, 2) := by decide +kernel
theorem d_L_law_490 : decode b_L_law 490 = .ok (.iconst 1, 1) := by decide +kernel
theorem d_L_law_491 : decode b_L_law 491 = .ok (.iadd, 1) := by decide +kernel
theorem d_L_law_492 : decode b_L_law 492 = .ok (.iaload, 1) := by decide +kernel
theorem d_L_law_493 : decode b_L_law 493 = .ok (.aload_n 0, 1) := by decide +kernel
theorem d_L_law_494 : decode b_L_law 494 = .ok (.iload 4, 2) := by decide +kernel
theorem d_L_law_496 : decode b_L_law 496 = .ok (.iconst 2, 1) := by decide +kernel
theorem d_L_law_497 : decode b_L_law 497 = .ok (.iadd, 1) := by decide +kernel
theorem d_L_law_498 : decode b_L_law 498 = .ok (.iaload, 1) := by decide +kernel
theorem d_L_law_499 : decode b_L_law 499 = .ok (.invokevirtual 80, 3) := by decide +kernel
theorem d_L_law_502 : decode b_L_law 502 = .ok (.istore 6, 2) := by decide +kernel
theorem d_L_law_504 : decode b_L_law 504 = .ok (.aload_n 2, 1) := by decide +kernel
theorem d_L_law_505 : decode b_L_law 505 = .ok (.invokevirtual 59, 3) := by decide +kernel
theorem d_L_law_508 : decode b_L_law 508 = .ok (.iload 5, 2) := by decide +kernel
theorem d_L_law_510 : decode b_L_law 510 = .ok (.if_icmp .eq 5, 3) := by decide +kernel
theorem d_L_law_513 : decode b_L_law 513 = .ok (.iconst 0, 1) := by decide +kernel
theorem d_L_law_514 : decode b_L_law 514 = .ok (.ireturn, 1) := by decide +kernel
theorem d_L_law_515 : decode b_L_law 515 = .ok (.iload 5, 2) := by decide +kernel
theorem d_L_law_517 : decode b_L_law 517 = .ok (.ifCond .ne 22, 3) := by decide +kernel
theorem d_L_law_520 : decode b_L_law 520 = .ok (.aload_n 3, 1) := by decide +kernel
theorem d_L_law_521 : decode b_L_law 521 = .ok (.iconst 0, 1) := by decide +kernel
theorem d_L_law_522 : decode b_L_law 522 = .ok (.laload, 1) := by decide +kernel
theorem d_L_law_523 : decode b_L_law 523 = .ok (.iload 6, 2) := by decide +kernel
theorem d_L_law_525 : decode b_L_law 525 = .ok (.ifCond .eq 7, 3) := by decide +kernel
theorem d_L_law_528 : decode b_L_law 528 = .ok (.lconst 1, 1) := by decide +kernel
theorem d_L_law_529 : decode b_L_law 529 = .ok (.goto 4, 3) := by decide +kernel
theorem d_L_law_532 : decode b_L_law 532 = .ok (.lconst 0, 1) := by decide +kernel
theorem d_L_law_533 : decode b_L_law 533 = .ok (.lcmp, 1) := by decide +kernel
theorem d_L_law_534 : decode b_L_law 534 = .ok (.ifCond .eq 5, 3) := by decide +kernel
theorem d_L_law_537 : decode b_L_law 537 = .ok (.iconst 0, 1) := by decide +kernel
theorem d_L_law_538 : decode b_L_law 538 = .ok (.ireturn, 1) := by decide +kernel
theorem d_L_law_539 : decode b_L_law 539 = .ok (.goto 253, 3) := by decide +kernel
theorem d_L_law_542 : decode b_L_law 542 = .ok (.aload_n 1, 1) := by decide +kernel
theorem d_L_law_543 : decode b_L_law 543 = .ok (.aload_n 0, 1) := by decide +kernel
theorem d_L_law_544 : decode b_L_law 544 = .ok (.iload 4, 2) := by decide +kernel
theorem d_L_law_546 : decode b_L_law 546 = .ok (.iconst 1, 1) := by decide +kernel
theorem d_L_law_547 : decode b_L_law 547 = .ok (.iadd, 1) := by decide +kernel
theorem d_L_law_548 : decode b_L_law 548 = .ok (.iaload, 1) := by decide +kernel
theorem d_L_law_549 : decode b_L_law 549 = .ok (.aload_n 3, 1) := by decide +kernel
theorem d_L_law_550 : decode b_L_law 550 = .ok (.invokestatic 81, 3) := by decide +kernel
theorem d_L_law_553 : decode b_L_law 553 = .ok (.istore 5, 2) := by decide +kernel
theorem d_L_law_555 : decode b_L_law 555 = .ok (.aload_n 2, 1) := by decide +kernel
theorem d_L_law_556 : decode b_L_law 556 = .ok (.aload_n 0, 1) := by decide +kernel
theorem d_L_law_557 : decode b_L_law 557 = .ok (.iload 4, 2) := by decide +kernel
theorem d_L_law_559 : decode b_L_law 559 = .ok (.iconst 1, 1) := by decide +kernel
theorem d_L_law_560 : decode b_L_law 560 = .ok (.iadd, 1) := by decide +kernel
theorem d_L_law_561 : decode b_L_law 561 = .ok (.iaload, 1) := by decide +kernel
theorem d_L_law_562 : decode b_L_law 562 = .ok (.invokevirtual 83, 3) := by decide +kernel
theorem d_L_law_565 : decode b_L_law 565 = .ok (.istore 6, 2) := by decide +kernel
theorem d_L_law_567 : decode b_L_law 567 = .ok (.aload_n 2, 1) := by decide +kernel
theorem d_L_law_568 : decode b_L_law 568 = .ok (.invokevirtual 59, 3) := by decide +kernel
theorem d_L_law_571 : decode b_L_law 571 = .ok (.iload 5, 2) := by decide +kernel
theorem d_L_law_573 : decode b_L_law 573 = .ok (.if_icmp .eq 5, 3) := by decide +kernel
theorem d_L_law_576 : decode b_L_law 576 = .ok (.iconst 0, 1) := by decide +kernel
theorem d_L_law_577 : decode b_L_law 577 = .ok (.ireturn, 1) := by decide +kernel
theorem d_L_law_578 : decode b_L_law 578 = .ok (.iload 5, 2) := by decide +kernel
theorem d_L_law_580 : decode b_L_law 580 = .ok (.ifCond .ne 15, 3) := by decide +kernel
theorem d_L_law_583 : decode b_L_law 583 = .ok (.aload_n 3, 1) := by decide +kernel
theorem d_L_law_584 : decode b_L_law 584 = .ok (.iconst 0, 1) := by decide +kernel
theorem d_L_law_585 : decode b_L_law 585 = .ok (.laload, 1) := by decide +kernel
theorem d_L_law_586 : decode b_L_law 586 = .ok (.iload 6, 2) := by decide +kernel
theorem d_L_law_588 : decode b_L_law 588 = .ok (.i2l, 1) := by decide +kernel
theorem d_L_law_589 : decode b_L_law 589 = .ok (.lcmp, 1) := by decide +kernel
theorem d_L_law_590 : decode b_L_law 590 = .ok (.ifCond .eq 5, 3) := by decide +kernel
theorem d_L_law_593 : decode b_L_law 593 = .ok (.iconst 0, 1) := by decide +kernel
theorem d_L_law_594 : decode b_L_law 594 = .ok (.ireturn, 1) := by decide +kernel
theorem d_L_law_595 : decode b_L_law 595 = .ok (.goto 197, 3) := by decide +kernel
theorem d_L_law_598 : decode b_L_law 598 = .ok (.aload_n 1, 1) := by decide +kernel
theorem d_L_law_599 : decode b_L_law 599 = .ok (.invokevirtual 84, 3) := by decide +kernel
theorem d_L_law_602 : decode b_L_law 602 = .ok (.aload_n 2, 1) := by decide +kernel
theorem d_L_law_603 : decode b_L_law 603 = .ok (.invokevirtual 87, 3) := by decide +kernel
theorem d_L_law_606 : decode b_L_law 606 = .ok (.if_icmp .eq 186, 3) := by decide +kernel
theorem d_L_law_609 : decode b_L_law 609 = .ok (.iconst 0, 1) := by decide +kernel
theorem d_L_law_610 : decode b_L_law 610 = .ok (.ireturn, 1) := by decide +kernel
theorem d_L_law_611 : decode b_L_law 611 = .ok (.aload_n 1, 1) := by decide +kernel
theorem d_L_law_612 : decode b_L_law 612 = .ok (.aload_n 0, 1) := by decide +kernel
theorem d_L_law_613 : decode b_L_law 613 = .ok (.iload 4, 2) := by decide +kernel
theorem d_L_law_615 : decode b_L_law 615 = .ok (.iconst 1, 1) := by decide +kernel
theorem d_L_law_616 : decode b_L_law 616 = .ok (.iadd, 1) := by decide +kernel
theorem d_L_law_617 : decode b_L_law 617 = .ok (.iaload, 1) := by decide +kernel
theorem d_L_law_618 : decode b_L_law 618 = .ok (.aload_n 3, 1) := by decide +kernel
theorem d_L_law_619 : decode b_L_law 619 = .ok (.invokestatic 88, 3) := by decide +kernel
theorem d_L_law_622 : decode b_L_law 622 = .ok (.istore 5, 2) := by decide +kernel
theorem d_L_law_624 : decode b_L_law 624 = .ok (.aload_n 2, 1) := by decide +kernel
theorem d_L_law_625 : decode b_L_law 625 = .ok (.aload_n 0, 1) := by decide +kernel
theorem d_L_law_626 : decode b_L_law 626 = .ok (.iload 4, 2) := by decide +kernel
theorem d_L_law_628 : decode b_L_law 628 = .ok (.iconst 1, 1) := by decide +kernel
theorem d_L_law_629 : decode b_L_law 629 = .ok (.iadd, 1) := by decide +kernel
theorem d_L_law_630 : decode b_L_law 630 = .ok (.iaload, 1) := by decide +kernel
theorem d_L_law_631 : decode b_L_law 631 = .ok (.invokevirtual 90, 3) := by decide +kernel
theorem d_L_law_634 : decode b_L_law 634 = .ok (.istore 6, 2) := by decide +kernel
theorem d_L_law_636 : decode b_L_law 636 = .ok (.aload_n 2, 1) := by decide +kernel
theorem d_L_law_637 : decode b_L_law 637 = .ok (.invokevirtual 59, 3) := by decide +kernel
theorem d_L_law_640 : decode b_L_law 640 = .ok (.iload 5, 2) := by decide +kernel
theorem d_L_law_642 : decode b_L_law 642 = .ok (.if_icmp .eq 5, 3) := by decide +kernel
theorem d_L_law_645 : decode b_L_law 645 = .ok (.iconst 0, 1) := by decide +kernel
theorem d_L_law_646 : decode b_L_law 646 = .ok (.ireturn, 1) := by decide +kernel
theorem d_L_law_647 : decode b_L_law 647 = .ok (.iload 5, 2) := by decide +kernel
theorem d_L_law_649 : decode b_L_law 649 = .ok (.ifCond .ne 15, 3) := by decide +kernel
theorem d_L_law_652 : decode b_L_law 652 = .ok (.aload_n 3, 1) := by decide +kernel
theorem d_L_law_653 : decode b_L_law 653 = .ok (.iconst 0, 1) := by decide +kernel
theorem d_L_law_654 : decode b_L_law 654 = .ok (.laload, 1) := by decide +kernel
theorem d_L_law_655 : decode b_L_law 655 = .ok (.iload 6, 2) := by decide +kernel
theorem d_L_law_657 : decode b_L_law 657 = .ok (.i2l, 1) := by decide +kernel
theorem d_L_law_658 : decode b_L_law 658 = .ok (.lcmp, 1) := by decide +kernel
theorem d_L_law_659 : decode b_L_law 659 = .ok (.ifCond .eq 5, 3) := by decide +kernel
theorem d_L_law_662 : decode b_L_law 662 = .ok (.iconst 0, 1) := by decide +kernel
theorem d_L_law_663 : decode b_L_law 663 = .ok (.ireturn, 1) := by decide +kernel
theorem d_L_law_664 : decode b_L_law 664 = .ok (.goto 128, 3) := by decide +kernel
theorem d_L_law_667 : decode b_L_law 667 = .ok (.aload_n 1, 1) := by decide +kernel
theorem d_L_law_668 : decode b_L_law 668 = .ok (.aload_n 0, 1) := by decide +kernel
theorem d_L_law_669 : decode b_L_law 669 = .ok (.iload 4, 2) := by decide +kernel
theorem d_L_law_671 : decode b_L_law 671 = .ok (.iconst 1, 1) := by decide +kernel
theorem d_L_law_672 : decode b_L_law 672 = .ok (.iadd, 1) := by decide +kernel
theorem d_L_law_673 : decode b_L_law 673 = .ok (.iaload, 1) := by decide +kernel
theorem d_L_law_674 : decode b_L_law 674 = .ok (.aload_n 3, 1) := by decide +kernel
theorem d_L_law_675 : decode b_L_law 675 = .ok (.invokestatic 91, 3) := by decide +kernel
theorem d_L_law_678 : decode b_L_law 678 = .ok (.istore 5, 2) := by decide +kernel
theorem d_L_law_680 : decode b_L_law 680 = .ok (.aload_n 2, 1) := by decide +kernel
theorem d_L_law_681 : decode b_L_law 681 = .ok (.aload_n 0, 1) := by decide +kernel
theorem d_L_law_682 : decode b_L_law 682 = .ok (.iload 4, 2) := by decide +kernel
theorem d_L_law_684 : decode b_L_law 684 = .ok (.iconst 1, 1) := by decide +kernel
theorem d_L_law_685 : decode b_L_law 685 = .ok (.iadd, 1) := by decide +kernel
theorem d_L_law_686 : decode b_L_law 686 = .ok (.iaload, 1) := by decide +kernel
theorem d_L_law_687 : decode b_L_law 687 = .ok (.invokevirtual 93, 3) := by decide +kernel
theorem d_L_law_690 : decode b_L_law 690 = .ok (.istore 6, 2) := by decide +kernel
theorem d_L_law_692 : decode b_L_law 692 = .ok (.aload_n 2, 1) := by decide +kernel
theorem d_L_law_693 : decode b_L_law 693 = .ok (.invokevirtual 59, 3) := by decide +kernel
theorem d_L_law_696 : decode b_L_law 696 = .ok (.iload 5, 2) := by decide +kernel
theorem d_L_law_698 : decode b_L_law 698 = .ok (.if_icmp .eq 5, 3) := by decide +kernel
theorem d_L_law_701 : decode b_L_law 701 = .ok (.iconst 0, 1) := by decide +kernel
theorem d_L_law_702 : decode b_L_law 702 = .ok (.ireturn, 1) := by decide +kernel
theorem d_L_law_703 : decode b_L_law 703 = .ok (.iload 5, 2) := by decide +kernel
theorem d_L_law_705 : decode b_L_law 705 = .ok (.ifCond .ne 15, 3) := by decide +kernel
theorem d_L_law_708 : decode b_L_law 708 = .ok (.aload_n 3, 1) := by decide +kernel
theorem d_L_law_709 : decode b_L_law 709 = .ok (.iconst 0, 1) := by decide +kernel
theorem d_L_law_710 : decode b_L_law 710 = .ok (.laload, 1) := by decide +kernel
theorem d_L_law_711 : decode b_L_law 711 = .ok (.iload 6, 2) := by decide +kernel
theorem d_L_law_713 : decode b_L_law 713 = .ok (.i2l, 1) := by decide +kernel
theorem d_L_law_714 : decode b_L_law 714 = .ok (.lcmp, 1) := by decide +kernel
theorem d_L_law_715 : decode b_L_law 715 = .ok (.ifCond .eq 5, 3) := by decide +kernel
theorem d_L_law_718 : decode b_L_law 718 = .ok (.iconst 0, 1) := by decide +kernel
theorem d_L_law_719 : decode b_L_law 719 = .ok (.ireturn, 1) := by decide +kernel
theorem d_L_law_720 : decode b_L_law 720 = .ok (.goto 72, 3) := by decide +kernel
theorem d_L_law_723 : decode b_L_law 723 = .ok (.aload_n 1, 1) := by decide +kernel
theorem d_L_law_724 : decode b_L_law 724 = .ok (.aload_n 0, 1) := by decide +kernel
theorem d_L_law_725 : decode b_L_law 725 = .ok (.iload 4, 2) := by decide +kernel
theorem d_L_law_727 : decode b_L_law 727 = .ok (.iconst 1, 1) := by decide +kernel
theorem d_L_law_728 : decode b_L_law 728 = .ok (.iadd, 1) := by decide +kernel
theorem d_L_law_729 : decode b_L_law 729 = .ok (.iaload, 1) := by decide +kernel
theorem d_L_law_730 : decode b_L_law 730 = .ok (.aload_n 3, 1) := by decide +kernel
theorem d_L_law_731 : decode b_L_law 731 = .ok (.invokestatic 94, 3) := by decide +kernel
theorem d_L_law_734 : decode b_L_law 734 = .ok (.istore 5, 2) := by decide +kernel
theorem d_L_law_736 : decode b_L_law 736 = .ok (.aload_n 2, 1) := by decide +kernel
theorem d_L_law_737 : decode b_L_law 737 = .ok (.aload_n 0, 1) := by decide +kernel
theorem d_L_law_738 : decode b_L_law 738 = .ok (.iload 4, 2) := by decide +kernel
theorem d_L_law_740 : decode b_L_law 740 = .ok (.iconst 1, 1) := by decide +kernel
theorem d_L_law_741 : decode b_L_law 741 = .ok (.iadd, 1) := by decide +kernel
theorem d_L_law_742 : decode b_L_law 742 = .ok (.iaload, 1) := by decide +kernel
theorem d_L_law_743 : decode b_L_law 743 = .ok (.invokevirtual 96, 3) := by decide +kernel
theorem d_L_law_746 : decode b_L_law 746 = .ok (.istore 6, 2) := by decide +kernel
theorem d_L_law_748 : decode b_L_law 748 = .ok (.aload_n 2, 1) := by decide +kernel
theorem d_L_law_749 : decode b_L_law 749 = .ok (.invokevirtual 59, 3) := by decide +kernel
theorem d_L_law_752 : decode b_L_law 752 = .ok (.iload 5, 2) := by decide +kernel
theorem d_L_law_754 : decode b_L_law 754 = .ok (.if_icmp .eq 5, 3) := by decide +kernel
theorem d_L_law_757 : decode b_L_law 757 = .ok (.iconst 0, 1) := by decide +kernel
theorem d_L_law_758 : decode b_L_law 758 = .ok (.ireturn, 1) := by decide +kernel
theorem d_L_law_759 : decode b_L_law 759 = .ok (.iload 5, 2) := by decide +kernel
theorem d_L_law_761 : decode b_L_law 761 = .ok (.ifCond .ne 15, 3) := by decide +kernel
theorem d_L_law_764 : decode b_L_law 764 = .ok (.aload_n 3, 1) := by decide +kernel
theorem d_L_law_765 : decode b_L_law 765 = .ok (.iconst 0, 1) := by decide +kernel
theorem d_L_law_766 : decode b_L_law 766 = .ok (.laload, 1) := by decide +kernel
theorem d_L_law_767 : decode b_L_law 767 = .ok (.iload 6, 2) := by decide +kernel
theorem d_L_law_769 : decode b_L_law 769 = .ok (.i2l, 1) := by decide +kernel
theorem d_L_law_770 : decode b_L_law 770 = .ok (.lcmp, 1) := by decide +kernel
theorem d_L_law_771 : decode b_L_law 771 = .ok (.ifCond .eq 5, 3) := by decide +kernel
theorem d_L_law_774 : decode b_L_law 774 = .ok (.iconst 0, 1) := by decide +kernel
theorem d_L_law_775 : decode b_L_law 775 = .ok (.ireturn, 1) := by decide +kernel
theorem d_L_law_776 : decode b_L_law 776 = .ok (.goto 16, 3) := by decide +kernel
theorem d_L_law_779 : decode b_L_law 779 = .ok (.aload_n 1, 1) := by decide +kernel
theorem d_L_law_780 : decode b_L_law 780 = .ok (.invokevirtual 97, 3) := by decide +kernel
theorem d_L_law_783 : decode b_L_law 783 = .ok (.aload_n 2, 1) := by decide +kernel
theorem d_L_law_784 : decode b_L_law 784 = .ok (.invokevirtual 100, 3) := by decide +kernel
theorem d_L_law_787 : decode b_L_law 787 = .ok (.if_icmp .eq 5, 3) := by decide +kernel
theorem d_L_law_790 : decode b_L_law 790 = .ok (.iconst 0, 1) := by decide +kernel
theorem d_L_law_791 : decode b_L_law 791 = .ok (.ireturn, 1) := by decide +kernel
theorem d_L_law_792 : decode b_L_law 792 = .ok (.iinc 4 5, 3) := by decide +kernel
theorem d_L_law_795 : decode b_L_law 795 = .ok (.goto (-772), 3) := by decide +kernel
theorem d_L_law_798 : decode b_L_law 798 = .ok (.iconst 1, 1) := by decide +kernel
theorem d_L_law_799 : decode b_L_law 799 = .ok (.ireturn, 1) := by decide +kernel
theorem d_J_bitCount_0 : decode b_J_bitCount 0 = .ok (.iload_n 0, 1) := by decide +kernel
theorem d_J_bitCount_1 : decode b_J_bitCount 1 = .ok (.iload_n 0, 1) := by decide +kernel
