theorem d_T_allTags_2 : decode b_T_allTags 2 = .ok (.iconst 0, 1) := by decide +kernel
theorem d_T_allTags_3 : decode b_T_allTags 3 = .ok (.istore_n 2, 1) := by decide +kernel
theorem d_T_allTags_4 : decode b_T_allTags 4 = .ok (.iload_n 2, 1) := by decide +kernel
theorem d_T_allTags_5 : decode b_T_allTags 5 = .ok (.bipush 32, 2) := by decide +kernel
theorem d_T_allTags_7 : decode b_T_allTags 7 = .ok (.if_icmp .ge 20, 3) := by decide +kernel
theorem d_T_allTags_10 : decode b_T_allTags 10 = .ok (.iload_n 1, 1) := by decide +kernel
theorem d_T_allTags_11 : decode b_T_allTags 11 = .ok (.aload_n 0, 1) := by decide +kernel
theorem d_T_allTags_12 : decode b_T_allTags 12 = .ok (.iload_n 2, 1) := by decide +kernel
theorem d_T_allTags_13 : decode b_T_allTags 13 = .ok (.invokevirtual 173, 3) := by decide +kernel
theorem d_T_allTags_16 : decode b_T_allTags 16 = .ok (.invokestatic 176, 3) := by decide +kernel
theorem d_T_allTags_19 : decode b_T_allTags 19 = .ok (.iadd, 1) := by decide +kernel
theorem d_T_allTags_20 : decode b_T_allTags 20 = .ok (.istore_n 1, 1) := by decide +kernel
theorem d_T_allTags_21 : decode b_T_allTags 21 = .ok (.iinc 2 1, 3) := by decide +kernel
theorem d_T_allTags_24 : decode b_T_allTags 24 = .ok (.goto (-20), 3) := by decide +kernel
theorem d_T_allTags_27 : decode b_T_allTags 27 = .ok (.iconst 0, 1) := by decide +kernel
theorem d_T_allTags_28 : decode b_T_allTags 28 = .ok (.istore_n 2, 1) := by decide +kernel
theorem d_T_allTags_29 : decode b_T_allTags 29 = .ok (.iload_n 2, 1) := by decide +kernel
theorem d_T_allTags_30 : decode b_T_allTags 30 = .ok (.bipush 16, 2) := by decide +kernel
theorem d_T_allTags_32 : decode b_T_allTags 32 = .ok (.if_icmp .ge 45, 3) := by decide +kernel
theorem d_T_allTags_35 : decode b_T_allTags 35 = .ok (.aload_n 0, 1) := by decide +kernel
theorem d_T_allTags_36 : decode b_T_allTags 36 = .ok (.getfield 13, 3) := by decide +kernel
theorem d_T_allTags_39 : decode b_T_allTags 39 = .ok (.iload_n 2, 1) := by decide +kernel
theorem d_T_allTags_40 : decode b_T_allTags 40 = .ok (.iaload, 1) := by decide +kernel
theorem d_T_allTags_41 : decode b_T_allTags 41 = .ok (.iconst (-1), 1) := by decide +kernel
theorem d_T_allTags_42 : decode b_T_allTags 42 = .ok (.if_icmp .eq 29, 3) := by decide +kernel
theorem d_T_allTags_45 : decode b_T_allTags 45 = .ok (.iload_n 1, 1) := by decide +kernel
theorem d_T_allTags_46 : decode b_T_allTags 46 = .ok (.aload_n 0, 1) := by decide +kernel
theorem d_T_allTags_47 : decode b_T_allTags 47 = .ok (.getfield 19, 3) := by decide +kernel
theorem d_T_allTags_50 : decode b_T_allTags 50 = .ok (.iload_n 2, 1) := by decide +kernel
theorem d_T_allTags_51 : decode b_T_allTags 51 = .ok (.iaload, 1) := by decide +kernel
theorem d_T_allTags_52 : decode b_T_allTags 52 = .ok (.invokestatic 176, 3) := by decide +kernel
theorem d_T_allTags_55 : decode b_T_allTags 55 = .ok (.aload_n 0, 1) := by decide +kernel
theorem d_T_allTags_56 : decode b_T_allTags 56 = .ok (.aload_n 0, 1) := by decide +kernel
theorem d_T_allTags_57 : decode b_T_allTags 57 = .ok (.getfield 13, 3) := by decide +kernel
theorem d_T_allTags_60 : decode b_T_allTags 60 = .ok (.iload_n 2, 1) := by decide +kernel
theorem d_T_allTags_61 : decode b_T_allTags 61 = .ok (.iaload, 1) := by decide +kernel
theorem d_T_allTags_62 : decode b_T_allTags 62 = .ok (.invokevirtual 181, 3) := by decide +kernel
theorem d_T_allTags_65 : decode b_T_allTags 65 = .ok (.invokestatic 176, 3) := by decide +kernel
theorem d_T_allTags_68 : decode b_T_allTags 68 = .ok (.isub, 1) := by decide +kernel
theorem d_T_allTags_69 : decode b_T_allTags 69 = .ok (.iadd, 1) := by decide +kernel
theorem d_T_allTags_70 : decode b_T_allTags 70 = .ok (.istore_n 1, 1) := by decide +kernel
theorem d_T_allTags_71 : decode b_T_allTags 71 = .ok (.iinc 2 1, 3) := by decide +kernel
theorem d_T_allTags_74 : decode b_T_allTags 74 = .ok (.goto (-45), 3) := by decide +kernel
theorem d_T_allTags_77 : decode b_T_allTags 77 = .ok (.iload_n 1, 1) := by decide +kernel
theorem d_T_allTags_78 : decode b_T_allTags 78 = .ok (.ireturn, 1) := by decide +kernel
theorem d_T_tagsBehindLine_0 : decode b_T_tagsBehindLine 0 = .ok (.iload_n 1, 1) := by decide +kernel
theorem d_T_tagsBehindLine_1 : decode b_T_tagsBehindLine 1 = .ok (.aload_n 0, 1) := by decide +kernel
theorem d_T_tagsBehindLine_2 : decode b_T_tagsBehindLine 2 = .ok (.iload_n 1, 1) := by decide +kernel
theorem d_T_tagsBehindLine_3 : decode b_T_tagsBehindLine 3 = .ok (.invokestatic 157, 3) := by decide +kernel
theorem d_T_tagsBehindLine_6 : decode b_T_tagsBehindLine 6 = .ok (.invokevirtual 173, 3) := by decide +kernel
theorem d_T_tagsBehindLine_9 : decode b_T_tagsBehindLine 9 = .ok (.invokestatic 163, 3) := by decide +kernel
theorem d_T_tagsBehindLine_12 : decode b_T_tagsBehindLine 12 = .ok (.ireturn, 1) := by decide +kernel
theorem d_T_howManyKept_0 : decode b_T_howManyKept 0 = .ok (.iconst 0, 1) := by decide +kernel
theorem d_T_howManyKept_1 : decode b_T_howManyKept 1 = .ok (.istore_n 1, 1) := by decide +kernel
theorem d_T_howManyKept_2 : decode b_T_howManyKept 2 = .ok (.aload_n 0, 1) := by decide +kernel
theorem d_T_howManyKept_3 : decode b_T_howManyKept 3 = .ok (.astore_n 2, 1) := by decide +kernel
theorem d_T_howManyKept_4 : decode b_T_howManyKept 4 = .ok (.aload_n 2, 1) := by decide +kernel
theorem d_T_howManyKept_5 : decode b_T_howManyKept 5 = .ok (.arraylength, 1) := by decide +kernel
theorem d_T_howManyKept_6 : decode b_T_howManyKept 6 = .ok (.istore_n 3, 1) := by decide +kernel
theorem d_T_howManyKept_7 : decode b_T_howManyKept 7 = .ok (.iconst 0, 1) := by decide +kernel
theorem d_T_howManyKept_8 : decode b_T_howManyKept 8 = .ok (.istore 4, 2) := by decide +kernel
theorem d_T_howManyKept_10 : decode b_T_howManyKept 10 = .ok (.iload 4, 2) := by decide +kernel
theorem d_T_howManyKept_12 : decode b_T_howManyKept 12 = .ok (.iload_n 3, 1) := by decide +kernel
theorem d_T_howManyKept_13 : decode b_T_howManyKept 13 = .ok (.if_icmp .ge 24, 3) := by decide +kernel
theorem d_T_howManyKept_16 : decode b_T_howManyKept 16 = .ok (.aload_n 2, 1) := by decide +kernel
theorem d_T_howManyKept_17 : decode b_T_howManyKept 17 = .ok (.iload 4, 2) := by decide +kernel
theorem d_T_howManyKept_19 : decode b_T_howManyKept 19 = .ok (.iaload, 1) := by decide +kernel
theorem d_T_howManyKept_20 : decode b_T_howManyKept 20 = .ok (.istore 5, 2) := by decide +kernel
theorem d_T_howManyKept_22 : decode b_T_howManyKept 22 = .ok (.iload 5, 2) := by decide +kernel
theorem d_T_howManyKept_24 : decode b_T_howManyKept 24 = .ok (.iconst (-1), 1) := by decide +kernel
theorem d_T_howManyKept_25 : decode b_T_howManyKept 25 = .ok (.if_icmp .eq 6, 3) := by decide +kernel
theorem d_T_howManyKept_28 : decode b_T_howManyKept 28 = .ok (.iinc 1 1, 3) := by decide +kernel
theorem d_T_howManyKept_31 : decode b_T_howManyKept 31 = .ok (.iinc 4 1, 3) := by decide +kernel
theorem d_T_howManyKept_34 : decode b_T_howManyKept 34 = .ok (.goto (-24), 3) := by decide +kernel
theorem d_T_howManyKept_37 : decode b_T_howManyKept 37 = .ok (.iload_n 1, 1) := by decide +kernel
theorem d_T_howManyKept_38 : decode b_T_howManyKept 38 = .ok (.ireturn, 1) := by decide +kernel
theorem d_T_howManyChanged_0 : decode b_T_howManyChanged 0 = .ok (.iconst 0, 1) := by decide +kernel
theorem d_T_howManyChanged_1 : decode b_T_howManyChanged 1 = .ok (.istore_n 1, 1) := by decide +kernel
theorem d_T_howManyChanged_2 : decode b_T_howManyChanged 2 = .ok (.aload_n 0, 1) := by decide +kernel
theorem d_T_howManyChanged_3 : decode b_T_howManyChanged 3 = .ok (.astore_n 2, 1) := by decide +kernel
theorem d_T_howManyChanged_4 : decode b_T_howManyChanged 4 = .ok (.aload_n 2, 1) := by decide +kernel
theorem d_T_howManyChanged_5 : decode b_T_howManyChanged 5 = .ok (.arraylength, 1) := by decide +kernel
theorem d_T_howManyChanged_6 : decode b_T_howManyChanged 6 = .ok (.istore_n 3, 1) := by decide +kernel
theorem d_T_howManyChanged_7 : decode b_T_howManyChanged 7 = .ok (.iconst 0, 1) := by decide +kernel
theorem d_T_howManyChanged_8 : decode b_T_howManyChanged 8 = .ok (.istore 4, 2) := by decide +kernel
theorem d_T_howManyChanged_10 : decode b_T_howManyChanged 10 = .ok (.iload 4, 2) := by decide +kernel
theorem d_T_howManyChanged_12 : decode b_T_howManyChanged 12 = .ok (.iload_n 3, 1) := by decide +kernel
theorem d_T_howManyChanged_13 : decode b_T_howManyChanged 13 = .ok (.if_icmp .ge 23, 3) := by decide +kernel
theorem d_T_howManyChanged_16 : decode b_T_howManyChanged 16 = .ok (.aload_n 2, 1) := by decide +kernel
theorem d_T_howManyChanged_17 : decode b_T_howManyChanged 17 = .ok (.iload 4, 2) := by decide +kernel
theorem d_T_howManyChanged_19 : decode b_T_howManyChanged 19 = .ok (.baload, 1) := by decide +kernel
theorem d_T_howManyChanged_20 : decode b_T_howManyChanged 20 = .ok (.istore 5, 2) := by decide +kernel
theorem d_T_howManyChanged_22 : decode b_T_howManyChanged 22 = .ok (.iload 5, 2) := by decide +kernel
theorem d_T_howManyChanged_24 : decode b_T_howManyChanged 24 = .ok (.ifCond .eq 6, 3) := by decide +kernel
theorem d_T_howManyChanged_27 : decode b_T_howManyChanged 27 = .ok (.iinc 1 1, 3) := by decide +kernel
theorem d_T_howManyChanged_30 : decode b_T_howManyChanged 30 = .ok (.iinc 4 1, 3) := by decide +kernel
theorem d_T_howManyChanged_33 : decode b_T_howManyChanged 33 = .ok (.goto (-23), 3) := by decide +kernel
theorem d_T_howManyChanged_36 : decode b_T_howManyChanged 36 = .ok (.iload_n 1, 1) := by decide +kernel
theorem d_T_howManyChanged_37 : decode b_T_howManyChanged 37 = .ok (.ireturn, 1) := by decide +kernel
theorem d_T_isLineWrong_0 : decode b_T_isLineWrong 0 = .ok (.aload_n 0, 1) := by decide +kernel
theorem d_T_isLineWrong_1 : decode b_T_isLineWrong 1 = .ok (.getfield 13, 3) := by decide +kernel
theorem d_T_isLineWrong_4 : decode b_T_isLineWrong 4 = .ok (.iload_n 1, 1) := by decide +kernel
theorem d_T_isLineWrong_5 : decode b_T_isLineWrong 5 = .ok (.iaload, 1) := by decide +kernel
theorem d_T_isLineWrong_6 : decode b_T_isLineWrong 6 = .ok (.istore_n 2, 1) := by decide +kernel
theorem d_T_isLineWrong_7 : decode b_T_isLineWrong 7 = .ok (.iload_n 2, 1) := by decide +kernel
theorem d_T_isLineWrong_8 : decode b_T_isLineWrong 8 = .ok (.invokestatic 138, 3) := by decide +kernel
theorem d_T_isLineWrong_11 : decode b_T_isLineWrong 11 = .ok (.iload_n 1, 1) := by decide +kernel
theorem d_T_isLineWrong_12 : decode b_T_isLineWrong 12 = .ok (.if_icmp .eq 5, 3) := by decide +kernel
theorem d_T_isLineWrong_15 : decode b_T_isLineWrong 15 = .ok (.iconst 1, 1) := by decide +kernel
theorem d_T_isLineWrong_16 : decode b_T_isLineWrong 16 = .ok (.ireturn, 1) := by decide +kernel
theorem d_T_isLineWrong_17 : decode b_T_isLineWrong 17 = .ok (.aload_n 0, 1) := by decide +kernel
theorem d_T_isLineWrong_18 : decode b_T_isLineWrong 18 = .ok (.getfield 22, 3) := by decide +kernel
theorem d_T_isLineWrong_21 : decode b_T_isLineWrong 21 = .ok (.iload_n 1, 1) := by decide +kernel
theorem d_T_isLineWrong_22 : decode b_T_isLineWrong 22 = .ok (.baload, 1) := by decide +kernel
theorem d_T_isLineWrong_23 : decode b_T_isLineWrong 23 = .ok (.ifCond .ne 30, 3) := by decide +kernel
theorem d_T_isLineWrong_26 : decode b_T_isLineWrong 26 = .ok (.aload_n 0, 1) := by decide +kernel
theorem d_T_isLineWrong_27 : decode b_T_isLineWrong 27 = .ok (.iload_n 2, 1) := by decide +kernel
theorem d_T_isLineWrong_28 : decode b_T_isLineWrong 28 = .ok (.iload_n 1, 1) := by decide +kernel
theorem d_T_isLineWrong_29 : decode b_T_isLineWrong 29 = .ok (.invokevirtual 184, 3) := by decide +kernel
theorem d_T_isLineWrong_32 : decode b_T_isLineWrong 32 = .ok (.ifCond .eq 17, 3) := by decide +kernel
theorem d_T_isLineWrong_35 : decode b_T_isLineWrong 35 = .ok (.aload_n 0, 1) := by decide +kernel
theorem d_T_isLineWrong_36 : decode b_T_isLineWrong 36 = .ok (.getfield 19, 3) := by decide +kernel
theorem d_T_isLineWrong_39 : decode b_T_isLineWrong 39 = .ok (.iload_n 1, 1) := by decide +kernel
theorem d_T_isLineWrong_40 : decode b_T_isLineWrong 40 = .ok (.iaload, 1) := by decide +kernel
theorem d_T_isLineWrong_41 : decode b_T_isLineWrong 41 = .ok (.aload_n 0, 1) := by decide +kernel
theorem d_T_isLineWrong_42 : decode b_T_isLineWrong 42 = .ok (.iload_n 2, 1) := by decide +kernel
theorem d_T_isLineWrong_43 : decode b_T_isLineWrong 43 = .ok (.invokevirtual 181, 3) := by decide +kernel
theorem d_T_isLineWrong_46 : decode b_T_isLineWrong 46 = .ok (.if_icmp .eq 7, 3) := by decide +kernel
theorem d_T_isLineWrong_49 : decode b_T_isLineWrong 49 = .ok (.iconst 1, 1) := by decide +kernel
theorem d_T_isLineWrong_50 : decode b_T_isLineWrong 50 = .ok (.goto 4, 3) := by decide +kernel
theorem d_T_isLineWrong_53 : decode b_T_isLineWrong 53 = .ok (.iconst 0, 1) := by decide +kernel
theorem d_T_isLineWrong_54 : decode b_T_isLineWrong 54 = .ok (.ireturn, 1) := by decide +kernel
theorem d_T_areWordsAsStored_0 : decode b_T_areWordsAsStored 0 = .ok (.iconst 0, 1) := by decide +kernel
theorem d_T_areWordsAsStored_1 : decode b_T_areWordsAsStored 1 = .ok (.istore_n 3, 1) := by decide +kernel
theorem d_T_areWordsAsStored_2 : decode b_T_areWordsAsStored 2 = .ok (.iload_n 3, 1) := by decide +kernel
theorem d_T_areWordsAsStored_3 : decode b_T_areWordsAsStored 3 = .ok (.iconst 4, 1) := by decide +kernel
theorem d_T_areWordsAsStored_4 : decode b_T_areWordsAsStored 4 = .ok (.if_icmp .ge 34, 3) := by decide +kernel
theorem d_T_areWordsAsStored_7 : decode b_T_areWordsAsStored 7 = .ok (.aload_n 0, 1) := by decide +kernel
theorem d_T_areWordsAsStored_8 : decode b_T_areWordsAsStored 8 = .ok (.getfield 16, 3) := by decide +kernel
theorem d_T_areWordsAsStored_11 : decode b_T_areWordsAsStored 11 = .ok (.iload_n 2, 1) := by decide +kernel
theorem d_T_areWordsAsStored_12 : decode b_T_areWordsAsStored 12 = .ok (.iconst 4, 1) := by decide +kernel
theorem d_T_areWordsAsStored_13 : decode b_T_areWordsAsStored 13 = .ok (.imul, 1) := by decide +kernel
theorem d_T_areWordsAsStored_14 : decode b_T_areWordsAsStored 14 = .ok (.iload_n 3, 1) := by decide +kernel
theorem d_T_areWordsAsStored_15 : decode b_T_areWordsAsStored 15 = .ok (.iadd, 1) := by decide +kernel
theorem d_T_areWordsAsStored_16 : decode b_T_areWordsAsStored 16 = .ok (.iaload, 1) := by decide +kernel
theorem d_T_areWordsAsStored_17 : decode b_T_areWordsAsStored 17 = .ok (.aload_n 0, 1) := by decide +kernel
theorem d_T_areWordsAsStored_18 : decode b_T_areWordsAsStored 18 = .ok (.getfield 9, 3) := by decide +kernel
theorem d_T_areWordsAsStored_21 : decode b_T_areWordsAsStored 21 = .ok (.iload_n 1, 1) := by decide +kernel
theorem d_T_areWordsAsStored_22 : decode b_T_areWordsAsStored 22 = .ok (.iconst 4, 1) := by decide +kernel
theorem d_T_areWordsAsStored_23 : decode b_T_areWordsAsStored 23 = .ok (.imul, 1) := by decide +kernel
theorem d_T_areWordsAsStored_24 : decode b_T_areWordsAsStored 24 = .ok (.iload_n 3, 1) := by decide +kernel
theorem d_T_areWordsAsStored_25 : decode b_T_areWordsAsStored 25 = .ok (.iadd, 1) := by decide +kernel
theorem d_T_areWordsAsStored_26 : decode b_T_areWordsAsStored 26 = .ok (.iaload, 1) := by decide +kernel
theorem d_T_areWordsAsStored_27 : decode b_T_areWordsAsStored 27 = .ok (.if_icmp .eq 5, 3) := by decide +kernel
theorem d_T_areWordsAsStored_30 : decode b_T_areWordsAsStored 30 = .ok (.iconst 0, 1) := by decide +kernel
theorem d_T_areWordsAsStored_31 : decode b_T_areWordsAsStored 31 = .ok (.ireturn, 1) := by decide +kernel
theorem d_T_areWordsAsStored_32 : decode b_T_areWordsAsStored 32 = .ok (.iinc 3 1, 3) := by decide +kernel
theorem d_T_areWordsAsStored_35 : decode b_T_areWordsAsStored 35 = .ok (.goto (-33), 3) := by decide +kernel
theorem d_T_areWordsAsStored_38 : decode b_T_areWordsAsStored 38 = .ok (.iconst 1, 1) := by decide +kernel
theorem d_T_areWordsAsStored_39 : decode b_T_areWordsAsStored 39 = .ok (.ireturn, 1) := by decide +kernel
theorem d_T_isRowWrong_0 : decode b_T_isRowWrong 0 = .ok (.aload_n 0, 1) := by decide +kernel
theorem d_T_isRowWrong_1 : decode b_T_isRowWrong 1 = .ok (.getfield 26, 3) := by decide +kernel
theorem d_T_isRowWrong_4 : decode b_T_isRowWrong 4 = .ok (.iload_n 1, 1) := by decide +kernel
theorem d_T_isRowWrong_5 : decode b_T_isRowWrong 5 = .ok (.iaload, 1) := by decide +kernel
theorem d_T_isRowWrong_6 : decode b_T_isRowWrong 6 = .ok (.istore_n 2, 1) := by decide +kernel
theorem d_T_isRowWrong_7 : decode b_T_isRowWrong 7 = .ok (.iload_n 2, 1) := by decide +kernel
theorem d_T_isRowWrong_8 : decode b_T_isRowWrong 8 = .ok (.invokestatic 170, 3) := by decide +kernel
theorem d_T_isRowWrong_11 : decode b_T_isRowWrong 11 = .ok (.iload_n 1, 1) := by decide +kernel
theorem d_T_isRowWrong_12 : decode b_T_isRowWrong 12 = .ok (.if_icmp .eq 5, 3) := by decide +kernel
theorem d_T_isRowWrong_15 : decode b_T_isRowWrong 15 = .ok (.iconst 1, 1) := by decide +kernel
theorem d_T_isRowWrong_16 : decode b_T_isRowWrong 16 = .ok (.ireturn, 1) := by decide +kernel
theorem d_T_isRowWrong_17 : decode b_T_isRowWrong 17 = .ok (.aload_n 0, 1) := by decide +kernel
theorem d_T_isRowWrong_18 : decode b_T_isRowWrong 18 = .ok (.getfield 32, 3) := by decide +kernel
theorem d_T_isRowWrong_21 : decode b_T_isRowWrong 21 = .ok (.iload_n 1, 1) := by decide +kernel
theorem d_T_isRowWrong_22 : decode b_T_isRowWrong 22 = .ok (.baload, 1) := by decide +kernel
theorem d_T_isRowWrong_23 : decode b_T_isRowWrong 23 = .ok (.ifCond .ne 26, 3) := by decide +kernel
theorem d_T_isRowWrong_26 : decode b_T_isRowWrong 26 = .ok (.aload_n 0, 1) := by decide +kernel
theorem d_T_isRowWrong_27 : decode b_T_isRowWrong 27 = .ok (.getfield 29, 3) := by decide +kernel
theorem d_T_isRowWrong_30 : decode b_T_isRowWrong 30 = .ok (.iload_n 1, 1) := by decide +kernel
theorem d_T_isRowWrong_31 : decode b_T_isRowWrong 31 = .ok (.iaload, 1) := by decide +kernel
theorem d_T_isRowWrong_32 : decode b_T_isRowWrong 32 = .ok (.aload_n 0, 1) := by decide +kernel
theorem d_T_isRowWrong_33 : decode b_T_isRowWrong 33 = .ok (.getfield 9, 3) := by decide +kernel
theorem d_T_isRowWrong_36 : decode b_T_isRowWrong 36 = .ok (.sipush 2048, 3) := by decide +kernel
theorem d_T_isRowWrong_39 : decode b_T_isRowWrong 39 = .ok (.iload_n 2, 1) := by decide +kernel
theorem d_T_isRowWrong_40 : decode b_T_isRowWrong 40 = .ok (.iadd, 1) := by decide +kernel
theorem d_T_isRowWrong_41 : decode b_T_isRowWrong 41 = .ok (.iaload, 1) := by decide +kernel
theorem d_T_isRowWrong_42 : decode b_T_isRowWrong 42 = .ok (.if_icmp .eq 7, 3) := by decide +kernel
theorem d_T_isRowWrong_45 : decode b_T_isRowWrong 45 = .ok (.iconst 1, 1) := by decide +kernel
theorem d_T_isRowWrong_46 : decode b_T_isRowWrong 46 = .ok (.goto 4, 3) := by decide +kernel
theorem d_T_isRowWrong_49 : decode b_T_isRowWrong 49 = .ok (.iconst 0, 1) := by decide +kernel
theorem d_T_isRowWrong_50 : decode b_T_isRowWrong 50 = .ok (.ireturn, 1) := by decide +kernel
theorem d_M_init_0 : decode b_M_init 0 = .ok (.aload_n 0, 1) := by decide +kernel
theorem d_M_init_1 : decode b_M_init 1 = .ok (.invokespecial 1, 3) := by decide +kernel
theorem d_M_init_4 : decode b_M_init 4 = .ok (.aload_n 0, 1) := by decide +kernel
theorem d_M_init_5 : decode b_M_init 5 = .ok (.sipush 2048, 3) := by decide +kernel
theorem d_M_init_8 : decode b_M_init 8 = .ok (.newarray .int, 2) := by decide +kernel
theorem d_M_init_10 : decode b_M_init 10 = .ok (.putfield 7, 3) := by decide +kernel
theorem d_M_init_13 : decode b_M_init 13 = .ok (.aload_n 0, 1) := by decide +kernel
theorem d_M_init_14 : decode b_M_init 14 = .ok (.sipush 1024, 3) := by decide +kernel
theorem d_M_init_17 : decode b_M_init 17 = .ok (.newarray .boolean, 2) := by decide +kernel
theorem d_M_init_19 : decode b_M_init 19 = .ok (.putfield 13, 3) := by decide +kernel
theorem d_M_init_22 : decode b_M_init 22 = .ok (.aload_n 0, 1) := by decide +kernel
theorem d_M_init_23 : decode b_M_init 23 = .ok (.sipush 2080, 3) := by decide +kernel
theorem d_M_init_26 : decode b_M_init 26 = .ok (.newarray .int, 2) := by decide +kernel
theorem d_M_init_28 : decode b_M_init 28 = .ok (.putfield 17, 3) := by decide +kernel
theorem d_M_init_31 : decode b_M_init 31 = .ok (.aload_n 0, 1) := by decide +kernel
theorem d_M_init_32 : decode b_M_init 32 = .ok (.bipush 32, 2) := by decide +kernel
theorem d_M_init_34 : decode b_M_init 34 = .ok (.newarray .int, 2) := by decide +kernel
theorem d_M_init_36 : decode b_M_init 36 = .ok (.putfield 20, 3) := by decide +kernel
theorem d_M_init_39 : decode b_M_init 39 = .ok (.aload_n 0, 1) := by decide +kernel
theorem d_M_init_40 : decode b_M_init 40 = .ok (.bipush 16, 2) := by decide +kernel
theorem d_M_init_42 : decode b_M_init 42 = .ok (.newarray .int, 2) := by decide +kernel
theorem d_M_init_44 : decode b_M_init 44 = .ok (.putfield 23, 3) := by decide +kernel
theorem d_M_init_47 : decode b_M_init 47 = .ok (.aload_n 0, 1) := by decide +kernel
theorem d_M_init_48 : decode b_M_init 48 = .ok (.bipush 16, 2) := by decide +kernel
theorem d_M_init_50 : decode b_M_init 50 = .ok (.newarray .boolean, 2) := by decide +kernel
theorem d_M_init_52 : decode b_M_init 52 = .ok (.putfield 26, 3) := by decide +kernel
theorem d_M_init_55 : decode b_M_init 55 = .ok (.aload_n 0, 1) := by decide +kernel
theorem d_M_init_56 : decode b_M_init 56 = .ok (.iconst 4, 1) := by decide +kernel
theorem d_M_init_57 : decode b_M_init 57 = .ok (.newarray .int, 2) := by decide +kernel
theorem d_M_init_59 : decode b_M_init 59 = .ok (.putfield 29, 3) := by decide +kernel
theorem d_M_init_62 : decode b_M_init 62 = .ok (.aload_n 0, 1) := by decide +kernel
theorem d_M_init_63 : decode b_M_init 63 = .ok (.iconst 4, 1) := by decide +kernel
theorem d_M_init_64 : decode b_M_init 64 = .ok (.newarray .boolean, 2) := by decide +kernel
theorem d_M_init_66 : decode b_M_init 66 = .ok (.putfield 32, 3) := by decide +kernel
theorem d_M_init_69 : decode b_M_init 69 = .ok (.aload_n 0, 1) := by decide +kernel
theorem d_M_init_70 : decode b_M_init 70 = .ok (.iconst 4, 1) := by decide +kernel
theorem d_M_init_71 : decode b_M_init 71 = .ok (.newarray .int, 2) := by decide +kernel
theorem d_M_init_73 : decode b_M_init 73 = .ok (.putfield 35, 3) := by decide +kernel
theorem d_M_init_76 : decode b_M_init 76 = .ok (.iconst 0, 1) := by decide +kernel
theorem d_M_init_77 : decode b_M_init 77 = .ok (.istore_n 1, 1) := by decide +kernel
theorem d_M_init_78 : decode b_M_init 78 = .ok (.iload_n 1, 1) := by decide +kernel
theorem d_M_init_79 : decode b_M_init 79 = .ok (.bipush 16, 2) := by decide +kernel
theorem d_M_init_81 : decode b_M_init 81 = .ok (.if_icmp .ge 16, 3) := by decide +kernel
theorem d_M_init_84 : decode b_M_init 84 = .ok (.aload_n 0, 1) := by decide +kernel
theorem d_M_init_85 : decode b_M_init 85 = .ok (.getfield 23, 3) := by decide +kernel
theorem d_M_init_88 : decode b_M_init 88 = .ok (.iload_n 1, 1) := by decide +kernel
theorem d_M_init_89 : decode b_M_init 89 = .ok (.iconst (-1), 1) := by decide +kernel
theorem d_M_init_90 : decode b_M_init 90 = .ok (.iastore, 1) := by decide +kernel
theorem d_M_init_91 : decode b_M_init 91 = .ok (.iinc 1 1, 3) := by decide +kernel
theorem d_M_init_94 : decode b_M_init 94 = .ok (.goto (-16), 3) := by decide +kernel
theorem d_M_init_97 : decode b_M_init 97 = .ok (.iconst 0, 1) := by decide +kernel
theorem d_M_init_98 : decode b_M_init 98 = .ok (.istore_n 1, 1) := by decide +kernel
theorem d_M_init_99 : decode b_M_init 99 = .ok (.iload_n 1, 1) := by decide +kernel
theorem d_M_init_100 : decode b_M_init 100 = .ok (.iconst 4, 1) := by decide +kernel
theorem d_M_init_101 : decode b_M_init 101 = .ok (.if_icmp .ge 16, 3) := by decide +kernel
theorem d_M_init_104 : decode b_M_init 104 = .ok (.aload_n 0, 1) := by decide +kernel
theorem d_M_init_105 : decode b_M_init 105 = .ok (.getfield 29, 3) := by decide +kernel
theorem d_M_init_108 : decode b_M_init 108 = .ok (.iload_n 1, 1) := by decide +kernel
theorem d_M_init_109 : decode b_M_init 109 = .ok (.iconst (-1), 1) := by decide +kernel
theorem d_M_init_110 : decode b_M_init 110 = .ok (.iastore, 1) := by decide +kernel
theorem d_M_init_111 : decode b_M_init 111 = .ok (.iinc 1 1, 3) := by decide +kernel
theorem d_M_init_114 : decode b_M_init 114 = .ok (.goto (-15), 3) := by decide +kernel
theorem d_M_init_117 : decode b_M_init 117 = .ok (.return_, 1) := by decide +kernel
theorem d_M_thrown_0 : decode b_M_thrown 0 = .ok (.aload_n 0, 1) := by decide +kernel
theorem d_M_thrown_1 : decode b_M_thrown 1 = .ok (.getfield 38, 3) := by decide +kernel
theorem d_M_thrown_4 : decode b_M_thrown 4 = .ok (.ireturn, 1) := by decide +kernel
theorem d_M_bad_0 : decode b_M_bad 0 = .ok (.aload_n 0, 1) := by decide +kernel
theorem d_M_bad_1 : decode b_M_bad 1 = .ok (.iload_n 1, 1) := by decide +kernel
theorem d_M_bad_2 : decode b_M_bad 2 = .ok (.ifCond .eq 7, 3) := by decide +kernel
theorem d_M_bad_5 : decode b_M_bad 5 = .ok (.iload_n 2, 1) := by decide +kernel
theorem d_M_bad_6 : decode b_M_bad 6 = .ok (.goto 4, 3) := by decide +kernel
theorem d_M_bad_9 : decode b_M_bad 9 = .ok (.iconst 0, 1) := by decide +kernel
theorem d_M_bad_10 : decode b_M_bad 10 = .ok (.putfield 38, 3) := by decide +kernel
theorem d_M_bad_13 : decode b_M_bad 13 = .ok (.iload_n 1, 1) := by decide +kernel
theorem d_M_bad_14 : decode b_M_bad 14 = .ok (.ireturn, 1) := by decide +kernel
theorem d_M_rowGoes_0 : decode b_M_rowGoes 0 = .ok (.aload_n 0, 1) := by decide +kernel
theorem d_M_rowGoes_1 : decode b_M_rowGoes 1 = .ok (.getfield 29, 3) := by decide +kernel
theorem d_M_rowGoes_4 : decode b_M_rowGoes 4 = .ok (.iload_n 1, 1) := by decide +kernel
theorem d_M_rowGoes_5 : decode b_M_rowGoes 5 = .ok (.iaload, 1) := by decide +kernel
theorem d_M_rowGoes_6 : decode b_M_rowGoes 6 = .ok (.ifCond .lt 48, 3) := by decide +kernel
theorem d_M_rowGoes_9 : decode b_M_rowGoes 9 = .ok (.aload_n 0, 1) := by decide +kernel
theorem d_M_rowGoes_10 : decode b_M_rowGoes 10 = .ok (.getfield 32, 3) := by decide +kernel
theorem d_M_rowGoes_13 : decode b_M_rowGoes 13 = .ok (.iload_n 1, 1) := by decide +kernel
theorem d_M_rowGoes_14 : decode b_M_rowGoes 14 = .ok (.baload, 1) := by decide +kernel
theorem d_M_rowGoes_15 : decode b_M_rowGoes 15 = .ok (.ifCond .eq 39, 3) := by decide +kernel
theorem d_M_rowGoes_18 : decode b_M_rowGoes 18 = .ok (.aload_n 0, 1) := by decide +kernel
theorem d_M_rowGoes_19 : decode b_M_rowGoes 19 = .ok (.getfield 17, 3) := by decide +kernel
theorem d_M_rowGoes_22 : decode b_M_rowGoes 22 = .ok (.sipush 2048, 3) := by decide +kernel
theorem d_M_rowGoes_25 : decode b_M_rowGoes 25 = .ok (.aload_n 0, 1) := by decide +kernel
theorem d_M_rowGoes_26 : decode b_M_rowGoes 26 = .ok (.getfield 29, 3) := by decide +kernel
theorem d_M_rowGoes_29 : decode b_M_rowGoes 29 = .ok (.iload_n 1, 1) := by decide +kernel
theorem d_M_rowGoes_30 : decode b_M_rowGoes 30 = .ok (.iaload, 1) := by decide +kernel
theorem d_M_rowGoes_31 : decode b_M_rowGoes 31 = .ok (.iadd, 1) := by decide +kernel
theorem d_M_rowGoes_32 : decode b_M_rowGoes 32 = .ok (.aload_n 0, 1) := by decide +kernel
theorem d_M_rowGoes_33 : decode b_M_rowGoes 33 = .ok (.getfield 20, 3) := by decide +kernel
theorem d_M_rowGoes_36 : decode b_M_rowGoes 36 = .ok (.aload_n 0, 1) := by decide +kernel
theorem d_M_rowGoes_37 : decode b_M_rowGoes 37 = .ok (.getfield 29, 3) := by decide +kernel
theorem d_M_rowGoes_40 : decode b_M_rowGoes 40 = .ok (.iload_n 1, 1) := by decide +kernel
theorem d_M_rowGoes_41 : decode b_M_rowGoes 41 = .ok (.iaload, 1) := by decide +kernel
theorem d_M_rowGoes_42 : decode b_M_rowGoes 42 = .ok (.iaload, 1) := by decide +kernel
theorem d_M_rowGoes_43 : decode b_M_rowGoes 43 = .ok (.iastore, 1) := by decide +kernel
theorem d_M_rowGoes_44 : decode b_M_rowGoes 44 = .ok (.aload_n 0, 1) := by decide +kernel
theorem d_M_rowGoes_45 : decode b_M_rowGoes 45 = .ok (.getfield 35, 3) := by decide +kernel
theorem d_M_rowGoes_48 : decode b_M_rowGoes 48 = .ok (.iconst 3, 1) := by decide +kernel
theorem d_M_rowGoes_49 : decode b_M_rowGoes 49 = .ok (.dup2, 1) := by decide +kernel
theorem d_M_rowGoes_50 : decode b_M_rowGoes 50 = .ok (.iaload, 1) := by decide +kernel
theorem d_M_rowGoes_51 : decode b_M_rowGoes 51 = .ok (.iconst 1, 1) := by decide +kernel
theorem d_M_rowGoes_52 : decode b_M_rowGoes 52 = .ok (.iadd, 1) := by decide +kernel
theorem d_M_rowGoes_53 : decode b_M_rowGoes 53 = .ok (.iastore, 1) := by decide +kernel
theorem d_M_rowGoes_54 : decode b_M_rowGoes 54 = .ok (.aload_n 0, 1) := by decide +kernel
theorem d_M_rowGoes_55 : decode b_M_rowGoes 55 = .ok (.getfield 29, 3) := by decide +kernel
theorem d_M_rowGoes_58 : decode b_M_rowGoes 58 = .ok (.iload_n 1, 1) := by decide +kernel
theorem d_M_rowGoes_59 : decode b_M_rowGoes 59 = .ok (.iconst (-1), 1) := by decide +kernel
theorem d_M_rowGoes_60 : decode b_M_rowGoes 60 = .ok (.iastore, 1) := by decide +kernel
theorem d_M_rowGoes_61 : decode b_M_rowGoes 61 = .ok (.aload_n 0, 1) := by decide +kernel
theorem d_M_rowGoes_62 : decode b_M_rowGoes 62 = .ok (.getfield 32, 3) := by decide +kernel
theorem d_M_rowGoes_65 : decode b_M_rowGoes 65 = .ok (.iload_n 1, 1) := by decide +kernel
theorem d_M_rowGoes_66 : decode b_M_rowGoes 66 = .ok (.iconst 0, 1) := by decide +kernel
theorem d_M_rowGoes_67 : decode b_M_rowGoes 67 = .ok (.bastore, 1) := by decide +kernel
theorem d_M_rowGoes_68 : decode b_M_rowGoes 68 = .ok (.return_, 1) := by decide +kernel
theorem d_M_wantRow_0 : decode b_M_wantRow 0 = .ok (.aload_n 0, 1) := by decide +kernel
theorem d_M_wantRow_1 : decode b_M_wantRow 1 = .ok (.getfield 29, 3) := by decide +kernel
theorem d_M_wantRow_4 : decode b_M_wantRow 4 = .ok (.iload_n 1, 1) := by decide +kernel
theorem d_M_wantRow_5 : decode b_M_wantRow 5 = .ok (.iconst 4, 1) := by decide +kernel
theorem d_M_wantRow_6 : decode b_M_wantRow 6 = .ok (.irem, 1) := by decide +kernel
theorem d_M_wantRow_7 : decode b_M_wantRow 7 = .ok (.iaload, 1) := by decide +kernel
theorem d_M_wantRow_8 : decode b_M_wantRow 8 = .ok (.iload_n 1, 1) := by decide +kernel
theorem d_M_wantRow_9 : decode b_M_wantRow 9 = .ok (.if_icmp .ne 4, 3) := by decide +kernel
theorem d_M_wantRow_12 : decode b_M_wantRow 12 = .ok (.return_, 1) := by decide +kernel
theorem d_M_wantRow_13 : decode b_M_wantRow 13 = .ok (.aload_n 0, 1) := by decide +kernel
theorem d_M_wantRow_14 : decode b_M_wantRow 14 = .ok (.iload_n 1, 1) := by decide +kernel
theorem d_M_wantRow_15 : decode b_M_wantRow 15 = .ok (.iconst 4, 1) := by decide +kernel
theorem d_M_wantRow_16 : decode b_M_wantRow 16 = .ok (.irem, 1) := by decide +kernel
theorem d_M_wantRow_17 : decode b_M_wantRow 17 = .ok (.invokevirtual 42, 3) := by decide +kernel
theorem d_M_wantRow_20 : decode b_M_wantRow 20 = .ok (.aload_n 0, 1) := by decide +kernel
theorem d_M_wantRow_21 : decode b_M_wantRow 21 = .ok (.getfield 29, 3) := by decide +kernel
theorem d_M_wantRow_24 : decode b_M_wantRow 24 = .ok (.iload_n 1, 1) := by decide +kernel
theorem d_M_wantRow_25 : decode b_M_wantRow 25 = .ok (.iconst 4, 1) := by decide +kernel
theorem d_M_wantRow_26 : decode b_M_wantRow 26 = .ok (.irem, 1) := by decide +kernel
theorem d_M_wantRow_27 : decode b_M_wantRow 27 = .ok (.iload_n 1, 1) := by decide +kernel
theorem d_M_wantRow_28 : decode b_M_wantRow 28 = .ok (.iastore, 1) := by decide +kernel
theorem d_M_wantRow_29 : decode b_M_wantRow 29 = .ok (.aload_n 0, 1) := by decide +kernel
theorem d_M_wantRow_30 : decode b_M_wantRow 30 = .ok (.getfield 20, 3) := by decide +kernel
theorem d_M_wantRow_33 : decode b_M_wantRow 33 = .ok (.iload_n 1, 1) := by decide +kernel
theorem d_M_wantRow_34 : decode b_M_wantRow 34 = .ok (.aload_n 0, 1) := by decide +kernel
theorem d_M_wantRow_35 : decode b_M_wantRow 35 = .ok (.getfield 17, 3) := by decide +kernel
theorem d_M_wantRow_38 : decode b_M_wantRow 38 = .ok (.sipush 2048, 3) := by decide +kernel
theorem d_M_wantRow_41 : decode b_M_wantRow 41 = .ok (.iload_n 1, 1) := by decide +kernel
theorem d_M_wantRow_42 : decode b_M_wantRow 42 = .ok (.iadd, 1) := by decide +kernel
theorem d_M_wantRow_43 : decode b_M_wantRow 43 = .ok (.iaload, 1) := by decide +kernel
theorem d_M_wantRow_44 : decode b_M_wantRow 44 = .ok (.iastore, 1) := by decide +kernel
theorem d_M_wantRow_45 : decode b_M_wantRow 45 = .ok (.aload_n 0, 1) := by decide +kernel
theorem d_M_wantRow_46 : decode b_M_wantRow 46 = .ok (.getfield 35, 3) := by decide +kernel
theorem d_M_wantRow_49 : decode b_M_wantRow 49 = .ok (.iconst 2, 1) := by decide +kernel
theorem d_M_wantRow_50 : decode b_M_wantRow 50 = .ok (.dup2, 1) := by decide +kernel
theorem d_M_wantRow_51 : decode b_M_wantRow 51 = .ok (.iaload, 1) := by decide +kernel
theorem d_M_wantRow_52 : decode b_M_wantRow 52 = .ok (.iconst 1, 1) := by decide +kernel
theorem d_M_wantRow_53 : decode b_M_wantRow 53 = .ok (.iadd, 1) := by decide +kernel
theorem d_M_wantRow_54 : decode b_M_wantRow 54 = .ok (.iastore, 1) := by decide +kernel
theorem d_M_wantRow_55 : decode b_M_wantRow 55 = .ok (.return_, 1) := by decide +kernel
theorem d_M_lineGoes_0 : decode b_M_lineGoes 0 = .ok (.aload_n 0, 1) := by decide +kernel
theorem d_M_lineGoes_1 : decode b_M_lineGoes 1 = .ok (.getfield 23, 3) := by decide +kernel
theorem d_M_lineGoes_4 : decode b_M_lineGoes 4 = .ok (.iload_n 1, 1) := by decide +kernel
theorem d_M_lineGoes_5 : decode b_M_lineGoes 5 = .ok (.iaload, 1) := by decide +kernel
theorem d_M_lineGoes_6 : decode b_M_lineGoes 6 = .ok (.istore_n 2, 1) := by decide +kernel
theorem d_M_lineGoes_7 : decode b_M_lineGoes 7 = .ok (.iload_n 2, 1) := by decide +kernel
theorem d_M_lineGoes_8 : decode b_M_lineGoes 8 = .ok (.ifCond .lt 16, 3) := by decide +kernel
theorem d_M_lineGoes_11 : decode b_M_lineGoes 11 = .ok (.aload_n 0, 1) := by decide +kernel
theorem d_M_lineGoes_12 : decode b_M_lineGoes 12 = .ok (.getfield 26, 3) := by decide +kernel
theorem d_M_lineGoes_15 : decode b_M_lineGoes 15 = .ok (.iload_n 1, 1) := by decide +kernel
theorem d_M_lineGoes_16 : decode b_M_lineGoes 16 = .ok (.baload, 1) := by decide +kernel
theorem d_M_lineGoes_17 : decode b_M_lineGoes 17 = .ok (.ifCond .eq 7, 3) := by decide +kernel
theorem d_M_lineGoes_20 : decode b_M_lineGoes 20 = .ok (.iconst 1, 1) := by decide +kernel
theorem d_M_lineGoes_21 : decode b_M_lineGoes 21 = .ok (.goto 4, 3) := by decide +kernel
theorem d_M_lineGoes_24 : decode b_M_lineGoes 24 = .ok (.iconst 0, 1) := by decide +kernel
theorem d_M_lineGoes_25 : decode b_M_lineGoes 25 = .ok (.istore_n 3, 1) := by decide +kernel
theorem d_M_lineGoes_26 : decode b_M_lineGoes 26 = .ok (.iload_n 3, 1) := by decide +kernel
theorem d_M_lineGoes_27 : decode b_M_lineGoes 27 = .ok (.ifCond .eq 137, 3) := by decide +kernel
theorem d_M_lineGoes_30 : decode b_M_lineGoes 30 = .ok (.iconst 4, 1) := by decide +kernel
theorem d_M_lineGoes_31 : decode b_M_lineGoes 31 = .ok (.iload_n 2, 1) := by decide +kernel
theorem d_M_lineGoes_32 : decode b_M_lineGoes 32 = .ok (.imul, 1) := by decide +kernel
theorem d_M_lineGoes_33 : decode b_M_lineGoes 33 = .ok (.istore 4, 2) := by decide +kernel
theorem d_M_lineGoes_35 : decode b_M_lineGoes 35 = .ok (.iload 4, 2) := by decide +kernel
theorem d_M_lineGoes_37 : decode b_M_lineGoes 37 = .ok (.iconst 4, 1) := by decide +kernel
theorem d_M_lineGoes_38 : decode b_M_lineGoes 38 = .ok (.iload_n 2, 1) := by decide +kernel
theorem d_M_lineGoes_39 : decode b_M_lineGoes 39 = .ok (.imul, 1) := by decide +kernel
theorem d_M_lineGoes_40 : decode b_M_lineGoes 40 = .ok (.iconst 4, 1) := by decide +kernel
theorem d_M_lineGoes_41 : decode b_M_lineGoes 41 = .ok (.iadd, 1) := by decide +kernel
theorem d_M_lineGoes_42 : decode b_M_lineGoes 42 = .ok (.if_icmp .ge 23, 3) := by decide +kernel
theorem d_M_lineGoes_45 : decode b_M_lineGoes 45 = .ok (.aload_n 0, 1) := by decide +kernel
theorem d_M_lineGoes_46 : decode b_M_lineGoes 46 = .ok (.getfield 17, 3) := by decide +kernel
theorem d_M_lineGoes_49 : decode b_M_lineGoes 49 = .ok (.iload 4, 2) := by decide +kernel
theorem d_M_lineGoes_51 : decode b_M_lineGoes 51 = .ok (.aload_n 0, 1) := by decide +kernel
theorem d_M_lineGoes_52 : decode b_M_lineGoes 52 = .ok (.getfield 7, 3) := by decide +kernel
theorem d_M_lineGoes_55 : decode b_M_lineGoes 55 = .ok (.iload 4, 2) := by decide +kernel
theorem d_M_lineGoes_57 : decode b_M_lineGoes 57 = .ok (.iaload, 1) := by decide +kernel
theorem d_M_lineGoes_58 : decode b_M_lineGoes 58 = .ok (.iastore, 1) := by decide +kernel
theorem d_M_lineGoes_59 : decode b_M_lineGoes 59 = .ok (.iinc 4 1, 3) := by decide +kernel
theorem d_M_lineGoes_62 : decode b_M_lineGoes 62 = .ok (.goto (-27), 3) := by decide +kernel
theorem d_M_lineGoes_65 : decode b_M_lineGoes 65 = .ok (.iload_n 2, 1) := by decide +kernel
theorem d_M_lineGoes_66 : decode b_M_lineGoes 66 = .ok (.bipush 16, 2) := by decide +kernel
theorem d_M_lineGoes_68 : decode b_M_lineGoes 68 = .ok (.idiv, 1) := by decide +kernel
theorem d_M_lineGoes_69 : decode b_M_lineGoes 69 = .ok (.istore 4, 2) := by decide +kernel
theorem d_M_lineGoes_71 : decode b_M_lineGoes 71 = .ok (.aload_n 0, 1) := by decide +kernel
theorem d_M_lineGoes_72 : decode b_M_lineGoes 72 = .ok (.iload 4, 2) := by decide +kernel
theorem d_M_lineGoes_74 : decode b_M_lineGoes 74 = .ok (.invokevirtual 46, 3) := by decide +kernel
theorem d_M_lineGoes_77 : decode b_M_lineGoes 77 = .ok (.iconst 2, 1) := by decide +kernel
theorem d_M_lineGoes_78 : decode b_M_lineGoes 78 = .ok (.iload_n 2, 1) := by decide +kernel
theorem d_M_lineGoes_79 : decode b_M_lineGoes 79 = .ok (.imul, 1) := by decide +kernel
theorem d_M_lineGoes_80 : decode b_M_lineGoes 80 = .ok (.istore 5, 2) := by decide +kernel
theorem d_M_lineGoes_82 : decode b_M_lineGoes 82 = .ok (.iload 5, 2) := by decide +kernel
theorem d_M_lineGoes_84 : decode b_M_lineGoes 84 = .ok (.iconst 2, 1) := by decide +kernel
theorem d_M_lineGoes_85 : decode b_M_lineGoes 85 = .ok (.iload_n 2, 1) := by decide +kernel
theorem d_M_lineGoes_86 : decode b_M_lineGoes 86 = .ok (.imul, 1) := by decide +kernel
theorem d_M_lineGoes_87 : decode b_M_lineGoes 87 = .ok (.iconst 2, 1) := by decide +kernel
theorem d_M_lineGoes_88 : decode b_M_lineGoes 88 = .ok (.iadd, 1) := by decide +kernel
theorem d_M_lineGoes_89 : decode b_M_lineGoes 89 = .ok (.if_icmp .ge 55, 3) := by decide +kernel
theorem d_M_lineGoes_92 : decode b_M_lineGoes 92 = .ok (.aload_n 0, 1) := by decide +kernel
theorem d_M_lineGoes_93 : decode b_M_lineGoes 93 = .ok (.getfield 20, 3) := by decide +kernel
theorem d_M_lineGoes_96 : decode b_M_lineGoes 96 = .ok (.iload 4, 2) := by decide +kernel
theorem d_M_lineGoes_98 : decode b_M_lineGoes 98 = .ok (.aload_n 0, 1) := by decide +kernel
theorem d_M_lineGoes_99 : decode b_M_lineGoes 99 = .ok (.getfield 20, 3) := by decide +kernel
theorem d_M_lineGoes_102 : decode b_M_lineGoes 102 = .ok (.iload 4, 2) := by decide +kernel
theorem d_M_lineGoes_104 : decode b_M_lineGoes 104 = .ok (.iaload, 1) := by decide +kernel
theorem d_M_lineGoes_105 : decode b_M_lineGoes 105 = .ok (.iconst 1, 1) := by decide +kernel
theorem d_M_lineGoes_106 : decode b_M_lineGoes 106 = .ok (.iload 5, 2) := by decide +kernel
theorem d_M_lineGoes_108 : decode b_M_lineGoes 108 = .ok (.bipush 32, 2) := by decide +kernel
theorem d_M_lineGoes_110 : decode b_M_lineGoes 110 = .ok (.irem, 1) := by decide +kernel
theorem d_M_lineGoes_111 : decode b_M_lineGoes 111 = .ok (.ishl, 1) := by decide +kernel
theorem d_M_lineGoes_112 : decode b_M_lineGoes 112 = .ok (.iconst (-1), 1) := by decide +kernel
theorem d_M_lineGoes_113 : decode b_M_lineGoes 113 = .ok (.ixor, 1) := by decide +kernel
theorem d_M_lineGoes_114 : decode b_M_lineGoes 114 = .ok (.iand, 1) := by decide +kernel
theorem d_M_lineGoes_115 : decode b_M_lineGoes 115 = .ok (.aload_n 0, 1) := by decide +kernel
theorem d_M_lineGoes_116 : decode b_M_lineGoes 116 = .ok (.getfield 13, 3) := by decide +kernel
theorem d_M_lineGoes_119 : decode b_M_lineGoes 119 = .ok (.iload 5, 2) := by decide +kernel
theorem d_M_lineGoes_121 : decode b_M_lineGoes 121 = .ok (.baload, 1) := by decide +kernel
theorem d_M_lineGoes_122 : decode b_M_lineGoes 122 = .ok (.ifCond .eq 13, 3) := by decide +kernel
theorem d_M_lineGoes_125 : decode b_M_lineGoes 125 = .ok (.iconst 1, 1) := by decide +kernel
theorem d_M_lineGoes_126 : decode b_M_lineGoes 126 = .ok (.iload 5, 2) := by decide +kernel
theorem d_M_lineGoes_128 : decode b_M_lineGoes 128 = .ok (.bipush 32, 2) := by decide +kernel
theorem d_M_lineGoes_130 : decode b_M_lineGoes 130 = .ok (.irem, 1) := by decide +kernel
theorem d_M_lineGoes_131 : decode b_M_lineGoes 131 = .ok (.ishl, 1) := by decide +kernel
theorem d_M_lineGoes_132 : decode b_M_lineGoes 132 = .ok (.goto 4, 3) := by decide +kernel
theorem d_M_lineGoes_135 : decode b_M_lineGoes 135 = .ok (.iconst 0, 1) := by decide +kernel
theorem d_M_lineGoes_136 : decode b_M_lineGoes 136 = .ok (.ior, 1) := by decide +kernel
theorem d_M_lineGoes_137 : decode b_M_lineGoes 137 = .ok (.iastore, 1) := by decide +kernel
theorem d_M_lineGoes_138 : decode b_M_lineGoes 138 = .ok (.iinc 5 1, 3) := by decide +kernel
theorem d_M_lineGoes_141 : decode b_M_lineGoes 141 = .ok (.goto (-59), 3) := by decide +kernel
theorem d_M_lineGoes_144 : decode b_M_lineGoes 144 = .ok (.aload_n 0, 1) := by decide +kernel
theorem d_M_lineGoes_145 : decode b_M_lineGoes 145 = .ok (.getfield 32, 3) := by decide +kernel
theorem d_M_lineGoes_148 : decode b_M_lineGoes 148 = .ok (.iload 4, 2) := by decide +kernel
theorem d_M_lineGoes_150 : decode b_M_lineGoes 150 = .ok (.iconst 4, 1) := by decide +kernel
theorem d_M_lineGoes_151 : decode b_M_lineGoes 151 = .ok (.irem, 1) := by decide +kernel
theorem d_M_lineGoes_152 : decode b_M_lineGoes 152 = .ok (.iconst 1, 1) := by decide +kernel
theorem d_M_lineGoes_153 : decode b_M_lineGoes 153 = .ok (.bastore, 1) := by decide +kernel
theorem d_M_lineGoes_154 : decode b_M_lineGoes 154 = .ok (.aload_n 0, 1) := by decide +kernel
theorem d_M_lineGoes_155 : decode b_M_lineGoes 155 = .ok (.getfield 35, 3) := by decide +kernel
theorem d_M_lineGoes_158 : decode b_M_lineGoes 158 = .ok (.iconst 1, 1) := by decide +kernel
theorem d_M_lineGoes_159 : decode b_M_lineGoes 159 = .ok (.dup2, 1) := by decide +kernel
theorem d_M_lineGoes_160 : decode b_M_lineGoes 160 = .ok (.iaload, 1) := by decide +kernel
theorem d_M_lineGoes_161 : decode b_M_lineGoes 161 = .ok (.iconst 1, 1) := by decide +kernel
theorem d_M_lineGoes_162 : decode b_M_lineGoes 162 = .ok (.iadd, 1) := by decide +kernel
theorem d_M_lineGoes_163 : decode b_M_lineGoes 163 = .ok (.iastore, 1) := by decide +kernel
theorem d_M_lineGoes_164 : decode b_M_lineGoes 164 = .ok (.aload_n 0, 1) := by decide +kernel
theorem d_M_lineGoes_165 : decode b_M_lineGoes 165 = .ok (.getfield 23, 3) := by decide +kernel
theorem d_M_lineGoes_168 : decode b_M_lineGoes 168 = .ok (.iload_n 1, 1) := by decide +kernel
theorem d_M_lineGoes_169 : decode b_M_lineGoes 169 = .ok (.iconst (-1), 1) := by decide +kernel
theorem d_M_lineGoes_170 : decode b_M_lineGoes 170 = .ok (.iastore, 1) := by decide +kernel
theorem d_M_lineGoes_171 : decode b_M_lineGoes 171 = .ok (.aload_n 0, 1) := by decide +kernel
theorem d_M_lineGoes_172 : decode b_M_lineGoes 172 = .ok (.getfield 26, 3) := by decide +kernel
theorem d_M_lineGoes_175 : decode b_M_lineGoes 175 = .ok (.iload_n 1, 1) := by decide +kernel
theorem d_M_lineGoes_176 : decode b_M_lineGoes 176 = .ok (.iconst 0, 1) := by decide +kernel
theorem d_M_lineGoes_177 : decode b_M_lineGoes 177 = .ok (.bastore, 1) := by decide +kernel
theorem d_M_lineGoes_178 : decode b_M_lineGoes 178 = .ok (.iload_n 3, 1) := by decide +kernel
theorem d_M_lineGoes_179 : decode b_M_lineGoes 179 = .ok (.ireturn, 1) := by decide +kernel
theorem d_M_want_0 : decode b_M_want 0 = .ok (.iload_n 1, 1) := by decide +kernel
theorem d_M_want_1 : decode b_M_want 1 = .ok (.bipush 16, 2) := by decide +kernel
theorem d_M_want_3 : decode b_M_want 3 = .ok (.irem, 1) := by decide +kernel
theorem d_M_want_4 : decode b_M_want 4 = .ok (.istore_n 2, 1) := by decide +kernel
theorem d_M_want_5 : decode b_M_want 5 = .ok (.aload_n 0, 1) := by decide +kernel
theorem d_M_want_6 : decode b_M_want 6 = .ok (.getfield 23, 3) := by decide +kernel
theorem d_M_want_9 : decode b_M_want 9 = .ok (.iload_n 2, 1) := by decide +kernel
theorem d_M_want_10 : decode b_M_want 10 = .ok (.iaload, 1) := by decide +kernel
theorem d_M_want_11 : decode b_M_want 11 = .ok (.iload_n 1, 1) := by decide +kernel
theorem d_M_want_12 : decode b_M_want 12 = .ok (.if_icmp .ne 4, 3) := by decide +kernel
theorem d_M_want_15 : decode b_M_want 15 = .ok (.return_, 1) := by decide +kernel
theorem d_M_want_16 : decode b_M_want 16 = .ok (.aload_n 0, 1) := by decide +kernel
theorem d_M_want_17 : decode b_M_want 17 = .ok (.iload_n 2, 1) := by decide +kernel
theorem d_M_want_18 : decode b_M_want 18 = .ok (.invokevirtual 49, 3) := by decide +kernel
theorem d_M_want_21 : decode b_M_want 21 = .ok (.pop, 1) := by decide +kernel
theorem d_M_want_22 : decode b_M_want 22 = .ok (.aload_n 0, 1) := by decide +kernel
theorem d_M_want_23 : decode b_M_want 23 = .ok (.iload_n 1, 1) := by decide +kernel
theorem d_M_want_24 : decode b_M_want 24 = .ok (.bipush 16, 2) := by decide +kernel
theorem d_M_want_26 : decode b_M_want 26 = .ok (.idiv, 1) := by decide +kernel
theorem d_M_want_27 : decode b_M_want 27 = .ok (.invokevirtual 46, 3) := by decide +kernel
theorem d_M_want_30 : decode b_M_want 30 = .ok (.aload_n 0, 1) := by decide +kernel
theorem d_M_want_31 : decode b_M_want 31 = .ok (.getfield 23, 3) := by decide +kernel
theorem d_M_want_34 : decode b_M_want 34 = .ok (.iload_n 2, 1) := by decide +kernel
theorem d_M_want_35 : decode b_M_want 35 = .ok (.iload_n 1, 1) := by decide +kernel
theorem d_M_want_36 : decode b_M_want 36 = .ok (.iastore, 1) := by decide +kernel
theorem d_M_want_37 : decode b_M_want 37 = .ok (.aload_n 0, 1) := by decide +kernel
theorem d_M_want_38 : decode b_M_want 38 = .ok (.getfield 35, 3) := by decide +kernel
theorem d_M_want_41 : decode b_M_want 41 = .ok (.iconst 0, 1) := by decide +kernel
theorem d_M_want_42 : decode b_M_want 42 = .ok (.dup2, 1) := by decide +kernel
theorem d_M_want_43 : decode b_M_want 43 = .ok (.iaload, 1) := by decide +kernel
theorem d_M_want_44 : decode b_M_want 44 = .ok (.iconst 1, 1) := by decide +kernel
theorem d_M_want_45 : decode b_M_want 45 = .ok (.iadd, 1) := by decide +kernel
theorem d_M_want_46 : decode b_M_want 46 = .ok (.iastore, 1) := by decide +kernel
theorem d_M_want_47 : decode b_M_want 47 = .ok (.return_, 1) := by decide +kernel
theorem d_M_changes_0 : decode b_M_changes 0 = .ok (.aload_n 0, 1) := by decide +kernel
theorem d_M_changes_1 : decode b_M_changes 1 = .ok (.iload_n 1, 1) := by decide +kernel
theorem d_M_changes_2 : decode b_M_changes 2 = .ok (.iconst 4, 1) := by decide +kernel
theorem d_M_changes_3 : decode b_M_changes 3 = .ok (.idiv, 1) := by decide +kernel
theorem d_M_changes_4 : decode b_M_changes 4 = .ok (.invokevirtual 53, 3) := by decide +kernel
theorem d_M_changes_7 : decode b_M_changes 7 = .ok (.aload_n 0, 1) := by decide +kernel
theorem d_M_changes_8 : decode b_M_changes 8 = .ok (.getfield 7, 3) := by decide +kernel
theorem d_M_changes_11 : decode b_M_changes 11 = .ok (.iload_n 1, 1) := by decide +kernel
theorem d_M_changes_12 : decode b_M_changes 12 = .ok (.iload_n 2, 1) := by decide +kernel
theorem d_M_changes_13 : decode b_M_changes 13 = .ok (.iastore, 1) := by decide +kernel
theorem d_M_changes_14 : decode b_M_changes 14 = .ok (.aload_n 0, 1) := by decide +kernel
theorem d_M_changes_15 : decode b_M_changes 15 = .ok (.getfield 13, 3) := by decide +kernel
theorem d_M_changes_18 : decode b_M_changes 18 = .ok (.iload_n 1, 1) := by decide +kernel
theorem d_M_changes_19 : decode b_M_changes 19 = .ok (.iconst 2, 1) := by decide +kernel
theorem d_M_changes_20 : decode b_M_changes 20 = .ok (.idiv, 1) := by decide +kernel
theorem d_M_changes_21 : decode b_M_changes 21 = .ok (.iload_n 3, 1) := by decide +kernel
theorem d_M_changes_22 : decode b_M_changes 22 = .ok (.bastore, 1) := by decide +kernel
theorem d_M_changes_23 : decode b_M_changes 23 = .ok (.aload_n 0, 1) := by decide +kernel
theorem d_M_changes_24 : decode b_M_changes 24 = .ok (.getfield 26, 3) := by decide +kernel
theorem d_M_changes_27 : decode b_M_changes 27 = .ok (.iload_n 1, 1) := by decide +kernel
theorem d_M_changes_28 : decode b_M_changes 28 = .ok (.iconst 4, 1) := by decide +kernel
theorem d_M_changes_29 : decode b_M_changes 29 = .ok (.idiv, 1) := by decide +kernel
theorem d_M_changes_30 : decode b_M_changes 30 = .ok (.bipush 16, 2) := by decide +kernel
theorem d_M_changes_32 : decode b_M_changes 32 = .ok (.irem, 1) := by decide +kernel
theorem d_M_changes_33 : decode b_M_changes 33 = .ok (.iconst 1, 1) := by decide +kernel
theorem d_M_changes_34 : decode b_M_changes 34 = .ok (.bastore, 1) := by decide +kernel
theorem d_M_changes_35 : decode b_M_changes 35 = .ok (.return_, 1) := by decide +kernel
theorem d_M_read_0 : decode b_M_read 0 = .ok (.aload_n 0, 1) := by decide +kernel
theorem d_M_read_1 : decode b_M_read 1 = .ok (.iload_n 1, 1) := by decide +kernel
theorem d_M_read_2 : decode b_M_read 2 = .ok (.ifCond .lt 10, 3) := by decide +kernel
theorem d_M_read_5 : decode b_M_read 5 = .ok (.iload_n 1, 1) := by decide +kernel
theorem d_M_read_6 : decode b_M_read 6 = .ok (.sipush 2047, 3) := by decide +kernel
theorem d_M_read_9 : decode b_M_read 9 = .ok (.if_icmp .le 7, 3) := by decide +kernel
theorem d_M_read_12 : decode b_M_read 12 = .ok (.iconst 1, 1) := by decide +kernel
theorem d_M_read_13 : decode b_M_read 13 = .ok (.goto 4, 3) := by decide +kernel
theorem d_M_read_16 : decode b_M_read 16 = .ok (.iconst 0, 1) := by decide +kernel
theorem d_M_read_17 : decode b_M_read 17 = .ok (.iconst 1, 1) := by decide +kernel
theorem d_M_read_18 : decode b_M_read 18 = .ok (.invokevirtual 56, 3) := by decide +kernel
theorem d_M_read_21 : decode b_M_read 21 = .ok (.ifCond .eq 5, 3) := by decide +kernel
theorem d_M_read_24 : decode b_M_read 24 = .ok (.iconst 0, 1) := by decide +kernel
theorem d_M_read_25 : decode b_M_read 25 = .ok (.ireturn, 1) := by decide +kernel
theorem d_M_read_26 : decode b_M_read 26 = .ok (.aload_n 0, 1) := by decide +kernel
theorem d_M_read_27 : decode b_M_read 27 = .ok (.iload_n 1, 1) := by decide +kernel
theorem d_M_read_28 : decode b_M_read 28 = .ok (.iconst 4, 1) := by decide +kernel
theorem d_M_read_29 : decode b_M_read 29 = .ok (.idiv, 1) := by decide +kernel
theorem d_M_read_30 : decode b_M_read 30 = .ok (.invokevirtual 53, 3) := by decide +kernel
theorem d_M_read_33 : decode b_M_read 33 = .ok (.aload_n 0, 1) := by decide +kernel
theorem d_M_read_34 : decode b_M_read 34 = .ok (.getfield 7, 3) := by decide +kernel
theorem d_M_read_37 : decode b_M_read 37 = .ok (.iload_n 1, 1) := by decide +kernel
theorem d_M_read_38 : decode b_M_read 38 = .ok (.iaload, 1) := by decide +kernel
theorem d_M_read_39 : decode b_M_read 39 = .ok (.ireturn, 1) := by decide +kernel
theorem d_M_tag_0 : decode b_M_tag 0 = .ok (.aload_n 0, 1) := by decide +kernel
theorem d_M_tag_1 : decode b_M_tag 1 = .ok (.iload_n 1, 1) := by decide +kernel
theorem d_M_tag_2 : decode b_M_tag 2 = .ok (.ifCond .lt 10, 3) := by decide +kernel
theorem d_M_tag_5 : decode b_M_tag 5 = .ok (.iload_n 1, 1) := by decide +kernel
theorem d_M_tag_6 : decode b_M_tag 6 = .ok (.sipush 2047, 3) := by decide +kernel
theorem d_M_tag_9 : decode b_M_tag 9 = .ok (.if_icmp .le 7, 3) := by decide +kernel
theorem d_M_tag_12 : decode b_M_tag 12 = .ok (.iconst 1, 1) := by decide +kernel
theorem d_M_tag_13 : decode b_M_tag 13 = .ok (.goto 4, 3) := by decide +kernel
theorem d_M_tag_16 : decode b_M_tag 16 = .ok (.iconst 0, 1) := by decide +kernel
theorem d_M_tag_17 : decode b_M_tag 17 = .ok (.iconst 1, 1) := by decide +kernel
theorem d_M_tag_18 : decode b_M_tag 18 = .ok (.invokevirtual 56, 3) := by decide +kernel
theorem d_M_tag_21 : decode b_M_tag 21 = .ok (.ifCond .eq 5, 3) := by decide +kernel
theorem d_M_tag_24 : decode b_M_tag 24 = .ok (.iconst 0, 1) := by decide +kernel
theorem d_M_tag_25 : decode b_M_tag 25 = .ok (.ireturn, 1) := by decide +kernel
theorem d_M_tag_26 : decode b_M_tag 26 = .ok (.aload_n 0, 1) := by decide +kernel
theorem d_M_tag_27 : decode b_M_tag 27 = .ok (.iload_n 1, 1) := by decide +kernel
theorem d_M_tag_28 : decode b_M_tag 28 = .ok (.iconst 4, 1) := by decide +kernel
theorem d_M_tag_29 : decode b_M_tag 29 = .ok (.idiv, 1) := by decide +kernel
theorem d_M_tag_30 : decode b_M_tag 30 = .ok (.invokevirtual 53, 3) := by decide +kernel
theorem d_M_tag_33 : decode b_M_tag 33 = .ok (.aload_n 0, 1) := by decide +kernel
theorem d_M_tag_34 : decode b_M_tag 34 = .ok (.getfield 13, 3) := by decide +kernel
theorem d_M_tag_37 : decode b_M_tag 37 = .ok (.iload_n 1, 1) := by decide +kernel
theorem d_M_tag_38 : decode b_M_tag 38 = .ok (.iconst 2, 1) := by decide +kernel
theorem d_M_tag_39 : decode b_M_tag 39 = .ok (.idiv, 1) := by decide +kernel
theorem d_M_tag_40 : decode b_M_tag 40 = .ok (.baload, 1) := by decide +kernel
theorem d_M_tag_41 : decode b_M_tag 41 = .ok (.ireturn, 1) := by decide +kernel
theorem d_M_write_0 : decode b_M_write 0 = .ok (.aload_n 0, 1) := by decide +kernel
theorem d_M_write_1 : decode b_M_write 1 = .ok (.iload_n 1, 1) := by decide +kernel
theorem d_M_write_2 : decode b_M_write 2 = .ok (.ifCond .lt 10, 3) := by decide +kernel
theorem d_M_write_5 : decode b_M_write 5 = .ok (.iload_n 1, 1) := by decide +kernel
theorem d_M_write_6 : decode b_M_write 6 = .ok (.sipush 2047, 3) := by decide +kernel
theorem d_M_write_9 : decode b_M_write 9 = .ok (.if_icmp .le 7, 3) := by decide +kernel
theorem d_M_write_12 : decode b_M_write 12 = .ok (.iconst 1, 1) := by decide +kernel
theorem d_M_write_13 : decode b_M_write 13 = .ok (.goto 4, 3) := by decide +kernel
theorem d_M_write_16 : decode b_M_write 16 = .ok (.iconst 0, 1) := by decide +kernel
theorem d_M_write_17 : decode b_M_write 17 = .ok (.iconst 1, 1) := by decide +kernel
theorem d_M_write_18 : decode b_M_write 18 = .ok (.invokevirtual 56, 3) := by decide +kernel
theorem d_M_write_21 : decode b_M_write 21 = .ok (.ifCond .eq 5, 3) := by decide +kernel
theorem d_M_write_24 : decode b_M_write 24 = .ok (.iconst 0, 1) := by decide +kernel
theorem d_M_write_25 : decode b_M_write 25 = .ok (.ireturn, 1) := by decide +kernel
theorem d_M_write_26 : decode b_M_write 26 = .ok (.aload_n 0, 1) := by decide +kernel
theorem d_M_write_27 : decode b_M_write 27 = .ok (.getfield 7, 3) := by decide +kernel
theorem d_M_write_30 : decode b_M_write 30 = .ok (.iload_n 1, 1) := by decide +kernel
theorem d_M_write_31 : decode b_M_write 31 = .ok (.iaload, 1) := by decide +kernel
theorem d_M_write_32 : decode b_M_write 32 = .ok (.istore_n 3, 1) := by decide +kernel
theorem d_M_write_33 : decode b_M_write 33 = .ok (.aload_n 0, 1) := by decide +kernel
theorem d_M_write_34 : decode b_M_write 34 = .ok (.iload_n 1, 1) := by decide +kernel
theorem d_M_write_35 : decode b_M_write 35 = .ok (.iload_n 2, 1) := by decide +kernel
theorem d_M_write_36 : decode b_M_write 36 = .ok (.iconst 0, 1) := by decide +kernel
theorem d_M_write_37 : decode b_M_write 37 = .ok (.invokevirtual 60, 3) := by decide +kernel
theorem d_M_write_40 : decode b_M_write 40 = .ok (.iload_n 3, 1) := by decide +kernel
theorem d_M_write_41 : decode b_M_write 41 = .ok (.ireturn, 1) := by decide +kernel
theorem d_M_part_0 : decode b_M_part 0 = .ok (.aload_n 0, 1) := by decide +kernel
theorem d_M_part_1 : decode b_M_part 1 = .ok (.iload_n 1, 1) := by decide +kernel
theorem d_M_part_2 : decode b_M_part 2 = .ok (.ifCond .lt 10, 3) := by decide +kernel
theorem d_M_part_5 : decode b_M_part 5 = .ok (.iload_n 1, 1) := by decide +kernel
theorem d_M_part_6 : decode b_M_part 6 = .ok (.sipush 2047, 3) := by decide +kernel
theorem d_M_part_9 : decode b_M_part 9 = .ok (.if_icmp .le 7, 3) := by decide +kernel
theorem d_M_part_12 : decode b_M_part 12 = .ok (.iconst 1, 1) := by decide +kernel
theorem d_M_part_13 : decode b_M_part 13 = .ok (.goto 4, 3) := by decide +kernel
theorem d_M_part_16 : decode b_M_part 16 = .ok (.iconst 0, 1) := by decide +kernel
theorem d_M_part_17 : decode b_M_part 17 = .ok (.iconst 1, 1) := by decide +kernel
theorem d_M_part_18 : decode b_M_part 18 = .ok (.invokevirtual 56, 3) := by decide +kernel
theorem d_M_part_21 : decode b_M_part 21 = .ok (.ifCond .ne 41, 3) := by decide +kernel
theorem d_M_part_24 : decode b_M_part 24 = .ok (.aload_n 0, 1) := by decide +kernel
theorem d_M_part_25 : decode b_M_part 25 = .ok (.iload_n 3, 1) := by decide +kernel
theorem d_M_part_26 : decode b_M_part 26 = .ok (.iconst 1, 1) := by decide +kernel
theorem d_M_part_27 : decode b_M_part 27 = .ok (.if_icmp .lt 23, 3) := by decide +kernel
theorem d_M_part_30 : decode b_M_part 30 = .ok (.iload_n 3, 1) := by decide +kernel
theorem d_M_part_31 : decode b_M_part 31 = .ok (.iconst 2, 1) := by decide +kernel
theorem d_M_part_32 : decode b_M_part 32 = .ok (.if_icmp .gt 18, 3) := by decide +kernel
theorem d_M_part_35 : decode b_M_part 35 = .ok (.iload_n 2, 1) := by decide +kernel
theorem d_M_part_36 : decode b_M_part 36 = .ok (.ifCond .lt 14, 3) := by decide +kernel
theorem d_M_part_39 : decode b_M_part 39 = .ok (.iload_n 2, 1) := by decide +kernel
theorem d_M_part_40 : decode b_M_part 40 = .ok (.iconst 3, 1) := by decide +kernel
theorem d_M_part_41 : decode b_M_part 41 = .ok (.if_icmp .gt 9, 3) := by decide +kernel
theorem d_M_part_44 : decode b_M_part 44 = .ok (.iload_n 2, 1) := by decide +kernel
theorem d_M_part_45 : decode b_M_part 45 = .ok (.iload_n 3, 1) := by decide +kernel
theorem d_M_part_46 : decode b_M_part 46 = .ok (.irem, 1) := by decide +kernel
theorem d_M_part_47 : decode b_M_part 47 = .ok (.ifCond .eq 7, 3) := by decide +kernel
theorem d_M_part_50 : decode b_M_part 50 = .ok (.iconst 1, 1) := by decide +kernel
theorem d_M_part_51 : decode b_M_part 51 = .ok (.goto 4, 3) := by decide +kernel
theorem d_M_part_54 : decode b_M_part 54 = .ok (.iconst 0, 1) := by decide +kernel
theorem d_M_part_55 : decode b_M_part 55 = .ok (.iconst 2, 1) := by decide +kernel
theorem d_M_part_56 : decode b_M_part 56 = .ok (.invokevirtual 56, 3) := by decide +kernel
theorem d_M_part_59 : decode b_M_part 59 = .ok (.ifCond .eq 5, 3) := by decide +kernel
theorem d_M_part_62 : decode b_M_part 62 = .ok (.iconst 0, 1) := by decide +kernel
theorem d_M_part_63 : decode b_M_part 63 = .ok (.ireturn, 1) := by decide +kernel
theorem d_M_part_64 : decode b_M_part 64 = .ok (.iload_n 3, 1) := by decide +kernel
theorem d_M_part_65 : decode b_M_part 65 = .ok (.iconst 1, 1) := by decide +kernel
theorem d_M_part_66 : decode b_M_part 66 = .ok (.if_icmp .ne 9, 3) := by decide +kernel
theorem d_M_part_69 : decode b_M_part 69 = .ok (.sipush 255, 3) := by decide +kernel
theorem d_M_part_72 : decode b_M_part 72 = .ok (.goto 5, 3) := by decide +kernel
theorem d_M_part_75 : decode b_M_part 75 = .ok (.ldc 64, 2) := by decide +kernel
theorem d_M_part_77 : decode b_M_part 77 = .ok (.bipush 8, 2) := by decide +kernel
theorem d_M_part_79 : decode b_M_part 79 = .ok (.iload_n 2, 1) := by decide +kernel
theorem d_M_part_80 : decode b_M_part 80 = .ok (.imul, 1) := by decide +kernel
theorem d_M_part_81 : decode b_M_part 81 = .ok (.ishl, 1) := by decide +kernel
theorem d_M_part_82 : decode b_M_part 82 = .ok (.istore 5, 2) := by decide +kernel
theorem d_M_part_84 : decode b_M_part 84 = .ok (.aload_n 0, 1) := by decide +kernel
theorem d_M_part_85 : decode b_M_part 85 = .ok (.iload_n 1, 1) := by decide +kernel
theorem d_M_part_86 : decode b_M_part 86 = .ok (.aload_n 0, 1) := by decide +kernel
theorem d_M_part_87 : decode b_M_part 87 = .ok (.getfield 7, 3) := by decide +kernel
theorem d_M_part_90 : decode b_M_part 90 = .ok (.iload_n 1, 1) := by decide +kernel
theorem d_M_part_91 : decode b_M_part 91 = .ok (.iaload, 1) := by decide +kernel
theorem d_M_part_92 : decode b_M_part 92 = .ok (.iload 5, 2) := by decide +kernel
theorem d_M_part_94 : decode b_M_part 94 = .ok (.iconst (-1), 1) := by decide +kernel
theorem d_M_part_95 : decode b_M_part 95 = .ok (.ixor, 1) := by decide +kernel
theorem d_M_part_96 : decode b_M_part 96 = .ok (.iand, 1) := by decide +kernel
theorem d_M_part_97 : decode b_M_part 97 = .ok (.iload 4, 2) := by decide +kernel
theorem d_M_part_99 : decode b_M_part 99 = .ok (.bipush 8, 2) := by decide +kernel
theorem d_M_part_101 : decode b_M_part 101 = .ok (.iload_n 2, 1) := by decide +kernel
theorem d_M_part_102 : decode b_M_part 102 = .ok (.imul, 1) := by decide +kernel
theorem d_M_part_103 : decode b_M_part 103 = .ok (.ishl, 1) := by decide +kernel
theorem d_M_part_104 : decode b_M_part 104 = .ok (.iload 5, 2) := by decide +kernel
theorem d_M_part_106 : decode b_M_part 106 = .ok (.iand, 1) := by decide +kernel
theorem d_M_part_107 : decode b_M_part 107 = .ok (.ior, 1) := by decide +kernel
theorem d_M_part_108 : decode b_M_part 108 = .ok (.iconst 0, 1) := by decide +kernel
theorem d_M_part_109 : decode b_M_part 109 = .ok (.invokevirtual 60, 3) := by decide +kernel
theorem d_M_part_112 : decode b_M_part 112 = .ok (.aload_n 0, 1) := by decide +kernel
theorem d_M_part_113 : decode b_M_part 113 = .ok (.getfield 7, 3) := by decide +kernel
theorem d_M_part_116 : decode b_M_part 116 = .ok (.iload_n 1, 1) := by decide +kernel
theorem d_M_part_117 : decode b_M_part 117 = .ok (.iaload, 1) := by decide +kernel
theorem d_M_part_118 : decode b_M_part 118 = .ok (.ireturn, 1) := by decide +kernel
theorem d_M_put_0 : decode b_M_put 0 = .ok (.aload_n 0, 1) := by decide +kernel
theorem d_M_put_1 : decode b_M_put 1 = .ok (.iload_n 1, 1) := by decide +kernel
theorem d_M_put_2 : decode b_M_put 2 = .ok (.ifCond .lt 10, 3) := by decide +kernel
theorem d_M_put_5 : decode b_M_put 5 = .ok (.iload_n 1, 1) := by decide +kernel
theorem d_M_put_6 : decode b_M_put 6 = .ok (.sipush 1023, 3) := by decide +kernel
theorem d_M_put_9 : decode b_M_put 9 = .ok (.if_icmp .le 7, 3) := by decide +kernel
theorem d_M_put_12 : decode b_M_put 12 = .ok (.iconst 1, 1) := by decide +kernel
theorem d_M_put_13 : decode b_M_put 13 = .ok (.goto 4, 3) := by decide +kernel
theorem d_M_put_16 : decode b_M_put 16 = .ok (.iconst 0, 1) := by decide +kernel
theorem d_M_put_17 : decode b_M_put 17 = .ok (.iconst 1, 1) := by decide +kernel
theorem d_M_put_18 : decode b_M_put 18 = .ok (.invokevirtual 56, 3) := by decide +kernel
theorem d_M_put_21 : decode b_M_put 21 = .ok (.ifCond .eq 4, 3) := by decide +kernel
theorem d_M_put_24 : decode b_M_put 24 = .ok (.return_, 1) := by decide +kernel
theorem d_M_put_25 : decode b_M_put 25 = .ok (.aload_n 0, 1) := by decide +kernel
theorem d_M_put_26 : decode b_M_put 26 = .ok (.iconst 2, 1) := by decide +kernel
theorem d_M_put_27 : decode b_M_put 27 = .ok (.iload_n 1, 1) := by decide +kernel
theorem d_M_put_28 : decode b_M_put 28 = .ok (.imul, 1) := by decide +kernel
theorem d_M_put_29 : decode b_M_put 29 = .ok (.iload_n 2, 1) := by decide +kernel
theorem d_M_put_30 : decode b_M_put 30 = .ok (.iload 4, 2) := by decide +kernel
theorem d_M_put_32 : decode b_M_put 32 = .ok (.invokevirtual 60, 3) := by decide +kernel
theorem d_M_put_35 : decode b_M_put 35 = .ok (.aload_n 0, 1) := by decide +kernel
theorem d_M_put_36 : decode b_M_put 36 = .ok (.iconst 2, 1) := by decide +kernel
theorem d_M_put_37 : decode b_M_put 37 = .ok (.iload_n 1, 1) := by decide +kernel
theorem d_M_put_38 : decode b_M_put 38 = .ok (.imul, 1) := by decide +kernel
theorem d_M_put_39 : decode b_M_put 39 = .ok (.iconst 1, 1) := by decide +kernel
theorem d_M_put_40 : decode b_M_put 40 = .ok (.iadd, 1) := by decide +kernel
theorem d_M_put_41 : decode b_M_put 41 = .ok (.iload_n 3, 1) := by decide +kernel
theorem d_M_put_42 : decode b_M_put 42 = .ok (.iload 4, 2) := by decide +kernel
theorem d_M_put_44 : decode b_M_put 44 = .ok (.invokevirtual 60, 3) := by decide +kernel
theorem d_M_put_47 : decode b_M_put 47 = .ok (.return_, 1) := by decide +kernel
theorem d_M_copy_0 : decode b_M_copy 0 = .ok (.aload_n 0, 1) := by decide +kernel
theorem d_M_copy_1 : decode b_M_copy 1 = .ok (.iload_n 2, 1) := by decide +kernel
theorem d_M_copy_2 : decode b_M_copy 2 = .ok (.ifCond .lt 21, 3) := by decide +kernel
theorem d_M_copy_5 : decode b_M_copy 5 = .ok (.iload_n 2, 1) := by decide +kernel
theorem d_M_copy_6 : decode b_M_copy 6 = .ok (.sipush 1023, 3) := by decide +kernel
theorem d_M_copy_9 : decode b_M_copy 9 = .ok (.if_icmp .gt 14, 3) := by decide +kernel
theorem d_M_copy_12 : decode b_M_copy 12 = .ok (.iload_n 1, 1) := by decide +kernel
theorem d_M_copy_13 : decode b_M_copy 13 = .ok (.ifCond .lt 10, 3) := by decide +kernel
theorem d_M_copy_16 : decode b_M_copy 16 = .ok (.iload_n 1, 1) := by decide +kernel
theorem d_M_copy_17 : decode b_M_copy 17 = .ok (.sipush 1023, 3) := by decide +kernel
theorem d_M_copy_20 : decode b_M_copy 20 = .ok (.if_icmp .le 7, 3) := by decide +kernel
theorem d_M_copy_23 : decode b_M_copy 23 = .ok (.iconst 1, 1) := by decide +kernel
theorem d_M_copy_24 : decode b_M_copy 24 = .ok (.goto 4, 3) := by decide +kernel
theorem d_M_copy_27 : decode b_M_copy 27 = .ok (.iconst 0, 1) := by decide +kernel
theorem d_M_copy_28 : decode b_M_copy 28 = .ok (.iconst 1, 1) := by decide +kernel
theorem d_M_copy_29 : decode b_M_copy 29 = .ok (.invokevirtual 56, 3) := by decide +kernel
theorem d_M_copy_32 : decode b_M_copy 32 = .ok (.ifCond .eq 5, 3) := by decide +kernel
theorem d_M_copy_35 : decode b_M_copy 35 = .ok (.iconst 0, 1) := by decide +kernel
theorem d_M_copy_36 : decode b_M_copy 36 = .ok (.ireturn, 1) := by decide +kernel
theorem d_M_copy_37 : decode b_M_copy 37 = .ok (.aload_n 0, 1) := by decide +kernel
theorem d_M_copy_38 : decode b_M_copy 38 = .ok (.iload_n 2, 1) := by decide +kernel
theorem d_M_copy_39 : decode b_M_copy 39 = .ok (.iconst 2, 1) := by decide +kernel
theorem d_M_copy_40 : decode b_M_copy 40 = .ok (.idiv, 1) := by decide +kernel
theorem d_M_copy_41 : decode b_M_copy 41 = .ok (.invokevirtual 53, 3) := by decide +kernel
theorem d_M_copy_44 : decode b_M_copy 44 = .ok (.aload_n 0, 1) := by decide +kernel
theorem d_M_copy_45 : decode b_M_copy 45 = .ok (.getfield 13, 3) := by decide +kernel
theorem d_M_copy_48 : decode b_M_copy 48 = .ok (.iload_n 2, 1) := by decide +kernel
theorem d_M_copy_49 : decode b_M_copy 49 = .ok (.baload, 1) := by decide +kernel
theorem d_M_copy_50 : decode b_M_copy 50 = .ok (.istore_n 3, 1) := by decide +kernel
theorem d_M_copy_51 : decode b_M_copy 51 = .ok (.aload_n 0, 1) := by decide +kernel
theorem d_M_copy_52 : decode b_M_copy 52 = .ok (.iconst 2, 1) := by decide +kernel
theorem d_M_copy_53 : decode b_M_copy 53 = .ok (.iload_n 1, 1) := by decide +kernel
theorem d_M_copy_54 : decode b_M_copy 54 = .ok (.imul, 1) := by decide +kernel
theorem d_M_copy_55 : decode b_M_copy 55 = .ok (.aload_n 0, 1) := by decide +kernel
theorem d_M_copy_56 : decode b_M_copy 56 = .ok (.getfield 7, 3) := by decide +kernel
theorem d_M_copy_59 : decode b_M_copy 59 = .ok (.iconst 2, 1) := by decide +kernel
theorem d_M_copy_60 : decode b_M_copy 60 = .ok (.iload_n 2, 1) := by decide +kernel
theorem d_M_copy_61 : decode b_M_copy 61 = .ok (.imul, 1) := by decide +kernel
theorem d_M_copy_62 : decode b_M_copy 62 = .ok (.iaload, 1) := by decide +kernel
theorem d_M_copy_63 : decode b_M_copy 63 = .ok (.iload_n 3, 1) := by decide +kernel
theorem d_M_copy_64 : decode b_M_copy 64 = .ok (.invokevirtual 60, 3) := by decide +kernel
theorem d_M_copy_67 : decode b_M_copy 67 = .ok (.aload_n 0, 1) := by decide +kernel
theorem d_M_copy_68 : decode b_M_copy 68 = .ok (.iconst 2, 1) := by decide +kernel
theorem d_M_copy_69 : decode b_M_copy 69 = .ok (.iload_n 1, 1) := by decide +kernel
theorem d_M_copy_70 : decode b_M_copy 70 = .ok (.imul, 1) := by decide +kernel
theorem d_M_copy_71 : decode b_M_copy 71 = .ok (.iconst 1, 1) := by decide +kernel
theorem d_M_copy_72 : decode b_M_copy 72 = .ok (.iadd, 1) := by decide +kernel
theorem d_M_copy_73 : decode b_M_copy 73 = .ok (.aload_n 0, 1) := by decide +kernel
theorem d_M_copy_74 : decode b_M_copy 74 = .ok (.getfield 7, 3) := by decide +kernel
theorem d_M_copy_77 : decode b_M_copy 77 = .ok (.iconst 2, 1) := by decide +kernel
theorem d_M_copy_78 : decode b_M_copy 78 = .ok (.iload_n 2, 1) := by decide +kernel
theorem d_M_copy_79 : decode b_M_copy 79 = .ok (.imul, 1) := by decide +kernel
theorem d_M_copy_80 : decode b_M_copy 80 = .ok (.iconst 1, 1) := by decide +kernel
theorem d_M_copy_81 : decode b_M_copy 81 = .ok (.iadd, 1) := by decide +kernel
theorem d_M_copy_82 : decode b_M_copy 82 = .ok (.iaload, 1) := by decide +kernel
theorem d_M_copy_83 : decode b_M_copy 83 = .ok (.iload_n 3, 1) := by decide +kernel
theorem d_M_copy_84 : decode b_M_copy 84 = .ok (.invokevirtual 60, 3) := by decide +kernel
theorem d_M_copy_87 : decode b_M_copy 87 = .ok (.iload_n 3, 1) := by decide +kernel
theorem d_M_copy_88 : decode b_M_copy 88 = .ok (.ireturn, 1) := by decide +kernel
theorem d_M_drop_0 : decode b_M_drop 0 = .ok (.aload_n 0, 1) := by decide +kernel
theorem d_M_drop_1 : decode b_M_drop 1 = .ok (.iload_n 1, 1) := by decide +kernel
theorem d_M_drop_2 : decode b_M_drop 2 = .ok (.ifCond .lt 9, 3) := by decide +kernel
theorem d_M_drop_5 : decode b_M_drop 5 = .ok (.iload_n 1, 1) := by decide +kernel
theorem d_M_drop_6 : decode b_M_drop 6 = .ok (.bipush 15, 2) := by decide +kernel
theorem d_M_drop_8 : decode b_M_drop 8 = .ok (.if_icmp .le 7, 3) := by decide +kernel
theorem d_M_drop_11 : decode b_M_drop 11 = .ok (.iconst 1, 1) := by decide +kernel
theorem d_M_drop_12 : decode b_M_drop 12 = .ok (.goto 4, 3) := by decide +kernel
theorem d_M_drop_15 : decode b_M_drop 15 = .ok (.iconst 0, 1) := by decide +kernel
theorem d_M_drop_16 : decode b_M_drop 16 = .ok (.iconst 1, 1) := by decide +kernel
theorem d_M_drop_17 : decode b_M_drop 17 = .ok (.invokevirtual 56, 3) := by decide +kernel
theorem d_M_drop_20 : decode b_M_drop 20 = .ok (.ifCond .eq 5, 3) := by decide +kernel
theorem d_M_drop_23 : decode b_M_drop 23 = .ok (.iconst 0, 1) := by decide +kernel
theorem d_M_drop_24 : decode b_M_drop 24 = .ok (.ireturn, 1) := by decide +kernel
theorem d_M_drop_25 : decode b_M_drop 25 = .ok (.aload_n 0, 1) := by decide +kernel
theorem d_M_drop_26 : decode b_M_drop 26 = .ok (.getfield 23, 3) := by decide +kernel
theorem d_M_drop_29 : decode b_M_drop 29 = .ok (.iload_n 1, 1) := by decide +kernel
theorem d_M_drop_30 : decode b_M_drop 30 = .ok (.iaload, 1) := by decide +kernel
theorem d_M_drop_31 : decode b_M_drop 31 = .ok (.ifCond .ge 5, 3) := by decide +kernel
theorem d_M_drop_34 : decode b_M_drop 34 = .ok (.iconst (-1), 1) := by decide +kernel
theorem d_M_drop_35 : decode b_M_drop 35 = .ok (.ireturn, 1) := by decide +kernel
theorem d_M_drop_36 : decode b_M_drop 36 = .ok (.aload_n 0, 1) := by decide +kernel
theorem d_M_drop_37 : decode b_M_drop 37 = .ok (.iload_n 1, 1) := by decide +kernel
theorem d_M_drop_38 : decode b_M_drop 38 = .ok (.invokevirtual 49, 3) := by decide +kernel
theorem d_M_drop_41 : decode b_M_drop 41 = .ok (.ifCond .eq 7, 3) := by decide +kernel
theorem d_M_drop_44 : decode b_M_drop 44 = .ok (.iconst 1, 1) := by decide +kernel
theorem d_M_drop_45 : decode b_M_drop 45 = .ok (.goto 4, 3) := by decide +kernel
theorem d_M_drop_48 : decode b_M_drop 48 = .ok (.iconst 0, 1) := by decide +kernel
theorem d_M_drop_49 : decode b_M_drop 49 = .ok (.ireturn, 1) := by decide +kernel
theorem d_M_flush_0 : decode b_M_flush 0 = .ok (.aload_n 0, 1) := by decide +kernel
theorem d_M_flush_1 : decode b_M_flush 1 = .ok (.iconst 0, 1) := by decide +kernel
theorem d_M_flush_2 : decode b_M_flush 2 = .ok (.putfield 38, 3) := by decide +kernel
theorem d_M_flush_5 : decode b_M_flush 5 = .ok (.iconst 0, 1) := by decide +kernel
theorem d_M_flush_6 : decode b_M_flush 6 = .ok (.istore_n 1, 1) := by decide +kernel
theorem d_M_flush_7 : decode b_M_flush 7 = .ok (.iconst 0, 1) := by decide +kernel
theorem d_M_flush_8 : decode b_M_flush 8 = .ok (.istore_n 2, 1) := by decide +kernel
