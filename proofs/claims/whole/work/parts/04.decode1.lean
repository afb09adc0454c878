theorem dX9_cut_9 : decode cX9_cut 9 = .ok (.aload_n 0, 1) := by decide +kernel
theorem dX9_cut_10 : decode cX9_cut 10 = .ok (.getfield 22, 3) := by decide +kernel
theorem dX9_cut_13 : decode cX9_cut 13 = .ok (.if_icmp .ge 47, 3) := by decide +kernel
theorem dX9_cut_16 : decode cX9_cut 16 = .ok (.iload_n 1, 1) := by decide +kernel
theorem dX9_cut_17 : decode cX9_cut 17 = .ok (.sipush 400, 3) := by decide +kernel
theorem dX9_cut_20 : decode cX9_cut 20 = .ok (.if_icmp .ge 40, 3) := by decide +kernel
theorem dX9_cut_23 : decode cX9_cut 23 = .ok (.aload_n 0, 1) := by decide +kernel
theorem dX9_cut_24 : decode cX9_cut 24 = .ok (.iload_n 2, 1) := by decide +kernel
theorem dX9_cut_25 : decode cX9_cut 25 = .ok (.invokevirtual 30, 3) := by decide +kernel
theorem dX9_cut_28 : decode cX9_cut 28 = .ok (.istore_n 3, 1) := by decide +kernel
theorem dX9_cut_29 : decode cX9_cut 29 = .ok (.aload_n 0, 1) := by decide +kernel
theorem dX9_cut_30 : decode cX9_cut 30 = .ok (.getfield 15, 3) := by decide +kernel
theorem dX9_cut_33 : decode cX9_cut 33 = .ok (.iload_n 1, 1) := by decide +kernel
theorem dX9_cut_34 : decode cX9_cut 34 = .ok (.iload_n 2, 1) := by decide +kernel
theorem dX9_cut_35 : decode cX9_cut 35 = .ok (.iastore, 1) := by decide +kernel
theorem dX9_cut_36 : decode cX9_cut 36 = .ok (.aload_n 0, 1) := by decide +kernel
theorem dX9_cut_37 : decode cX9_cut 37 = .ok (.getfield 19, 3) := by decide +kernel
theorem dX9_cut_40 : decode cX9_cut 40 = .ok (.iload_n 1, 1) := by decide +kernel
theorem dX9_cut_41 : decode cX9_cut 41 = .ok (.aload_n 0, 1) := by decide +kernel
theorem dX9_cut_42 : decode cX9_cut 42 = .ok (.iload_n 2, 1) := by decide +kernel
theorem dX9_cut_43 : decode cX9_cut 43 = .ok (.iload_n 3, 1) := by decide +kernel
theorem dX9_cut_44 : decode cX9_cut 44 = .ok (.invokevirtual 33, 3) := by decide +kernel
theorem dX9_cut_47 : decode cX9_cut 47 = .ok (.iastore, 1) := by decide +kernel
theorem dX9_cut_48 : decode cX9_cut 48 = .ok (.iinc 1 1, 3) := by decide +kernel
theorem dX9_cut_51 : decode cX9_cut 51 = .ok (.aload_n 0, 1) := by decide +kernel
theorem dX9_cut_52 : decode cX9_cut 52 = .ok (.iload_n 3, 1) := by decide +kernel
theorem dX9_cut_53 : decode cX9_cut 53 = .ok (.invokevirtual 26, 3) := by decide +kernel
theorem dX9_cut_56 : decode cX9_cut 56 = .ok (.istore_n 2, 1) := by decide +kernel
theorem dX9_cut_57 : decode cX9_cut 57 = .ok (.goto (-49), 3) := by decide +kernel
theorem dX9_cut_60 : decode cX9_cut 60 = .ok (.aload_n 0, 1) := by decide +kernel
theorem dX9_cut_61 : decode cX9_cut 61 = .ok (.getfield 15, 3) := by decide +kernel
theorem dX9_cut_64 : decode cX9_cut 64 = .ok (.iload_n 1, 1) := by decide +kernel
theorem dX9_cut_65 : decode cX9_cut 65 = .ok (.aload_n 0, 1) := by decide +kernel
theorem dX9_cut_66 : decode cX9_cut 66 = .ok (.getfield 22, 3) := by decide +kernel
theorem dX9_cut_69 : decode cX9_cut 69 = .ok (.iastore, 1) := by decide +kernel
theorem dX9_cut_70 : decode cX9_cut 70 = .ok (.aload_n 0, 1) := by decide +kernel
theorem dX9_cut_71 : decode cX9_cut 71 = .ok (.getfield 19, 3) := by decide +kernel
theorem dX9_cut_74 : decode cX9_cut 74 = .ok (.iload_n 1, 1) := by decide +kernel
theorem dX9_cut_75 : decode cX9_cut 75 = .ok (.sipush 3000, 3) := by decide +kernel
theorem dX9_cut_78 : decode cX9_cut 78 = .ok (.iastore, 1) := by decide +kernel
theorem dX9_cut_79 : decode cX9_cut 79 = .ok (.aload_n 0, 1) := by decide +kernel
theorem dX9_cut_80 : decode cX9_cut 80 = .ok (.iconst 0, 1) := by decide +kernel
theorem dX9_cut_81 : decode cX9_cut 81 = .ok (.putfield 37, 3) := by decide +kernel
theorem dX9_cut_84 : decode cX9_cut 84 = .ok (.aload_n 0, 1) := by decide +kernel
theorem dX9_cut_85 : decode cX9_cut 85 = .ok (.iconst (-1), 1) := by decide +kernel
theorem dX9_cut_86 : decode cX9_cut 86 = .ok (.putfield 40, 3) := by decide +kernel
theorem dX9_cut_89 : decode cX9_cut 89 = .ok (.return_, 1) := by decide +kernel
theorem dX9_isLetter_0 : decode cX9_isLetter 0 = .ok (.aload_n 0, 1) := by decide +kernel
theorem dX9_isLetter_1 : decode cX9_isLetter 1 = .ok (.iload_n 1, 1) := by decide +kernel
theorem dX9_isLetter_2 : decode cX9_isLetter 2 = .ok (.invokevirtual 43, 3) := by decide +kernel
theorem dX9_isLetter_5 : decode cX9_isLetter 5 = .ok (.bipush 97, 2) := by decide +kernel
theorem dX9_isLetter_7 : decode cX9_isLetter 7 = .ok (.if_icmp .lt 17, 3) := by decide +kernel
theorem dX9_isLetter_10 : decode cX9_isLetter 10 = .ok (.aload_n 0, 1) := by decide +kernel
theorem dX9_isLetter_11 : decode cX9_isLetter 11 = .ok (.iload_n 1, 1) := by decide +kernel
theorem dX9_isLetter_12 : decode cX9_isLetter 12 = .ok (.invokevirtual 43, 3) := by decide +kernel
theorem dX9_isLetter_15 : decode cX9_isLetter 15 = .ok (.bipush 122, 2) := by decide +kernel
theorem dX9_isLetter_17 : decode cX9_isLetter 17 = .ok (.if_icmp .gt 7, 3) := by decide +kernel
theorem dX9_isLetter_20 : decode cX9_isLetter 20 = .ok (.iconst 1, 1) := by decide +kernel
theorem dX9_isLetter_21 : decode cX9_isLetter 21 = .ok (.goto 4, 3) := by decide +kernel
theorem dX9_isLetter_24 : decode cX9_isLetter 24 = .ok (.iconst 0, 1) := by decide +kernel
theorem dX9_isLetter_25 : decode cX9_isLetter 25 = .ok (.ireturn, 1) := by decide +kernel
theorem dX9_isDigit_0 : decode cX9_isDigit 0 = .ok (.aload_n 0, 1) := by decide +kernel
theorem dX9_isDigit_1 : decode cX9_isDigit 1 = .ok (.iload_n 1, 1) := by decide +kernel
theorem dX9_isDigit_2 : decode cX9_isDigit 2 = .ok (.invokevirtual 43, 3) := by decide +kernel
theorem dX9_isDigit_5 : decode cX9_isDigit 5 = .ok (.bipush 48, 2) := by decide +kernel
theorem dX9_isDigit_7 : decode cX9_isDigit 7 = .ok (.if_icmp .lt 17, 3) := by decide +kernel
theorem dX9_isDigit_10 : decode cX9_isDigit 10 = .ok (.aload_n 0, 1) := by decide +kernel
theorem dX9_isDigit_11 : decode cX9_isDigit 11 = .ok (.iload_n 1, 1) := by decide +kernel
theorem dX9_isDigit_12 : decode cX9_isDigit 12 = .ok (.invokevirtual 43, 3) := by decide +kernel
theorem dX9_isDigit_15 : decode cX9_isDigit 15 = .ok (.bipush 57, 2) := by decide +kernel
theorem dX9_isDigit_17 : decode cX9_isDigit 17 = .ok (.if_icmp .gt 7, 3) := by decide +kernel
theorem dX9_isDigit_20 : decode cX9_isDigit 20 = .ok (.iconst 1, 1) := by decide +kernel
theorem dX9_isDigit_21 : decode cX9_isDigit 21 = .ok (.goto 4, 3) := by decide +kernel
theorem dX9_isDigit_24 : decode cX9_isDigit 24 = .ok (.iconst 0, 1) := by decide +kernel
theorem dX9_isDigit_25 : decode cX9_isDigit 25 = .ok (.ireturn, 1) := by decide +kernel
theorem dX9_behindBlanks_0 : decode cX9_behindBlanks 0 = .ok (.iload_n 1, 1) := by decide +kernel
theorem dX9_behindBlanks_1 : decode cX9_behindBlanks 1 = .ok (.istore_n 2, 1) := by decide +kernel
theorem dX9_behindBlanks_2 : decode cX9_behindBlanks 2 = .ok (.iload_n 2, 1) := by decide +kernel
theorem dX9_behindBlanks_3 : decode cX9_behindBlanks 3 = .ok (.aload_n 0, 1) := by decide +kernel
theorem dX9_behindBlanks_4 : decode cX9_behindBlanks 4 = .ok (.getfield 22, 3) := by decide +kernel
theorem dX9_behindBlanks_7 : decode cX9_behindBlanks 7 = .ok (.if_icmp .ge 19, 3) := by decide +kernel
theorem dX9_behindBlanks_10 : decode cX9_behindBlanks 10 = .ok (.aload_n 0, 1) := by decide +kernel
theorem dX9_behindBlanks_11 : decode cX9_behindBlanks 11 = .ok (.iload_n 2, 1) := by decide +kernel
theorem dX9_behindBlanks_12 : decode cX9_behindBlanks 12 = .ok (.invokevirtual 43, 3) := by decide +kernel
theorem dX9_behindBlanks_15 : decode cX9_behindBlanks 15 = .ok (.bipush 32, 2) := by decide +kernel
theorem dX9_behindBlanks_17 : decode cX9_behindBlanks 17 = .ok (.if_icmp .ne 9, 3) := by decide +kernel
theorem dX9_behindBlanks_20 : decode cX9_behindBlanks 20 = .ok (.iinc 2 1, 3) := by decide +kernel
theorem dX9_behindBlanks_23 : decode cX9_behindBlanks 23 = .ok (.goto (-21), 3) := by decide +kernel
theorem dX9_behindBlanks_26 : decode cX9_behindBlanks 26 = .ok (.iload_n 2, 1) := by decide +kernel
theorem dX9_behindBlanks_27 : decode cX9_behindBlanks 27 = .ok (.ireturn, 1) := by decide +kernel
theorem dX9_behindThing_0 : decode cX9_behindThing 0 = .ok (.aload_n 0, 1) := by decide +kernel
theorem dX9_behindThing_1 : decode cX9_behindThing 1 = .ok (.iload_n 1, 1) := by decide +kernel
theorem dX9_behindThing_2 : decode cX9_behindThing 2 = .ok (.invokevirtual 46, 3) := by decide +kernel
theorem dX9_behindThing_5 : decode cX9_behindThing 5 = .ok (.istore_n 2, 1) := by decide +kernel
theorem dX9_behindThing_6 : decode cX9_behindThing 6 = .ok (.aload_n 0, 1) := by decide +kernel
theorem dX9_behindThing_7 : decode cX9_behindThing 7 = .ok (.iload_n 1, 1) := by decide +kernel
theorem dX9_behindThing_8 : decode cX9_behindThing 8 = .ok (.invokevirtual 50, 3) := by decide +kernel
theorem dX9_behindThing_11 : decode cX9_behindThing 11 = .ok (.istore_n 3, 1) := by decide +kernel
theorem dX9_behindThing_12 : decode cX9_behindThing 12 = .ok (.iload_n 1, 1) := by decide +kernel
theorem dX9_behindThing_13 : decode cX9_behindThing 13 = .ok (.iconst 1, 1) := by decide +kernel
theorem dX9_behindThing_14 : decode cX9_behindThing 14 = .ok (.iadd, 1) := by decide +kernel
theorem dX9_behindThing_15 : decode cX9_behindThing 15 = .ok (.istore 4, 2) := by decide +kernel
theorem dX9_behindThing_17 : decode cX9_behindThing 17 = .ok (.iload 4, 2) := by decide +kernel
theorem dX9_behindThing_19 : decode cX9_behindThing 19 = .ok (.aload_n 0, 1) := by decide +kernel
theorem dX9_behindThing_20 : decode cX9_behindThing 20 = .ok (.getfield 22, 3) := by decide +kernel
theorem dX9_behindThing_23 : decode cX9_behindThing 23 = .ok (.if_icmp .ge 35, 3) := by decide +kernel
theorem dX9_behindThing_26 : decode cX9_behindThing 26 = .ok (.iload_n 2, 1) := by decide +kernel
theorem dX9_behindThing_27 : decode cX9_behindThing 27 = .ok (.ifCond .eq 12, 3) := by decide +kernel
theorem dX9_behindThing_30 : decode cX9_behindThing 30 = .ok (.aload_n 0, 1) := by decide +kernel
theorem dX9_behindThing_31 : decode cX9_behindThing 31 = .ok (.iload 4, 2) := by decide +kernel
theorem dX9_behindThing_33 : decode cX9_behindThing 33 = .ok (.invokevirtual 46, 3) := by decide +kernel
theorem dX9_behindThing_36 : decode cX9_behindThing 36 = .ok (.ifCond .ne 16, 3) := by decide +kernel
theorem dX9_behindThing_39 : decode cX9_behindThing 39 = .ok (.iload_n 3, 1) := by decide +kernel
theorem dX9_behindThing_40 : decode cX9_behindThing 40 = .ok (.ifCond .eq 18, 3) := by decide +kernel
theorem dX9_behindThing_43 : decode cX9_behindThing 43 = .ok (.aload_n 0, 1) := by decide +kernel
theorem dX9_behindThing_44 : decode cX9_behindThing 44 = .ok (.iload 4, 2) := by decide +kernel
theorem dX9_behindThing_46 : decode cX9_behindThing 46 = .ok (.invokevirtual 50, 3) := by decide +kernel
theorem dX9_behindThing_49 : decode cX9_behindThing 49 = .ok (.ifCond .eq 9, 3) := by decide +kernel
theorem dX9_behindThing_52 : decode cX9_behindThing 52 = .ok (.iinc 4 1, 3) := by decide +kernel
theorem dX9_behindThing_55 : decode cX9_behindThing 55 = .ok (.goto (-38), 3) := by decide +kernel
theorem dX9_behindThing_58 : decode cX9_behindThing 58 = .ok (.iload 4, 2) := by decide +kernel
theorem dX9_behindThing_60 : decode cX9_behindThing 60 = .ok (.ireturn, 1) := by decide +kernel
theorem dX9_codeOf_0 : decode cX9_codeOf 0 = .ok (.aload_n 0, 1) := by decide +kernel
theorem dX9_codeOf_1 : decode cX9_codeOf 1 = .ok (.iload_n 1, 1) := by decide +kernel
theorem dX9_codeOf_2 : decode cX9_codeOf 2 = .ok (.invokevirtual 46, 3) := by decide +kernel
theorem dX9_codeOf_5 : decode cX9_codeOf 5 = .ok (.ifCond .eq 10, 3) := by decide +kernel
theorem dX9_codeOf_8 : decode cX9_codeOf 8 = .ok (.aload_n 0, 1) := by decide +kernel
theorem dX9_codeOf_9 : decode cX9_codeOf 9 = .ok (.iload_n 1, 1) := by decide +kernel
theorem dX9_codeOf_10 : decode cX9_codeOf 10 = .ok (.iload_n 2, 1) := by decide +kernel
theorem dX9_codeOf_11 : decode cX9_codeOf 11 = .ok (.invokevirtual 53, 3) := by decide +kernel
theorem dX9_codeOf_14 : decode cX9_codeOf 14 = .ok (.ireturn, 1) := by decide +kernel
theorem dX9_codeOf_15 : decode cX9_codeOf 15 = .ok (.aload_n 0, 1) := by decide +kernel
theorem dX9_codeOf_16 : decode cX9_codeOf 16 = .ok (.iload_n 1, 1) := by decide +kernel
theorem dX9_codeOf_17 : decode cX9_codeOf 17 = .ok (.invokevirtual 50, 3) := by decide +kernel
theorem dX9_codeOf_20 : decode cX9_codeOf 20 = .ok (.ifCond .eq 12, 3) := by decide +kernel
theorem dX9_codeOf_23 : decode cX9_codeOf 23 = .ok (.aload_n 0, 1) := by decide +kernel
theorem dX9_codeOf_24 : decode cX9_codeOf 24 = .ok (.iload_n 1, 1) := by decide +kernel
theorem dX9_codeOf_25 : decode cX9_codeOf 25 = .ok (.iload_n 2, 1) := by decide +kernel
theorem dX9_codeOf_26 : decode cX9_codeOf 26 = .ok (.invokevirtual 56, 3) := by decide +kernel
theorem dX9_codeOf_29 : decode cX9_codeOf 29 = .ok (.goto 12, 3) := by decide +kernel
theorem dX9_codeOf_32 : decode cX9_codeOf 32 = .ok (.sipush 2000, 3) := by decide +kernel
theorem dX9_codeOf_35 : decode cX9_codeOf 35 = .ok (.aload_n 0, 1) := by decide +kernel
theorem dX9_codeOf_36 : decode cX9_codeOf 36 = .ok (.iload_n 1, 1) := by decide +kernel
theorem dX9_codeOf_37 : decode cX9_codeOf 37 = .ok (.invokevirtual 43, 3) := by decide +kernel
theorem dX9_codeOf_40 : decode cX9_codeOf 40 = .ok (.iadd, 1) := by decide +kernel
theorem dX9_codeOf_41 : decode cX9_codeOf 41 = .ok (.ireturn, 1) := by decide +kernel
theorem dX9_numberCode_0 : decode cX9_numberCode 0 = .ok (.iload_n 2, 1) := by decide +kernel
theorem dX9_numberCode_1 : decode cX9_numberCode 1 = .ok (.iload_n 1, 1) := by decide +kernel
theorem dX9_numberCode_2 : decode cX9_numberCode 2 = .ok (.isub, 1) := by decide +kernel
theorem dX9_numberCode_3 : decode cX9_numberCode 3 = .ok (.iconst 3, 1) := by decide +kernel
theorem dX9_numberCode_4 : decode cX9_numberCode 4 = .ok (.if_icmp .le 5, 3) := by decide +kernel
theorem dX9_numberCode_7 : decode cX9_numberCode 7 = .ok (.iconst (-1), 1) := by decide +kernel
theorem dX9_numberCode_8 : decode cX9_numberCode 8 = .ok (.ireturn, 1) := by decide +kernel
theorem dX9_numberCode_9 : decode cX9_numberCode 9 = .ok (.iconst 0, 1) := by decide +kernel
theorem dX9_numberCode_10 : decode cX9_numberCode 10 = .ok (.istore_n 3, 1) := by decide +kernel
theorem dX9_numberCode_11 : decode cX9_numberCode 11 = .ok (.iload_n 1, 1) := by decide +kernel
theorem dX9_numberCode_12 : decode cX9_numberCode 12 = .ok (.istore 4, 2) := by decide +kernel
theorem dX9_numberCode_14 : decode cX9_numberCode 14 = .ok (.iload 4, 2) := by decide +kernel
theorem dX9_numberCode_16 : decode cX9_numberCode 16 = .ok (.iload_n 2, 1) := by decide +kernel
theorem dX9_numberCode_17 : decode cX9_numberCode 17 = .ok (.if_icmp .ge 24, 3) := by decide +kernel
theorem dX9_numberCode_20 : decode cX9_numberCode 20 = .ok (.bipush 10, 2) := by decide +kernel
theorem dX9_numberCode_22 : decode cX9_numberCode 22 = .ok (.iload_n 3, 1) := by decide +kernel
theorem dX9_numberCode_23 : decode cX9_numberCode 23 = .ok (.imul, 1) := by decide +kernel
theorem dX9_numberCode_24 : decode cX9_numberCode 24 = .ok (.aload_n 0, 1) := by decide +kernel
theorem dX9_numberCode_25 : decode cX9_numberCode 25 = .ok (.iload 4, 2) := by decide +kernel
theorem dX9_numberCode_27 : decode cX9_numberCode 27 = .ok (.invokevirtual 43, 3) := by decide +kernel
theorem dX9_numberCode_30 : decode cX9_numberCode 30 = .ok (.iadd, 1) := by decide +kernel
theorem dX9_numberCode_31 : decode cX9_numberCode 31 = .ok (.bipush 48, 2) := by decide +kernel
theorem dX9_numberCode_33 : decode cX9_numberCode 33 = .ok (.isub, 1) := by decide +kernel
theorem dX9_numberCode_34 : decode cX9_numberCode 34 = .ok (.istore_n 3, 1) := by decide +kernel
theorem dX9_numberCode_35 : decode cX9_numberCode 35 = .ok (.iinc 4 1, 3) := by decide +kernel
theorem dX9_numberCode_38 : decode cX9_numberCode 38 = .ok (.goto (-24), 3) := by decide +kernel
theorem dX9_numberCode_41 : decode cX9_numberCode 41 = .ok (.iload_n 3, 1) := by decide +kernel
theorem dX9_numberCode_42 : decode cX9_numberCode 42 = .ok (.ireturn, 1) := by decide +kernel
theorem dX9_wordCode_0 : decode cX9_wordCode 0 = .ok (.sipush 1000, 3) := by decide +kernel
theorem dX9_wordCode_3 : decode cX9_wordCode 3 = .ok (.istore_n 3, 1) := by decide +kernel
theorem dX9_wordCode_4 : decode cX9_wordCode 4 = .ok (.iconst 0, 1) := by decide +kernel
theorem dX9_wordCode_5 : decode cX9_wordCode 5 = .ok (.istore 4, 2) := by decide +kernel
theorem dX9_wordCode_7 : decode cX9_wordCode 7 = .ok (.iconst 0, 1) := by decide +kernel
theorem dX9_wordCode_8 : decode cX9_wordCode 8 = .ok (.istore 5, 2) := by decide +kernel
theorem dX9_wordCode_10 : decode cX9_wordCode 10 = .ok (.iload 5, 2) := by decide +kernel
theorem dX9_wordCode_12 : decode cX9_wordCode 12 = .ok (.ldc 59, 2) := by decide +kernel
theorem dX9_wordCode_14 : decode cX9_wordCode 14 = .ok (.invokevirtual 61, 3) := by decide +kernel
theorem dX9_wordCode_17 : decode cX9_wordCode 17 = .ok (.if_icmp .ge 56, 3) := by decide +kernel
theorem dX9_wordCode_20 : decode cX9_wordCode 20 = .ok (.ldc 59, 2) := by decide +kernel
theorem dX9_wordCode_22 : decode cX9_wordCode 22 = .ok (.iload 5, 2) := by decide +kernel
theorem dX9_wordCode_24 : decode cX9_wordCode 24 = .ok (.invokevirtual 67, 3) := by decide +kernel
theorem dX9_wordCode_27 : decode cX9_wordCode 27 = .ok (.bipush 32, 2) := by decide +kernel
theorem dX9_wordCode_29 : decode cX9_wordCode 29 = .ok (.if_icmp .ne 38, 3) := by decide +kernel
theorem dX9_wordCode_32 : decode cX9_wordCode 32 = .ok (.iload 5, 2) := by decide +kernel
theorem dX9_wordCode_34 : decode cX9_wordCode 34 = .ok (.iload 4, 2) := by decide +kernel
theorem dX9_wordCode_36 : decode cX9_wordCode 36 = .ok (.isub, 1) := by decide +kernel
theorem dX9_wordCode_37 : decode cX9_wordCode 37 = .ok (.iload_n 2, 1) := by decide +kernel
theorem dX9_wordCode_38 : decode cX9_wordCode 38 = .ok (.iload_n 1, 1) := by decide +kernel
theorem dX9_wordCode_39 : decode cX9_wordCode 39 = .ok (.isub, 1) := by decide +kernel
theorem dX9_wordCode_40 : decode cX9_wordCode 40 = .ok (.if_icmp .ne 18, 3) := by decide +kernel
theorem dX9_wordCode_43 : decode cX9_wordCode 43 = .ok (.aload_n 0, 1) := by decide +kernel
theorem dX9_wordCode_44 : decode cX9_wordCode 44 = .ok (.iload 4, 2) := by decide +kernel
theorem dX9_wordCode_46 : decode cX9_wordCode 46 = .ok (.iload_n 1, 1) := by decide +kernel
theorem dX9_wordCode_47 : decode cX9_wordCode 47 = .ok (.iload_n 2, 1) := by decide +kernel
theorem dX9_wordCode_48 : decode cX9_wordCode 48 = .ok (.iload_n 1, 1) := by decide +kernel
theorem dX9_wordCode_49 : decode cX9_wordCode 49 = .ok (.isub, 1) := by decide +kernel
theorem dX9_wordCode_50 : decode cX9_wordCode 50 = .ok (.invokevirtual 71, 3) := by decide +kernel
theorem dX9_wordCode_53 : decode cX9_wordCode 53 = .ok (.ifCond .eq 5, 3) := by decide +kernel
theorem dX9_wordCode_56 : decode cX9_wordCode 56 = .ok (.iload_n 3, 1) := by decide +kernel
theorem dX9_wordCode_57 : decode cX9_wordCode 57 = .ok (.ireturn, 1) := by decide +kernel
theorem dX9_wordCode_58 : decode cX9_wordCode 58 = .ok (.iinc 3 1, 3) := by decide +kernel
theorem dX9_wordCode_61 : decode cX9_wordCode 61 = .ok (.iload 5, 2) := by decide +kernel
theorem dX9_wordCode_63 : decode cX9_wordCode 63 = .ok (.iconst 1, 1) := by decide +kernel
theorem dX9_wordCode_64 : decode cX9_wordCode 64 = .ok (.iadd, 1) := by decide +kernel
theorem dX9_wordCode_65 : decode cX9_wordCode 65 = .ok (.istore 4, 2) := by decide +kernel
theorem dX9_wordCode_67 : decode cX9_wordCode 67 = .ok (.iinc 5 1, 3) := by decide +kernel
theorem dX9_wordCode_70 : decode cX9_wordCode 70 = .ok (.goto (-60), 3) := by decide +kernel
theorem dX9_wordCode_73 : decode cX9_wordCode 73 = .ok (.iconst (-1), 1) := by decide +kernel
theorem dX9_wordCode_74 : decode cX9_wordCode 74 = .ok (.ireturn, 1) := by decide +kernel
theorem dX9_isSame_0 : decode cX9_isSame 0 = .ok (.iconst 0, 1) := by decide +kernel
theorem dX9_isSame_1 : decode cX9_isSame 1 = .ok (.istore 4, 2) := by decide +kernel
theorem dX9_isSame_3 : decode cX9_isSame 3 = .ok (.iload 4, 2) := by decide +kernel
theorem dX9_isSame_5 : decode cX9_isSame 5 = .ok (.iload_n 3, 1) := by decide +kernel
theorem dX9_isSame_6 : decode cX9_isSame 6 = .ok (.if_icmp .ge 43, 3) := by decide +kernel
theorem dX9_isSame_9 : decode cX9_isSame 9 = .ok (.iload_n 1, 1) := by decide +kernel
theorem dX9_isSame_10 : decode cX9_isSame 10 = .ok (.iload 4, 2) := by decide +kernel
theorem dX9_isSame_12 : decode cX9_isSame 12 = .ok (.iadd, 1) := by decide +kernel
theorem dX9_isSame_13 : decode cX9_isSame 13 = .ok (.ldc 59, 2) := by decide +kernel
theorem dX9_isSame_15 : decode cX9_isSame 15 = .ok (.invokevirtual 61, 3) := by decide +kernel
theorem dX9_isSame_18 : decode cX9_isSame 18 = .ok (.if_icmp .ge 31, 3) := by decide +kernel
theorem dX9_isSame_21 : decode cX9_isSame 21 = .ok (.ldc 59, 2) := by decide +kernel
theorem dX9_isSame_23 : decode cX9_isSame 23 = .ok (.iload_n 1, 1) := by decide +kernel
theorem dX9_isSame_24 : decode cX9_isSame 24 = .ok (.iload 4, 2) := by decide +kernel
theorem dX9_isSame_26 : decode cX9_isSame 26 = .ok (.iadd, 1) := by decide +kernel
theorem dX9_isSame_27 : decode cX9_isSame 27 = .ok (.invokevirtual 67, 3) := by decide +kernel
theorem dX9_isSame_30 : decode cX9_isSame 30 = .ok (.aload_n 0, 1) := by decide +kernel
theorem dX9_isSame_31 : decode cX9_isSame 31 = .ok (.iload_n 2, 1) := by decide +kernel
theorem dX9_isSame_32 : decode cX9_isSame 32 = .ok (.iload 4, 2) := by decide +kernel
theorem dX9_isSame_34 : decode cX9_isSame 34 = .ok (.iadd, 1) := by decide +kernel
theorem dX9_isSame_35 : decode cX9_isSame 35 = .ok (.invokevirtual 43, 3) := by decide +kernel
theorem dX9_isSame_38 : decode cX9_isSame 38 = .ok (.if_icmp .eq 5, 3) := by decide +kernel
theorem dX9_isSame_41 : decode cX9_isSame 41 = .ok (.iconst 0, 1) := by decide +kernel
theorem dX9_isSame_42 : decode cX9_isSame 42 = .ok (.ireturn, 1) := by decide +kernel
theorem dX9_isSame_43 : decode cX9_isSame 43 = .ok (.iinc 4 1, 3) := by decide +kernel
theorem dX9_isSame_46 : decode cX9_isSame 46 = .ok (.goto (-43), 3) := by decide +kernel
theorem dX9_isSame_49 : decode cX9_isSame 49 = .ok (.iconst 1, 1) := by decide +kernel
theorem dX9_isSame_50 : decode cX9_isSame 50 = .ok (.ireturn, 1) := by decide +kernel
theorem dX9_code_0 : decode cX9_code 0 = .ok (.aload_n 0, 1) := by decide +kernel
theorem dX9_code_1 : decode cX9_code 1 = .ok (.getfield 37, 3) := by decide +kernel
theorem dX9_code_4 : decode cX9_code 4 = .ok (.ifCond .lt 27, 3) := by decide +kernel
theorem dX9_code_7 : decode cX9_code 7 = .ok (.aload_n 0, 1) := by decide +kernel
theorem dX9_code_8 : decode cX9_code 8 = .ok (.getfield 37, 3) := by decide +kernel
theorem dX9_code_11 : decode cX9_code 11 = .ok (.aload_n 0, 1) := by decide +kernel
theorem dX9_code_12 : decode cX9_code 12 = .ok (.getfield 19, 3) := by decide +kernel
theorem dX9_code_15 : decode cX9_code 15 = .ok (.arraylength, 1) := by decide +kernel
theorem dX9_code_16 : decode cX9_code 16 = .ok (.if_icmp .ge 15, 3) := by decide +kernel
theorem dX9_code_19 : decode cX9_code 19 = .ok (.aload_n 0, 1) := by decide +kernel
theorem dX9_code_20 : decode cX9_code 20 = .ok (.getfield 19, 3) := by decide +kernel
theorem dX9_code_23 : decode cX9_code 23 = .ok (.aload_n 0, 1) := by decide +kernel
theorem dX9_code_24 : decode cX9_code 24 = .ok (.getfield 37, 3) := by decide +kernel
theorem dX9_code_27 : decode cX9_code 27 = .ok (.iaload, 1) := by decide +kernel
theorem dX9_code_28 : decode cX9_code 28 = .ok (.goto 6, 3) := by decide +kernel
theorem dX9_code_31 : decode cX9_code 31 = .ok (.sipush 3000, 3) := by decide +kernel
theorem dX9_code_34 : decode cX9_code 34 = .ok (.ireturn, 1) := by decide +kernel
theorem dX9_is_0 : decode cX9_is 0 = .ok (.aload_n 0, 1) := by decide +kernel
theorem dX9_is_1 : decode cX9_is 1 = .ok (.getfield 37, 3) := by decide +kernel
theorem dX9_is_4 : decode cX9_is 4 = .ok (.ifCond .lt 32, 3) := by decide +kernel
theorem dX9_is_7 : decode cX9_is 7 = .ok (.aload_n 0, 1) := by decide +kernel
theorem dX9_is_8 : decode cX9_is 8 = .ok (.getfield 37, 3) := by decide +kernel
theorem dX9_is_11 : decode cX9_is 11 = .ok (.aload_n 0, 1) := by decide +kernel
theorem dX9_is_12 : decode cX9_is 12 = .ok (.getfield 19, 3) := by decide +kernel
theorem dX9_is_15 : decode cX9_is 15 = .ok (.arraylength, 1) := by decide +kernel
theorem dX9_is_16 : decode cX9_is 16 = .ok (.if_icmp .ge 20, 3) := by decide +kernel
theorem dX9_is_19 : decode cX9_is 19 = .ok (.aload_n 0, 1) := by decide +kernel
theorem dX9_is_20 : decode cX9_is 20 = .ok (.getfield 19, 3) := by decide +kernel
theorem dX9_is_23 : decode cX9_is 23 = .ok (.aload_n 0, 1) := by decide +kernel
theorem dX9_is_24 : decode cX9_is 24 = .ok (.getfield 37, 3) := by decide +kernel
theorem dX9_is_27 : decode cX9_is 27 = .ok (.iaload, 1) := by decide +kernel
theorem dX9_is_28 : decode cX9_is 28 = .ok (.iload_n 1, 1) := by decide +kernel
theorem dX9_is_29 : decode cX9_is 29 = .ok (.if_icmp .ne 7, 3) := by decide +kernel
theorem dX9_is_32 : decode cX9_is 32 = .ok (.iconst 1, 1) := by decide +kernel
theorem dX9_is_33 : decode cX9_is 33 = .ok (.goto 4, 3) := by decide +kernel
theorem dX9_is_36 : decode cX9_is 36 = .ok (.iconst 0, 1) := by decide +kernel
theorem dX9_is_37 : decode cX9_is 37 = .ok (.ireturn, 1) := by decide +kernel
theorem dX9_step_0 : decode cX9_step 0 = .ok (.aload_n 0, 1) := by decide +kernel
theorem dX9_step_1 : decode cX9_step 1 = .ok (.getfield 37, 3) := by decide +kernel
theorem dX9_step_4 : decode cX9_step 4 = .ok (.sipush 400, 3) := by decide +kernel
theorem dX9_step_7 : decode cX9_step 7 = .ok (.if_icmp .ge 13, 3) := by decide +kernel
theorem dX9_step_10 : decode cX9_step 10 = .ok (.aload_n 0, 1) := by decide +kernel
theorem dX9_step_11 : decode cX9_step 11 = .ok (.dup, 1) := by decide +kernel
theorem dX9_step_12 : decode cX9_step 12 = .ok (.getfield 37, 3) := by decide +kernel
theorem dX9_step_15 : decode cX9_step 15 = .ok (.iconst 1, 1) := by decide +kernel
theorem dX9_step_16 : decode cX9_step 16 = .ok (.iadd, 1) := by decide +kernel
theorem dX9_step_17 : decode cX9_step 17 = .ok (.putfield 37, 3) := by decide +kernel
theorem dX9_step_20 : decode cX9_step 20 = .ok (.return_, 1) := by decide +kernel
theorem dX9_fail_0 : decode cX9_fail 0 = .ok (.aload_n 0, 1) := by decide +kernel
theorem dX9_fail_1 : decode cX9_fail 1 = .ok (.aload_n 0, 1) := by decide +kernel
theorem dX9_fail_2 : decode cX9_fail 2 = .ok (.getfield 37, 3) := by decide +kernel
theorem dX9_fail_5 : decode cX9_fail 5 = .ok (.ifCond .lt 27, 3) := by decide +kernel
theorem dX9_fail_8 : decode cX9_fail 8 = .ok (.aload_n 0, 1) := by decide +kernel
theorem dX9_fail_9 : decode cX9_fail 9 = .ok (.getfield 37, 3) := by decide +kernel
theorem dX9_fail_12 : decode cX9_fail 12 = .ok (.aload_n 0, 1) := by decide +kernel
theorem dX9_fail_13 : decode cX9_fail 13 = .ok (.getfield 15, 3) := by decide +kernel
theorem dX9_fail_16 : decode cX9_fail 16 = .ok (.arraylength, 1) := by decide +kernel
theorem dX9_fail_17 : decode cX9_fail 17 = .ok (.if_icmp .ge 15, 3) := by decide +kernel
theorem dX9_fail_20 : decode cX9_fail 20 = .ok (.aload_n 0, 1) := by decide +kernel
theorem dX9_fail_21 : decode cX9_fail 21 = .ok (.getfield 15, 3) := by decide +kernel
theorem dX9_fail_24 : decode cX9_fail 24 = .ok (.aload_n 0, 1) := by decide +kernel
theorem dX9_fail_25 : decode cX9_fail 25 = .ok (.getfield 37, 3) := by decide +kernel
theorem dX9_fail_28 : decode cX9_fail 28 = .ok (.iaload, 1) := by decide +kernel
theorem dX9_fail_29 : decode cX9_fail 29 = .ok (.goto 7, 3) := by decide +kernel
theorem dX9_fail_32 : decode cX9_fail 32 = .ok (.aload_n 0, 1) := by decide +kernel
theorem dX9_fail_33 : decode cX9_fail 33 = .ok (.getfield 22, 3) := by decide +kernel
theorem dX9_fail_36 : decode cX9_fail 36 = .ok (.putfield 40, 3) := by decide +kernel
theorem dX9_fail_39 : decode cX9_fail 39 = .ok (.iconst 0, 1) := by decide +kernel
theorem dX9_fail_40 : decode cX9_fail 40 = .ok (.ireturn, 1) := by decide +kernel
theorem dX9_takes_0 : decode cX9_takes 0 = .ok (.aload_n 0, 1) := by decide +kernel
theorem dX9_takes_1 : decode cX9_takes 1 = .ok (.iload_n 1, 1) := by decide +kernel
theorem dX9_takes_2 : decode cX9_takes 2 = .ok (.invokevirtual 75, 3) := by decide +kernel
theorem dX9_takes_5 : decode cX9_takes 5 = .ok (.ifCond .ne 8, 3) := by decide +kernel
theorem dX9_takes_8 : decode cX9_takes 8 = .ok (.aload_n 0, 1) := by decide +kernel
theorem dX9_takes_9 : decode cX9_takes 9 = .ok (.invokevirtual 78, 3) := by decide +kernel
theorem dX9_takes_12 : decode cX9_takes 12 = .ok (.ireturn, 1) := by decide +kernel
theorem dX9_takes_13 : decode cX9_takes 13 = .ok (.aload_n 0, 1) := by decide +kernel
theorem dX9_takes_14 : decode cX9_takes 14 = .ok (.invokevirtual 82, 3) := by decide +kernel
theorem dX9_takes_17 : decode cX9_takes 17 = .ok (.iconst 1, 1) := by decide +kernel
theorem dX9_takes_18 : decode cX9_takes 18 = .ok (.ireturn, 1) := by decide +kernel
theorem dX9_number_0 : decode cX9_number 0 = .ok (.aload_n 0, 1) := by decide +kernel
theorem dX9_number_1 : decode cX9_number 1 = .ok (.invokevirtual 85, 3) := by decide +kernel
theorem dX9_number_4 : decode cX9_number 4 = .ok (.istore_n 3, 1) := by decide +kernel
theorem dX9_number_5 : decode cX9_number 5 = .ok (.iload_n 3, 1) := by decide +kernel
theorem dX9_number_6 : decode cX9_number 6 = .ok (.iload_n 1, 1) := by decide +kernel
theorem dX9_number_7 : decode cX9_number 7 = .ok (.if_icmp .lt 8, 3) := by decide +kernel
theorem dX9_number_10 : decode cX9_number 10 = .ok (.iload_n 3, 1) := by decide +kernel
theorem dX9_number_11 : decode cX9_number 11 = .ok (.iload_n 2, 1) := by decide +kernel
theorem dX9_number_12 : decode cX9_number 12 = .ok (.if_icmp .le 10, 3) := by decide +kernel
theorem dX9_number_15 : decode cX9_number 15 = .ok (.aload_n 0, 1) := by decide +kernel
theorem dX9_number_16 : decode cX9_number 16 = .ok (.invokevirtual 78, 3) := by decide +kernel
theorem dX9_number_19 : decode cX9_number 19 = .ok (.pop, 1) := by decide +kernel
theorem dX9_number_20 : decode cX9_number 20 = .ok (.iconst (-1), 1) := by decide +kernel
theorem dX9_number_21 : decode cX9_number 21 = .ok (.ireturn, 1) := by decide +kernel
theorem dX9_number_22 : decode cX9_number 22 = .ok (.aload_n 0, 1) := by decide +kernel
theorem dX9_number_23 : decode cX9_number 23 = .ok (.invokevirtual 82, 3) := by decide +kernel
theorem dX9_number_26 : decode cX9_number 26 = .ok (.iload_n 3, 1) := by decide +kernel
theorem dX9_number_27 : decode cX9_number 27 = .ok (.ireturn, 1) := by decide +kernel
theorem dX10_init_0 : decode cX10_init 0 = .ok (.aload_n 0, 1) := by decide +kernel
theorem dX10_init_1 : decode cX10_init 1 = .ok (.invokespecial 3, 3) := by decide +kernel
theorem dX10_init_4 : decode cX10_init 4 = .ok (.aload_n 0, 1) := by decide +kernel
theorem dX10_init_5 : decode cX10_init 5 = .ok (.new 9, 3) := by decide +kernel
theorem dX10_init_8 : decode cX10_init 8 = .ok (.dup, 1) := by decide +kernel
theorem dX10_init_9 : decode cX10_init 9 = .ok (.invokespecial 11, 3) := by decide +kernel
theorem dX10_init_12 : decode cX10_init 12 = .ok (.putfield 12, 3) := by decide +kernel
theorem dX10_init_15 : decode cX10_init 15 = .ok (.aload_n 0, 1) := by decide +kernel
theorem dX10_init_16 : decode cX10_init 16 = .ok (.new 16, 3) := by decide +kernel
theorem dX10_init_19 : decode cX10_init 19 = .ok (.dup, 1) := by decide +kernel
theorem dX10_init_20 : decode cX10_init 20 = .ok (.aload_n 0, 1) := by decide +kernel
theorem dX10_init_21 : decode cX10_init 21 = .ok (.getfield 12, 3) := by decide +kernel
theorem dX10_init_24 : decode cX10_init 24 = .ok (.invokespecial 18, 3) := by decide +kernel
theorem dX10_init_27 : decode cX10_init 27 = .ok (.putfield 21, 3) := by decide +kernel
theorem dX10_init_30 : decode cX10_init 30 = .ok (.aload_n 0, 1) := by decide +kernel
theorem dX10_init_31 : decode cX10_init 31 = .ok (.new 25, 3) := by decide +kernel
theorem dX10_init_34 : decode cX10_init 34 = .ok (.dup, 1) := by decide +kernel
theorem dX10_init_35 : decode cX10_init 35 = .ok (.aload_n 0, 1) := by decide +kernel
theorem dX10_init_36 : decode cX10_init 36 = .ok (.getfield 12, 3) := by decide +kernel
theorem dX10_init_39 : decode cX10_init 39 = .ok (.invokespecial 27, 3) := by decide +kernel
theorem dX10_init_42 : decode cX10_init 42 = .ok (.putfield 28, 3) := by decide +kernel
theorem dX10_init_45 : decode cX10_init 45 = .ok (.aload_n 0, 1) := by decide +kernel
theorem dX10_init_46 : decode cX10_init 46 = .ok (.new 32, 3) := by decide +kernel
theorem dX10_init_49 : decode cX10_init 49 = .ok (.dup, 1) := by decide +kernel
theorem dX10_init_50 : decode cX10_init 50 = .ok (.invokespecial 34, 3) := by decide +kernel
theorem dX10_init_53 : decode cX10_init 53 = .ok (.putfield 35, 3) := by decide +kernel
theorem dX10_init_56 : decode cX10_init 56 = .ok (.aload_n 0, 1) := by decide +kernel
theorem dX10_init_57 : decode cX10_init 57 = .ok (.new 39, 3) := by decide +kernel
theorem dX10_init_60 : decode cX10_init 60 = .ok (.dup, 1) := by decide +kernel
theorem dX10_init_61 : decode cX10_init 61 = .ok (.invokespecial 41, 3) := by decide +kernel
theorem dX10_init_64 : decode cX10_init 64 = .ok (.putfield 42, 3) := by decide +kernel
theorem dX10_init_67 : decode cX10_init 67 = .ok (.aload_n 0, 1) := by decide +kernel
theorem dX10_init_68 : decode cX10_init 68 = .ok (.new 39, 3) := by decide +kernel
theorem dX10_init_71 : decode cX10_init 71 = .ok (.dup, 1) := by decide +kernel
theorem dX10_init_72 : decode cX10_init 72 = .ok (.invokespecial 41, 3) := by decide +kernel
theorem dX10_init_75 : decode cX10_init 75 = .ok (.putfield 46, 3) := by decide +kernel
theorem dX10_init_78 : decode cX10_init 78 = .ok (.aload_n 0, 1) := by decide +kernel
theorem dX10_init_79 : decode cX10_init 79 = .ok (.new 39, 3) := by decide +kernel
theorem dX10_init_82 : decode cX10_init 82 = .ok (.dup, 1) := by decide +kernel
theorem dX10_init_83 : decode cX10_init 83 = .ok (.invokespecial 41, 3) := by decide +kernel
theorem dX10_init_86 : decode cX10_init 86 = .ok (.putfield 49, 3) := by decide +kernel
theorem dX10_init_89 : decode cX10_init 89 = .ok (.aload_n 0, 1) := by decide +kernel
theorem dX10_init_90 : decode cX10_init 90 = .ok (.new 39, 3) := by decide +kernel
theorem dX10_init_93 : decode cX10_init 93 = .ok (.dup, 1) := by decide +kernel
theorem dX10_init_94 : decode cX10_init 94 = .ok (.invokespecial 41, 3) := by decide +kernel
theorem dX10_init_97 : decode cX10_init 97 = .ok (.putfield 52, 3) := by decide +kernel
theorem dX10_init_100 : decode cX10_init 100 = .ok (.aload_n 0, 1) := by decide +kernel
theorem dX10_init_101 : decode cX10_init 101 = .ok (.bipush 8, 2) := by decide +kernel
theorem dX10_init_103 : decode cX10_init 103 = .ok (.newarray .int, 2) := by decide +kernel
theorem dX10_init_105 : decode cX10_init 105 = .ok (.putfield 55, 3) := by decide +kernel
theorem dX10_init_108 : decode cX10_init 108 = .ok (.aload_n 0, 1) := by decide +kernel
theorem dX10_init_109 : decode cX10_init 109 = .ok (.bipush 30, 2) := by decide +kernel
theorem dX10_init_111 : decode cX10_init 111 = .ok (.newarray .int, 2) := by decide +kernel
theorem dX10_init_113 : decode cX10_init 113 = .ok (.putfield 59, 3) := by decide +kernel
theorem dX10_init_116 : decode cX10_init 116 = .ok (.aload_n 0, 1) := by decide +kernel
theorem dX10_init_117 : decode cX10_init 117 = .ok (.iconst (-1), 1) := by decide +kernel
theorem dX10_init_118 : decode cX10_init 118 = .ok (.putfield 62, 3) := by decide +kernel
theorem dX10_init_121 : decode cX10_init 121 = .ok (.return_, 1) := by decide +kernel
theorem dX10_feed_0 : decode cX10_feed 0 = .ok (.aload_n 0, 1) := by decide +kernel
theorem dX10_feed_1 : decode cX10_feed 1 = .ok (.getfield 12, 3) := by decide +kernel
theorem dX10_feed_4 : decode cX10_feed 4 = .ok (.getfield 66, 3) := by decide +kernel
theorem dX10_feed_7 : decode cX10_feed 7 = .ok (.sipush 380, 3) := by decide +kernel
theorem dX10_feed_10 : decode cX10_feed 10 = .ok (.if_icmp .le 5, 3) := by decide +kernel
theorem dX10_feed_13 : decode cX10_feed 13 = .ok (.iconst (-1), 1) := by decide +kernel
theorem dX10_feed_14 : decode cX10_feed 14 = .ok (.ireturn, 1) := by decide +kernel
theorem dX10_feed_15 : decode cX10_feed 15 = .ok (.aload_n 0, 1) := by decide +kernel
theorem dX10_feed_16 : decode cX10_feed 16 = .ok (.getfield 12, 3) := by decide +kernel
theorem dX10_feed_19 : decode cX10_feed 19 = .ok (.iload_n 1, 1) := by decide +kernel
theorem dX10_feed_20 : decode cX10_feed 20 = .ok (.invokevirtual 69, 3) := by decide +kernel
theorem dX10_feed_23 : decode cX10_feed 23 = .ok (.aload_n 0, 1) := by decide +kernel
theorem dX10_feed_24 : decode cX10_feed 24 = .ok (.getfield 12, 3) := by decide +kernel
theorem dX10_feed_27 : decode cX10_feed 27 = .ok (.iload_n 2, 1) := by decide +kernel
theorem dX10_feed_28 : decode cX10_feed 28 = .ok (.invokevirtual 69, 3) := by decide +kernel
theorem dX10_feed_31 : decode cX10_feed 31 = .ok (.aload_n 0, 1) := by decide +kernel
theorem dX10_feed_32 : decode cX10_feed 32 = .ok (.getfield 12, 3) := by decide +kernel
theorem dX10_feed_35 : decode cX10_feed 35 = .ok (.iload_n 3, 1) := by decide +kernel
theorem dX10_feed_36 : decode cX10_feed 36 = .ok (.invokevirtual 69, 3) := by decide +kernel
theorem dX10_feed_39 : decode cX10_feed 39 = .ok (.aload_n 0, 1) := by decide +kernel
theorem dX10_feed_40 : decode cX10_feed 40 = .ok (.getfield 12, 3) := by decide +kernel
theorem dX10_feed_43 : decode cX10_feed 43 = .ok (.iload 4, 2) := by decide +kernel
theorem dX10_feed_45 : decode cX10_feed 45 = .ok (.invokevirtual 69, 3) := by decide +kernel
theorem dX10_feed_48 : decode cX10_feed 48 = .ok (.aload_n 0, 1) := by decide +kernel
theorem dX10_feed_49 : decode cX10_feed 49 = .ok (.getfield 12, 3) := by decide +kernel
theorem dX10_feed_52 : decode cX10_feed 52 = .ok (.iload 5, 2) := by decide +kernel
theorem dX10_feed_54 : decode cX10_feed 54 = .ok (.invokevirtual 69, 3) := by decide +kernel
theorem dX10_feed_57 : decode cX10_feed 57 = .ok (.aload_n 0, 1) := by decide +kernel
theorem dX10_feed_58 : decode cX10_feed 58 = .ok (.getfield 12, 3) := by decide +kernel
theorem dX10_feed_61 : decode cX10_feed 61 = .ok (.getfield 66, 3) := by decide +kernel
theorem dX10_feed_64 : decode cX10_feed 64 = .ok (.ireturn, 1) := by decide +kernel
theorem dX10_end_0 : decode cX10_end 0 = .ok (.iload_n 1, 1) := by decide +kernel
theorem dX10_end_1 : decode cX10_end 1 = .ok (.ifCond .lt 14, 3) := by decide +kernel
theorem dX10_end_4 : decode cX10_end 4 = .ok (.iload_n 1, 1) := by decide +kernel
theorem dX10_end_5 : decode cX10_end 5 = .ok (.aload_n 0, 1) := by decide +kernel
theorem dX10_end_6 : decode cX10_end 6 = .ok (.getfield 12, 3) := by decide +kernel
theorem dX10_end_9 : decode cX10_end 9 = .ok (.getfield 66, 3) := by decide +kernel
theorem dX10_end_12 : decode cX10_end 12 = .ok (.if_icmp .le 5, 3) := by decide +kernel
theorem dX10_end_15 : decode cX10_end 15 = .ok (.iconst 0, 1) := by decide +kernel
theorem dX10_end_16 : decode cX10_end 16 = .ok (.ireturn, 1) := by decide +kernel
theorem dX10_end_17 : decode cX10_end 17 = .ok (.aload_n 0, 1) := by decide +kernel
theorem dX10_end_18 : decode cX10_end 18 = .ok (.getfield 12, 3) := by decide +kernel
theorem dX10_end_21 : decode cX10_end 21 = .ok (.iload_n 1, 1) := by decide +kernel
theorem dX10_end_22 : decode cX10_end 22 = .ok (.putfield 66, 3) := by decide +kernel
theorem dX10_end_25 : decode cX10_end 25 = .ok (.iconst 1, 1) := by decide +kernel
theorem dX10_end_26 : decode cX10_end 26 = .ok (.ireturn, 1) := by decide +kernel
theorem dX10_land_0 : decode cX10_land 0 = .ok (.aload_n 0, 1) := by decide +kernel
theorem dX10_land_1 : decode cX10_land 1 = .ok (.getfield 21, 3) := by decide +kernel
theorem dX10_land_4 : decode cX10_land 4 = .ok (.aload_n 0, 1) := by decide +kernel
theorem dX10_land_5 : decode cX10_land 5 = .ok (.getfield 42, 3) := by decide +kernel
theorem dX10_land_8 : decode cX10_land 8 = .ok (.getfield 73, 3) := by decide +kernel
theorem dX10_land_11 : decode cX10_land 11 = .ok (.aload_n 0, 1) := by decide +kernel
theorem dX10_land_12 : decode cX10_land 12 = .ok (.getfield 42, 3) := by decide +kernel
theorem dX10_land_15 : decode cX10_land 15 = .ok (.getfield 76, 3) := by decide +kernel
theorem dX10_land_18 : decode cX10_land 18 = .ok (.invokevirtual 79, 3) := by decide +kernel
theorem dX10_land_21 : decode cX10_land 21 = .ok (.aload_n 0, 1) := by decide +kernel
theorem dX10_land_22 : decode cX10_land 22 = .ok (.getfield 21, 3) := by decide +kernel
theorem dX10_land_25 : decode cX10_land 25 = .ok (.invokevirtual 83, 3) := by decide +kernel
theorem dX10_land_28 : decode cX10_land 28 = .ok (.istore_n 1, 1) := by decide +kernel
theorem dX10_land_29 : decode cX10_land 29 = .ok (.aload_n 0, 1) := by decide +kernel
theorem dX10_land_30 : decode cX10_land 30 = .ok (.aload_n 0, 1) := by decide +kernel
theorem dX10_land_31 : decode cX10_land 31 = .ok (.getfield 12, 3) := by decide +kernel
theorem dX10_land_34 : decode cX10_land 34 = .ok (.getfield 87, 3) := by decide +kernel
theorem dX10_land_37 : decode cX10_land 37 = .ok (.putfield 62, 3) := by decide +kernel
theorem dX10_land_40 : decode cX10_land 40 = .ok (.aload_n 0, 1) := by decide +kernel
theorem dX10_land_41 : decode cX10_land 41 = .ok (.getfield 12, 3) := by decide +kernel
theorem dX10_land_44 : decode cX10_land 44 = .ok (.iconst 0, 1) := by decide +kernel
theorem dX10_land_45 : decode cX10_land 45 = .ok (.putfield 66, 3) := by decide +kernel
theorem dX10_land_48 : decode cX10_land 48 = .ok (.iload_n 1, 1) := by decide +kernel
theorem dX10_land_49 : decode cX10_land 49 = .ok (.ifCond .ne 13, 3) := by decide +kernel
theorem dX10_land_52 : decode cX10_land 52 = .ok (.new 88, 3) := by decide +kernel
theorem dX10_land_55 : decode cX10_land 55 = .ok (.dup, 1) := by decide +kernel
theorem dX10_land_56 : decode cX10_land 56 = .ok (.ldc 90, 2) := by decide +kernel
theorem dX10_land_58 : decode cX10_land 58 = .ok (.invokespecial 92, 3) := by decide +kernel
theorem dX10_land_61 : decode cX10_land 61 = .ok (.athrow, 1) := by decide +kernel
theorem dX10_land_62 : decode cX10_land 62 = .ok (.aload_n 0, 1) := by decide +kernel
theorem dX10_land_63 : decode cX10_land 63 = .ok (.getfield 42, 3) := by decide +kernel
theorem dX10_land_66 : decode cX10_land 66 = .ok (.getfield 95, 3) := by decide +kernel
theorem dX10_land_69 : decode cX10_land 69 = .ok (.bipush 10, 2) := by decide +kernel
theorem dX10_land_71 : decode cX10_land 71 = .ok (.if_icmp .lt 13, 3) := by decide +kernel
theorem dX10_land_74 : decode cX10_land 74 = .ok (.new 98, 3) := by decide +kernel
theorem dX10_land_77 : decode cX10_land 77 = .ok (.dup, 1) := by decide +kernel
theorem dX10_land_78 : decode cX10_land 78 = .ok (.ldc 100, 2) := by decide +kernel
theorem dX10_land_80 : decode cX10_land 80 = .ok (.invokespecial 102, 3) := by decide +kernel
theorem dX10_land_83 : decode cX10_land 83 = .ok (.athrow, 1) := by decide +kernel
theorem dX10_land_84 : decode cX10_land 84 = .ok (.aload_n 0, 1) := by decide +kernel
theorem dX10_land_85 : decode cX10_land 85 = .ok (.getfield 21, 3) := by decide +kernel
theorem dX10_land_88 : decode cX10_land 88 = .ok (.aload_n 0, 1) := by decide +kernel
theorem dX10_land_89 : decode cX10_land 89 = .ok (.getfield 42, 3) := by decide +kernel
theorem dX10_land_92 : decode cX10_land 92 = .ok (.invokevirtual 103, 3) := by decide +kernel
theorem dX10_land_95 : decode cX10_land 95 = .ok (.aload_n 0, 1) := by decide +kernel
theorem dX10_land_96 : decode cX10_land 96 = .ok (.getfield 42, 3) := by decide +kernel
theorem dX10_land_99 : decode cX10_land 99 = .ok (.dup, 1) := by decide +kernel
theorem dX10_land_100 : decode cX10_land 100 = .ok (.getfield 95, 3) := by decide +kernel
theorem dX10_land_103 : decode cX10_land 103 = .ok (.iconst 1, 1) := by decide +kernel
theorem dX10_land_104 : decode cX10_land 104 = .ok (.iadd, 1) := by decide +kernel
theorem dX10_land_105 : decode cX10_land 105 = .ok (.putfield 95, 3) := by decide +kernel
theorem dX10_land_108 : decode cX10_land 108 = .ok (.aload_n 0, 1) := by decide +kernel
theorem dX10_land_109 : decode cX10_land 109 = .ok (.getfield 42, 3) := by decide +kernel
theorem dX10_land_112 : decode cX10_land 112 = .ok (.getfield 95, 3) := by decide +kernel
theorem dX10_land_115 : decode cX10_land 115 = .ok (.ireturn, 1) := by decide +kernel
theorem dX10_law_0 : decode cX10_law 0 = .ok (.aload_n 0, 1) := by decide +kernel
theorem dX10_law_1 : decode cX10_law 1 = .ok (.getfield 28, 3) := by decide +kernel
theorem dX10_law_4 : decode cX10_law 4 = .ok (.invokevirtual 107, 3) := by decide +kernel
theorem dX10_law_7 : decode cX10_law 7 = .ok (.aload_n 0, 1) := by decide +kernel
theorem dX10_law_8 : decode cX10_law 8 = .ok (.getfield 28, 3) := by decide +kernel
theorem dX10_law_11 : decode cX10_law 11 = .ok (.invokevirtual 109, 3) := by decide +kernel
theorem dX10_law_14 : decode cX10_law 14 = .ok (.istore_n 1, 1) := by decide +kernel
theorem dX10_law_15 : decode cX10_law 15 = .ok (.aload_n 0, 1) := by decide +kernel
theorem dX10_law_16 : decode cX10_law 16 = .ok (.aload_n 0, 1) := by decide +kernel
theorem dX10_law_17 : decode cX10_law 17 = .ok (.getfield 12, 3) := by decide +kernel
theorem dX10_law_20 : decode cX10_law 20 = .ok (.getfield 87, 3) := by decide +kernel
theorem dX10_law_23 : decode cX10_law 23 = .ok (.putfield 62, 3) := by decide +kernel
theorem dX10_law_26 : decode cX10_law 26 = .ok (.aload_n 0, 1) := by decide +kernel
theorem dX10_law_27 : decode cX10_law 27 = .ok (.getfield 12, 3) := by decide +kernel
theorem dX10_law_30 : decode cX10_law 30 = .ok (.iconst 0, 1) := by decide +kernel
theorem dX10_law_31 : decode cX10_law 31 = .ok (.putfield 66, 3) := by decide +kernel
theorem dX10_law_34 : decode cX10_law 34 = .ok (.iload_n 1, 1) := by decide +kernel
theorem dX10_law_35 : decode cX10_law 35 = .ok (.ifCond .ne 13, 3) := by decide +kernel
theorem dX10_law_38 : decode cX10_law 38 = .ok (.new 88, 3) := by decide +kernel
theorem dX10_law_41 : decode cX10_law 41 = .ok (.dup, 1) := by decide +kernel
theorem dX10_law_42 : decode cX10_law 42 = .ok (.ldc 90, 2) := by decide +kernel
theorem dX10_law_44 : decode cX10_law 44 = .ok (.invokespecial 92, 3) := by decide +kernel
theorem dX10_law_47 : decode cX10_law 47 = .ok (.athrow, 1) := by decide +kernel
theorem dX10_law_48 : decode cX10_law 48 = .ok (.aload_n 0, 1) := by decide +kernel
theorem dX10_law_49 : decode cX10_law 49 = .ok (.getfield 42, 3) := by decide +kernel
theorem dX10_law_52 : decode cX10_law 52 = .ok (.aload_n 0, 1) := by decide +kernel
theorem dX10_law_53 : decode cX10_law 53 = .ok (.getfield 28, 3) := by decide +kernel
theorem dX10_law_56 : decode cX10_law 56 = .ok (.invokevirtual 110, 3) := by decide +kernel
theorem dX10_law_59 : decode cX10_law 59 = .ok (.putfield 114, 3) := by decide +kernel
theorem dX10_law_62 : decode cX10_law 62 = .ok (.aload_n 0, 1) := by decide +kernel
theorem dX10_law_63 : decode cX10_law 63 = .ok (.getfield 42, 3) := by decide +kernel
theorem dX10_law_66 : decode cX10_law 66 = .ok (.getfield 114, 3) := by decide +kernel
theorem dX10_law_69 : decode cX10_law 69 = .ok (.getfield 118, 3) := by decide +kernel
theorem dX10_law_72 : decode cX10_law 72 = .ok (.ireturn, 1) := by decide +kernel
theorem dX10_fault_0 : decode cX10_fault 0 = .ok (.aload_n 0, 1) := by decide +kernel
theorem dX10_fault_1 : decode cX10_fault 1 = .ok (.getfield 62, 3) := by decide +kernel
theorem dX10_fault_4 : decode cX10_fault 4 = .ok (.ireturn, 1) := by decide +kernel
theorem dX10_cistern_0 : decode cX10_cistern 0 = .ok (.aload_n 0, 1) := by decide +kernel
theorem dX10_cistern_1 : decode cX10_cistern 1 = .ok (.iload_n 1, 1) := by decide +kernel
theorem dX10_cistern_2 : decode cX10_cistern 2 = .ok (.invokevirtual 123, 3) := by decide +kernel
theorem dX10_cistern_5 : decode cX10_cistern 5 = .ok (.aload_n 0, 1) := by decide +kernel
theorem dX10_cistern_6 : decode cX10_cistern 6 = .ok (.getfield 42, 3) := by decide +kernel
theorem dX10_cistern_9 : decode cX10_cistern 9 = .ok (.getfield 126, 3) := by decide +kernel
theorem dX10_cistern_12 : decode cX10_cistern 12 = .ok (.iload_n 1, 1) := by decide +kernel
theorem dX10_cistern_13 : decode cX10_cistern 13 = .ok (.aaload, 1) := by decide +kernel
theorem dX10_cistern_14 : decode cX10_cistern 14 = .ok (.astore_n 3, 1) := by decide +kernel
theorem dX10_cistern_15 : decode cX10_cistern 15 = .ok (.iload_n 2, 1) := by decide +kernel
theorem dX10_cistern_16 : decode cX10_cistern 16 = .ok (.tableswitch 91 0 6 #[44, 49, 54, 67, 72, 77, 82], 44) := by decide +kernel
theorem dX10_cistern_60 : decode cX10_cistern 60 = .ok (.aload_n 3, 1) := by decide +kernel
theorem dX10_cistern_61 : decode cX10_cistern 61 = .ok (.getfield 130, 3) := by decide +kernel
theorem dX10_cistern_64 : decode cX10_cistern 64 = .ok (.ireturn, 1) := by decide +kernel
theorem dX10_cistern_65 : decode cX10_cistern 65 = .ok (.aload_n 3, 1) := by decide +kernel
theorem dX10_cistern_66 : decode cX10_cistern 66 = .ok (.getfield 135, 3) := by decide +kernel
theorem dX10_cistern_69 : decode cX10_cistern 69 = .ok (.ireturn, 1) := by decide +kernel
theorem dX10_cistern_70 : decode cX10_cistern 70 = .ok (.aload_n 3, 1) := by decide +kernel
theorem dX10_cistern_71 : decode cX10_cistern 71 = .ok (.getfield 138, 3) := by decide +kernel
theorem dX10_cistern_74 : decode cX10_cistern 74 = .ok (.ifCond .eq 7, 3) := by decide +kernel
theorem dX10_cistern_77 : decode cX10_cistern 77 = .ok (.iconst 1, 1) := by decide +kernel
theorem dX10_cistern_78 : decode cX10_cistern 78 = .ok (.goto 4, 3) := by decide +kernel
theorem dX10_cistern_81 : decode cX10_cistern 81 = .ok (.iconst 0, 1) := by decide +kernel
theorem dX10_cistern_82 : decode cX10_cistern 82 = .ok (.ireturn, 1) := by decide +kernel
theorem dX10_cistern_83 : decode cX10_cistern 83 = .ok (.aload_n 3, 1) := by decide +kernel
theorem dX10_cistern_84 : decode cX10_cistern 84 = .ok (.getfield 142, 3) := by decide +kernel
theorem dX10_cistern_87 : decode cX10_cistern 87 = .ok (.ireturn, 1) := by decide +kernel
theorem dX10_cistern_88 : decode cX10_cistern 88 = .ok (.aload_n 3, 1) := by decide +kernel
theorem dX10_cistern_89 : decode cX10_cistern 89 = .ok (.getfield 145, 3) := by decide +kernel
theorem dX10_cistern_92 : decode cX10_cistern 92 = .ok (.ireturn, 1) := by decide +kernel
theorem dX10_cistern_93 : decode cX10_cistern 93 = .ok (.aload_n 3, 1) := by decide +kernel
theorem dX10_cistern_94 : decode cX10_cistern 94 = .ok (.getfield 148, 3) := by decide +kernel
theorem dX10_cistern_97 : decode cX10_cistern 97 = .ok (.ireturn, 1) := by decide +kernel
theorem dX10_cistern_98 : decode cX10_cistern 98 = .ok (.aload_n 0, 1) := by decide +kernel
theorem dX10_cistern_99 : decode cX10_cistern 99 = .ok (.getfield 42, 3) := by decide +kernel
theorem dX10_cistern_102 : decode cX10_cistern 102 = .ok (.aload_n 3, 1) := by decide +kernel
theorem dX10_cistern_103 : decode cX10_cistern 103 = .ok (.invokevirtual 151, 3) := by decide +kernel
theorem dX10_cistern_106 : decode cX10_cistern 106 = .ok (.ireturn, 1) := by decide +kernel
theorem dX10_cistern_107 : decode cX10_cistern 107 = .ok (.new 155, 3) := by decide +kernel
theorem dX10_cistern_110 : decode cX10_cistern 110 = .ok (.dup, 1) := by decide +kernel
theorem dX10_cistern_111 : decode cX10_cistern 111 = .ok (.ldc 157, 2) := by decide +kernel
theorem dX10_cistern_113 : decode cX10_cistern 113 = .ok (.invokespecial 159, 3) := by decide +kernel
theorem dX10_cistern_116 : decode cX10_cistern 116 = .ok (.athrow, 1) := by decide +kernel
theorem dX10_layer_0 : decode cX10_layer 0 = .ok (.aload_n 0, 1) := by decide +kernel
theorem dX10_layer_1 : decode cX10_layer 1 = .ok (.iload_n 1, 1) := by decide +kernel
theorem dX10_layer_2 : decode cX10_layer 2 = .ok (.invokevirtual 123, 3) := by decide +kernel
theorem dX10_layer_5 : decode cX10_layer 5 = .ok (.aload_n 0, 1) := by decide +kernel
theorem dX10_layer_6 : decode cX10_layer 6 = .ok (.iload_n 2, 1) := by decide +kernel
theorem dX10_layer_7 : decode cX10_layer 7 = .ok (.invokevirtual 160, 3) := by decide +kernel
theorem dX10_layer_10 : decode cX10_layer 10 = .ok (.aload_n 0, 1) := by decide +kernel
theorem dX10_layer_11 : decode cX10_layer 11 = .ok (.getfield 42, 3) := by decide +kernel
theorem dX10_layer_14 : decode cX10_layer 14 = .ok (.getfield 126, 3) := by decide +kernel
theorem dX10_layer_17 : decode cX10_layer 17 = .ok (.iload_n 1, 1) := by decide +kernel
theorem dX10_layer_18 : decode cX10_layer 18 = .ok (.aaload, 1) := by decide +kernel
theorem dX10_layer_19 : decode cX10_layer 19 = .ok (.getfield 163, 3) := by decide +kernel
theorem dX10_layer_22 : decode cX10_layer 22 = .ok (.iload_n 2, 1) := by decide +kernel
theorem dX10_layer_23 : decode cX10_layer 23 = .ok (.iaload, 1) := by decide +kernel
theorem dX10_layer_24 : decode cX10_layer 24 = .ok (.ireturn, 1) := by decide +kernel
theorem dX10_salt_0 : decode cX10_salt 0 = .ok (.aload_n 0, 1) := by decide +kernel
theorem dX10_salt_1 : decode cX10_salt 1 = .ok (.iload_n 1, 1) := by decide +kernel
theorem dX10_salt_2 : decode cX10_salt 2 = .ok (.invokevirtual 160, 3) := by decide +kernel
theorem dX10_salt_5 : decode cX10_salt 5 = .ok (.aload_n 0, 1) := by decide +kernel
theorem dX10_salt_6 : decode cX10_salt 6 = .ok (.getfield 42, 3) := by decide +kernel
theorem dX10_salt_9 : decode cX10_salt 9 = .ok (.getfield 166, 3) := by decide +kernel
theorem dX10_salt_12 : decode cX10_salt 12 = .ok (.iload_n 1, 1) := by decide +kernel
theorem dX10_salt_13 : decode cX10_salt 13 = .ok (.iaload, 1) := by decide +kernel
theorem dX10_salt_14 : decode cX10_salt 14 = .ok (.ireturn, 1) := by decide +kernel
theorem dX10_house_0 : decode cX10_house 0 = .ok (.aload_n 0, 1) := by decide +kernel
theorem dX10_house_1 : decode cX10_house 1 = .ok (.iload_n 1, 1) := by decide +kernel
theorem dX10_house_2 : decode cX10_house 2 = .ok (.invokevirtual 169, 3) := by decide +kernel
theorem dX10_house_5 : decode cX10_house 5 = .ok (.aload_n 0, 1) := by decide +kernel
theorem dX10_house_6 : decode cX10_house 6 = .ok (.getfield 42, 3) := by decide +kernel
theorem dX10_house_9 : decode cX10_house 9 = .ok (.getfield 172, 3) := by decide +kernel
theorem dX10_house_12 : decode cX10_house 12 = .ok (.iload_n 1, 1) := by decide +kernel
theorem dX10_house_13 : decode cX10_house 13 = .ok (.aaload, 1) := by decide +kernel
theorem dX10_house_14 : decode cX10_house 14 = .ok (.astore_n 3, 1) := by decide +kernel
theorem dX10_house_15 : decode cX10_house 15 = .ok (.iload_n 2, 1) := by decide +kernel
theorem dX10_house_16 : decode cX10_house 16 = .ok (.tableswitch 61 0 4 #[36, 41, 46, 51, 56], 36) := by decide +kernel
theorem dX10_house_52 : decode cX10_house 52 = .ok (.aload_n 3, 1) := by decide +kernel
theorem dX10_house_53 : decode cX10_house 53 = .ok (.getfield 176, 3) := by decide +kernel
theorem dX10_house_56 : decode cX10_house 56 = .ok (.ireturn, 1) := by decide +kernel
theorem dX10_house_57 : decode cX10_house 57 = .ok (.aload_n 3, 1) := by decide +kernel
theorem dX10_house_58 : decode cX10_house 58 = .ok (.getfield 181, 3) := by decide +kernel
theorem dX10_house_61 : decode cX10_house 61 = .ok (.ireturn, 1) := by decide +kernel
theorem dX10_house_62 : decode cX10_house 62 = .ok (.aload_n 3, 1) := by decide +kernel
theorem dX10_house_63 : decode cX10_house 63 = .ok (.getfield 184, 3) := by decide +kernel
theorem dX10_house_66 : decode cX10_house 66 = .ok (.ireturn, 1) := by decide +kernel
theorem dX10_house_67 : decode cX10_house 67 = .ok (.aload_n 3, 1) := by decide +kernel
theorem dX10_house_68 : decode cX10_house 68 = .ok (.getfield 187, 3) := by decide +kernel
theorem dX10_house_71 : decode cX10_house 71 = .ok (.ireturn, 1) := by decide +kernel
theorem dX10_house_72 : decode cX10_house 72 = .ok (.aload_n 3, 1) := by decide +kernel
theorem dX10_house_73 : decode cX10_house 73 = .ok (.invokevirtual 190, 3) := by decide +kernel
theorem dX10_house_76 : decode cX10_house 76 = .ok (.ireturn, 1) := by decide +kernel
theorem dX10_house_77 : decode cX10_house 77 = .ok (.new 155, 3) := by decide +kernel
theorem dX10_house_80 : decode cX10_house 80 = .ok (.dup, 1) := by decide +kernel
theorem dX10_house_81 : decode cX10_house 81 = .ok (.ldc 194, 2) := by decide +kernel
theorem dX10_house_83 : decode cX10_house 83 = .ok (.invokespecial 159, 3) := by decide +kernel
theorem dX10_house_86 : decode cX10_house 86 = .ok (.athrow, 1) := by decide +kernel
theorem dX10_drank_0 : decode cX10_drank 0 = .ok (.aload_n 0, 1) := by decide +kernel
theorem dX10_drank_1 : decode cX10_drank 1 = .ok (.iload_n 1, 1) := by decide +kernel
theorem dX10_drank_2 : decode cX10_drank 2 = .ok (.invokevirtual 169, 3) := by decide +kernel
theorem dX10_drank_5 : decode cX10_drank 5 = .ok (.aload_n 0, 1) := by decide +kernel
theorem dX10_drank_6 : decode cX10_drank 6 = .ok (.iload_n 2, 1) := by decide +kernel
theorem dX10_drank_7 : decode cX10_drank 7 = .ok (.invokevirtual 160, 3) := by decide +kernel
theorem dX10_drank_10 : decode cX10_drank 10 = .ok (.aload_n 0, 1) := by decide +kernel
theorem dX10_drank_11 : decode cX10_drank 11 = .ok (.getfield 42, 3) := by decide +kernel
theorem dX10_drank_14 : decode cX10_drank 14 = .ok (.getfield 172, 3) := by decide +kernel
theorem dX10_drank_17 : decode cX10_drank 17 = .ok (.iload_n 1, 1) := by decide +kernel
theorem dX10_drank_18 : decode cX10_drank 18 = .ok (.aaload, 1) := by decide +kernel
theorem dX10_drank_19 : decode cX10_drank 19 = .ok (.getfield 196, 3) := by decide +kernel
theorem dX10_drank_22 : decode cX10_drank 22 = .ok (.iload_n 2, 1) := by decide +kernel
theorem dX10_drank_23 : decode cX10_drank 23 = .ok (.iaload, 1) := by decide +kernel
theorem dX10_drank_24 : decode cX10_drank 24 = .ok (.ireturn, 1) := by decide +kernel
theorem dX10_place_0 : decode cX10_place 0 = .ok (.aload_n 0, 1) := by decide +kernel
theorem dX10_place_1 : decode cX10_place 1 = .ok (.iload_n 1, 1) := by decide +kernel
theorem dX10_place_2 : decode cX10_place 2 = .ok (.invokevirtual 123, 3) := by decide +kernel
theorem dX10_place_5 : decode cX10_place 5 = .ok (.aload_n 0, 1) := by decide +kernel
theorem dX10_place_6 : decode cX10_place 6 = .ok (.iload_n 2, 1) := by decide +kernel
theorem dX10_place_7 : decode cX10_place 7 = .ok (.invokevirtual 160, 3) := by decide +kernel
theorem dX10_place_10 : decode cX10_place 10 = .ok (.aload_n 0, 1) := by decide +kernel
theorem dX10_place_11 : decode cX10_place 11 = .ok (.getfield 42, 3) := by decide +kernel
theorem dX10_place_14 : decode cX10_place 14 = .ok (.aload_n 0, 1) := by decide +kernel
theorem dX10_place_15 : decode cX10_place 15 = .ok (.getfield 42, 3) := by decide +kernel
theorem dX10_place_18 : decode cX10_place 18 = .ok (.getfield 126, 3) := by decide +kernel
theorem dX10_place_21 : decode cX10_place 21 = .ok (.iload_n 1, 1) := by decide +kernel
theorem dX10_place_22 : decode cX10_place 22 = .ok (.aaload, 1) := by decide +kernel
theorem dX10_place_23 : decode cX10_place 23 = .ok (.iload_n 2, 1) := by decide +kernel
theorem dX10_place_24 : decode cX10_place 24 = .ok (.invokevirtual 199, 3) := by decide +kernel
theorem dX10_place_27 : decode cX10_place 27 = .ok (.ireturn, 1) := by decide +kernel
theorem dX10_next_0 : decode cX10_next 0 = .ok (.aload_n 0, 1) := by decide +kernel
theorem dX10_next_1 : decode cX10_next 1 = .ok (.iload_n 1, 1) := by decide +kernel
theorem dX10_next_2 : decode cX10_next 2 = .ok (.invokevirtual 123, 3) := by decide +kernel
theorem dX10_next_5 : decode cX10_next 5 = .ok (.aload_n 0, 1) := by decide +kernel
theorem dX10_next_6 : decode cX10_next 6 = .ok (.getfield 42, 3) := by decide +kernel
theorem dX10_next_9 : decode cX10_next 9 = .ok (.aload_n 0, 1) := by decide +kernel
theorem dX10_next_10 : decode cX10_next 10 = .ok (.getfield 42, 3) := by decide +kernel
theorem dX10_next_13 : decode cX10_next 13 = .ok (.getfield 126, 3) := by decide +kernel
theorem dX10_next_16 : decode cX10_next 16 = .ok (.iload_n 1, 1) := by decide +kernel
theorem dX10_next_17 : decode cX10_next 17 = .ok (.aaload, 1) := by decide +kernel
theorem dX10_next_18 : decode cX10_next 18 = .ok (.invokevirtual 203, 3) := by decide +kernel
theorem dX10_next_21 : decode cX10_next 21 = .ok (.ireturn, 1) := by decide +kernel
theorem dX10_months_0 : decode cX10_months 0 = .ok (.iload_n 1, 1) := by decide +kernel
theorem dX10_months_1 : decode cX10_months 1 = .ok (.iconst 1, 1) := by decide +kernel
theorem dX10_months_2 : decode cX10_months 2 = .ok (.if_icmp .lt 9, 3) := by decide +kernel
theorem dX10_months_5 : decode cX10_months 5 = .ok (.iload_n 1, 1) := by decide +kernel
theorem dX10_months_6 : decode cX10_months 6 = .ok (.bipush 60, 2) := by decide +kernel
theorem dX10_months_8 : decode cX10_months 8 = .ok (.if_icmp .le 13, 3) := by decide +kernel
theorem dX10_months_11 : decode cX10_months 11 = .ok (.new 88, 3) := by decide +kernel
theorem dX10_months_14 : decode cX10_months 14 = .ok (.dup, 1) := by decide +kernel
theorem dX10_months_15 : decode cX10_months 15 = .ok (.ldc 206, 2) := by decide +kernel
theorem dX10_months_17 : decode cX10_months 17 = .ok (.invokespecial 92, 3) := by decide +kernel
theorem dX10_months_20 : decode cX10_months 20 = .ok (.athrow, 1) := by decide +kernel
theorem dX10_months_21 : decode cX10_months 21 = .ok (.iconst 0, 1) := by decide +kernel
theorem dX10_months_22 : decode cX10_months 22 = .ok (.istore_n 2, 1) := by decide +kernel
theorem dX10_months_23 : decode cX10_months 23 = .ok (.iconst 0, 1) := by decide +kernel
theorem dX10_months_24 : decode cX10_months 24 = .ok (.istore_n 3, 1) := by decide +kernel
theorem dX10_months_25 : decode cX10_months 25 = .ok (.iload_n 3, 1) := by decide +kernel
theorem dX10_months_26 : decode cX10_months 26 = .ok (.iload_n 1, 1) := by decide +kernel
theorem dX10_months_27 : decode cX10_months 27 = .ok (.if_icmp .ge 38, 3) := by decide +kernel
theorem dX10_months_30 : decode cX10_months 30 = .ok (.iload_n 1, 1) := by decide +kernel
theorem dX10_months_31 : decode cX10_months 31 = .ok (.iload_n 3, 1) := by decide +kernel
theorem dX10_months_32 : decode cX10_months 32 = .ok (.isub, 1) := by decide +kernel
theorem dX10_months_33 : decode cX10_months 33 = .ok (.bipush 12, 2) := by decide +kernel
theorem dX10_months_35 : decode cX10_months 35 = .ok (.if_icmp .gt 14, 3) := by decide +kernel
theorem dX10_months_38 : decode cX10_months 38 = .ok (.aload_n 0, 1) := by decide +kernel
theorem dX10_months_39 : decode cX10_months 39 = .ok (.getfield 35, 3) := by decide +kernel
theorem dX10_months_42 : decode cX10_months 42 = .ok (.aload_n 0, 1) := by decide +kernel
theorem dX10_months_43 : decode cX10_months 43 = .ok (.getfield 42, 3) := by decide +kernel
theorem dX10_months_46 : decode cX10_months 46 = .ok (.invokevirtual 208, 3) := by decide +kernel
theorem dX10_months_49 : decode cX10_months 49 = .ok (.iload_n 2, 1) := by decide +kernel
theorem dX10_months_50 : decode cX10_months 50 = .ok (.aload_n 0, 1) := by decide +kernel
theorem dX10_months_51 : decode cX10_months 51 = .ok (.getfield 42, 3) := by decide +kernel
theorem dX10_months_54 : decode cX10_months 54 = .ok (.invokevirtual 211, 3) := by decide +kernel
theorem dX10_months_57 : decode cX10_months 57 = .ok (.iadd, 1) := by decide +kernel
theorem dX10_months_58 : decode cX10_months 58 = .ok (.istore_n 2, 1) := by decide +kernel
theorem dX10_months_59 : decode cX10_months 59 = .ok (.iinc 3 1, 3) := by decide +kernel
theorem dX10_months_62 : decode cX10_months 62 = .ok (.goto (-37), 3) := by decide +kernel
theorem dX10_months_65 : decode cX10_months 65 = .ok (.iload_n 2, 1) := by decide +kernel
theorem dX10_months_66 : decode cX10_months 66 = .ok (.ireturn, 1) := by decide +kernel
theorem dX10_undo_0 : decode cX10_undo 0 = .ok (.aload_n 0, 1) := by decide +kernel
theorem dX10_undo_1 : decode cX10_undo 1 = .ok (.getfield 35, 3) := by decide +kernel
theorem dX10_undo_4 : decode cX10_undo 4 = .ok (.getfield 214, 3) := by decide +kernel
theorem dX10_undo_7 : decode cX10_undo 7 = .ok (.ifCond .ne 5, 3) := by decide +kernel
theorem dX10_undo_10 : decode cX10_undo 10 = .ok (.iconst (-1), 1) := by decide +kernel
theorem dX10_undo_11 : decode cX10_undo 11 = .ok (.ireturn, 1) := by decide +kernel
theorem dX10_undo_12 : decode cX10_undo 12 = .ok (.aload_n 0, 1) := by decide +kernel
theorem dX10_undo_13 : decode cX10_undo 13 = .ok (.getfield 42, 3) := by decide +kernel
theorem dX10_undo_16 : decode cX10_undo 16 = .ok (.aload_n 0, 1) := by decide +kernel
theorem dX10_undo_17 : decode cX10_undo 17 = .ok (.getfield 35, 3) := by decide +kernel
theorem dX10_undo_20 : decode cX10_undo 20 = .ok (.invokevirtual 215, 3) := by decide +kernel
theorem dX10_undo_23 : decode cX10_undo 23 = .ok (.invokevirtual 219, 3) := by decide +kernel
theorem dX10_undo_26 : decode cX10_undo 26 = .ok (.aload_n 0, 1) := by decide +kernel
theorem dX10_undo_27 : decode cX10_undo 27 = .ok (.getfield 35, 3) := by decide +kernel
theorem dX10_undo_30 : decode cX10_undo 30 = .ok (.invokevirtual 222, 3) := by decide +kernel
theorem dX10_undo_33 : decode cX10_undo 33 = .ok (.aload_n 0, 1) := by decide +kernel
theorem dX10_undo_34 : decode cX10_undo 34 = .ok (.getfield 42, 3) := by decide +kernel
theorem dX10_undo_37 : decode cX10_undo 37 = .ok (.getfield 225, 3) := by decide +kernel
theorem dX10_undo_40 : decode cX10_undo 40 = .ok (.ireturn, 1) := by decide +kernel
theorem dX10_oath_0 : decode cX10_oath 0 = .ok (.aload_n 0, 1) := by decide +kernel
theorem dX10_oath_1 : decode cX10_oath 1 = .ok (.iload_n 1, 1) := by decide +kernel
theorem dX10_oath_2 : decode cX10_oath 2 = .ok (.invokevirtual 123, 3) := by decide +kernel
theorem dX10_oath_5 : decode cX10_oath 5 = .ok (.iload_n 2, 1) := by decide +kernel
theorem dX10_oath_6 : decode cX10_oath 6 = .ok (.ifCond .ge 13, 3) := by decide +kernel
theorem dX10_oath_9 : decode cX10_oath 9 = .ok (.new 88, 3) := by decide +kernel
theorem dX10_oath_12 : decode cX10_oath 12 = .ok (.dup, 1) := by decide +kernel
theorem dX10_oath_13 : decode cX10_oath 13 = .ok (.ldc 228, 2) := by decide +kernel
theorem dX10_oath_15 : decode cX10_oath 15 = .ok (.invokespecial 92, 3) := by decide +kernel
theorem dX10_oath_18 : decode cX10_oath 18 = .ok (.athrow, 1) := by decide +kernel
theorem dX10_oath_19 : decode cX10_oath 19 = .ok (.aload_n 0, 1) := by decide +kernel
theorem dX10_oath_20 : decode cX10_oath 20 = .ok (.getfield 42, 3) := by decide +kernel
theorem dX10_oath_23 : decode cX10_oath 23 = .ok (.aload_n 0, 1) := by decide +kernel
theorem dX10_oath_24 : decode cX10_oath 24 = .ok (.getfield 42, 3) := by decide +kernel
theorem dX10_oath_27 : decode cX10_oath 27 = .ok (.getfield 126, 3) := by decide +kernel
theorem dX10_oath_30 : decode cX10_oath 30 = .ok (.iload_n 1, 1) := by decide +kernel
theorem dX10_oath_31 : decode cX10_oath 31 = .ok (.aaload, 1) := by decide +kernel
theorem dX10_oath_32 : decode cX10_oath 32 = .ok (.iload_n 2, 1) := by decide +kernel
theorem dX10_oath_33 : decode cX10_oath 33 = .ok (.invokevirtual 230, 3) := by decide +kernel
theorem dX10_oath_36 : decode cX10_oath 36 = .ok (.ireturn, 1) := by decide +kernel
theorem dX10_winter_0 : decode cX10_winter 0 = .ok (.iload_n 1, 1) := by decide +kernel
theorem dX10_winter_1 : decode cX10_winter 1 = .ok (.iconst 1, 1) := by decide +kernel
theorem dX10_winter_2 : decode cX10_winter 2 = .ok (.if_icmp .lt 10, 3) := by decide +kernel
theorem dX10_winter_5 : decode cX10_winter 5 = .ok (.iload_n 1, 1) := by decide +kernel
theorem dX10_winter_6 : decode cX10_winter 6 = .ok (.sipush 999, 3) := by decide +kernel
theorem dX10_winter_9 : decode cX10_winter 9 = .ok (.if_icmp .le 13, 3) := by decide +kernel
theorem dX10_winter_12 : decode cX10_winter 12 = .ok (.new 88, 3) := by decide +kernel
theorem dX10_winter_15 : decode cX10_winter 15 = .ok (.dup, 1) := by decide +kernel
theorem dX10_winter_16 : decode cX10_winter 16 = .ok (.ldc 233, 2) := by decide +kernel
theorem dX10_winter_18 : decode cX10_winter 18 = .ok (.invokespecial 92, 3) := by decide +kernel
theorem dX10_winter_21 : decode cX10_winter 21 = .ok (.athrow, 1) := by decide +kernel
theorem dX10_winter_22 : decode cX10_winter 22 = .ok (.aload_n 0, 1) := by decide +kernel
theorem dX10_winter_23 : decode cX10_winter 23 = .ok (.getfield 42, 3) := by decide +kernel
theorem dX10_winter_26 : decode cX10_winter 26 = .ok (.aload_n 0, 1) := by decide +kernel
theorem dX10_winter_27 : decode cX10_winter 27 = .ok (.getfield 42, 3) := by decide +kernel
theorem dX10_winter_30 : decode cX10_winter 30 = .ok (.invokevirtual 235, 3) := by decide +kernel
theorem dX10_winter_33 : decode cX10_winter 33 = .ok (.iload_n 1, 1) := by decide +kernel
theorem dX10_winter_34 : decode cX10_winter 34 = .ok (.irem, 1) := by decide +kernel
theorem dX10_winter_35 : decode cX10_winter 35 = .ok (.iconst 1, 1) := by decide +kernel
theorem dX10_winter_36 : decode cX10_winter 36 = .ok (.iadd, 1) := by decide +kernel
theorem dX10_winter_37 : decode cX10_winter 37 = .ok (.invokevirtual 238, 3) := by decide +kernel
theorem dX10_winter_40 : decode cX10_winter 40 = .ok (.ireturn, 1) := by decide +kernel
theorem dX10_seal_0 : decode cX10_seal 0 = .ok (.aload_n 0, 1) := by decide +kernel
theorem dX10_seal_1 : decode cX10_seal 1 = .ok (.iload_n 1, 1) := by decide +kernel
theorem dX10_seal_2 : decode cX10_seal 2 = .ok (.invokevirtual 123, 3) := by decide +kernel
theorem dX10_seal_5 : decode cX10_seal 5 = .ok (.aload_n 0, 1) := by decide +kernel
theorem dX10_seal_6 : decode cX10_seal 6 = .ok (.getfield 42, 3) := by decide +kernel
theorem dX10_seal_9 : decode cX10_seal 9 = .ok (.getfield 126, 3) := by decide +kernel
theorem dX10_seal_12 : decode cX10_seal 12 = .ok (.iload_n 1, 1) := by decide +kernel
theorem dX10_seal_13 : decode cX10_seal 13 = .ok (.aaload, 1) := by decide +kernel
theorem dX10_seal_14 : decode cX10_seal 14 = .ok (.astore_n 3, 1) := by decide +kernel
theorem dX10_seal_15 : decode cX10_seal 15 = .ok (.aload_n 3, 1) := by decide +kernel
theorem dX10_seal_16 : decode cX10_seal 16 = .ok (.getfield 138, 3) := by decide +kernel
theorem dX10_seal_19 : decode cX10_seal 19 = .ok (.iload_n 2, 1) := by decide +kernel
theorem dX10_seal_20 : decode cX10_seal 20 = .ok (.if_icmp .eq 7, 3) := by decide +kernel
theorem dX10_seal_23 : decode cX10_seal 23 = .ok (.iconst 1, 1) := by decide +kernel
theorem dX10_seal_24 : decode cX10_seal 24 = .ok (.goto 4, 3) := by decide +kernel
theorem dX10_seal_27 : decode cX10_seal 27 = .ok (.iconst 0, 1) := by decide +kernel
theorem dX10_seal_28 : decode cX10_seal 28 = .ok (.istore 4, 2) := by decide +kernel
theorem dX10_seal_30 : decode cX10_seal 30 = .ok (.aload_n 3, 1) := by decide +kernel
theorem dX10_seal_31 : decode cX10_seal 31 = .ok (.iload_n 2, 1) := by decide +kernel
theorem dX10_seal_32 : decode cX10_seal 32 = .ok (.putfield 138, 3) := by decide +kernel
theorem dX10_seal_35 : decode cX10_seal 35 = .ok (.iload 4, 2) := by decide +kernel
theorem dX10_seal_37 : decode cX10_seal 37 = .ok (.ireturn, 1) := by decide +kernel
theorem dX10_seed_0 : decode cX10_seed 0 = .ok (.aload_n 0, 1) := by decide +kernel
theorem dX10_seed_1 : decode cX10_seed 1 = .ok (.getfield 42, 3) := by decide +kernel
theorem dX10_seed_4 : decode cX10_seed 4 = .ok (.getfield 242, 3) := by decide +kernel
theorem dX10_seed_7 : decode cX10_seed 7 = .ok (.istore_n 2, 1) := by decide +kernel
theorem dX10_seed_8 : decode cX10_seed 8 = .ok (.aload_n 0, 1) := by decide +kernel
theorem dX10_seed_9 : decode cX10_seed 9 = .ok (.getfield 42, 3) := by decide +kernel
theorem dX10_seed_12 : decode cX10_seed 12 = .ok (.iload_n 1, 1) := by decide +kernel
theorem dX10_seed_13 : decode cX10_seed 13 = .ok (.putfield 242, 3) := by decide +kernel
theorem dX10_seed_16 : decode cX10_seed 16 = .ok (.iload_n 2, 1) := by decide +kernel
theorem dX10_seed_17 : decode cX10_seed 17 = .ok (.ireturn, 1) := by decide +kernel
theorem dX10_blend_0 : decode cX10_blend 0 = .ok (.aload_n 0, 1) := by decide +kernel
theorem dX10_blend_1 : decode cX10_blend 1 = .ok (.iload_n 1, 1) := by decide +kernel
theorem dX10_blend_2 : decode cX10_blend 2 = .ok (.invokevirtual 123, 3) := by decide +kernel
theorem dX10_blend_5 : decode cX10_blend 5 = .ok (.aload_n 0, 1) := by decide +kernel
theorem dX10_blend_6 : decode cX10_blend 6 = .ok (.iload_n 2, 1) := by decide +kernel
theorem dX10_blend_7 : decode cX10_blend 7 = .ok (.invokevirtual 123, 3) := by decide +kernel
theorem dX10_blend_10 : decode cX10_blend 10 = .ok (.iload_n 1, 1) := by decide +kernel
theorem dX10_blend_11 : decode cX10_blend 11 = .ok (.iload_n 2, 1) := by decide +kernel
theorem dX10_blend_12 : decode cX10_blend 12 = .ok (.if_icmp .eq 13, 3) := by decide +kernel
theorem dX10_blend_15 : decode cX10_blend 15 = .ok (.iload_n 3, 1) := by decide +kernel
theorem dX10_blend_16 : decode cX10_blend 16 = .ok (.ifCond .lt 9, 3) := by decide +kernel
theorem dX10_blend_19 : decode cX10_blend 19 = .ok (.iload_n 3, 1) := by decide +kernel
theorem dX10_blend_20 : decode cX10_blend 20 = .ok (.bipush 99, 2) := by decide +kernel
theorem dX10_blend_22 : decode cX10_blend 22 = .ok (.if_icmp .le 13, 3) := by decide +kernel
theorem dX10_blend_25 : decode cX10_blend 25 = .ok (.new 88, 3) := by decide +kernel
theorem dX10_blend_28 : decode cX10_blend 28 = .ok (.dup, 1) := by decide +kernel
theorem dX10_blend_29 : decode cX10_blend 29 = .ok (.ldc 245, 2) := by decide +kernel
theorem dX10_blend_31 : decode cX10_blend 31 = .ok (.invokespecial 92, 3) := by decide +kernel
theorem dX10_blend_34 : decode cX10_blend 34 = .ok (.athrow, 1) := by decide +kernel
theorem dX10_blend_35 : decode cX10_blend 35 = .ok (.aload_n 0, 1) := by decide +kernel
theorem dX10_blend_36 : decode cX10_blend 36 = .ok (.getfield 42, 3) := by decide +kernel
theorem dX10_blend_39 : decode cX10_blend 39 = .ok (.aload_n 0, 1) := by decide +kernel
theorem dX10_blend_40 : decode cX10_blend 40 = .ok (.getfield 42, 3) := by decide +kernel
theorem dX10_blend_43 : decode cX10_blend 43 = .ok (.getfield 126, 3) := by decide +kernel
theorem dX10_blend_46 : decode cX10_blend 46 = .ok (.iload_n 1, 1) := by decide +kernel
theorem dX10_blend_47 : decode cX10_blend 47 = .ok (.aaload, 1) := by decide +kernel
theorem dX10_blend_48 : decode cX10_blend 48 = .ok (.aload_n 0, 1) := by decide +kernel
theorem dX10_blend_49 : decode cX10_blend 49 = .ok (.getfield 42, 3) := by decide +kernel
theorem dX10_blend_52 : decode cX10_blend 52 = .ok (.getfield 126, 3) := by decide +kernel
theorem dX10_blend_55 : decode cX10_blend 55 = .ok (.iload_n 2, 1) := by decide +kernel
theorem dX10_blend_56 : decode cX10_blend 56 = .ok (.aaload, 1) := by decide +kernel
theorem dX10_blend_57 : decode cX10_blend 57 = .ok (.iload_n 3, 1) := by decide +kernel
theorem dX10_blend_58 : decode cX10_blend 58 = .ok (.invokevirtual 247, 3) := by decide +kernel
theorem dX10_blend_61 : decode cX10_blend 61 = .ok (.ireturn, 1) := by decide +kernel
theorem dX10_lasts_0 : decode cX10_lasts 0 = .ok (.aload_n 0, 1) := by decide +kernel
theorem dX10_lasts_1 : decode cX10_lasts 1 = .ok (.getfield 46, 3) := by decide +kernel
theorem dX10_lasts_4 : decode cX10_lasts 4 = .ok (.aload_n 0, 1) := by decide +kernel
theorem dX10_lasts_5 : decode cX10_lasts 5 = .ok (.getfield 42, 3) := by decide +kernel
theorem dX10_lasts_8 : decode cX10_lasts 8 = .ok (.invokevirtual 219, 3) := by decide +kernel
theorem dX10_lasts_11 : decode cX10_lasts 11 = .ok (.aload_n 0, 1) := by decide +kernel
theorem dX10_lasts_12 : decode cX10_lasts 12 = .ok (.getfield 46, 3) := by decide +kernel
theorem dX10_lasts_15 : decode cX10_lasts 15 = .ok (.bipush 60, 2) := by decide +kernel
theorem dX10_lasts_17 : decode cX10_lasts 17 = .ok (.invokevirtual 251, 3) := by decide +kernel
theorem dX10_lasts_20 : decode cX10_lasts 20 = .ok (.ireturn, 1) := by decide +kernel
theorem dX10_worst_0 : decode cX10_worst 0 = .ok (.aload_n 0, 1) := by decide +kernel
theorem dX10_worst_1 : decode cX10_worst 1 = .ok (.getfield 46, 3) := by decide +kernel
theorem dX10_worst_4 : decode cX10_worst 4 = .ok (.aload_n 0, 1) := by decide +kernel
theorem dX10_worst_5 : decode cX10_worst 5 = .ok (.getfield 42, 3) := by decide +kernel
theorem dX10_worst_8 : decode cX10_worst 8 = .ok (.invokevirtual 219, 3) := by decide +kernel
theorem dX10_worst_11 : decode cX10_worst 11 = .ok (.aload_n 0, 1) := by decide +kernel
theorem dX10_worst_12 : decode cX10_worst 12 = .ok (.getfield 46, 3) := by decide +kernel
theorem dX10_worst_15 : decode cX10_worst 15 = .ok (.bipush 60, 2) := by decide +kernel
theorem dX10_worst_17 : decode cX10_worst 17 = .ok (.invokevirtual 251, 3) := by decide +kernel
theorem dX10_worst_20 : decode cX10_worst 20 = .ok (.bipush 60, 2) := by decide +kernel
theorem dX10_worst_22 : decode cX10_worst 22 = .ok (.if_icmp .ne 5, 3) := by decide +kernel
theorem dX10_worst_25 : decode cX10_worst 25 = .ok (.iconst (-1), 1) := by decide +kernel
theorem dX10_worst_26 : decode cX10_worst 26 = .ok (.ireturn, 1) := by decide +kernel
theorem dX10_worst_27 : decode cX10_worst 27 = .ok (.aload_n 0, 1) := by decide +kernel
theorem dX10_worst_28 : decode cX10_worst 28 = .ok (.getfield 46, 3) := by decide +kernel
theorem dX10_worst_31 : decode cX10_worst 31 = .ok (.invokevirtual 254, 3) := by decide +kernel
theorem dX10_worst_34 : decode cX10_worst 34 = .ok (.ireturn, 1) := by decide +kernel
theorem dX10_judge_0 : decode cX10_judge 0 = .ok (.aload_n 0, 1) := by decide +kernel
theorem dX10_judge_1 : decode cX10_judge 1 = .ok (.invokevirtual 257, 3) := by decide +kernel
theorem dX10_judge_4 : decode cX10_judge 4 = .ok (.istore_n 1, 1) := by decide +kernel
theorem dX10_judge_5 : decode cX10_judge 5 = .ok (.iload_n 1, 1) := by decide +kernel
theorem dX10_judge_6 : decode cX10_judge 6 = .ok (.ifCond .eq 10, 3) := by decide +kernel
theorem dX10_judge_9 : decode cX10_judge 9 = .ok (.aload_n 0, 1) := by decide +kernel
theorem dX10_judge_10 : decode cX10_judge 10 = .ok (.invokevirtual 260, 3) := by decide +kernel
theorem dX10_judge_13 : decode cX10_judge 13 = .ok (.goto 4, 3) := by decide +kernel
theorem dX10_judge_16 : decode cX10_judge 16 = .ok (.iconst (-1), 1) := by decide +kernel
theorem dX10_judge_17 : decode cX10_judge 17 = .ok (.istore_n 2, 1) := by decide +kernel
theorem dX10_judge_18 : decode cX10_judge 18 = .ok (.aload_n 0, 1) := by decide +kernel
theorem dX10_judge_19 : decode cX10_judge 19 = .ok (.getfield 12, 3) := by decide +kernel
theorem dX10_judge_22 : decode cX10_judge 22 = .ok (.iconst 0, 1) := by decide +kernel
theorem dX10_judge_23 : decode cX10_judge 23 = .ok (.putfield 66, 3) := by decide +kernel
theorem dX10_judge_26 : decode cX10_judge 26 = .ok (.iload_n 1, 1) := by decide +kernel
theorem dX10_judge_27 : decode cX10_judge 27 = .ok (.ifCond .ne 14, 3) := by decide +kernel
theorem dX10_judge_30 : decode cX10_judge 30 = .ok (.new 88, 3) := by decide +kernel
theorem dX10_judge_33 : decode cX10_judge 33 = .ok (.dup, 1) := by decide +kernel
theorem dX10_judge_34 : decode cX10_judge 34 = .ok (.ldc_w 263, 3) := by decide +kernel
theorem dX10_judge_37 : decode cX10_judge 37 = .ok (.invokespecial 92, 3) := by decide +kernel
theorem dX10_judge_40 : decode cX10_judge 40 = .ok (.athrow, 1) := by decide +kernel
theorem dX10_judge_41 : decode cX10_judge 41 = .ok (.iload_n 2, 1) := by decide +kernel
theorem dX10_judge_42 : decode cX10_judge 42 = .ok (.ireturn, 1) := by decide +kernel
theorem dX10_swap_0 : decode cX10_swap 0 = .ok (.aload_n 0, 1) := by decide +kernel
theorem dX10_swap_1 : decode cX10_swap 1 = .ok (.iload_n 1, 1) := by decide +kernel
theorem dX10_swap_2 : decode cX10_swap 2 = .ok (.invokevirtual 123, 3) := by decide +kernel
theorem dX10_swap_5 : decode cX10_swap 5 = .ok (.aload_n 0, 1) := by decide +kernel
theorem dX10_swap_6 : decode cX10_swap 6 = .ok (.iload_n 2, 1) := by decide +kernel
theorem dX10_swap_7 : decode cX10_swap 7 = .ok (.invokevirtual 160, 3) := by decide +kernel
theorem dX10_swap_10 : decode cX10_swap 10 = .ok (.aload_n 0, 1) := by decide +kernel
theorem dX10_swap_11 : decode cX10_swap 11 = .ok (.iload_n 3, 1) := by decide +kernel
theorem dX10_swap_12 : decode cX10_swap 12 = .ok (.invokevirtual 123, 3) := by decide +kernel
theorem dX10_swap_15 : decode cX10_swap 15 = .ok (.aload_n 0, 1) := by decide +kernel
theorem dX10_swap_16 : decode cX10_swap 16 = .ok (.iload 4, 2) := by decide +kernel
theorem dX10_swap_18 : decode cX10_swap 18 = .ok (.invokevirtual 160, 3) := by decide +kernel
theorem dX10_swap_21 : decode cX10_swap 21 = .ok (.iload_n 1, 1) := by decide +kernel
theorem dX10_swap_22 : decode cX10_swap 22 = .ok (.iload_n 3, 1) := by decide +kernel
theorem dX10_swap_23 : decode cX10_swap 23 = .ok (.if_icmp .eq 14, 3) := by decide +kernel
theorem dX10_swap_26 : decode cX10_swap 26 = .ok (.iload_n 2, 1) := by decide +kernel
theorem dX10_swap_27 : decode cX10_swap 27 = .ok (.iload 4, 2) := by decide +kernel
theorem dX10_swap_29 : decode cX10_swap 29 = .ok (.if_icmp .eq 8, 3) := by decide +kernel
theorem dX10_swap_32 : decode cX10_swap 32 = .ok (.iload 5, 2) := by decide +kernel
theorem dX10_swap_34 : decode cX10_swap 34 = .ok (.ifCond .ge 14, 3) := by decide +kernel
theorem dX10_swap_37 : decode cX10_swap 37 = .ok (.new 88, 3) := by decide +kernel
theorem dX10_swap_40 : decode cX10_swap 40 = .ok (.dup, 1) := by decide +kernel
theorem dX10_swap_41 : decode cX10_swap 41 = .ok (.ldc_w 265, 3) := by decide +kernel
theorem dX10_swap_44 : decode cX10_swap 44 = .ok (.invokespecial 92, 3) := by decide +kernel
theorem dX10_swap_47 : decode cX10_swap 47 = .ok (.athrow, 1) := by decide +kernel
theorem dX10_swap_48 : decode cX10_swap 48 = .ok (.aload_n 0, 1) := by decide +kernel
theorem dX10_swap_49 : decode cX10_swap 49 = .ok (.getfield 42, 3) := by decide +kernel
theorem dX10_swap_52 : decode cX10_swap 52 = .ok (.getfield 126, 3) := by decide +kernel
theorem dX10_swap_55 : decode cX10_swap 55 = .ok (.iload_n 1, 1) := by decide +kernel
theorem dX10_swap_56 : decode cX10_swap 56 = .ok (.aaload, 1) := by decide +kernel
theorem dX10_swap_57 : decode cX10_swap 57 = .ok (.astore 6, 2) := by decide +kernel
theorem dX10_swap_59 : decode cX10_swap 59 = .ok (.aload_n 0, 1) := by decide +kernel
theorem dX10_swap_60 : decode cX10_swap 60 = .ok (.getfield 42, 3) := by decide +kernel
theorem dX10_swap_63 : decode cX10_swap 63 = .ok (.getfield 126, 3) := by decide +kernel
theorem dX10_swap_66 : decode cX10_swap 66 = .ok (.iload_n 3, 1) := by decide +kernel
theorem dX10_swap_67 : decode cX10_swap 67 = .ok (.aaload, 1) := by decide +kernel
theorem dX10_swap_68 : decode cX10_swap 68 = .ok (.astore 7, 2) := by decide +kernel
theorem dX10_swap_70 : decode cX10_swap 70 = .ok (.iload 5, 2) := by decide +kernel
theorem dX10_swap_72 : decode cX10_swap 72 = .ok (.aload 6, 2) := by decide +kernel
theorem dX10_swap_74 : decode cX10_swap 74 = .ok (.getfield 163, 3) := by decide +kernel
theorem dX10_swap_77 : decode cX10_swap 77 = .ok (.iload_n 2, 1) := by decide +kernel
theorem dX10_swap_78 : decode cX10_swap 78 = .ok (.iaload, 1) := by decide +kernel
theorem dX10_swap_79 : decode cX10_swap 79 = .ok (.aload 7, 2) := by decide +kernel
theorem dX10_swap_81 : decode cX10_swap 81 = .ok (.getfield 163, 3) := by decide +kernel
theorem dX10_swap_84 : decode cX10_swap 84 = .ok (.iload 4, 2) := by decide +kernel
theorem dX10_swap_86 : decode cX10_swap 86 = .ok (.iaload, 1) := by decide +kernel
theorem dX10_swap_87 : decode cX10_swap 87 = .ok (.invokestatic 267, 3) := by decide +kernel
theorem dX10_swap_90 : decode cX10_swap 90 = .ok (.invokestatic 267, 3) := by decide +kernel
theorem dX10_swap_93 : decode cX10_swap 93 = .ok (.istore 8, 2) := by decide +kernel
theorem dX10_swap_95 : decode cX10_swap 95 = .ok (.aload 6, 2) := by decide +kernel
theorem dX10_swap_97 : decode cX10_swap 97 = .ok (.iload_n 2, 1) := by decide +kernel
theorem dX10_swap_98 : decode cX10_swap 98 = .ok (.iload 8, 2) := by decide +kernel
theorem dX10_swap_100 : decode cX10_swap 100 = .ok (.invokevirtual 273, 3) := by decide +kernel
theorem dX10_swap_103 : decode cX10_swap 103 = .ok (.aload 7, 2) := by decide +kernel
theorem dX10_swap_105 : decode cX10_swap 105 = .ok (.iload 4, 2) := by decide +kernel
theorem dX10_swap_107 : decode cX10_swap 107 = .ok (.iload 8, 2) := by decide +kernel
theorem dX10_swap_109 : decode cX10_swap 109 = .ok (.invokevirtual 273, 3) := by decide +kernel
theorem dX10_swap_112 : decode cX10_swap 112 = .ok (.aload 6, 2) := by decide +kernel
theorem dX10_swap_114 : decode cX10_swap 114 = .ok (.iload 4, 2) := by decide +kernel
theorem dX10_swap_116 : decode cX10_swap 116 = .ok (.iload 8, 2) := by decide +kernel
theorem dX10_swap_118 : decode cX10_swap 118 = .ok (.invokevirtual 276, 3) := by decide +kernel
theorem dX10_swap_121 : decode cX10_swap 121 = .ok (.aload 7, 2) := by decide +kernel
theorem dX10_swap_123 : decode cX10_swap 123 = .ok (.iload_n 2, 1) := by decide +kernel
theorem dX10_swap_124 : decode cX10_swap 124 = .ok (.iload 8, 2) := by decide +kernel
theorem dX10_swap_126 : decode cX10_swap 126 = .ok (.invokevirtual 276, 3) := by decide +kernel
theorem dX10_swap_129 : decode cX10_swap 129 = .ok (.iload 8, 2) := by decide +kernel
theorem dX10_swap_131 : decode cX10_swap 131 = .ok (.ireturn, 1) := by decide +kernel
theorem dX10_foul_0 : decode cX10_foul 0 = .ok (.iload_n 1, 1) := by decide +kernel
theorem dX10_foul_1 : decode cX10_foul 1 = .ok (.aload_n 0, 1) := by decide +kernel
theorem dX10_foul_2 : decode cX10_foul 2 = .ok (.getfield 42, 3) := by decide +kernel
theorem dX10_foul_5 : decode cX10_foul 5 = .ok (.invokevirtual 279, 3) := by decide +kernel
theorem dX10_foul_8 : decode cX10_foul 8 = .ok (.iand, 1) := by decide +kernel
theorem dX10_foul_9 : decode cX10_foul 9 = .ok (.istore_n 2, 1) := by decide +kernel
theorem dX10_foul_10 : decode cX10_foul 10 = .ok (.iconst 0, 1) := by decide +kernel
theorem dX10_foul_11 : decode cX10_foul 11 = .ok (.istore_n 3, 1) := by decide +kernel
theorem dX10_foul_12 : decode cX10_foul 12 = .ok (.iconst 0, 1) := by decide +kernel
theorem dX10_foul_13 : decode cX10_foul 13 = .ok (.istore 4, 2) := by decide +kernel
theorem dX10_foul_15 : decode cX10_foul 15 = .ok (.iload 4, 2) := by decide +kernel
theorem dX10_foul_17 : decode cX10_foul 17 = .ok (.bipush 30, 2) := by decide +kernel
theorem dX10_foul_19 : decode cX10_foul 19 = .ok (.if_icmp .ge 38, 3) := by decide +kernel
theorem dX10_foul_22 : decode cX10_foul 22 = .ok (.aload_n 0, 1) := by decide +kernel
theorem dX10_foul_23 : decode cX10_foul 23 = .ok (.getfield 42, 3) := by decide +kernel
theorem dX10_foul_26 : decode cX10_foul 26 = .ok (.iload 4, 2) := by decide +kernel
theorem dX10_foul_28 : decode cX10_foul 28 = .ok (.invokevirtual 282, 3) := by decide +kernel
theorem dX10_foul_31 : decode cX10_foul 31 = .ok (.istore 5, 2) := by decide +kernel
theorem dX10_foul_33 : decode cX10_foul 33 = .ok (.iload 5, 2) := by decide +kernel
theorem dX10_foul_35 : decode cX10_foul 35 = .ok (.ifCond .eq 16, 3) := by decide +kernel
theorem dX10_foul_38 : decode cX10_foul 38 = .ok (.iload 5, 2) := by decide +kernel
theorem dX10_foul_40 : decode cX10_foul 40 = .ok (.iload_n 2, 1) := by decide +kernel
theorem dX10_foul_41 : decode cX10_foul 41 = .ok (.if_icmp .ne 10, 3) := by decide +kernel
theorem dX10_foul_44 : decode cX10_foul 44 = .ok (.iload_n 3, 1) := by decide +kernel
theorem dX10_foul_45 : decode cX10_foul 45 = .ok (.iconst 1, 1) := by decide +kernel
theorem dX10_foul_46 : decode cX10_foul 46 = .ok (.iload 4, 2) := by decide +kernel
theorem dX10_foul_48 : decode cX10_foul 48 = .ok (.ishl, 1) := by decide +kernel
theorem dX10_foul_49 : decode cX10_foul 49 = .ok (.ior, 1) := by decide +kernel
theorem dX10_foul_50 : decode cX10_foul 50 = .ok (.istore_n 3, 1) := by decide +kernel
theorem dX10_foul_51 : decode cX10_foul 51 = .ok (.iinc 4 1, 3) := by decide +kernel
theorem dX10_foul_54 : decode cX10_foul 54 = .ok (.goto (-39), 3) := by decide +kernel
theorem dX10_foul_57 : decode cX10_foul 57 = .ok (.iload_n 3, 1) := by decide +kernel
theorem dX10_foul_58 : decode cX10_foul 58 = .ok (.ireturn, 1) := by decide +kernel
theorem dX10_fewest_0 : decode cX10_fewest 0 = .ok (.iload_n 1, 1) := by decide +kernel
theorem dX10_fewest_1 : decode cX10_fewest 1 = .ok (.aload_n 0, 1) := by decide +kernel
theorem dX10_fewest_2 : decode cX10_fewest 2 = .ok (.getfield 42, 3) := by decide +kernel
theorem dX10_fewest_5 : decode cX10_fewest 5 = .ok (.invokevirtual 279, 3) := by decide +kernel
theorem dX10_fewest_8 : decode cX10_fewest 8 = .ok (.iand, 1) := by decide +kernel
theorem dX10_fewest_9 : decode cX10_fewest 9 = .ok (.istore_n 2, 1) := by decide +kernel
theorem dX10_fewest_10 : decode cX10_fewest 10 = .ok (.iload_n 2, 1) := by decide +kernel
theorem dX10_fewest_11 : decode cX10_fewest 11 = .ok (.ifCond .ne 5, 3) := by decide +kernel
theorem dX10_fewest_14 : decode cX10_fewest 14 = .ok (.iconst 0, 1) := by decide +kernel
theorem dX10_fewest_15 : decode cX10_fewest 15 = .ok (.ireturn, 1) := by decide +kernel
theorem dX10_fewest_16 : decode cX10_fewest 16 = .ok (.iconst 0, 1) := by decide +kernel
theorem dX10_fewest_17 : decode cX10_fewest 17 = .ok (.istore_n 3, 1) := by decide +kernel
theorem dX10_fewest_18 : decode cX10_fewest 18 = .ok (.iload_n 3, 1) := by decide +kernel
theorem dX10_fewest_19 : decode cX10_fewest 19 = .ok (.bipush 30, 2) := by decide +kernel
theorem dX10_fewest_21 : decode cX10_fewest 21 = .ok (.if_icmp .ge 40, 3) := by decide +kernel
theorem dX10_fewest_24 : decode cX10_fewest 24 = .ok (.aload_n 0, 1) := by decide +kernel
theorem dX10_fewest_25 : decode cX10_fewest 25 = .ok (.getfield 42, 3) := by decide +kernel
theorem dX10_fewest_28 : decode cX10_fewest 28 = .ok (.iload_n 3, 1) := by decide +kernel
theorem dX10_fewest_29 : decode cX10_fewest 29 = .ok (.invokevirtual 282, 3) := by decide +kernel
theorem dX10_fewest_32 : decode cX10_fewest 32 = .ok (.istore 4, 2) := by decide +kernel
theorem dX10_fewest_34 : decode cX10_fewest 34 = .ok (.aload_n 0, 1) := by decide +kernel
theorem dX10_fewest_35 : decode cX10_fewest 35 = .ok (.getfield 59, 3) := by decide +kernel
theorem dX10_fewest_38 : decode cX10_fewest 38 = .ok (.iload_n 3, 1) := by decide +kernel
theorem dX10_fewest_39 : decode cX10_fewest 39 = .ok (.iload 4, 2) := by decide +kernel
theorem dX10_fewest_41 : decode cX10_fewest 41 = .ok (.iload_n 2, 1) := by decide +kernel
theorem dX10_fewest_42 : decode cX10_fewest 42 = .ok (.iconst (-1), 1) := by decide +kernel
theorem dX10_fewest_43 : decode cX10_fewest 43 = .ok (.ixor, 1) := by decide +kernel
theorem dX10_fewest_44 : decode cX10_fewest 44 = .ok (.iand, 1) := by decide +kernel
theorem dX10_fewest_45 : decode cX10_fewest 45 = .ok (.ifCond .ne 8, 3) := by decide +kernel
theorem dX10_fewest_48 : decode cX10_fewest 48 = .ok (.iload 4, 2) := by decide +kernel
theorem dX10_fewest_50 : decode cX10_fewest 50 = .ok (.goto 4, 3) := by decide +kernel
theorem dX10_fewest_53 : decode cX10_fewest 53 = .ok (.iconst 0, 1) := by decide +kernel
theorem dX10_fewest_54 : decode cX10_fewest 54 = .ok (.iastore, 1) := by decide +kernel
theorem dX10_fewest_55 : decode cX10_fewest 55 = .ok (.iinc 3 1, 3) := by decide +kernel
theorem dX10_fewest_58 : decode cX10_fewest 58 = .ok (.goto (-40), 3) := by decide +kernel
theorem dX10_fewest_61 : decode cX10_fewest 61 = .ok (.iconst 1, 1) := by decide +kernel
theorem dX10_fewest_62 : decode cX10_fewest 62 = .ok (.istore_n 3, 1) := by decide +kernel
theorem dX10_fewest_63 : decode cX10_fewest 63 = .ok (.iload_n 3, 1) := by decide +kernel
theorem dX10_fewest_64 : decode cX10_fewest 64 = .ok (.iconst 3, 1) := by decide +kernel
theorem dX10_fewest_65 : decode cX10_fewest 65 = .ok (.if_icmp .gt 31, 3) := by decide +kernel
theorem dX10_fewest_68 : decode cX10_fewest 68 = .ok (.aload_n 0, 1) := by decide +kernel
theorem dX10_fewest_69 : decode cX10_fewest 69 = .ok (.getfield 59, 3) := by decide +kernel
theorem dX10_fewest_72 : decode cX10_fewest 72 = .ok (.iload_n 2, 1) := by decide +kernel
theorem dX10_fewest_73 : decode cX10_fewest 73 = .ok (.iload_n 3, 1) := by decide +kernel
theorem dX10_fewest_74 : decode cX10_fewest 74 = .ok (.bipush 30, 2) := by decide +kernel
theorem dX10_fewest_76 : decode cX10_fewest 76 = .ok (.invokestatic 285, 3) := by decide +kernel
theorem dX10_fewest_79 : decode cX10_fewest 79 = .ok (.istore 4, 2) := by decide +kernel
theorem dX10_fewest_81 : decode cX10_fewest 81 = .ok (.iload 4, 2) := by decide +kernel
theorem dX10_fewest_83 : decode cX10_fewest 83 = .ok (.iconst (-1), 1) := by decide +kernel
theorem dX10_fewest_84 : decode cX10_fewest 84 = .ok (.if_icmp .eq 6, 3) := by decide +kernel
theorem dX10_fewest_87 : decode cX10_fewest 87 = .ok (.iload 4, 2) := by decide +kernel
theorem dX10_fewest_89 : decode cX10_fewest 89 = .ok (.ireturn, 1) := by decide +kernel
theorem dX10_fewest_90 : decode cX10_fewest 90 = .ok (.iinc 3 1, 3) := by decide +kernel
theorem dX10_fewest_93 : decode cX10_fewest 93 = .ok (.goto (-30), 3) := by decide +kernel
theorem dX10_fewest_96 : decode cX10_fewest 96 = .ok (.iconst (-1), 1) := by decide +kernel
theorem dX10_fewest_97 : decode cX10_fewest 97 = .ok (.ireturn, 1) := by decide +kernel
theorem dX10_look_0 : decode cX10_look 0 = .ok (.aload_n 0, 1) := by decide +kernel
theorem dX10_look_1 : decode cX10_look 1 = .ok (.getfield 12, 3) := by decide +kernel
theorem dX10_look_4 : decode cX10_look 4 = .ok (.getfield 66, 3) := by decide +kernel
theorem dX10_look_7 : decode cX10_look 7 = .ok (.aload_n 0, 1) := by decide +kernel
theorem dX10_look_8 : decode cX10_look 8 = .ok (.getfield 42, 3) := by decide +kernel
theorem dX10_look_11 : decode cX10_look 11 = .ok (.getfield 73, 3) := by decide +kernel
theorem dX10_look_14 : decode cX10_look 14 = .ok (.if_icmp .ne 7, 3) := by decide +kernel
theorem dX10_look_17 : decode cX10_look 17 = .ok (.iconst 1, 1) := by decide +kernel
theorem dX10_look_18 : decode cX10_look 18 = .ok (.goto 4, 3) := by decide +kernel
theorem dX10_look_21 : decode cX10_look 21 = .ok (.iconst 0, 1) := by decide +kernel
theorem dX10_look_22 : decode cX10_look 22 = .ok (.istore_n 1, 1) := by decide +kernel
theorem dX10_look_23 : decode cX10_look 23 = .ok (.iload_n 1, 1) := by decide +kernel
theorem dX10_look_24 : decode cX10_look 24 = .ok (.ifCond .eq 10, 3) := by decide +kernel
theorem dX10_look_27 : decode cX10_look 27 = .ok (.aload_n 0, 1) := by decide +kernel
theorem dX10_look_28 : decode cX10_look 28 = .ok (.invokevirtual 289, 3) := by decide +kernel
theorem dX10_look_31 : decode cX10_look 31 = .ok (.goto 4, 3) := by decide +kernel
theorem dX10_look_34 : decode cX10_look 34 = .ok (.iconst (-1), 1) := by decide +kernel
theorem dX10_look_35 : decode cX10_look 35 = .ok (.istore_n 2, 1) := by decide +kernel
theorem dX10_look_36 : decode cX10_look 36 = .ok (.aload_n 0, 1) := by decide +kernel
theorem dX10_look_37 : decode cX10_look 37 = .ok (.getfield 12, 3) := by decide +kernel
theorem dX10_look_40 : decode cX10_look 40 = .ok (.iconst 0, 1) := by decide +kernel
theorem dX10_look_41 : decode cX10_look 41 = .ok (.putfield 66, 3) := by decide +kernel
theorem dX10_look_44 : decode cX10_look 44 = .ok (.iload_n 1, 1) := by decide +kernel
theorem dX10_look_45 : decode cX10_look 45 = .ok (.ifCond .ne 14, 3) := by decide +kernel
theorem dX10_look_48 : decode cX10_look 48 = .ok (.new 88, 3) := by decide +kernel
theorem dX10_look_51 : decode cX10_look 51 = .ok (.dup, 1) := by decide +kernel
theorem dX10_look_52 : decode cX10_look 52 = .ok (.ldc_w 292, 3) := by decide +kernel
theorem dX10_look_55 : decode cX10_look 55 = .ok (.invokespecial 92, 3) := by decide +kernel
theorem dX10_look_58 : decode cX10_look 58 = .ok (.athrow, 1) := by decide +kernel
theorem dX10_look_59 : decode cX10_look 59 = .ok (.iload_n 2, 1) := by decide +kernel
theorem dX10_look_60 : decode cX10_look 60 = .ok (.ireturn, 1) := by decide +kernel
theorem dX10_site_0 : decode cX10_site 0 = .ok (.iload_n 1, 1) := by decide +kernel
theorem dX10_site_1 : decode cX10_site 1 = .ok (.iconst 1, 1) := by decide +kernel
theorem dX10_site_2 : decode cX10_site 2 = .ok (.if_icmp .lt 10, 3) := by decide +kernel
theorem dX10_site_5 : decode cX10_site 5 = .ok (.iload_n 1, 1) := by decide +kernel
theorem dX10_site_6 : decode cX10_site 6 = .ok (.sipush 999, 3) := by decide +kernel
theorem dX10_site_9 : decode cX10_site 9 = .ok (.if_icmp .le 14, 3) := by decide +kernel
theorem dX10_site_12 : decode cX10_site 12 = .ok (.new 88, 3) := by decide +kernel
theorem dX10_site_15 : decode cX10_site 15 = .ok (.dup, 1) := by decide +kernel
theorem dX10_site_16 : decode cX10_site 16 = .ok (.ldc_w 294, 3) := by decide +kernel
theorem dX10_site_19 : decode cX10_site 19 = .ok (.invokespecial 92, 3) := by decide +kernel
theorem dX10_site_22 : decode cX10_site 22 = .ok (.athrow, 1) := by decide +kernel
theorem dX10_site_23 : decode cX10_site 23 = .ok (.aload_n 0, 1) := by decide +kernel
theorem dX10_site_24 : decode cX10_site 24 = .ok (.getfield 42, 3) := by decide +kernel
theorem dX10_site_27 : decode cX10_site 27 = .ok (.getfield 73, 3) := by decide +kernel
theorem dX10_site_30 : decode cX10_site 30 = .ok (.bipush 8, 2) := by decide +kernel
theorem dX10_site_32 : decode cX10_site 32 = .ok (.if_icmp .lt 5, 3) := by decide +kernel
theorem dX10_site_35 : decode cX10_site 35 = .ok (.iconst (-1), 1) := by decide +kernel
theorem dX10_site_36 : decode cX10_site 36 = .ok (.ireturn, 1) := by decide +kernel
theorem dX10_site_37 : decode cX10_site 37 = .ok (.iconst (-1), 1) := by decide +kernel
theorem dX10_site_38 : decode cX10_site 38 = .ok (.istore_n 2, 1) := by decide +kernel
theorem dX10_site_39 : decode cX10_site 39 = .ok (.iconst 0, 1) := by decide +kernel
theorem dX10_site_40 : decode cX10_site 40 = .ok (.istore_n 3, 1) := by decide +kernel
theorem dX10_site_41 : decode cX10_site 41 = .ok (.iconst 0, 1) := by decide +kernel
theorem dX10_site_42 : decode cX10_site 42 = .ok (.istore 4, 2) := by decide +kernel
theorem dX10_site_44 : decode cX10_site 44 = .ok (.iload 4, 2) := by decide +kernel
theorem dX10_site_46 : decode cX10_site 46 = .ok (.aload_n 0, 1) := by decide +kernel
theorem dX10_site_47 : decode cX10_site 47 = .ok (.getfield 42, 3) := by decide +kernel
theorem dX10_site_50 : decode cX10_site 50 = .ok (.getfield 73, 3) := by decide +kernel
theorem dX10_site_53 : decode cX10_site 53 = .ok (.if_icmp .ge 35, 3) := by decide +kernel
theorem dX10_site_56 : decode cX10_site 56 = .ok (.aload_n 0, 1) := by decide +kernel
theorem dX10_site_57 : decode cX10_site 57 = .ok (.iload 4, 2) := by decide +kernel
theorem dX10_site_59 : decode cX10_site 59 = .ok (.iload_n 1, 1) := by decide +kernel
theorem dX10_site_60 : decode cX10_site 60 = .ok (.invokevirtual 296, 3) := by decide +kernel
theorem dX10_site_63 : decode cX10_site 63 = .ok (.istore 5, 2) := by decide +kernel
theorem dX10_site_65 : decode cX10_site 65 = .ok (.iload_n 2, 1) := by decide +kernel
theorem dX10_site_66 : decode cX10_site 66 = .ok (.iconst (-1), 1) := by decide +kernel
theorem dX10_site_67 : decode cX10_site 67 = .ok (.if_icmp .eq 9, 3) := by decide +kernel
theorem dX10_site_70 : decode cX10_site 70 = .ok (.iload 5, 2) := by decide +kernel
theorem dX10_site_72 : decode cX10_site 72 = .ok (.iload_n 3, 1) := by decide +kernel
theorem dX10_site_73 : decode cX10_site 73 = .ok (.if_icmp .ge 9, 3) := by decide +kernel
theorem dX10_site_76 : decode cX10_site 76 = .ok (.iload 4, 2) := by decide +kernel
theorem dX10_site_78 : decode cX10_site 78 = .ok (.istore_n 2, 1) := by decide +kernel
theorem dX10_site_79 : decode cX10_site 79 = .ok (.iload 5, 2) := by decide +kernel
theorem dX10_site_81 : decode cX10_site 81 = .ok (.istore_n 3, 1) := by decide +kernel
theorem dX10_site_82 : decode cX10_site 82 = .ok (.iinc 4 1, 3) := by decide +kernel
theorem dX10_site_85 : decode cX10_site 85 = .ok (.goto (-41), 3) := by decide +kernel
theorem dX10_site_88 : decode cX10_site 88 = .ok (.iload_n 2, 1) := by decide +kernel
theorem dX10_site_89 : decode cX10_site 89 = .ok (.ireturn, 1) := by decide +kernel
theorem dX10_owed_0 : decode cX10_owed 0 = .ok (.aload_n 0, 1) := by decide +kernel
theorem dX10_owed_1 : decode cX10_owed 1 = .ok (.iload_n 1, 1) := by decide +kernel
theorem dX10_owed_2 : decode cX10_owed 2 = .ok (.invokevirtual 160, 3) := by decide +kernel
theorem dX10_owed_5 : decode cX10_owed 5 = .ok (.iload_n 2, 1) := by decide +kernel
theorem dX10_owed_6 : decode cX10_owed 6 = .ok (.ifCond .lt 10, 3) := by decide +kernel
theorem dX10_owed_9 : decode cX10_owed 9 = .ok (.iload_n 2, 1) := by decide +kernel
theorem dX10_owed_10 : decode cX10_owed 10 = .ok (.sipush 999, 3) := by decide +kernel
theorem dX10_owed_13 : decode cX10_owed 13 = .ok (.if_icmp .le 14, 3) := by decide +kernel
theorem dX10_owed_16 : decode cX10_owed 16 = .ok (.new 88, 3) := by decide +kernel
theorem dX10_owed_19 : decode cX10_owed 19 = .ok (.dup, 1) := by decide +kernel
theorem dX10_owed_20 : decode cX10_owed 20 = .ok (.ldc_w 299, 3) := by decide +kernel
theorem dX10_owed_23 : decode cX10_owed 23 = .ok (.invokespecial 92, 3) := by decide +kernel
theorem dX10_owed_26 : decode cX10_owed 26 = .ok (.athrow, 1) := by decide +kernel
theorem dX10_owed_27 : decode cX10_owed 27 = .ok (.iconst (-1), 1) := by decide +kernel
theorem dX10_owed_28 : decode cX10_owed 28 = .ok (.istore_n 3, 1) := by decide +kernel
theorem dX10_owed_29 : decode cX10_owed 29 = .ok (.iconst 0, 1) := by decide +kernel
theorem dX10_owed_30 : decode cX10_owed 30 = .ok (.istore 4, 2) := by decide +kernel
theorem dX10_owed_32 : decode cX10_owed 32 = .ok (.iload 4, 2) := by decide +kernel
theorem dX10_owed_34 : decode cX10_owed 34 = .ok (.iconst 1, 1) := by decide +kernel
theorem dX10_owed_35 : decode cX10_owed 35 = .ok (.aload_n 0, 1) := by decide +kernel
theorem dX10_owed_36 : decode cX10_owed 36 = .ok (.getfield 42, 3) := by decide +kernel
theorem dX10_owed_39 : decode cX10_owed 39 = .ok (.getfield 73, 3) := by decide +kernel
theorem dX10_owed_42 : decode cX10_owed 42 = .ok (.ishl, 1) := by decide +kernel
theorem dX10_owed_43 : decode cX10_owed 43 = .ok (.if_icmp .ge 55, 3) := by decide +kernel
theorem dX10_owed_46 : decode cX10_owed 46 = .ok (.iload_n 3, 1) := by decide +kernel
theorem dX10_owed_47 : decode cX10_owed 47 = .ok (.iconst (-1), 1) := by decide +kernel
theorem dX10_owed_48 : decode cX10_owed 48 = .ok (.if_icmp .eq 15, 3) := by decide +kernel
theorem dX10_owed_51 : decode cX10_owed 51 = .ok (.iload 4, 2) := by decide +kernel
theorem dX10_owed_53 : decode cX10_owed 53 = .ok (.invokestatic 301, 3) := by decide +kernel
theorem dX10_owed_56 : decode cX10_owed 56 = .ok (.iload_n 3, 1) := by decide +kernel
theorem dX10_owed_57 : decode cX10_owed 57 = .ok (.invokestatic 301, 3) := by decide +kernel
theorem dX10_owed_60 : decode cX10_owed 60 = .ok (.if_icmp .ge 7, 3) := by decide +kernel
theorem dX10_owed_63 : decode cX10_owed 63 = .ok (.iconst 1, 1) := by decide +kernel
theorem dX10_owed_64 : decode cX10_owed 64 = .ok (.goto 4, 3) := by decide +kernel
theorem dX10_owed_67 : decode cX10_owed 67 = .ok (.iconst 0, 1) := by decide +kernel
theorem dX10_owed_68 : decode cX10_owed 68 = .ok (.istore 5, 2) := by decide +kernel
theorem dX10_owed_70 : decode cX10_owed 70 = .ok (.iload 5, 2) := by decide +kernel
theorem dX10_owed_72 : decode cX10_owed 72 = .ok (.ifCond .eq 20, 3) := by decide +kernel
theorem dX10_owed_75 : decode cX10_owed 75 = .ok (.aload_n 0, 1) := by decide +kernel
theorem dX10_owed_76 : decode cX10_owed 76 = .ok (.getfield 42, 3) := by decide +kernel
theorem dX10_owed_79 : decode cX10_owed 79 = .ok (.iload_n 1, 1) := by decide +kernel
theorem dX10_owed_80 : decode cX10_owed 80 = .ok (.iload 4, 2) := by decide +kernel
theorem dX10_owed_82 : decode cX10_owed 82 = .ok (.invokevirtual 306, 3) := by decide +kernel
theorem dX10_owed_85 : decode cX10_owed 85 = .ok (.iload_n 2, 1) := by decide +kernel
theorem dX10_owed_86 : decode cX10_owed 86 = .ok (.if_icmp .lt 6, 3) := by decide +kernel
theorem dX10_owed_89 : decode cX10_owed 89 = .ok (.iload 4, 2) := by decide +kernel
theorem dX10_owed_91 : decode cX10_owed 91 = .ok (.istore_n 3, 1) := by decide +kernel
theorem dX10_owed_92 : decode cX10_owed 92 = .ok (.iinc 4 1, 3) := by decide +kernel
theorem dX10_owed_95 : decode cX10_owed 95 = .ok (.goto (-63), 3) := by decide +kernel
theorem dX10_owed_98 : decode cX10_owed 98 = .ok (.iload_n 3, 1) := by decide +kernel
theorem dX10_owed_99 : decode cX10_owed 99 = .ok (.ireturn, 1) := by decide +kernel
theorem dX10_owe_0 : decode cX10_owe 0 = .ok (.aload_n 0, 1) := by decide +kernel
theorem dX10_owe_1 : decode cX10_owe 1 = .ok (.iload_n 1, 1) := by decide +kernel
theorem dX10_owe_2 : decode cX10_owe 2 = .ok (.invokevirtual 169, 3) := by decide +kernel
theorem dX10_owe_5 : decode cX10_owe 5 = .ok (.aload_n 0, 1) := by decide +kernel
theorem dX10_owe_6 : decode cX10_owe 6 = .ok (.iload_n 2, 1) := by decide +kernel
theorem dX10_owe_7 : decode cX10_owe 7 = .ok (.invokevirtual 160, 3) := by decide +kernel
theorem dX10_owe_10 : decode cX10_owe 10 = .ok (.iload_n 3, 1) := by decide +kernel
theorem dX10_owe_11 : decode cX10_owe 11 = .ok (.iconst 1, 1) := by decide +kernel
theorem dX10_owe_12 : decode cX10_owe 12 = .ok (.if_icmp .lt 10, 3) := by decide +kernel
theorem dX10_owe_15 : decode cX10_owe 15 = .ok (.iload_n 3, 1) := by decide +kernel
theorem dX10_owe_16 : decode cX10_owe 16 = .ok (.sipush 999, 3) := by decide +kernel
theorem dX10_owe_19 : decode cX10_owe 19 = .ok (.if_icmp .le 14, 3) := by decide +kernel
theorem dX10_owe_22 : decode cX10_owe 22 = .ok (.new 88, 3) := by decide +kernel
theorem dX10_owe_25 : decode cX10_owe 25 = .ok (.dup, 1) := by decide +kernel
theorem dX10_owe_26 : decode cX10_owe 26 = .ok (.ldc_w 309, 3) := by decide +kernel
theorem dX10_owe_29 : decode cX10_owe 29 = .ok (.invokespecial 92, 3) := by decide +kernel
theorem dX10_owe_32 : decode cX10_owe 32 = .ok (.athrow, 1) := by decide +kernel
theorem dX10_owe_33 : decode cX10_owe 33 = .ok (.aload_n 0, 1) := by decide +kernel
theorem dX10_owe_34 : decode cX10_owe 34 = .ok (.getfield 42, 3) := by decide +kernel
theorem dX10_owe_37 : decode cX10_owe 37 = .ok (.getfield 311, 3) := by decide +kernel
theorem dX10_owe_40 : decode cX10_owe 40 = .ok (.bipush 8, 2) := by decide +kernel
theorem dX10_owe_42 : decode cX10_owe 42 = .ok (.if_icmp .lt 14, 3) := by decide +kernel
theorem dX10_owe_45 : decode cX10_owe 45 = .ok (.new 98, 3) := by decide +kernel
theorem dX10_owe_48 : decode cX10_owe 48 = .ok (.dup, 1) := by decide +kernel
theorem dX10_owe_49 : decode cX10_owe 49 = .ok (.ldc_w 314, 3) := by decide +kernel
theorem dX10_owe_52 : decode cX10_owe 52 = .ok (.invokespecial 102, 3) := by decide +kernel
theorem dX10_owe_55 : decode cX10_owe 55 = .ok (.athrow, 1) := by decide +kernel
theorem dX10_owe_56 : decode cX10_owe 56 = .ok (.aload_n 0, 1) := by decide +kernel
theorem dX10_owe_57 : decode cX10_owe 57 = .ok (.getfield 42, 3) := by decide +kernel
theorem dX10_owe_60 : decode cX10_owe 60 = .ok (.iload_n 1, 1) := by decide +kernel
theorem dX10_owe_61 : decode cX10_owe 61 = .ok (.iload_n 2, 1) := by decide +kernel
theorem dX10_owe_62 : decode cX10_owe 62 = .ok (.iload_n 3, 1) := by decide +kernel
theorem dX10_owe_63 : decode cX10_owe 63 = .ok (.invokevirtual 316, 3) := by decide +kernel
theorem dX10_owe_66 : decode cX10_owe 66 = .ok (.ireturn, 1) := by decide +kernel
theorem dX10_debt_0 : decode cX10_debt 0 = .ok (.aload_n 0, 1) := by decide +kernel
theorem dX10_debt_1 : decode cX10_debt 1 = .ok (.iload_n 1, 1) := by decide +kernel
theorem dX10_debt_2 : decode cX10_debt 2 = .ok (.invokevirtual 320, 3) := by decide +kernel
theorem dX10_debt_5 : decode cX10_debt 5 = .ok (.aload_n 0, 1) := by decide +kernel
theorem dX10_debt_6 : decode cX10_debt 6 = .ok (.getfield 42, 3) := by decide +kernel
theorem dX10_debt_9 : decode cX10_debt 9 = .ok (.getfield 323, 3) := by decide +kernel
theorem dX10_debt_12 : decode cX10_debt 12 = .ok (.iload_n 1, 1) := by decide +kernel
theorem dX10_debt_13 : decode cX10_debt 13 = .ok (.aaload, 1) := by decide +kernel
theorem dX10_debt_14 : decode cX10_debt 14 = .ok (.getfield 327, 3) := by decide +kernel
theorem dX10_debt_17 : decode cX10_debt 17 = .ok (.ireturn, 1) := by decide +kernel
theorem dX10_settle_0 : decode cX10_settle 0 = .ok (.aload_n 0, 1) := by decide +kernel
theorem dX10_settle_1 : decode cX10_settle 1 = .ok (.iload_n 1, 1) := by decide +kernel
theorem dX10_settle_2 : decode cX10_settle 2 = .ok (.invokevirtual 320, 3) := by decide +kernel
theorem dX10_settle_5 : decode cX10_settle 5 = .ok (.aload_n 0, 1) := by decide +kernel
theorem dX10_settle_6 : decode cX10_settle 6 = .ok (.getfield 42, 3) := by decide +kernel
theorem dX10_settle_9 : decode cX10_settle 9 = .ok (.aload_n 0, 1) := by decide +kernel
theorem dX10_settle_10 : decode cX10_settle 10 = .ok (.getfield 42, 3) := by decide +kernel
theorem dX10_settle_13 : decode cX10_settle 13 = .ok (.getfield 323, 3) := by decide +kernel
theorem dX10_settle_16 : decode cX10_settle 16 = .ok (.iload_n 1, 1) := by decide +kernel
theorem dX10_settle_17 : decode cX10_settle 17 = .ok (.aaload, 1) := by decide +kernel
theorem dX10_settle_18 : decode cX10_settle 18 = .ok (.invokevirtual 332, 3) := by decide +kernel
theorem dX10_settle_21 : decode cX10_settle 21 = .ok (.ireturn, 1) := by decide +kernel
theorem dX10_mix_0 : decode cX10_mix 0 = .ok (.aload_n 0, 1) := by decide +kernel
theorem dX10_mix_1 : decode cX10_mix 1 = .ok (.iload_n 1, 1) := by decide +kernel
theorem dX10_mix_2 : decode cX10_mix 2 = .ok (.invokevirtual 123, 3) := by decide +kernel
theorem dX10_mix_5 : decode cX10_mix 5 = .ok (.aload_n 0, 1) := by decide +kernel
theorem dX10_mix_6 : decode cX10_mix 6 = .ok (.iload_n 2, 1) := by decide +kernel
theorem dX10_mix_7 : decode cX10_mix 7 = .ok (.invokevirtual 123, 3) := by decide +kernel
theorem dX10_mix_10 : decode cX10_mix 10 = .ok (.iload_n 1, 1) := by decide +kernel
theorem dX10_mix_11 : decode cX10_mix 11 = .ok (.iload_n 2, 1) := by decide +kernel
theorem dX10_mix_12 : decode cX10_mix 12 = .ok (.if_icmp .eq 7, 3) := by decide +kernel
theorem dX10_mix_15 : decode cX10_mix 15 = .ok (.iload_n 3, 1) := by decide +kernel
theorem dX10_mix_16 : decode cX10_mix 16 = .ok (.ifCond .ge 14, 3) := by decide +kernel
theorem dX10_mix_19 : decode cX10_mix 19 = .ok (.new 88, 3) := by decide +kernel
theorem dX10_mix_22 : decode cX10_mix 22 = .ok (.dup, 1) := by decide +kernel
theorem dX10_mix_23 : decode cX10_mix 23 = .ok (.ldc_w 336, 3) := by decide +kernel
theorem dX10_mix_26 : decode cX10_mix 26 = .ok (.invokespecial 92, 3) := by decide +kernel
theorem dX10_mix_29 : decode cX10_mix 29 = .ok (.athrow, 1) := by decide +kernel
theorem dX10_mix_30 : decode cX10_mix 30 = .ok (.aload_n 0, 1) := by decide +kernel
theorem dX10_mix_31 : decode cX10_mix 31 = .ok (.getfield 42, 3) := by decide +kernel
theorem dX10_mix_34 : decode cX10_mix 34 = .ok (.getfield 126, 3) := by decide +kernel
theorem dX10_mix_37 : decode cX10_mix 37 = .ok (.iload_n 1, 1) := by decide +kernel
theorem dX10_mix_38 : decode cX10_mix 38 = .ok (.aaload, 1) := by decide +kernel
theorem dX10_mix_39 : decode cX10_mix 39 = .ok (.astore 4, 2) := by decide +kernel
theorem dX10_mix_41 : decode cX10_mix 41 = .ok (.aload_n 0, 1) := by decide +kernel
theorem dX10_mix_42 : decode cX10_mix 42 = .ok (.getfield 42, 3) := by decide +kernel
theorem dX10_mix_45 : decode cX10_mix 45 = .ok (.getfield 126, 3) := by decide +kernel
theorem dX10_mix_48 : decode cX10_mix 48 = .ok (.iload_n 2, 1) := by decide +kernel
theorem dX10_mix_49 : decode cX10_mix 49 = .ok (.aaload, 1) := by decide +kernel
theorem dX10_mix_50 : decode cX10_mix 50 = .ok (.astore 5, 2) := by decide +kernel
theorem dX10_mix_52 : decode cX10_mix 52 = .ok (.iload_n 3, 1) := by decide +kernel
theorem dX10_mix_53 : decode cX10_mix 53 = .ok (.aload 4, 2) := by decide +kernel
theorem dX10_mix_55 : decode cX10_mix 55 = .ok (.getfield 148, 3) := by decide +kernel
theorem dX10_mix_58 : decode cX10_mix 58 = .ok (.aload 5, 2) := by decide +kernel
theorem dX10_mix_60 : decode cX10_mix 60 = .ok (.invokevirtual 338, 3) := by decide +kernel
theorem dX10_mix_63 : decode cX10_mix 63 = .ok (.invokestatic 267, 3) := by decide +kernel
theorem dX10_mix_66 : decode cX10_mix 66 = .ok (.invokestatic 267, 3) := by decide +kernel
theorem dX10_mix_69 : decode cX10_mix 69 = .ok (.istore 6, 2) := by decide +kernel
theorem dX10_mix_71 : decode cX10_mix 71 = .ok (.aload_n 0, 1) := by decide +kernel
theorem dX10_mix_72 : decode cX10_mix 72 = .ok (.getfield 42, 3) := by decide +kernel
theorem dX10_mix_75 : decode cX10_mix 75 = .ok (.aload 4, 2) := by decide +kernel
theorem dX10_mix_77 : decode cX10_mix 77 = .ok (.aload 5, 2) := by decide +kernel
theorem dX10_mix_79 : decode cX10_mix 79 = .ok (.iload 6, 2) := by decide +kernel
theorem dX10_mix_81 : decode cX10_mix 81 = .ok (.invokevirtual 341, 3) := by decide +kernel
theorem dX10_mix_84 : decode cX10_mix 84 = .ok (.iload 6, 2) := by decide +kernel
theorem dX10_mix_86 : decode cX10_mix 86 = .ok (.ireturn, 1) := by decide +kernel
theorem dX10_order_0 : decode cX10_order 0 = .ok (.aload_n 0, 1) := by decide +kernel
theorem dX10_order_1 : decode cX10_order 1 = .ok (.getfield 46, 3) := by decide +kernel
theorem dX10_order_4 : decode cX10_order 4 = .ok (.aload_n 0, 1) := by decide +kernel
theorem dX10_order_5 : decode cX10_order 5 = .ok (.getfield 42, 3) := by decide +kernel
theorem dX10_order_8 : decode cX10_order 8 = .ok (.invokevirtual 219, 3) := by decide +kernel
theorem dX10_order_11 : decode cX10_order 11 = .ok (.aload_n 0, 1) := by decide +kernel
theorem dX10_order_12 : decode cX10_order 12 = .ok (.getfield 46, 3) := by decide +kernel
theorem dX10_order_15 : decode cX10_order 15 = .ok (.invokevirtual 345, 3) := by decide +kernel
theorem dX10_order_18 : decode cX10_order 18 = .ok (.iconst 5, 1) := by decide +kernel
theorem dX10_order_19 : decode cX10_order 19 = .ok (.aload_n 0, 1) := by decide +kernel
theorem dX10_order_20 : decode cX10_order 20 = .ok (.getfield 42, 3) := by decide +kernel
theorem dX10_order_23 : decode cX10_order 23 = .ok (.getfield 76, 3) := by decide +kernel
theorem dX10_order_26 : decode cX10_order 26 = .ok (.invokestatic 267, 3) := by decide +kernel
theorem dX10_order_29 : decode cX10_order 29 = .ok (.istore_n 2, 1) := by decide +kernel
theorem dX10_order_30 : decode cX10_order 30 = .ok (.iconst 0, 1) := by decide +kernel
theorem dX10_order_31 : decode cX10_order 31 = .ok (.istore_n 3, 1) := by decide +kernel
theorem dX10_order_32 : decode cX10_order 32 = .ok (.iload_n 3, 1) := by decide +kernel
theorem dX10_order_33 : decode cX10_order 33 = .ok (.bipush 8, 2) := by decide +kernel
theorem dX10_order_35 : decode cX10_order 35 = .ok (.if_icmp .ge 16, 3) := by decide +kernel
theorem dX10_order_38 : decode cX10_order 38 = .ok (.aload_n 0, 1) := by decide +kernel
theorem dX10_order_39 : decode cX10_order 39 = .ok (.getfield 55, 3) := by decide +kernel
theorem dX10_order_42 : decode cX10_order 42 = .ok (.iload_n 3, 1) := by decide +kernel
theorem dX10_order_43 : decode cX10_order 43 = .ok (.iload_n 3, 1) := by decide +kernel
theorem dX10_order_44 : decode cX10_order 44 = .ok (.iastore, 1) := by decide +kernel
theorem dX10_order_45 : decode cX10_order 45 = .ok (.iinc 3 1, 3) := by decide +kernel
theorem dX10_order_48 : decode cX10_order 48 = .ok (.goto (-16), 3) := by decide +kernel
theorem dX10_order_51 : decode cX10_order 51 = .ok (.iconst (-1), 1) := by decide +kernel
theorem dX10_order_52 : decode cX10_order 52 = .ok (.istore_n 3, 1) := by decide +kernel
theorem dX10_order_53 : decode cX10_order 53 = .ok (.iconst 0, 1) := by decide +kernel
theorem dX10_order_54 : decode cX10_order 54 = .ok (.istore 4, 2) := by decide +kernel
theorem dX10_order_56 : decode cX10_order 56 = .ok (.iconst 0, 1) := by decide +kernel
theorem dX10_order_57 : decode cX10_order 57 = .ok (.istore 5, 2) := by decide +kernel
theorem dX10_order_59 : decode cX10_order 59 = .ok (.iload 5, 2) := by decide +kernel
theorem dX10_order_61 : decode cX10_order 61 = .ok (.bipush 120, 2) := by decide +kernel
theorem dX10_order_63 : decode cX10_order 63 = .ok (.if_icmp .ge 75, 3) := by decide +kernel
theorem dX10_order_66 : decode cX10_order 66 = .ok (.iload_n 3, 1) := by decide +kernel
theorem dX10_order_67 : decode cX10_order 67 = .ok (.ifCond .eq 71, 3) := by decide +kernel
theorem dX10_order_70 : decode cX10_order 70 = .ok (.aload_n 0, 1) := by decide +kernel
theorem dX10_order_71 : decode cX10_order 71 = .ok (.getfield 49, 3) := by decide +kernel
theorem dX10_order_74 : decode cX10_order 74 = .ok (.aload_n 0, 1) := by decide +kernel
theorem dX10_order_75 : decode cX10_order 75 = .ok (.getfield 46, 3) := by decide +kernel
theorem dX10_order_78 : decode cX10_order 78 = .ok (.invokevirtual 219, 3) := by decide +kernel
theorem dX10_order_81 : decode cX10_order 81 = .ok (.aload_n 0, 1) := by decide +kernel
theorem dX10_order_82 : decode cX10_order 82 = .ok (.getfield 49, 3) := by decide +kernel
theorem dX10_order_85 : decode cX10_order 85 = .ok (.aload_n 0, 1) := by decide +kernel
theorem dX10_order_86 : decode cX10_order 86 = .ok (.getfield 55, 3) := by decide +kernel
theorem dX10_order_89 : decode cX10_order 89 = .ok (.invokevirtual 348, 3) := by decide +kernel
theorem dX10_order_92 : decode cX10_order 92 = .ok (.istore 6, 2) := by decide +kernel
theorem dX10_order_94 : decode cX10_order 94 = .ok (.iload_n 3, 1) := by decide +kernel
theorem dX10_order_95 : decode cX10_order 95 = .ok (.iconst (-1), 1) := by decide +kernel
theorem dX10_order_96 : decode cX10_order 96 = .ok (.if_icmp .eq 9, 3) := by decide +kernel
theorem dX10_order_99 : decode cX10_order 99 = .ok (.iload 6, 2) := by decide +kernel
theorem dX10_order_101 : decode cX10_order 101 = .ok (.iload_n 3, 1) := by decide +kernel
theorem dX10_order_102 : decode cX10_order 102 = .ok (.if_icmp .ge 16, 3) := by decide +kernel
theorem dX10_order_105 : decode cX10_order 105 = .ok (.iload 6, 2) := by decide +kernel
theorem dX10_order_107 : decode cX10_order 107 = .ok (.istore_n 3, 1) := by decide +kernel
theorem dX10_order_108 : decode cX10_order 108 = .ok (.aload_n 0, 1) := by decide +kernel
theorem dX10_order_109 : decode cX10_order 109 = .ok (.getfield 55, 3) := by decide +kernel
theorem dX10_order_112 : decode cX10_order 112 = .ok (.iload_n 2, 1) := by decide +kernel
theorem dX10_order_113 : decode cX10_order 113 = .ok (.invokestatic 352, 3) := by decide +kernel
theorem dX10_order_116 : decode cX10_order 116 = .ok (.istore 4, 2) := by decide +kernel
theorem dX10_order_118 : decode cX10_order 118 = .ok (.aload_n 0, 1) := by decide +kernel
theorem dX10_order_119 : decode cX10_order 119 = .ok (.getfield 55, 3) := by decide +kernel
theorem dX10_order_122 : decode cX10_order 122 = .ok (.iload_n 2, 1) := by decide +kernel
theorem dX10_order_123 : decode cX10_order 123 = .ok (.invokestatic 356, 3) := by decide +kernel
theorem dX10_order_126 : decode cX10_order 126 = .ok (.ifCond .ne 6, 3) := by decide +kernel
theorem dX10_order_129 : decode cX10_order 129 = .ok (.goto 9, 3) := by decide +kernel
theorem dX10_order_132 : decode cX10_order 132 = .ok (.iinc 5 1, 3) := by decide +kernel
theorem dX10_order_135 : decode cX10_order 135 = .ok (.goto (-76), 3) := by decide +kernel
theorem dX10_order_138 : decode cX10_order 138 = .ok (.iload_n 1, 1) := by decide +kernel
theorem dX10_order_139 : decode cX10_order 139 = .ok (.ifCond .eq 8, 3) := by decide +kernel
theorem dX10_order_142 : decode cX10_order 142 = .ok (.iload 4, 2) := by decide +kernel
theorem dX10_order_144 : decode cX10_order 144 = .ok (.goto 4, 3) := by decide +kernel
theorem dX10_order_147 : decode cX10_order 147 = .ok (.iload_n 3, 1) := by decide +kernel
theorem dX10_order_148 : decode cX10_order 148 = .ok (.ireturn, 1) := by decide +kernel
theorem dX10_enough_0 : decode cX10_enough 0 = .ok (.iload_n 1, 1) := by decide +kernel
theorem dX10_enough_1 : decode cX10_enough 1 = .ok (.iconst 1, 1) := by decide +kernel
theorem dX10_enough_2 : decode cX10_enough 2 = .ok (.if_icmp .lt 20, 3) := by decide +kernel
theorem dX10_enough_5 : decode cX10_enough 5 = .ok (.iload_n 1, 1) := by decide +kernel
theorem dX10_enough_6 : decode cX10_enough 6 = .ok (.bipush 60, 2) := by decide +kernel
theorem dX10_enough_8 : decode cX10_enough 8 = .ok (.if_icmp .gt 14, 3) := by decide +kernel
theorem dX10_enough_11 : decode cX10_enough 11 = .ok (.iload_n 2, 1) := by decide +kernel
theorem dX10_enough_12 : decode cX10_enough 12 = .ok (.iconst 1, 1) := by decide +kernel
theorem dX10_enough_13 : decode cX10_enough 13 = .ok (.if_icmp .lt 9, 3) := by decide +kernel
theorem dX10_enough_16 : decode cX10_enough 16 = .ok (.iload_n 2, 1) := by decide +kernel
theorem dX10_enough_17 : decode cX10_enough 17 = .ok (.bipush 24, 2) := by decide +kernel
theorem dX10_enough_19 : decode cX10_enough 19 = .ok (.if_icmp .le 14, 3) := by decide +kernel
theorem dX10_enough_22 : decode cX10_enough 22 = .ok (.new 88, 3) := by decide +kernel
theorem dX10_enough_25 : decode cX10_enough 25 = .ok (.dup, 1) := by decide +kernel
theorem dX10_enough_26 : decode cX10_enough 26 = .ok (.ldc_w 360, 3) := by decide +kernel
theorem dX10_enough_29 : decode cX10_enough 29 = .ok (.invokespecial 92, 3) := by decide +kernel
theorem dX10_enough_32 : decode cX10_enough 32 = .ok (.athrow, 1) := by decide +kernel
theorem dX10_enough_33 : decode cX10_enough 33 = .ok (.iconst 0, 1) := by decide +kernel
theorem dX10_enough_34 : decode cX10_enough 34 = .ok (.istore_n 3, 1) := by decide +kernel
theorem dX10_enough_35 : decode cX10_enough 35 = .ok (.iconst 1, 1) := by decide +kernel
theorem dX10_enough_36 : decode cX10_enough 36 = .ok (.istore 4, 2) := by decide +kernel
theorem dX10_enough_38 : decode cX10_enough 38 = .ok (.iload 4, 2) := by decide +kernel
theorem dX10_enough_40 : decode cX10_enough 40 = .ok (.iload_n 1, 1) := by decide +kernel
theorem dX10_enough_41 : decode cX10_enough 41 = .ok (.if_icmp .gt 45, 3) := by decide +kernel
theorem dX10_enough_44 : decode cX10_enough 44 = .ok (.aload_n 0, 1) := by decide +kernel
theorem dX10_enough_45 : decode cX10_enough 45 = .ok (.getfield 46, 3) := by decide +kernel
theorem dX10_enough_48 : decode cX10_enough 48 = .ok (.aload_n 0, 1) := by decide +kernel
theorem dX10_enough_49 : decode cX10_enough 49 = .ok (.getfield 42, 3) := by decide +kernel
theorem dX10_enough_52 : decode cX10_enough 52 = .ok (.invokevirtual 219, 3) := by decide +kernel
theorem dX10_enough_55 : decode cX10_enough 55 = .ok (.aload_n 0, 1) := by decide +kernel
theorem dX10_enough_56 : decode cX10_enough 56 = .ok (.getfield 46, 3) := by decide +kernel
theorem dX10_enough_59 : decode cX10_enough 59 = .ok (.iload 4, 2) := by decide +kernel
theorem dX10_enough_61 : decode cX10_enough 61 = .ok (.invokevirtual 238, 3) := by decide +kernel
theorem dX10_enough_64 : decode cX10_enough 64 = .ok (.pop, 1) := by decide +kernel
theorem dX10_enough_65 : decode cX10_enough 65 = .ok (.aload_n 0, 1) := by decide +kernel
theorem dX10_enough_66 : decode cX10_enough 66 = .ok (.getfield 46, 3) := by decide +kernel
theorem dX10_enough_69 : decode cX10_enough 69 = .ok (.iload_n 2, 1) := by decide +kernel
theorem dX10_enough_70 : decode cX10_enough 70 = .ok (.invokevirtual 251, 3) := by decide +kernel
theorem dX10_enough_73 : decode cX10_enough 73 = .ok (.iload_n 2, 1) := by decide +kernel
theorem dX10_enough_74 : decode cX10_enough 74 = .ok (.if_icmp .ne 6, 3) := by decide +kernel
theorem dX10_enough_77 : decode cX10_enough 77 = .ok (.iinc 3 1, 3) := by decide +kernel
theorem dX10_enough_80 : decode cX10_enough 80 = .ok (.iinc 4 1, 3) := by decide +kernel
theorem dX10_enough_83 : decode cX10_enough 83 = .ok (.goto (-45), 3) := by decide +kernel
theorem dX10_enough_86 : decode cX10_enough 86 = .ok (.iload_n 3, 1) := by decide +kernel
theorem dX10_enough_87 : decode cX10_enough 87 = .ok (.ireturn, 1) := by decide +kernel
theorem dX10_latest_0 : decode cX10_latest 0 = .ok (.aload_n 0, 1) := by decide +kernel
theorem dX10_latest_1 : decode cX10_latest 1 = .ok (.iload_n 1, 1) := by decide +kernel
theorem dX10_latest_2 : decode cX10_latest 2 = .ok (.invokevirtual 169, 3) := by decide +kernel
theorem dX10_latest_5 : decode cX10_latest 5 = .ok (.aload_n 0, 1) := by decide +kernel
theorem dX10_latest_6 : decode cX10_latest 6 = .ok (.iload_n 2, 1) := by decide +kernel
theorem dX10_latest_7 : decode cX10_latest 7 = .ok (.invokevirtual 160, 3) := by decide +kernel
theorem dX10_latest_10 : decode cX10_latest 10 = .ok (.aload_n 0, 1) := by decide +kernel
theorem dX10_latest_11 : decode cX10_latest 11 = .ok (.getfield 35, 3) := by decide +kernel
theorem dX10_latest_14 : decode cX10_latest 14 = .ok (.getfield 214, 3) := by decide +kernel
theorem dX10_latest_17 : decode cX10_latest 17 = .ok (.ifCond .ne 5, 3) := by decide +kernel
theorem dX10_latest_20 : decode cX10_latest 20 = .ok (.iconst (-1), 1) := by decide +kernel
theorem dX10_latest_21 : decode cX10_latest 21 = .ok (.ireturn, 1) := by decide +kernel
theorem dX10_latest_22 : decode cX10_latest 22 = .ok (.aload_n 0, 1) := by decide +kernel
theorem dX10_latest_23 : decode cX10_latest 23 = .ok (.getfield 35, 3) := by decide +kernel
theorem dX10_latest_26 : decode cX10_latest 26 = .ok (.invokevirtual 215, 3) := by decide +kernel
theorem dX10_latest_29 : decode cX10_latest 29 = .ok (.astore_n 3, 1) := by decide +kernel
theorem dX10_latest_30 : decode cX10_latest 30 = .ok (.iload_n 1, 1) := by decide +kernel
theorem dX10_latest_31 : decode cX10_latest 31 = .ok (.aload_n 3, 1) := by decide +kernel
theorem dX10_latest_32 : decode cX10_latest 32 = .ok (.getfield 76, 3) := by decide +kernel
theorem dX10_latest_35 : decode cX10_latest 35 = .ok (.if_icmp .ge 17, 3) := by decide +kernel
theorem dX10_latest_38 : decode cX10_latest 38 = .ok (.aload_n 3, 1) := by decide +kernel
theorem dX10_latest_39 : decode cX10_latest 39 = .ok (.getfield 172, 3) := by decide +kernel
theorem dX10_latest_42 : decode cX10_latest 42 = .ok (.iload_n 1, 1) := by decide +kernel
theorem dX10_latest_43 : decode cX10_latest 43 = .ok (.aaload, 1) := by decide +kernel
theorem dX10_latest_44 : decode cX10_latest 44 = .ok (.getfield 196, 3) := by decide +kernel
theorem dX10_latest_47 : decode cX10_latest 47 = .ok (.iload_n 2, 1) := by decide +kernel
theorem dX10_latest_48 : decode cX10_latest 48 = .ok (.iaload, 1) := by decide +kernel
theorem dX10_latest_49 : decode cX10_latest 49 = .ok (.goto 4, 3) := by decide +kernel
theorem dX10_latest_52 : decode cX10_latest 52 = .ok (.iconst 0, 1) := by decide +kernel
theorem dX10_latest_53 : decode cX10_latest 53 = .ok (.istore 4, 2) := by decide +kernel
theorem dX10_latest_55 : decode cX10_latest 55 = .ok (.aload_n 0, 1) := by decide +kernel
theorem dX10_latest_56 : decode cX10_latest 56 = .ok (.getfield 42, 3) := by decide +kernel
theorem dX10_latest_59 : decode cX10_latest 59 = .ok (.getfield 172, 3) := by decide +kernel
theorem dX10_latest_62 : decode cX10_latest 62 = .ok (.iload_n 1, 1) := by decide +kernel
theorem dX10_latest_63 : decode cX10_latest 63 = .ok (.aaload, 1) := by decide +kernel
theorem dX10_latest_64 : decode cX10_latest 64 = .ok (.getfield 196, 3) := by decide +kernel
theorem dX10_latest_67 : decode cX10_latest 67 = .ok (.iload_n 2, 1) := by decide +kernel
theorem dX10_latest_68 : decode cX10_latest 68 = .ok (.iaload, 1) := by decide +kernel
theorem dX10_latest_69 : decode cX10_latest 69 = .ok (.iload 4, 2) := by decide +kernel
theorem dX10_latest_71 : decode cX10_latest 71 = .ok (.isub, 1) := by decide +kernel
theorem dX10_latest_72 : decode cX10_latest 72 = .ok (.ireturn, 1) := by decide +kernel
theorem dX10_image_0 : decode cX10_image 0 = .ok (.aload_n 0, 1) := by decide +kernel
theorem dX10_image_1 : decode cX10_image 1 = .ok (.getfield 52, 3) := by decide +kernel
theorem dX10_image_4 : decode cX10_image 4 = .ok (.aload_n 0, 1) := by decide +kernel
theorem dX10_image_5 : decode cX10_image 5 = .ok (.getfield 42, 3) := by decide +kernel
theorem dX10_image_8 : decode cX10_image 8 = .ok (.invokevirtual 219, 3) := by decide +kernel
theorem dX10_image_11 : decode cX10_image 11 = .ok (.aload_n 0, 1) := by decide +kernel
theorem dX10_image_12 : decode cX10_image 12 = .ok (.iconst 1, 1) := by decide +kernel
theorem dX10_image_13 : decode cX10_image 13 = .ok (.putfield 362, 3) := by decide +kernel
theorem dX10_image_16 : decode cX10_image 16 = .ok (.return_, 1) := by decide +kernel
theorem dX10_back_0 : decode cX10_back 0 = .ok (.aload_n 0, 1) := by decide +kernel
theorem dX10_back_1 : decode cX10_back 1 = .ok (.getfield 362, 3) := by decide +kernel
theorem dX10_back_4 : decode cX10_back 4 = .ok (.ifCond .ne 5, 3) := by decide +kernel
theorem dX10_back_7 : decode cX10_back 7 = .ok (.iconst 0, 1) := by decide +kernel
theorem dX10_back_8 : decode cX10_back 8 = .ok (.ireturn, 1) := by decide +kernel
theorem dX10_back_9 : decode cX10_back 9 = .ok (.aload_n 0, 1) := by decide +kernel
theorem dX10_back_10 : decode cX10_back 10 = .ok (.getfield 42, 3) := by decide +kernel
theorem dX10_back_13 : decode cX10_back 13 = .ok (.aload_n 0, 1) := by decide +kernel
theorem dX10_back_14 : decode cX10_back 14 = .ok (.getfield 52, 3) := by decide +kernel
theorem dX10_back_17 : decode cX10_back 17 = .ok (.invokevirtual 219, 3) := by decide +kernel
theorem dX10_back_20 : decode cX10_back 20 = .ok (.aload_n 0, 1) := by decide +kernel
theorem dX10_back_21 : decode cX10_back 21 = .ok (.getfield 35, 3) := by decide +kernel
theorem dX10_back_24 : decode cX10_back 24 = .ok (.iconst 0, 1) := by decide +kernel
theorem dX10_back_25 : decode cX10_back 25 = .ok (.putfield 214, 3) := by decide +kernel
theorem dX10_back_28 : decode cX10_back 28 = .ok (.iconst 1, 1) := by decide +kernel
theorem dX10_back_29 : decode cX10_back 29 = .ok (.ireturn, 1) := by decide +kernel
theorem dX10_count_0 : decode cX10_count 0 = .ok (.iload_n 1, 1) := by decide +kernel
theorem dX10_count_1 : decode cX10_count 1 = .ok (.tableswitch 200 0 13 #[71, 79, 87, 95, 120, 128, 136, 144, 152, 160, 168, 176, 184, 192], 71) := by decide +kernel
theorem dX10_count_72 : decode cX10_count 72 = .ok (.aload_n 0, 1) := by decide +kernel
theorem dX10_count_73 : decode cX10_count 73 = .ok (.getfield 42, 3) := by decide +kernel
theorem dX10_count_76 : decode cX10_count 76 = .ok (.getfield 73, 3) := by decide +kernel
theorem dX10_count_79 : decode cX10_count 79 = .ok (.ireturn, 1) := by decide +kernel
theorem dX10_count_80 : decode cX10_count 80 = .ok (.aload_n 0, 1) := by decide +kernel
theorem dX10_count_81 : decode cX10_count 81 = .ok (.getfield 42, 3) := by decide +kernel
theorem dX10_count_84 : decode cX10_count 84 = .ok (.getfield 76, 3) := by decide +kernel
theorem dX10_count_87 : decode cX10_count 87 = .ok (.ireturn, 1) := by decide +kernel
theorem dX10_count_88 : decode cX10_count 88 = .ok (.aload_n 0, 1) := by decide +kernel
theorem dX10_count_89 : decode cX10_count 89 = .ok (.getfield 42, 3) := by decide +kernel
theorem dX10_count_92 : decode cX10_count 92 = .ok (.getfield 95, 3) := by decide +kernel
theorem dX10_count_95 : decode cX10_count 95 = .ok (.ireturn, 1) := by decide +kernel
theorem dX10_count_96 : decode cX10_count 96 = .ok (.aload_n 0, 1) := by decide +kernel
theorem dX10_count_97 : decode cX10_count 97 = .ok (.getfield 42, 3) := by decide +kernel
theorem dX10_count_100 : decode cX10_count 100 = .ok (.getfield 114, 3) := by decide +kernel
theorem dX10_count_103 : decode cX10_count 103 = .ok (.ifnonnull 7, 3) := by decide +kernel
theorem dX10_count_106 : decode cX10_count 106 = .ok (.iconst (-1), 1) := by decide +kernel
theorem dX10_count_107 : decode cX10_count 107 = .ok (.goto 13, 3) := by decide +kernel
theorem dX10_count_110 : decode cX10_count 110 = .ok (.aload_n 0, 1) := by decide +kernel
theorem dX10_count_111 : decode cX10_count 111 = .ok (.getfield 42, 3) := by decide +kernel
theorem dX10_count_114 : decode cX10_count 114 = .ok (.getfield 114, 3) := by decide +kernel
theorem dX10_count_117 : decode cX10_count 117 = .ok (.getfield 118, 3) := by decide +kernel
theorem dX10_count_120 : decode cX10_count 120 = .ok (.ireturn, 1) := by decide +kernel
theorem dX10_count_121 : decode cX10_count 121 = .ok (.aload_n 0, 1) := by decide +kernel
theorem dX10_count_122 : decode cX10_count 122 = .ok (.getfield 42, 3) := by decide +kernel
theorem dX10_count_125 : decode cX10_count 125 = .ok (.getfield 225, 3) := by decide +kernel
theorem dX10_count_128 : decode cX10_count 128 = .ok (.ireturn, 1) := by decide +kernel
theorem dX10_count_129 : decode cX10_count 129 = .ok (.aload_n 0, 1) := by decide +kernel
theorem dX10_count_130 : decode cX10_count 130 = .ok (.getfield 42, 3) := by decide +kernel
theorem dX10_count_133 : decode cX10_count 133 = .ok (.invokevirtual 365, 3) := by decide +kernel
theorem dX10_count_136 : decode cX10_count 136 = .ok (.ireturn, 1) := by decide +kernel
theorem dX10_count_137 : decode cX10_count 137 = .ok (.aload_n 0, 1) := by decide +kernel
theorem dX10_count_138 : decode cX10_count 138 = .ok (.getfield 42, 3) := by decide +kernel
theorem dX10_count_141 : decode cX10_count 141 = .ok (.invokevirtual 368, 3) := by decide +kernel
theorem dX10_count_144 : decode cX10_count 144 = .ok (.ireturn, 1) := by decide +kernel
theorem dX10_count_145 : decode cX10_count 145 = .ok (.aload_n 0, 1) := by decide +kernel
theorem dX10_count_146 : decode cX10_count 146 = .ok (.getfield 42, 3) := by decide +kernel
theorem dX10_count_149 : decode cX10_count 149 = .ok (.invokevirtual 371, 3) := by decide +kernel
theorem dX10_count_152 : decode cX10_count 152 = .ok (.ireturn, 1) := by decide +kernel
theorem dX10_count_153 : decode cX10_count 153 = .ok (.aload_n 0, 1) := by decide +kernel
theorem dX10_count_154 : decode cX10_count 154 = .ok (.getfield 42, 3) := by decide +kernel
theorem dX10_count_157 : decode cX10_count 157 = .ok (.getfield 372, 3) := by decide +kernel
theorem dX10_count_160 : decode cX10_count 160 = .ok (.ireturn, 1) := by decide +kernel
theorem dX10_count_161 : decode cX10_count 161 = .ok (.aload_n 0, 1) := by decide +kernel
theorem dX10_count_162 : decode cX10_count 162 = .ok (.getfield 42, 3) := by decide +kernel
theorem dX10_count_165 : decode cX10_count 165 = .ok (.getfield 375, 3) := by decide +kernel
theorem dX10_count_168 : decode cX10_count 168 = .ok (.ireturn, 1) := by decide +kernel
theorem dX10_count_169 : decode cX10_count 169 = .ok (.aload_n 0, 1) := by decide +kernel
theorem dX10_count_170 : decode cX10_count 170 = .ok (.getfield 42, 3) := by decide +kernel
theorem dX10_count_173 : decode cX10_count 173 = .ok (.getfield 378, 3) := by decide +kernel
theorem dX10_count_176 : decode cX10_count 176 = .ok (.ireturn, 1) := by decide +kernel
theorem dX10_count_177 : decode cX10_count 177 = .ok (.aload_n 0, 1) := by decide +kernel
theorem dX10_count_178 : decode cX10_count 178 = .ok (.getfield 35, 3) := by decide +kernel
theorem dX10_count_181 : decode cX10_count 181 = .ok (.getfield 214, 3) := by decide +kernel
theorem dX10_count_184 : decode cX10_count 184 = .ok (.ireturn, 1) := by decide +kernel
theorem dX10_count_185 : decode cX10_count 185 = .ok (.aload_n 0, 1) := by decide +kernel
theorem dX10_count_186 : decode cX10_count 186 = .ok (.getfield 42, 3) := by decide +kernel
theorem dX10_count_189 : decode cX10_count 189 = .ok (.invokevirtual 381, 3) := by decide +kernel
theorem dX10_count_192 : decode cX10_count 192 = .ok (.ireturn, 1) := by decide +kernel
theorem dX10_count_193 : decode cX10_count 193 = .ok (.aload_n 0, 1) := by decide +kernel
theorem dX10_count_194 : decode cX10_count 194 = .ok (.getfield 42, 3) := by decide +kernel
theorem dX10_count_197 : decode cX10_count 197 = .ok (.getfield 311, 3) := by decide +kernel
theorem dX10_count_200 : decode cX10_count 200 = .ok (.ireturn, 1) := by decide +kernel
theorem dX10_count_201 : decode cX10_count 201 = .ok (.iconst (-1), 1) := by decide +kernel
theorem dX10_count_202 : decode cX10_count 202 = .ok (.ireturn, 1) := by decide +kernel
theorem dX10_needCistern_0 : decode cX10_needCistern 0 = .ok (.iload_n 1, 1) := by decide +kernel
theorem dX10_needCistern_1 : decode cX10_needCistern 1 = .ok (.ifCond .lt 14, 3) := by decide +kernel
theorem dX10_needCistern_4 : decode cX10_needCistern 4 = .ok (.iload_n 1, 1) := by decide +kernel
theorem dX10_needCistern_5 : decode cX10_needCistern 5 = .ok (.aload_n 0, 1) := by decide +kernel
theorem dX10_needCistern_6 : decode cX10_needCistern 6 = .ok (.getfield 42, 3) := by decide +kernel
theorem dX10_needCistern_9 : decode cX10_needCistern 9 = .ok (.getfield 73, 3) := by decide +kernel
theorem dX10_needCistern_12 : decode cX10_needCistern 12 = .ok (.if_icmp .lt 14, 3) := by decide +kernel
theorem dX10_needCistern_15 : decode cX10_needCistern 15 = .ok (.new 384, 3) := by decide +kernel
theorem dX10_needCistern_18 : decode cX10_needCistern 18 = .ok (.dup, 1) := by decide +kernel
theorem dX10_needCistern_19 : decode cX10_needCistern 19 = .ok (.ldc_w 386, 3) := by decide +kernel
theorem dX10_needCistern_22 : decode cX10_needCistern 22 = .ok (.invokespecial 388, 3) := by decide +kernel
theorem dX10_needCistern_25 : decode cX10_needCistern 25 = .ok (.athrow, 1) := by decide +kernel
theorem dX10_needCistern_26 : decode cX10_needCistern 26 = .ok (.return_, 1) := by decide +kernel
theorem dX10_needHouse_0 : decode cX10_needHouse 0 = .ok (.iload_n 1, 1) := by decide +kernel
theorem dX10_needHouse_1 : decode cX10_needHouse 1 = .ok (.ifCond .lt 14, 3) := by decide +kernel
theorem dX10_needHouse_4 : decode cX10_needHouse 4 = .ok (.iload_n 1, 1) := by decide +kernel
theorem dX10_needHouse_5 : decode cX10_needHouse 5 = .ok (.aload_n 0, 1) := by decide +kernel
theorem dX10_needHouse_6 : decode cX10_needHouse 6 = .ok (.getfield 42, 3) := by decide +kernel
theorem dX10_needHouse_9 : decode cX10_needHouse 9 = .ok (.getfield 76, 3) := by decide +kernel
theorem dX10_needHouse_12 : decode cX10_needHouse 12 = .ok (.if_icmp .lt 14, 3) := by decide +kernel
theorem dX10_needHouse_15 : decode cX10_needHouse 15 = .ok (.new 384, 3) := by decide +kernel
theorem dX10_needHouse_18 : decode cX10_needHouse 18 = .ok (.dup, 1) := by decide +kernel
theorem dX10_needHouse_19 : decode cX10_needHouse 19 = .ok (.ldc_w 389, 3) := by decide +kernel
theorem dX10_needHouse_22 : decode cX10_needHouse 22 = .ok (.invokespecial 388, 3) := by decide +kernel
theorem dX10_needHouse_25 : decode cX10_needHouse 25 = .ok (.athrow, 1) := by decide +kernel
theorem dX10_needHouse_26 : decode cX10_needHouse 26 = .ok (.return_, 1) := by decide +kernel
theorem dX10_needYear_0 : decode cX10_needYear 0 = .ok (.iload_n 1, 1) := by decide +kernel
theorem dX10_needYear_1 : decode cX10_needYear 1 = .ok (.ifCond .lt 9, 3) := by decide +kernel
theorem dX10_needYear_4 : decode cX10_needYear 4 = .ok (.iload_n 1, 1) := by decide +kernel
theorem dX10_needYear_5 : decode cX10_needYear 5 = .ok (.bipush 30, 2) := by decide +kernel
theorem dX10_needYear_7 : decode cX10_needYear 7 = .ok (.if_icmp .lt 14, 3) := by decide +kernel
theorem dX10_needYear_10 : decode cX10_needYear 10 = .ok (.new 384, 3) := by decide +kernel
theorem dX10_needYear_13 : decode cX10_needYear 13 = .ok (.dup, 1) := by decide +kernel
theorem dX10_needYear_14 : decode cX10_needYear 14 = .ok (.ldc_w 391, 3) := by decide +kernel
theorem dX10_needYear_17 : decode cX10_needYear 17 = .ok (.invokespecial 388, 3) := by decide +kernel
theorem dX10_needYear_20 : decode cX10_needYear 20 = .ok (.athrow, 1) := by decide +kernel
theorem dX10_needYear_21 : decode cX10_needYear 21 = .ok (.return_, 1) := by decide +kernel
theorem dX10_needDebt_0 : decode cX10_needDebt 0 = .ok (.iload_n 1, 1) := by decide +kernel
theorem dX10_needDebt_1 : decode cX10_needDebt 1 = .ok (.ifCond .lt 14, 3) := by decide +kernel
theorem dX10_needDebt_4 : decode cX10_needDebt 4 = .ok (.iload_n 1, 1) := by decide +kernel
theorem dX10_needDebt_5 : decode cX10_needDebt 5 = .ok (.aload_n 0, 1) := by decide +kernel
theorem dX10_needDebt_6 : decode cX10_needDebt 6 = .ok (.getfield 42, 3) := by decide +kernel
theorem dX10_needDebt_9 : decode cX10_needDebt 9 = .ok (.getfield 311, 3) := by decide +kernel
theorem dX10_needDebt_12 : decode cX10_needDebt 12 = .ok (.if_icmp .lt 14, 3) := by decide +kernel
theorem dX10_needDebt_15 : decode cX10_needDebt 15 = .ok (.new 384, 3) := by decide +kernel
theorem dX10_needDebt_18 : decode cX10_needDebt 18 = .ok (.dup, 1) := by decide +kernel
theorem dX10_needDebt_19 : decode cX10_needDebt 19 = .ok (.ldc_w 393, 3) := by decide +kernel
theorem dX10_needDebt_22 : decode cX10_needDebt 22 = .ok (.invokespecial 388, 3) := by decide +kernel
theorem dX10_needDebt_25 : decode cX10_needDebt 25 = .ok (.athrow, 1) := by decide +kernel
theorem dX10_needDebt_26 : decode cX10_needDebt 26 = .ok (.return_, 1) := by decide +kernel
theorem dX10_isRowOfDrinks_0 : decode cX10_isRowOfDrinks 0 = .ok (.aload_n 0, 1) := by decide +kernel
theorem dX10_isRowOfDrinks_1 : decode cX10_isRowOfDrinks 1 = .ok (.getfield 12, 3) := by decide +kernel
theorem dX10_isRowOfDrinks_4 : decode cX10_isRowOfDrinks 4 = .ok (.getfield 66, 3) := by decide +kernel
theorem dX10_isRowOfDrinks_7 : decode cX10_isRowOfDrinks 7 = .ok (.iconst 2, 1) := by decide +kernel
theorem dX10_isRowOfDrinks_8 : decode cX10_isRowOfDrinks 8 = .ok (.irem, 1) := by decide +kernel
theorem dX10_isRowOfDrinks_9 : decode cX10_isRowOfDrinks 9 = .ok (.ifCond .eq 5, 3) := by decide +kernel
theorem dX10_isRowOfDrinks_12 : decode cX10_isRowOfDrinks 12 = .ok (.iconst 0, 1) := by decide +kernel
theorem dX10_isRowOfDrinks_13 : decode cX10_isRowOfDrinks 13 = .ok (.ireturn, 1) := by decide +kernel
theorem dX10_isRowOfDrinks_14 : decode cX10_isRowOfDrinks 14 = .ok (.iconst 0, 1) := by decide +kernel
theorem dX10_isRowOfDrinks_15 : decode cX10_isRowOfDrinks 15 = .ok (.istore_n 1, 1) := by decide +kernel
theorem dX10_isRowOfDrinks_16 : decode cX10_isRowOfDrinks 16 = .ok (.iload_n 1, 1) := by decide +kernel
theorem dX10_isRowOfDrinks_17 : decode cX10_isRowOfDrinks 17 = .ok (.aload_n 0, 1) := by decide +kernel
theorem dX10_isRowOfDrinks_18 : decode cX10_isRowOfDrinks 18 = .ok (.getfield 12, 3) := by decide +kernel
theorem dX10_isRowOfDrinks_21 : decode cX10_isRowOfDrinks 21 = .ok (.getfield 66, 3) := by decide +kernel
theorem dX10_isRowOfDrinks_24 : decode cX10_isRowOfDrinks 24 = .ok (.if_icmp .ge 62, 3) := by decide +kernel
theorem dX10_isRowOfDrinks_27 : decode cX10_isRowOfDrinks 27 = .ok (.aload_n 0, 1) := by decide +kernel
theorem dX10_isRowOfDrinks_28 : decode cX10_isRowOfDrinks 28 = .ok (.getfield 12, 3) := by decide +kernel
theorem dX10_isRowOfDrinks_31 : decode cX10_isRowOfDrinks 31 = .ok (.iload_n 1, 1) := by decide +kernel
theorem dX10_isRowOfDrinks_32 : decode cX10_isRowOfDrinks 32 = .ok (.invokevirtual 395, 3) := by decide +kernel
theorem dX10_isRowOfDrinks_35 : decode cX10_isRowOfDrinks 35 = .ok (.bipush 97, 2) := by decide +kernel
theorem dX10_isRowOfDrinks_37 : decode cX10_isRowOfDrinks 37 = .ok (.isub, 1) := by decide +kernel
theorem dX10_isRowOfDrinks_38 : decode cX10_isRowOfDrinks 38 = .ok (.istore_n 2, 1) := by decide +kernel
theorem dX10_isRowOfDrinks_39 : decode cX10_isRowOfDrinks 39 = .ok (.aload_n 0, 1) := by decide +kernel
theorem dX10_isRowOfDrinks_40 : decode cX10_isRowOfDrinks 40 = .ok (.getfield 12, 3) := by decide +kernel
theorem dX10_isRowOfDrinks_43 : decode cX10_isRowOfDrinks 43 = .ok (.iload_n 1, 1) := by decide +kernel
theorem dX10_isRowOfDrinks_44 : decode cX10_isRowOfDrinks 44 = .ok (.iconst 1, 1) := by decide +kernel
theorem dX10_isRowOfDrinks_45 : decode cX10_isRowOfDrinks 45 = .ok (.iadd, 1) := by decide +kernel
theorem dX10_isRowOfDrinks_46 : decode cX10_isRowOfDrinks 46 = .ok (.invokevirtual 395, 3) := by decide +kernel
theorem dX10_isRowOfDrinks_49 : decode cX10_isRowOfDrinks 49 = .ok (.bipush 48, 2) := by decide +kernel
theorem dX10_isRowOfDrinks_51 : decode cX10_isRowOfDrinks 51 = .ok (.isub, 1) := by decide +kernel
theorem dX10_isRowOfDrinks_52 : decode cX10_isRowOfDrinks 52 = .ok (.istore_n 3, 1) := by decide +kernel
theorem dX10_isRowOfDrinks_53 : decode cX10_isRowOfDrinks 53 = .ok (.iload_n 2, 1) := by decide +kernel
theorem dX10_isRowOfDrinks_54 : decode cX10_isRowOfDrinks 54 = .ok (.ifCond .lt 24, 3) := by decide +kernel
theorem dX10_isRowOfDrinks_57 : decode cX10_isRowOfDrinks 57 = .ok (.iload_n 2, 1) := by decide +kernel
theorem dX10_isRowOfDrinks_58 : decode cX10_isRowOfDrinks 58 = .ok (.aload_n 0, 1) := by decide +kernel
theorem dX10_isRowOfDrinks_59 : decode cX10_isRowOfDrinks 59 = .ok (.getfield 42, 3) := by decide +kernel
theorem dX10_isRowOfDrinks_62 : decode cX10_isRowOfDrinks 62 = .ok (.getfield 76, 3) := by decide +kernel
theorem dX10_isRowOfDrinks_65 : decode cX10_isRowOfDrinks 65 = .ok (.if_icmp .ge 13, 3) := by decide +kernel
theorem dX10_isRowOfDrinks_68 : decode cX10_isRowOfDrinks 68 = .ok (.iload_n 3, 1) := by decide +kernel
theorem dX10_isRowOfDrinks_69 : decode cX10_isRowOfDrinks 69 = .ok (.ifCond .lt 9, 3) := by decide +kernel
theorem dX10_isRowOfDrinks_72 : decode cX10_isRowOfDrinks 72 = .ok (.iload_n 3, 1) := by decide +kernel
theorem dX10_isRowOfDrinks_73 : decode cX10_isRowOfDrinks 73 = .ok (.bipush 30, 2) := by decide +kernel
theorem dX10_isRowOfDrinks_75 : decode cX10_isRowOfDrinks 75 = .ok (.if_icmp .lt 5, 3) := by decide +kernel
theorem dX10_isRowOfDrinks_78 : decode cX10_isRowOfDrinks 78 = .ok (.iconst 0, 1) := by decide +kernel
theorem dX10_isRowOfDrinks_79 : decode cX10_isRowOfDrinks 79 = .ok (.ireturn, 1) := by decide +kernel
theorem dX10_isRowOfDrinks_80 : decode cX10_isRowOfDrinks 80 = .ok (.iinc 1 2, 3) := by decide +kernel
theorem dX10_isRowOfDrinks_83 : decode cX10_isRowOfDrinks 83 = .ok (.goto (-67), 3) := by decide +kernel
theorem dX10_isRowOfDrinks_86 : decode cX10_isRowOfDrinks 86 = .ok (.iconst 1, 1) := by decide +kernel
theorem dX10_isRowOfDrinks_87 : decode cX10_isRowOfDrinks 87 = .ok (.ireturn, 1) := by decide +kernel
theorem dX10_firstUnlawful_0 : decode cX10_firstUnlawful 0 = .ok (.aload_n 0, 1) := by decide +kernel
theorem dX10_firstUnlawful_1 : decode cX10_firstUnlawful 1 = .ok (.getfield 46, 3) := by decide +kernel
theorem dX10_firstUnlawful_4 : decode cX10_firstUnlawful 4 = .ok (.aload_n 0, 1) := by decide +kernel
theorem dX10_firstUnlawful_5 : decode cX10_firstUnlawful 5 = .ok (.getfield 42, 3) := by decide +kernel
theorem dX10_firstUnlawful_8 : decode cX10_firstUnlawful 8 = .ok (.invokevirtual 219, 3) := by decide +kernel
theorem dX10_firstUnlawful_11 : decode cX10_firstUnlawful 11 = .ok (.iconst 0, 1) := by decide +kernel
theorem dX10_firstUnlawful_12 : decode cX10_firstUnlawful 12 = .ok (.istore_n 1, 1) := by decide +kernel
theorem dX10_firstUnlawful_13 : decode cX10_firstUnlawful 13 = .ok (.iload_n 1, 1) := by decide +kernel
theorem dX10_firstUnlawful_14 : decode cX10_firstUnlawful 14 = .ok (.aload_n 0, 1) := by decide +kernel
theorem dX10_firstUnlawful_15 : decode cX10_firstUnlawful 15 = .ok (.getfield 12, 3) := by decide +kernel
theorem dX10_firstUnlawful_18 : decode cX10_firstUnlawful 18 = .ok (.getfield 66, 3) := by decide +kernel
theorem dX10_firstUnlawful_21 : decode cX10_firstUnlawful 21 = .ok (.if_icmp .ge 51, 3) := by decide +kernel
theorem dX10_firstUnlawful_24 : decode cX10_firstUnlawful 24 = .ok (.aload_n 0, 1) := by decide +kernel
theorem dX10_firstUnlawful_25 : decode cX10_firstUnlawful 25 = .ok (.getfield 12, 3) := by decide +kernel
theorem dX10_firstUnlawful_28 : decode cX10_firstUnlawful 28 = .ok (.iload_n 1, 1) := by decide +kernel
theorem dX10_firstUnlawful_29 : decode cX10_firstUnlawful 29 = .ok (.invokevirtual 395, 3) := by decide +kernel
theorem dX10_firstUnlawful_32 : decode cX10_firstUnlawful 32 = .ok (.bipush 97, 2) := by decide +kernel
theorem dX10_firstUnlawful_34 : decode cX10_firstUnlawful 34 = .ok (.isub, 1) := by decide +kernel
theorem dX10_firstUnlawful_35 : decode cX10_firstUnlawful 35 = .ok (.istore_n 2, 1) := by decide +kernel
theorem dX10_firstUnlawful_36 : decode cX10_firstUnlawful 36 = .ok (.aload_n 0, 1) := by decide +kernel
theorem dX10_firstUnlawful_37 : decode cX10_firstUnlawful 37 = .ok (.getfield 12, 3) := by decide +kernel
theorem dX10_firstUnlawful_40 : decode cX10_firstUnlawful 40 = .ok (.iload_n 1, 1) := by decide +kernel
theorem dX10_firstUnlawful_41 : decode cX10_firstUnlawful 41 = .ok (.iconst 1, 1) := by decide +kernel
theorem dX10_firstUnlawful_42 : decode cX10_firstUnlawful 42 = .ok (.iadd, 1) := by decide +kernel
theorem dX10_firstUnlawful_43 : decode cX10_firstUnlawful 43 = .ok (.invokevirtual 395, 3) := by decide +kernel
theorem dX10_firstUnlawful_46 : decode cX10_firstUnlawful 46 = .ok (.bipush 48, 2) := by decide +kernel
theorem dX10_firstUnlawful_48 : decode cX10_firstUnlawful 48 = .ok (.isub, 1) := by decide +kernel
theorem dX10_firstUnlawful_49 : decode cX10_firstUnlawful 49 = .ok (.istore_n 3, 1) := by decide +kernel
theorem dX10_firstUnlawful_50 : decode cX10_firstUnlawful 50 = .ok (.aload_n 0, 1) := by decide +kernel
theorem dX10_firstUnlawful_51 : decode cX10_firstUnlawful 51 = .ok (.getfield 46, 3) := by decide +kernel
theorem dX10_firstUnlawful_54 : decode cX10_firstUnlawful 54 = .ok (.iload_n 2, 1) := by decide +kernel
theorem dX10_firstUnlawful_55 : decode cX10_firstUnlawful 55 = .ok (.iload_n 3, 1) := by decide +kernel
theorem dX10_firstUnlawful_56 : decode cX10_firstUnlawful 56 = .ok (.invokevirtual 398, 3) := by decide +kernel
theorem dX10_firstUnlawful_59 : decode cX10_firstUnlawful 59 = .ok (.ifCond .ne 7, 3) := by decide +kernel
theorem dX10_firstUnlawful_62 : decode cX10_firstUnlawful 62 = .ok (.iload_n 1, 1) := by decide +kernel
theorem dX10_firstUnlawful_63 : decode cX10_firstUnlawful 63 = .ok (.iconst 2, 1) := by decide +kernel
theorem dX10_firstUnlawful_64 : decode cX10_firstUnlawful 64 = .ok (.idiv, 1) := by decide +kernel
theorem dX10_firstUnlawful_65 : decode cX10_firstUnlawful 65 = .ok (.ireturn, 1) := by decide +kernel
theorem dX10_firstUnlawful_66 : decode cX10_firstUnlawful 66 = .ok (.iinc 1 2, 3) := by decide +kernel
theorem dX10_firstUnlawful_69 : decode cX10_firstUnlawful 69 = .ok (.goto (-56), 3) := by decide +kernel
theorem dX10_firstUnlawful_72 : decode cX10_firstUnlawful 72 = .ok (.iconst (-1), 1) := by decide +kernel
theorem dX10_firstUnlawful_73 : decode cX10_firstUnlawful 73 = .ok (.ireturn, 1) := by decide +kernel
theorem dX10_pairOfLevels_0 : decode cX10_pairOfLevels 0 = .ok (.iconst (-1), 1) := by decide +kernel
theorem dX10_pairOfLevels_1 : decode cX10_pairOfLevels 1 = .ok (.istore_n 1, 1) := by decide +kernel
theorem dX10_pairOfLevels_2 : decode cX10_pairOfLevels 2 = .ok (.iconst (-1), 1) := by decide +kernel
theorem dX10_pairOfLevels_3 : decode cX10_pairOfLevels 3 = .ok (.istore_n 2, 1) := by decide +kernel
theorem dX10_pairOfLevels_4 : decode cX10_pairOfLevels 4 = .ok (.iconst 0, 1) := by decide +kernel
theorem dX10_pairOfLevels_5 : decode cX10_pairOfLevels 5 = .ok (.istore_n 3, 1) := by decide +kernel
theorem dX10_pairOfLevels_6 : decode cX10_pairOfLevels 6 = .ok (.iconst 0, 1) := by decide +kernel
theorem dX10_pairOfLevels_7 : decode cX10_pairOfLevels 7 = .ok (.istore 4, 2) := by decide +kernel
theorem dX10_pairOfLevels_9 : decode cX10_pairOfLevels 9 = .ok (.iload 4, 2) := by decide +kernel
theorem dX10_pairOfLevels_11 : decode cX10_pairOfLevels 11 = .ok (.aload_n 0, 1) := by decide +kernel
theorem dX10_pairOfLevels_12 : decode cX10_pairOfLevels 12 = .ok (.getfield 42, 3) := by decide +kernel
theorem dX10_pairOfLevels_15 : decode cX10_pairOfLevels 15 = .ok (.getfield 73, 3) := by decide +kernel
theorem dX10_pairOfLevels_18 : decode cX10_pairOfLevels 18 = .ok (.if_icmp .ge 116, 3) := by decide +kernel
theorem dX10_pairOfLevels_21 : decode cX10_pairOfLevels 21 = .ok (.aload_n 0, 1) := by decide +kernel
theorem dX10_pairOfLevels_22 : decode cX10_pairOfLevels 22 = .ok (.getfield 42, 3) := by decide +kernel
theorem dX10_pairOfLevels_25 : decode cX10_pairOfLevels 25 = .ok (.getfield 126, 3) := by decide +kernel
theorem dX10_pairOfLevels_28 : decode cX10_pairOfLevels 28 = .ok (.iload 4, 2) := by decide +kernel
theorem dX10_pairOfLevels_30 : decode cX10_pairOfLevels 30 = .ok (.aaload, 1) := by decide +kernel
theorem dX10_pairOfLevels_31 : decode cX10_pairOfLevels 31 = .ok (.astore 5, 2) := by decide +kernel
theorem dX10_pairOfLevels_33 : decode cX10_pairOfLevels 33 = .ok (.aload 5, 2) := by decide +kernel
theorem dX10_pairOfLevels_35 : decode cX10_pairOfLevels 35 = .ok (.getfield 135, 3) := by decide +kernel
theorem dX10_pairOfLevels_38 : decode cX10_pairOfLevels 38 = .ok (.iconst 3, 1) := by decide +kernel
theorem dX10_pairOfLevels_39 : decode cX10_pairOfLevels 39 = .ok (.if_icmp .ne 15, 3) := by decide +kernel
theorem dX10_pairOfLevels_42 : decode cX10_pairOfLevels 42 = .ok (.aload 5, 2) := by decide +kernel
theorem dX10_pairOfLevels_44 : decode cX10_pairOfLevels 44 = .ok (.getfield 148, 3) := by decide +kernel
theorem dX10_pairOfLevels_47 : decode cX10_pairOfLevels 47 = .ok (.ifCond .le 7, 3) := by decide +kernel
theorem dX10_pairOfLevels_50 : decode cX10_pairOfLevels 50 = .ok (.iconst 1, 1) := by decide +kernel
theorem dX10_pairOfLevels_51 : decode cX10_pairOfLevels 51 = .ok (.goto 4, 3) := by decide +kernel
theorem dX10_pairOfLevels_54 : decode cX10_pairOfLevels 54 = .ok (.iconst 0, 1) := by decide +kernel
theorem dX10_pairOfLevels_55 : decode cX10_pairOfLevels 55 = .ok (.istore 6, 2) := by decide +kernel
theorem dX10_pairOfLevels_57 : decode cX10_pairOfLevels 57 = .ok (.aload_n 0, 1) := by decide +kernel
theorem dX10_pairOfLevels_58 : decode cX10_pairOfLevels 58 = .ok (.getfield 12, 3) := by decide +kernel
theorem dX10_pairOfLevels_61 : decode cX10_pairOfLevels 61 = .ok (.iload 4, 2) := by decide +kernel
theorem dX10_pairOfLevels_63 : decode cX10_pairOfLevels 63 = .ok (.invokevirtual 395, 3) := by decide +kernel
theorem dX10_pairOfLevels_66 : decode cX10_pairOfLevels 66 = .ok (.aload 5, 2) := by decide +kernel
theorem dX10_pairOfLevels_68 : decode cX10_pairOfLevels 68 = .ok (.getfield 148, 3) := by decide +kernel
theorem dX10_pairOfLevels_71 : decode cX10_pairOfLevels 71 = .ok (.iload 6, 2) := by decide +kernel
theorem dX10_pairOfLevels_73 : decode cX10_pairOfLevels 73 = .ok (.isub, 1) := by decide +kernel
theorem dX10_pairOfLevels_74 : decode cX10_pairOfLevels 74 = .ok (.isub, 1) := by decide +kernel
theorem dX10_pairOfLevels_75 : decode cX10_pairOfLevels 75 = .ok (.istore 7, 2) := by decide +kernel
theorem dX10_pairOfLevels_77 : decode cX10_pairOfLevels 77 = .ok (.iload 7, 2) := by decide +kernel
theorem dX10_pairOfLevels_79 : decode cX10_pairOfLevels 79 = .ok (.ifCond .ge 8, 3) := by decide +kernel
theorem dX10_pairOfLevels_82 : decode cX10_pairOfLevels 82 = .ok (.iload_n 1, 1) := by decide +kernel
theorem dX10_pairOfLevels_83 : decode cX10_pairOfLevels 83 = .ok (.iconst (-1), 1) := by decide +kernel
theorem dX10_pairOfLevels_84 : decode cX10_pairOfLevels 84 = .ok (.if_icmp .ne 13, 3) := by decide +kernel
theorem dX10_pairOfLevels_87 : decode cX10_pairOfLevels 87 = .ok (.iload 7, 2) := by decide +kernel
theorem dX10_pairOfLevels_89 : decode cX10_pairOfLevels 89 = .ok (.ifCond .le 10, 3) := by decide +kernel
theorem dX10_pairOfLevels_92 : decode cX10_pairOfLevels 92 = .ok (.iload_n 2, 1) := by decide +kernel
theorem dX10_pairOfLevels_93 : decode cX10_pairOfLevels 93 = .ok (.iconst (-1), 1) := by decide +kernel
theorem dX10_pairOfLevels_94 : decode cX10_pairOfLevels 94 = .ok (.if_icmp .eq 5, 3) := by decide +kernel
theorem dX10_pairOfLevels_97 : decode cX10_pairOfLevels 97 = .ok (.iconst (-1), 1) := by decide +kernel
theorem dX10_pairOfLevels_98 : decode cX10_pairOfLevels 98 = .ok (.ireturn, 1) := by decide +kernel
theorem dX10_pairOfLevels_99 : decode cX10_pairOfLevels 99 = .ok (.iload 7, 2) := by decide +kernel
theorem dX10_pairOfLevels_101 : decode cX10_pairOfLevels 101 = .ok (.ifCond .ge 8, 3) := by decide +kernel
theorem dX10_pairOfLevels_104 : decode cX10_pairOfLevels 104 = .ok (.iload 4, 2) := by decide +kernel
theorem dX10_pairOfLevels_106 : decode cX10_pairOfLevels 106 = .ok (.goto 4, 3) := by decide +kernel
theorem dX10_pairOfLevels_109 : decode cX10_pairOfLevels 109 = .ok (.iload_n 1, 1) := by decide +kernel
theorem dX10_pairOfLevels_110 : decode cX10_pairOfLevels 110 = .ok (.istore_n 1, 1) := by decide +kernel
theorem dX10_pairOfLevels_111 : decode cX10_pairOfLevels 111 = .ok (.iload 7, 2) := by decide +kernel
theorem dX10_pairOfLevels_113 : decode cX10_pairOfLevels 113 = .ok (.ifCond .le 8, 3) := by decide +kernel
theorem dX10_pairOfLevels_116 : decode cX10_pairOfLevels 116 = .ok (.iload 4, 2) := by decide +kernel
theorem dX10_pairOfLevels_118 : decode cX10_pairOfLevels 118 = .ok (.goto 4, 3) := by decide +kernel
theorem dX10_pairOfLevels_121 : decode cX10_pairOfLevels 121 = .ok (.iload_n 2, 1) := by decide +kernel
theorem dX10_pairOfLevels_122 : decode cX10_pairOfLevels 122 = .ok (.istore_n 2, 1) := by decide +kernel
theorem dX10_pairOfLevels_123 : decode cX10_pairOfLevels 123 = .ok (.iload_n 3, 1) := by decide +kernel
theorem dX10_pairOfLevels_124 : decode cX10_pairOfLevels 124 = .ok (.iload 7, 2) := by decide +kernel
theorem dX10_pairOfLevels_126 : decode cX10_pairOfLevels 126 = .ok (.iadd, 1) := by decide +kernel
theorem dX10_pairOfLevels_127 : decode cX10_pairOfLevels 127 = .ok (.istore_n 3, 1) := by decide +kernel
theorem dX10_pairOfLevels_128 : decode cX10_pairOfLevels 128 = .ok (.iinc 4 1, 3) := by decide +kernel
theorem dX10_pairOfLevels_131 : decode cX10_pairOfLevels 131 = .ok (.goto (-122), 3) := by decide +kernel
theorem dX10_pairOfLevels_134 : decode cX10_pairOfLevels 134 = .ok (.iload_n 1, 1) := by decide +kernel
theorem dX10_pairOfLevels_135 : decode cX10_pairOfLevels 135 = .ok (.iconst (-1), 1) := by decide +kernel
theorem dX10_pairOfLevels_136 : decode cX10_pairOfLevels 136 = .ok (.if_icmp .eq 12, 3) := by decide +kernel
theorem dX10_pairOfLevels_139 : decode cX10_pairOfLevels 139 = .ok (.iload_n 2, 1) := by decide +kernel
theorem dX10_pairOfLevels_140 : decode cX10_pairOfLevels 140 = .ok (.iconst (-1), 1) := by decide +kernel
theorem dX10_pairOfLevels_141 : decode cX10_pairOfLevels 141 = .ok (.if_icmp .eq 7, 3) := by decide +kernel
theorem dX10_pairOfLevels_144 : decode cX10_pairOfLevels 144 = .ok (.iload_n 3, 1) := by decide +kernel
theorem dX10_pairOfLevels_145 : decode cX10_pairOfLevels 145 = .ok (.ifCond .eq 7, 3) := by decide +kernel
theorem dX10_pairOfLevels_148 : decode cX10_pairOfLevels 148 = .ok (.iconst (-1), 1) := by decide +kernel
theorem dX10_pairOfLevels_149 : decode cX10_pairOfLevels 149 = .ok (.goto 9, 3) := by decide +kernel
theorem dX10_pairOfLevels_152 : decode cX10_pairOfLevels 152 = .ok (.bipush 8, 2) := by decide +kernel
theorem dX10_pairOfLevels_154 : decode cX10_pairOfLevels 154 = .ok (.iload_n 1, 1) := by decide +kernel
theorem dX10_pairOfLevels_155 : decode cX10_pairOfLevels 155 = .ok (.imul, 1) := by decide +kernel
theorem dX10_pairOfLevels_156 : decode cX10_pairOfLevels 156 = .ok (.iload_n 2, 1) := by decide +kernel
theorem dX10_pairOfLevels_157 : decode cX10_pairOfLevels 157 = .ok (.iadd, 1) := by decide +kernel
theorem dX10_pairOfLevels_158 : decode cX10_pairOfLevels 158 = .ok (.ireturn, 1) := by decide +kernel
theorem dX10_lostBySite_0 : decode cX10_lostBySite 0 = .ok (.aload_n 0, 1) := by decide +kernel
theorem dX10_lostBySite_1 : decode cX10_lostBySite 1 = .ok (.getfield 46, 3) := by decide +kernel
theorem dX10_lostBySite_4 : decode cX10_lostBySite 4 = .ok (.aload_n 0, 1) := by decide +kernel
theorem dX10_lostBySite_5 : decode cX10_lostBySite 5 = .ok (.getfield 42, 3) := by decide +kernel
theorem dX10_lostBySite_8 : decode cX10_lostBySite 8 = .ok (.invokevirtual 219, 3) := by decide +kernel
theorem dX10_lostBySite_11 : decode cX10_lostBySite 11 = .ok (.aload_n 0, 1) := by decide +kernel
theorem dX10_lostBySite_12 : decode cX10_lostBySite 12 = .ok (.getfield 46, 3) := by decide +kernel
theorem dX10_lostBySite_15 : decode cX10_lostBySite 15 = .ok (.getfield 73, 3) := by decide +kernel
theorem dX10_lostBySite_18 : decode cX10_lostBySite 18 = .ok (.istore_n 3, 1) := by decide +kernel
theorem dX10_lostBySite_19 : decode cX10_lostBySite 19 = .ok (.aload_n 0, 1) := by decide +kernel
theorem dX10_lostBySite_20 : decode cX10_lostBySite 20 = .ok (.getfield 46, 3) := by decide +kernel
theorem dX10_lostBySite_23 : decode cX10_lostBySite 23 = .ok (.iload_n 2, 1) := by decide +kernel
theorem dX10_lostBySite_24 : decode cX10_lostBySite 24 = .ok (.iconst 0, 1) := by decide +kernel
theorem dX10_lostBySite_25 : decode cX10_lostBySite 25 = .ok (.invokevirtual 402, 3) := by decide +kernel
theorem dX10_lostBySite_28 : decode cX10_lostBySite 28 = .ok (.iload_n 1, 1) := by decide +kernel
theorem dX10_lostBySite_29 : decode cX10_lostBySite 29 = .ok (.ifCond .lt 21, 3) := by decide +kernel
theorem dX10_lostBySite_32 : decode cX10_lostBySite 32 = .ok (.iload_n 1, 1) := by decide +kernel
theorem dX10_lostBySite_33 : decode cX10_lostBySite 33 = .ok (.iload_n 3, 1) := by decide +kernel
theorem dX10_lostBySite_34 : decode cX10_lostBySite 34 = .ok (.if_icmp .ge 16, 3) := by decide +kernel
theorem dX10_lostBySite_37 : decode cX10_lostBySite 37 = .ok (.aload_n 0, 1) := by decide +kernel
theorem dX10_lostBySite_38 : decode cX10_lostBySite 38 = .ok (.getfield 46, 3) := by decide +kernel
theorem dX10_lostBySite_41 : decode cX10_lostBySite 41 = .ok (.getfield 126, 3) := by decide +kernel
theorem dX10_lostBySite_44 : decode cX10_lostBySite 44 = .ok (.iload_n 1, 1) := by decide +kernel
theorem dX10_lostBySite_45 : decode cX10_lostBySite 45 = .ok (.aaload, 1) := by decide +kernel
theorem dX10_lostBySite_46 : decode cX10_lostBySite 46 = .ok (.iload_n 3, 1) := by decide +kernel
theorem dX10_lostBySite_47 : decode cX10_lostBySite 47 = .ok (.putfield 145, 3) := by decide +kernel
theorem dX10_lostBySite_50 : decode cX10_lostBySite 50 = .ok (.aload_n 0, 1) := by decide +kernel
theorem dX10_lostBySite_51 : decode cX10_lostBySite 51 = .ok (.getfield 46, 3) := by decide +kernel
theorem dX10_lostBySite_54 : decode cX10_lostBySite 54 = .ok (.getfield 372, 3) := by decide +kernel
theorem dX10_lostBySite_57 : decode cX10_lostBySite 57 = .ok (.istore 4, 2) := by decide +kernel
theorem dX10_lostBySite_59 : decode cX10_lostBySite 59 = .ok (.iconst 0, 1) := by decide +kernel
theorem dX10_lostBySite_60 : decode cX10_lostBySite 60 = .ok (.istore 5, 2) := by decide +kernel
theorem dX10_lostBySite_62 : decode cX10_lostBySite 62 = .ok (.iload 5, 2) := by decide +kernel
theorem dX10_lostBySite_64 : decode cX10_lostBySite 64 = .ok (.bipush 12, 2) := by decide +kernel
theorem dX10_lostBySite_66 : decode cX10_lostBySite 66 = .ok (.if_icmp .ge 16, 3) := by decide +kernel
theorem dX10_lostBySite_69 : decode cX10_lostBySite 69 = .ok (.aload_n 0, 1) := by decide +kernel
theorem dX10_lostBySite_70 : decode cX10_lostBySite 70 = .ok (.getfield 46, 3) := by decide +kernel
theorem dX10_lostBySite_73 : decode cX10_lostBySite 73 = .ok (.invokevirtual 345, 3) := by decide +kernel
theorem dX10_lostBySite_76 : decode cX10_lostBySite 76 = .ok (.iinc 5 1, 3) := by decide +kernel
theorem dX10_lostBySite_79 : decode cX10_lostBySite 79 = .ok (.goto (-17), 3) := by decide +kernel
theorem dX10_lostBySite_82 : decode cX10_lostBySite 82 = .ok (.aload_n 0, 1) := by decide +kernel
theorem dX10_lostBySite_83 : decode cX10_lostBySite 83 = .ok (.getfield 46, 3) := by decide +kernel
theorem dX10_lostBySite_86 : decode cX10_lostBySite 86 = .ok (.getfield 372, 3) := by decide +kernel
theorem dX10_lostBySite_89 : decode cX10_lostBySite 89 = .ok (.iload 4, 2) := by decide +kernel
theorem dX10_lostBySite_91 : decode cX10_lostBySite 91 = .ok (.isub, 1) := by decide +kernel
theorem dX10_lostBySite_92 : decode cX10_lostBySite 92 = .ok (.ireturn, 1) := by decide +kernel
theorem dX10_leastYears_0 : decode cX10_leastYears 0 = .ok (.iload_n 2, 1) := by decide +kernel
theorem dX10_leastYears_1 : decode cX10_leastYears 1 = .ok (.iconst 1, 1) := by decide +kernel
theorem dX10_leastYears_2 : decode cX10_leastYears 2 = .ok (.if_icmp .lt 9, 3) := by decide +kernel
theorem dX10_leastYears_5 : decode cX10_leastYears 5 = .ok (.iload_n 3, 1) := by decide +kernel
theorem dX10_leastYears_6 : decode cX10_leastYears 6 = .ok (.aload_n 0, 1) := by decide +kernel
theorem dX10_leastYears_7 : decode cX10_leastYears 7 = .ok (.arraylength, 1) := by decide +kernel
theorem dX10_leastYears_8 : decode cX10_leastYears 8 = .ok (.if_icmp .le 5, 3) := by decide +kernel
theorem dX10_leastYears_11 : decode cX10_leastYears 11 = .ok (.iconst (-1), 1) := by decide +kernel
theorem dX10_leastYears_12 : decode cX10_leastYears 12 = .ok (.ireturn, 1) := by decide +kernel
theorem dX10_leastYears_13 : decode cX10_leastYears 13 = .ok (.iconst 0, 1) := by decide +kernel
theorem dX10_leastYears_14 : decode cX10_leastYears 14 = .ok (.istore 4, 2) := by decide +kernel
theorem dX10_leastYears_16 : decode cX10_leastYears 16 = .ok (.iload 4, 2) := by decide +kernel
theorem dX10_leastYears_18 : decode cX10_leastYears 18 = .ok (.iload_n 3, 1) := by decide +kernel
theorem dX10_leastYears_19 : decode cX10_leastYears 19 = .ok (.if_icmp .ge 70, 3) := by decide +kernel
theorem dX10_leastYears_22 : decode cX10_leastYears 22 = .ok (.iload_n 1, 1) := by decide +kernel
theorem dX10_leastYears_23 : decode cX10_leastYears 23 = .ok (.aload_n 0, 1) := by decide +kernel
theorem dX10_leastYears_24 : decode cX10_leastYears 24 = .ok (.iload 4, 2) := by decide +kernel
theorem dX10_leastYears_26 : decode cX10_leastYears 26 = .ok (.iaload, 1) := by decide +kernel
theorem dX10_leastYears_27 : decode cX10_leastYears 27 = .ok (.iconst (-1), 1) := by decide +kernel
theorem dX10_leastYears_28 : decode cX10_leastYears 28 = .ok (.ixor, 1) := by decide +kernel
theorem dX10_leastYears_29 : decode cX10_leastYears 29 = .ok (.iand, 1) := by decide +kernel
theorem dX10_leastYears_30 : decode cX10_leastYears 30 = .ok (.istore 5, 2) := by decide +kernel
theorem dX10_leastYears_32 : decode cX10_leastYears 32 = .ok (.iload_n 2, 1) := by decide +kernel
theorem dX10_leastYears_33 : decode cX10_leastYears 33 = .ok (.iconst 1, 1) := by decide +kernel
theorem dX10_leastYears_34 : decode cX10_leastYears 34 = .ok (.if_icmp .ne 13, 3) := by decide +kernel
theorem dX10_leastYears_37 : decode cX10_leastYears 37 = .ok (.iload 5, 2) := by decide +kernel
theorem dX10_leastYears_39 : decode cX10_leastYears 39 = .ok (.ifCond .ne 8, 3) := by decide +kernel
theorem dX10_leastYears_42 : decode cX10_leastYears 42 = .ok (.iconst 1, 1) := by decide +kernel
theorem dX10_leastYears_43 : decode cX10_leastYears 43 = .ok (.iload 4, 2) := by decide +kernel
theorem dX10_leastYears_45 : decode cX10_leastYears 45 = .ok (.ishl, 1) := by decide +kernel
theorem dX10_leastYears_46 : decode cX10_leastYears 46 = .ok (.ireturn, 1) := by decide +kernel
theorem dX10_leastYears_47 : decode cX10_leastYears 47 = .ok (.iload_n 2, 1) := by decide +kernel
theorem dX10_leastYears_48 : decode cX10_leastYears 48 = .ok (.iconst 1, 1) := by decide +kernel
theorem dX10_leastYears_49 : decode cX10_leastYears 49 = .ok (.if_icmp .ne 7, 3) := by decide +kernel
theorem dX10_leastYears_52 : decode cX10_leastYears 52 = .ok (.iconst (-1), 1) := by decide +kernel
theorem dX10_leastYears_53 : decode cX10_leastYears 53 = .ok (.goto 14, 3) := by decide +kernel
theorem dX10_leastYears_56 : decode cX10_leastYears 56 = .ok (.aload_n 0, 1) := by decide +kernel
theorem dX10_leastYears_57 : decode cX10_leastYears 57 = .ok (.iload 5, 2) := by decide +kernel
theorem dX10_leastYears_59 : decode cX10_leastYears 59 = .ok (.iload_n 2, 1) := by decide +kernel
theorem dX10_leastYears_60 : decode cX10_leastYears 60 = .ok (.iconst 1, 1) := by decide +kernel
theorem dX10_leastYears_61 : decode cX10_leastYears 61 = .ok (.isub, 1) := by decide +kernel
theorem dX10_leastYears_62 : decode cX10_leastYears 62 = .ok (.iload 4, 2) := by decide +kernel
theorem dX10_leastYears_64 : decode cX10_leastYears 64 = .ok (.invokestatic 285, 3) := by decide +kernel
theorem dX10_leastYears_67 : decode cX10_leastYears 67 = .ok (.istore 6, 2) := by decide +kernel
theorem dX10_leastYears_69 : decode cX10_leastYears 69 = .ok (.iload 6, 2) := by decide +kernel
theorem dX10_leastYears_71 : decode cX10_leastYears 71 = .ok (.iconst (-1), 1) := by decide +kernel
theorem dX10_leastYears_72 : decode cX10_leastYears 72 = .ok (.if_icmp .eq 11, 3) := by decide +kernel
theorem dX10_leastYears_75 : decode cX10_leastYears 75 = .ok (.iload 6, 2) := by decide +kernel
theorem dX10_leastYears_77 : decode cX10_leastYears 77 = .ok (.iconst 1, 1) := by decide +kernel
theorem dX10_leastYears_78 : decode cX10_leastYears 78 = .ok (.iload 4, 2) := by decide +kernel
theorem dX10_leastYears_80 : decode cX10_leastYears 80 = .ok (.ishl, 1) := by decide +kernel
theorem dX10_leastYears_81 : decode cX10_leastYears 81 = .ok (.ior, 1) := by decide +kernel
theorem dX10_leastYears_82 : decode cX10_leastYears 82 = .ok (.ireturn, 1) := by decide +kernel
theorem dX10_leastYears_83 : decode cX10_leastYears 83 = .ok (.iinc 4 1, 3) := by decide +kernel
theorem dX10_leastYears_86 : decode cX10_leastYears 86 = .ok (.goto (-70), 3) := by decide +kernel
theorem dX10_leastYears_89 : decode cX10_leastYears 89 = .ok (.iconst (-1), 1) := by decide +kernel
theorem dX10_leastYears_90 : decode cX10_leastYears 90 = .ok (.ireturn, 1) := by decide +kernel
theorem dX10_figuresOf_0 : decode cX10_figuresOf 0 = .ok (.iconst 0, 1) := by decide +kernel
theorem dX10_figuresOf_1 : decode cX10_figuresOf 1 = .ok (.istore_n 2, 1) := by decide +kernel
theorem dX10_figuresOf_2 : decode cX10_figuresOf 2 = .ok (.iconst 0, 1) := by decide +kernel
theorem dX10_figuresOf_3 : decode cX10_figuresOf 3 = .ok (.istore_n 3, 1) := by decide +kernel
theorem dX10_figuresOf_4 : decode cX10_figuresOf 4 = .ok (.iload_n 3, 1) := by decide +kernel
theorem dX10_figuresOf_5 : decode cX10_figuresOf 5 = .ok (.iload_n 1, 1) := by decide +kernel
theorem dX10_figuresOf_6 : decode cX10_figuresOf 6 = .ok (.if_icmp .ge 24, 3) := by decide +kernel
theorem dX10_figuresOf_9 : decode cX10_figuresOf 9 = .ok (.iload_n 3, 1) := by decide +kernel
theorem dX10_figuresOf_10 : decode cX10_figuresOf 10 = .ok (.aload_n 0, 1) := by decide +kernel
theorem dX10_figuresOf_11 : decode cX10_figuresOf 11 = .ok (.arraylength, 1) := by decide +kernel
theorem dX10_figuresOf_12 : decode cX10_figuresOf 12 = .ok (.if_icmp .ge 18, 3) := by decide +kernel
theorem dX10_figuresOf_15 : decode cX10_figuresOf 15 = .ok (.bipush 8, 2) := by decide +kernel
theorem dX10_figuresOf_17 : decode cX10_figuresOf 17 = .ok (.iload_n 2, 1) := by decide +kernel
theorem dX10_figuresOf_18 : decode cX10_figuresOf 18 = .ok (.imul, 1) := by decide +kernel
theorem dX10_figuresOf_19 : decode cX10_figuresOf 19 = .ok (.aload_n 0, 1) := by decide +kernel
theorem dX10_figuresOf_20 : decode cX10_figuresOf 20 = .ok (.iload_n 3, 1) := by decide +kernel
theorem dX10_figuresOf_21 : decode cX10_figuresOf 21 = .ok (.iaload, 1) := by decide +kernel
theorem dX10_figuresOf_22 : decode cX10_figuresOf 22 = .ok (.iadd, 1) := by decide +kernel
theorem dX10_figuresOf_23 : decode cX10_figuresOf 23 = .ok (.istore_n 2, 1) := by decide +kernel
theorem dX10_figuresOf_24 : decode cX10_figuresOf 24 = .ok (.iinc 3 1, 3) := by decide +kernel
theorem dX10_figuresOf_27 : decode cX10_figuresOf 27 = .ok (.goto (-23), 3) := by decide +kernel
theorem dX10_figuresOf_30 : decode cX10_figuresOf 30 = .ok (.iload_n 2, 1) := by decide +kernel
theorem dX10_figuresOf_31 : decode cX10_figuresOf 31 = .ok (.ireturn, 1) := by decide +kernel
theorem dX10_isTurnedOn_0 : decode cX10_isTurnedOn 0 = .ok (.iload_n 1, 1) := by decide +kernel
theorem dX10_isTurnedOn_1 : decode cX10_isTurnedOn 1 = .ok (.aload_n 0, 1) := by decide +kernel
theorem dX10_isTurnedOn_2 : decode cX10_isTurnedOn 2 = .ok (.arraylength, 1) := by decide +kernel
theorem dX10_isTurnedOn_3 : decode cX10_isTurnedOn 3 = .ok (.if_icmp .le 5, 3) := by decide +kernel
theorem dX10_isTurnedOn_6 : decode cX10_isTurnedOn 6 = .ok (.iconst 0, 1) := by decide +kernel
theorem dX10_isTurnedOn_7 : decode cX10_isTurnedOn 7 = .ok (.ireturn, 1) := by decide +kernel
theorem dX10_isTurnedOn_8 : decode cX10_isTurnedOn 8 = .ok (.iload_n 1, 1) := by decide +kernel
theorem dX10_isTurnedOn_9 : decode cX10_isTurnedOn 9 = .ok (.iconst 2, 1) := by decide +kernel
theorem dX10_isTurnedOn_10 : decode cX10_isTurnedOn 10 = .ok (.isub, 1) := by decide +kernel
theorem dX10_isTurnedOn_11 : decode cX10_isTurnedOn 11 = .ok (.istore_n 2, 1) := by decide +kernel
theorem dX10_isTurnedOn_12 : decode cX10_isTurnedOn 12 = .ok (.iload_n 2, 1) := by decide +kernel
theorem dX10_isTurnedOn_13 : decode cX10_isTurnedOn 13 = .ok (.ifCond .lt 20, 3) := by decide +kernel
theorem dX10_isTurnedOn_16 : decode cX10_isTurnedOn 16 = .ok (.aload_n 0, 1) := by decide +kernel
theorem dX10_isTurnedOn_17 : decode cX10_isTurnedOn 17 = .ok (.iload_n 2, 1) := by decide +kernel
theorem dX10_isTurnedOn_18 : decode cX10_isTurnedOn 18 = .ok (.iaload, 1) := by decide +kernel
theorem dX10_isTurnedOn_19 : decode cX10_isTurnedOn 19 = .ok (.aload_n 0, 1) := by decide +kernel
theorem dX10_isTurnedOn_20 : decode cX10_isTurnedOn 20 = .ok (.iload_n 2, 1) := by decide +kernel
theorem dX10_isTurnedOn_21 : decode cX10_isTurnedOn 21 = .ok (.iconst 1, 1) := by decide +kernel
theorem dX10_isTurnedOn_22 : decode cX10_isTurnedOn 22 = .ok (.iadd, 1) := by decide +kernel
theorem dX10_isTurnedOn_23 : decode cX10_isTurnedOn 23 = .ok (.iaload, 1) := by decide +kernel
theorem dX10_isTurnedOn_24 : decode cX10_isTurnedOn 24 = .ok (.if_icmp .le 9, 3) := by decide +kernel
theorem dX10_isTurnedOn_27 : decode cX10_isTurnedOn 27 = .ok (.iinc 2 (-1), 3) := by decide +kernel
theorem dX10_isTurnedOn_30 : decode cX10_isTurnedOn 30 = .ok (.goto (-18), 3) := by decide +kernel
theorem dX10_isTurnedOn_33 : decode cX10_isTurnedOn 33 = .ok (.iload_n 2, 1) := by decide +kernel
theorem dX10_isTurnedOn_34 : decode cX10_isTurnedOn 34 = .ok (.ifCond .ge 5, 3) := by decide +kernel
theorem dX10_isTurnedOn_37 : decode cX10_isTurnedOn 37 = .ok (.iconst 0, 1) := by decide +kernel
theorem dX10_isTurnedOn_38 : decode cX10_isTurnedOn 38 = .ok (.ireturn, 1) := by decide +kernel
theorem dX10_isTurnedOn_39 : decode cX10_isTurnedOn 39 = .ok (.iload_n 1, 1) := by decide +kernel
theorem dX10_isTurnedOn_40 : decode cX10_isTurnedOn 40 = .ok (.iconst 1, 1) := by decide +kernel
theorem dX10_isTurnedOn_41 : decode cX10_isTurnedOn 41 = .ok (.isub, 1) := by decide +kernel
theorem dX10_isTurnedOn_42 : decode cX10_isTurnedOn 42 = .ok (.istore_n 3, 1) := by decide +kernel
theorem dX10_isTurnedOn_43 : decode cX10_isTurnedOn 43 = .ok (.iload_n 3, 1) := by decide +kernel
theorem dX10_isTurnedOn_44 : decode cX10_isTurnedOn 44 = .ok (.iload_n 2, 1) := by decide +kernel
theorem dX10_isTurnedOn_45 : decode cX10_isTurnedOn 45 = .ok (.iconst 1, 1) := by decide +kernel
theorem dX10_isTurnedOn_46 : decode cX10_isTurnedOn 46 = .ok (.iadd, 1) := by decide +kernel
theorem dX10_isTurnedOn_47 : decode cX10_isTurnedOn 47 = .ok (.if_icmp .le 18, 3) := by decide +kernel
theorem dX10_isTurnedOn_50 : decode cX10_isTurnedOn 50 = .ok (.aload_n 0, 1) := by decide +kernel
theorem dX10_isTurnedOn_51 : decode cX10_isTurnedOn 51 = .ok (.iload_n 3, 1) := by decide +kernel
theorem dX10_isTurnedOn_52 : decode cX10_isTurnedOn 52 = .ok (.iaload, 1) := by decide +kernel
theorem dX10_isTurnedOn_53 : decode cX10_isTurnedOn 53 = .ok (.aload_n 0, 1) := by decide +kernel
theorem dX10_isTurnedOn_54 : decode cX10_isTurnedOn 54 = .ok (.iload_n 2, 1) := by decide +kernel
theorem dX10_isTurnedOn_55 : decode cX10_isTurnedOn 55 = .ok (.iaload, 1) := by decide +kernel
theorem dX10_isTurnedOn_56 : decode cX10_isTurnedOn 56 = .ok (.if_icmp .ge 9, 3) := by decide +kernel
theorem dX10_isTurnedOn_59 : decode cX10_isTurnedOn 59 = .ok (.iinc 3 (-1), 3) := by decide +kernel
theorem dX10_isTurnedOn_62 : decode cX10_isTurnedOn 62 = .ok (.goto (-19), 3) := by decide +kernel
theorem dX10_isTurnedOn_65 : decode cX10_isTurnedOn 65 = .ok (.aload_n 0, 1) := by decide +kernel
theorem dX10_isTurnedOn_66 : decode cX10_isTurnedOn 66 = .ok (.iload_n 2, 1) := by decide +kernel
theorem dX10_isTurnedOn_67 : decode cX10_isTurnedOn 67 = .ok (.iload_n 3, 1) := by decide +kernel
theorem dX10_isTurnedOn_68 : decode cX10_isTurnedOn 68 = .ok (.invokestatic 405, 3) := by decide +kernel
theorem dX10_isTurnedOn_71 : decode cX10_isTurnedOn 71 = .ok (.iload_n 2, 1) := by decide +kernel
theorem dX10_isTurnedOn_72 : decode cX10_isTurnedOn 72 = .ok (.iconst 1, 1) := by decide +kernel
theorem dX10_isTurnedOn_73 : decode cX10_isTurnedOn 73 = .ok (.iadd, 1) := by decide +kernel
theorem dX10_isTurnedOn_74 : decode cX10_isTurnedOn 74 = .ok (.istore 4, 2) := by decide +kernel
theorem dX10_isTurnedOn_76 : decode cX10_isTurnedOn 76 = .ok (.iload_n 1, 1) := by decide +kernel
theorem dX10_isTurnedOn_77 : decode cX10_isTurnedOn 77 = .ok (.iconst 1, 1) := by decide +kernel
theorem dX10_isTurnedOn_78 : decode cX10_isTurnedOn 78 = .ok (.isub, 1) := by decide +kernel
theorem dX10_isTurnedOn_79 : decode cX10_isTurnedOn 79 = .ok (.istore 5, 2) := by decide +kernel
theorem dX10_isTurnedOn_81 : decode cX10_isTurnedOn 81 = .ok (.iload 4, 2) := by decide +kernel
theorem dX10_isTurnedOn_83 : decode cX10_isTurnedOn 83 = .ok (.iload 5, 2) := by decide +kernel
theorem dX10_isTurnedOn_85 : decode cX10_isTurnedOn 85 = .ok (.if_icmp .ge 20, 3) := by decide +kernel
theorem dX10_isTurnedOn_88 : decode cX10_isTurnedOn 88 = .ok (.aload_n 0, 1) := by decide +kernel
theorem dX10_isTurnedOn_89 : decode cX10_isTurnedOn 89 = .ok (.iload 4, 2) := by decide +kernel
theorem dX10_isTurnedOn_91 : decode cX10_isTurnedOn 91 = .ok (.iload 5, 2) := by decide +kernel
theorem dX10_isTurnedOn_93 : decode cX10_isTurnedOn 93 = .ok (.invokestatic 405, 3) := by decide +kernel
theorem dX10_isTurnedOn_96 : decode cX10_isTurnedOn 96 = .ok (.iinc 4 1, 3) := by decide +kernel
theorem dX10_isTurnedOn_99 : decode cX10_isTurnedOn 99 = .ok (.iinc 5 (-1), 3) := by decide +kernel
theorem dX10_isTurnedOn_102 : decode cX10_isTurnedOn 102 = .ok (.goto (-21), 3) := by decide +kernel
theorem dX10_isTurnedOn_105 : decode cX10_isTurnedOn 105 = .ok (.iconst 1, 1) := by decide +kernel
theorem dX10_isTurnedOn_106 : decode cX10_isTurnedOn 106 = .ok (.ireturn, 1) := by decide +kernel
theorem dX10_exchange_0 : decode cX10_exchange 0 = .ok (.iload_n 1, 1) := by decide +kernel
theorem dX10_exchange_1 : decode cX10_exchange 1 = .ok (.ifCond .lt 33, 3) := by decide +kernel
theorem dX10_exchange_4 : decode cX10_exchange 4 = .ok (.iload_n 1, 1) := by decide +kernel
theorem dX10_exchange_5 : decode cX10_exchange 5 = .ok (.aload_n 0, 1) := by decide +kernel
theorem dX10_exchange_6 : decode cX10_exchange 6 = .ok (.arraylength, 1) := by decide +kernel
theorem dX10_exchange_7 : decode cX10_exchange 7 = .ok (.if_icmp .ge 27, 3) := by decide +kernel
theorem dX10_exchange_10 : decode cX10_exchange 10 = .ok (.iload_n 2, 1) := by decide +kernel
theorem dX10_exchange_11 : decode cX10_exchange 11 = .ok (.ifCond .lt 23, 3) := by decide +kernel
theorem dX10_exchange_14 : decode cX10_exchange 14 = .ok (.iload_n 2, 1) := by decide +kernel
theorem dX10_exchange_15 : decode cX10_exchange 15 = .ok (.aload_n 0, 1) := by decide +kernel
theorem dX10_exchange_16 : decode cX10_exchange 16 = .ok (.arraylength, 1) := by decide +kernel
theorem dX10_exchange_17 : decode cX10_exchange 17 = .ok (.if_icmp .ge 17, 3) := by decide +kernel
theorem dX10_exchange_20 : decode cX10_exchange 20 = .ok (.aload_n 0, 1) := by decide +kernel
theorem dX10_exchange_21 : decode cX10_exchange 21 = .ok (.iload_n 1, 1) := by decide +kernel
theorem dX10_exchange_22 : decode cX10_exchange 22 = .ok (.iaload, 1) := by decide +kernel
theorem dX10_exchange_23 : decode cX10_exchange 23 = .ok (.istore_n 3, 1) := by decide +kernel
theorem dX10_exchange_24 : decode cX10_exchange 24 = .ok (.aload_n 0, 1) := by decide +kernel
theorem dX10_exchange_25 : decode cX10_exchange 25 = .ok (.iload_n 1, 1) := by decide +kernel
theorem dX10_exchange_26 : decode cX10_exchange 26 = .ok (.aload_n 0, 1) := by decide +kernel
theorem dX10_exchange_27 : decode cX10_exchange 27 = .ok (.iload_n 2, 1) := by decide +kernel
theorem dX10_exchange_28 : decode cX10_exchange 28 = .ok (.iaload, 1) := by decide +kernel
theorem dX10_exchange_29 : decode cX10_exchange 29 = .ok (.iastore, 1) := by decide +kernel
theorem dX10_exchange_30 : decode cX10_exchange 30 = .ok (.aload_n 0, 1) := by decide +kernel
theorem dX10_exchange_31 : decode cX10_exchange 31 = .ok (.iload_n 2, 1) := by decide +kernel
theorem dX10_exchange_32 : decode cX10_exchange 32 = .ok (.iload_n 3, 1) := by decide +kernel
theorem dX10_exchange_33 : decode cX10_exchange 33 = .ok (.iastore, 1) := by decide +kernel
theorem dX10_exchange_34 : decode cX10_exchange 34 = .ok (.return_, 1) := by decide +kernel
theorem dX11_thrown_0 : decode cX11_thrown 0 = .ok (.aload_n 0, 1) := by decide +kernel
theorem dX11_thrown_1 : decode cX11_thrown 1 = .ok (.getfield 3, 3) := by decide +kernel
theorem dX11_thrown_4 : decode cX11_thrown 4 = .ok (.ireturn, 1) := by decide +kernel
theorem dX11_throwsIf_0 : decode cX11_throwsIf 0 = .ok (.iload_n 1, 1) := by decide +kernel
theorem dX11_throwsIf_1 : decode cX11_throwsIf 1 = .ok (.ifCond .eq 8, 3) := by decide +kernel
theorem dX11_throwsIf_4 : decode cX11_throwsIf 4 = .ok (.aload_n 0, 1) := by decide +kernel
theorem dX11_throwsIf_5 : decode cX11_throwsIf 5 = .ok (.iload_n 2, 1) := by decide +kernel
theorem dX11_throwsIf_6 : decode cX11_throwsIf 6 = .ok (.putfield 3, 3) := by decide +kernel
theorem dX11_throwsIf_9 : decode cX11_throwsIf 9 = .ok (.iload_n 1, 1) := by decide +kernel
theorem dX11_throwsIf_10 : decode cX11_throwsIf 10 = .ok (.ireturn, 1) := by decide +kernel
theorem dX11_in_0 : decode cX11_in 0 = .ok (.iload_n 0, 1) := by decide +kernel
theorem dX11_in_1 : decode cX11_in 1 = .ok (.iload_n 1, 1) := by decide +kernel
theorem dX11_in_2 : decode cX11_in 2 = .ok (.if_icmp .lt 12, 3) := by decide +kernel
theorem dX11_in_5 : decode cX11_in 5 = .ok (.iload_n 0, 1) := by decide +kernel
theorem dX11_in_6 : decode cX11_in 6 = .ok (.iload_n 2, 1) := by decide +kernel
theorem dX11_in_7 : decode cX11_in 7 = .ok (.if_icmp .gt 7, 3) := by decide +kernel
theorem dX11_in_10 : decode cX11_in 10 = .ok (.iconst 1, 1) := by decide +kernel
theorem dX11_in_11 : decode cX11_in 11 = .ok (.goto 4, 3) := by decide +kernel
theorem dX11_in_14 : decode cX11_in 14 = .ok (.iconst 0, 1) := by decide +kernel
theorem dX11_in_15 : decode cX11_in 15 = .ok (.ireturn, 1) := by decide +kernel
theorem dX11_init_0 : decode cX11_init 0 = .ok (.aload_n 0, 1) := by decide +kernel
theorem dX11_init_1 : decode cX11_init 1 = .ok (.invokespecial 7, 3) := by decide +kernel
theorem dX11_init_4 : decode cX11_init 4 = .ok (.aload_n 0, 1) := by decide +kernel
theorem dX11_init_5 : decode cX11_init 5 = .ok (.sipush 2291, 3) := by decide +kernel
theorem dX11_init_8 : decode cX11_init 8 = .ok (.newarray .int, 2) := by decide +kernel
theorem dX11_init_10 : decode cX11_init 10 = .ok (.putfield 13, 3) := by decide +kernel
theorem dX11_init_13 : decode cX11_init 13 = .ok (.aload_n 0, 1) := by decide +kernel
theorem dX11_init_14 : decode cX11_init 14 = .ok (.sipush 1454, 3) := by decide +kernel
theorem dX11_init_17 : decode cX11_init 17 = .ok (.newarray .int, 2) := by decide +kernel
theorem dX11_init_19 : decode cX11_init 19 = .ok (.putfield 17, 3) := by decide +kernel
theorem dX11_init_22 : decode cX11_init 22 = .ok (.aload_n 0, 1) := by decide +kernel
theorem dX11_init_23 : decode cX11_init 23 = .ok (.sipush 1454, 3) := by decide +kernel
theorem dX11_init_26 : decode cX11_init 26 = .ok (.newarray .int, 2) := by decide +kernel
theorem dX11_init_28 : decode cX11_init 28 = .ok (.putfield 20, 3) := by decide +kernel
theorem dX11_init_31 : decode cX11_init 31 = .ok (.aload_n 0, 1) := by decide +kernel
theorem dX11_init_32 : decode cX11_init 32 = .ok (.sipush 617, 3) := by decide +kernel
theorem dX11_init_35 : decode cX11_init 35 = .ok (.newarray .int, 2) := by decide +kernel
theorem dX11_init_37 : decode cX11_init 37 = .ok (.putfield 23, 3) := by decide +kernel
theorem dX11_init_40 : decode cX11_init 40 = .ok (.aload_n 0, 1) := by decide +kernel
theorem dX11_init_41 : decode cX11_init 41 = .ok (.sipush 17448, 3) := by decide +kernel
theorem dX11_init_44 : decode cX11_init 44 = .ok (.newarray .int, 2) := by decide +kernel
theorem dX11_init_46 : decode cX11_init 46 = .ok (.putfield 26, 3) := by decide +kernel
theorem dX11_init_49 : decode cX11_init 49 = .ok (.aload_n 0, 1) := by decide +kernel
theorem dX11_init_50 : decode cX11_init 50 = .ok (.sipush 400, 3) := by decide +kernel
theorem dX11_init_53 : decode cX11_init 53 = .ok (.newarray .byte, 2) := by decide +kernel
theorem dX11_init_55 : decode cX11_init 55 = .ok (.putfield 29, 3) := by decide +kernel
theorem dX11_init_58 : decode cX11_init 58 = .ok (.aload_n 0, 1) := by decide +kernel
theorem dX11_init_59 : decode cX11_init 59 = .ok (.iconst (-1), 1) := by decide +kernel
theorem dX11_init_60 : decode cX11_init 60 = .ok (.putfield 33, 3) := by decide +kernel
theorem dX11_init_63 : decode cX11_init 63 = .ok (.aload_n 0, 1) := by decide +kernel
theorem dX11_init_64 : decode cX11_init 64 = .ok (.iconst 5, 1) := by decide +kernel
theorem dX11_init_65 : decode cX11_init 65 = .ok (.newarray .int, 2) := by decide +kernel
theorem dX11_init_67 : decode cX11_init 67 = .ok (.putfield 36, 3) := by decide +kernel
theorem dX11_init_70 : decode cX11_init 70 = .ok (.aload_n 0, 1) := by decide +kernel
theorem dX11_init_71 : decode cX11_init 71 = .ok (.sipush 400, 3) := by decide +kernel
theorem dX11_init_74 : decode cX11_init 74 = .ok (.newarray .int, 2) := by decide +kernel
theorem dX11_init_76 : decode cX11_init 76 = .ok (.putfield 39, 3) := by decide +kernel
theorem dX11_init_79 : decode cX11_init 79 = .ok (.aload_n 0, 1) := by decide +kernel
theorem dX11_init_80 : decode cX11_init 80 = .ok (.bipush 8, 2) := by decide +kernel
theorem dX11_init_82 : decode cX11_init 82 = .ok (.newarray .int, 2) := by decide +kernel
theorem dX11_init_84 : decode cX11_init 84 = .ok (.putfield 42, 3) := by decide +kernel
theorem dX11_init_87 : decode cX11_init 87 = .ok (.aload_n 0, 1) := by decide +kernel
theorem dX11_init_88 : decode cX11_init 88 = .ok (.getfield 13, 3) := by decide +kernel
theorem dX11_init_91 : decode cX11_init 91 = .ok (.iconst 5, 1) := by decide +kernel
theorem dX11_init_92 : decode cX11_init 92 = .ok (.iconst 1, 1) := by decide +kernel
theorem dX11_init_93 : decode cX11_init 93 = .ok (.iastore, 1) := by decide +kernel
theorem dX11_init_94 : decode cX11_init 94 = .ok (.return_, 1) := by decide +kernel
theorem dX11_image_0 : decode cX11_image 0 = .ok (.aload_n 0, 1) := by decide +kernel
theorem dX11_image_1 : decode cX11_image 1 = .ok (.iconst 0, 1) := by decide +kernel
theorem dX11_image_2 : decode cX11_image 2 = .ok (.putfield 3, 3) := by decide +kernel
theorem dX11_image_5 : decode cX11_image 5 = .ok (.iconst 0, 1) := by decide +kernel
theorem dX11_image_6 : decode cX11_image 6 = .ok (.istore_n 1, 1) := by decide +kernel
theorem dX11_image_7 : decode cX11_image 7 = .ok (.iload_n 1, 1) := by decide +kernel
theorem dX11_image_8 : decode cX11_image 8 = .ok (.sipush 1454, 3) := by decide +kernel
theorem dX11_image_11 : decode cX11_image 11 = .ok (.if_icmp .ge 21, 3) := by decide +kernel
theorem dX11_image_14 : decode cX11_image 14 = .ok (.aload_n 0, 1) := by decide +kernel
theorem dX11_image_15 : decode cX11_image 15 = .ok (.getfield 17, 3) := by decide +kernel
theorem dX11_image_18 : decode cX11_image 18 = .ok (.iload_n 1, 1) := by decide +kernel
theorem dX11_image_19 : decode cX11_image 19 = .ok (.aload_n 0, 1) := by decide +kernel
theorem dX11_image_20 : decode cX11_image 20 = .ok (.getfield 13, 3) := by decide +kernel
theorem dX11_image_23 : decode cX11_image 23 = .ok (.iload_n 1, 1) := by decide +kernel
theorem dX11_image_24 : decode cX11_image 24 = .ok (.iaload, 1) := by decide +kernel
theorem dX11_image_25 : decode cX11_image 25 = .ok (.iastore, 1) := by decide +kernel
theorem dX11_image_26 : decode cX11_image 26 = .ok (.iinc 1 1, 3) := by decide +kernel
theorem dX11_image_29 : decode cX11_image 29 = .ok (.goto (-22), 3) := by decide +kernel
theorem dX11_image_32 : decode cX11_image 32 = .ok (.aload_n 0, 1) := by decide +kernel
theorem dX11_image_33 : decode cX11_image 33 = .ok (.iconst 1, 1) := by decide +kernel
theorem dX11_image_34 : decode cX11_image 34 = .ok (.putfield 45, 3) := by decide +kernel
theorem dX11_image_37 : decode cX11_image 37 = .ok (.return_, 1) := by decide +kernel
theorem dX11_back_0 : decode cX11_back 0 = .ok (.aload_n 0, 1) := by decide +kernel
theorem dX11_back_1 : decode cX11_back 1 = .ok (.iconst 0, 1) := by decide +kernel
theorem dX11_back_2 : decode cX11_back 2 = .ok (.putfield 3, 3) := by decide +kernel
theorem dX11_back_5 : decode cX11_back 5 = .ok (.aload_n 0, 1) := by decide +kernel
theorem dX11_back_6 : decode cX11_back 6 = .ok (.getfield 45, 3) := by decide +kernel
theorem dX11_back_9 : decode cX11_back 9 = .ok (.ifCond .ne 5, 3) := by decide +kernel
theorem dX11_back_12 : decode cX11_back 12 = .ok (.iconst 0, 1) := by decide +kernel
theorem dX11_back_13 : decode cX11_back 13 = .ok (.ireturn, 1) := by decide +kernel
theorem dX11_back_14 : decode cX11_back 14 = .ok (.iconst 0, 1) := by decide +kernel
theorem dX11_back_15 : decode cX11_back 15 = .ok (.istore_n 1, 1) := by decide +kernel
theorem dX11_back_16 : decode cX11_back 16 = .ok (.iload_n 1, 1) := by decide +kernel
theorem dX11_back_17 : decode cX11_back 17 = .ok (.sipush 1454, 3) := by decide +kernel
theorem dX11_back_20 : decode cX11_back 20 = .ok (.if_icmp .ge 21, 3) := by decide +kernel
theorem dX11_back_23 : decode cX11_back 23 = .ok (.aload_n 0, 1) := by decide +kernel
theorem dX11_back_24 : decode cX11_back 24 = .ok (.getfield 13, 3) := by decide +kernel
theorem dX11_back_27 : decode cX11_back 27 = .ok (.iload_n 1, 1) := by decide +kernel
theorem dX11_back_28 : decode cX11_back 28 = .ok (.aload_n 0, 1) := by decide +kernel
theorem dX11_back_29 : decode cX11_back 29 = .ok (.getfield 17, 3) := by decide +kernel
theorem dX11_back_32 : decode cX11_back 32 = .ok (.iload_n 1, 1) := by decide +kernel
theorem dX11_back_33 : decode cX11_back 33 = .ok (.iaload, 1) := by decide +kernel
theorem dX11_back_34 : decode cX11_back 34 = .ok (.iastore, 1) := by decide +kernel
theorem dX11_back_35 : decode cX11_back 35 = .ok (.iinc 1 1, 3) := by decide +kernel
theorem dX11_back_38 : decode cX11_back 38 = .ok (.goto (-22), 3) := by decide +kernel
theorem dX11_back_41 : decode cX11_back 41 = .ok (.aload_n 0, 1) := by decide +kernel
theorem dX11_back_42 : decode cX11_back 42 = .ok (.iconst 0, 1) := by decide +kernel
theorem dX11_back_43 : decode cX11_back 43 = .ok (.putfield 49, 3) := by decide +kernel
theorem dX11_back_46 : decode cX11_back 46 = .ok (.iconst 1, 1) := by decide +kernel
theorem dX11_back_47 : decode cX11_back 47 = .ok (.ireturn, 1) := by decide +kernel
theorem dX11_keeps_0 : decode cX11_keeps 0 = .ok (.iconst 0, 1) := by decide +kernel
theorem dX11_keeps_1 : decode cX11_keeps 1 = .ok (.istore_n 1, 1) := by decide +kernel
theorem dX11_keeps_2 : decode cX11_keeps 2 = .ok (.iload_n 1, 1) := by decide +kernel
theorem dX11_keeps_3 : decode cX11_keeps 3 = .ok (.sipush 617, 3) := by decide +kernel
theorem dX11_keeps_6 : decode cX11_keeps 6 = .ok (.if_icmp .ge 21, 3) := by decide +kernel
theorem dX11_keeps_9 : decode cX11_keeps 9 = .ok (.aload_n 0, 1) := by decide +kernel
theorem dX11_keeps_10 : decode cX11_keeps 10 = .ok (.getfield 23, 3) := by decide +kernel
theorem dX11_keeps_13 : decode cX11_keeps 13 = .ok (.iload_n 1, 1) := by decide +kernel
theorem dX11_keeps_14 : decode cX11_keeps 14 = .ok (.aload_n 0, 1) := by decide +kernel
theorem dX11_keeps_15 : decode cX11_keeps 15 = .ok (.getfield 13, 3) := by decide +kernel
theorem dX11_keeps_18 : decode cX11_keeps 18 = .ok (.iload_n 1, 1) := by decide +kernel
theorem dX11_keeps_19 : decode cX11_keeps 19 = .ok (.iaload, 1) := by decide +kernel
theorem dX11_keeps_20 : decode cX11_keeps 20 = .ok (.iastore, 1) := by decide +kernel
theorem dX11_keeps_21 : decode cX11_keeps 21 = .ok (.iinc 1 1, 3) := by decide +kernel
theorem dX11_keeps_24 : decode cX11_keeps 24 = .ok (.goto (-22), 3) := by decide +kernel
theorem dX11_keeps_27 : decode cX11_keeps 27 = .ok (.return_, 1) := by decide +kernel
theorem dX11_laysBack_0 : decode cX11_laysBack 0 = .ok (.iconst 0, 1) := by decide +kernel
theorem dX11_laysBack_1 : decode cX11_laysBack 1 = .ok (.istore_n 1, 1) := by decide +kernel
theorem dX11_laysBack_2 : decode cX11_laysBack 2 = .ok (.iload_n 1, 1) := by decide +kernel
theorem dX11_laysBack_3 : decode cX11_laysBack 3 = .ok (.sipush 617, 3) := by decide +kernel
theorem dX11_laysBack_6 : decode cX11_laysBack 6 = .ok (.if_icmp .ge 21, 3) := by decide +kernel
theorem dX11_laysBack_9 : decode cX11_laysBack 9 = .ok (.aload_n 0, 1) := by decide +kernel
theorem dX11_laysBack_10 : decode cX11_laysBack 10 = .ok (.getfield 13, 3) := by decide +kernel
theorem dX11_laysBack_13 : decode cX11_laysBack 13 = .ok (.iload_n 1, 1) := by decide +kernel
theorem dX11_laysBack_14 : decode cX11_laysBack 14 = .ok (.aload_n 0, 1) := by decide +kernel
theorem dX11_laysBack_15 : decode cX11_laysBack 15 = .ok (.getfield 23, 3) := by decide +kernel
theorem dX11_laysBack_18 : decode cX11_laysBack 18 = .ok (.iload_n 1, 1) := by decide +kernel
theorem dX11_laysBack_19 : decode cX11_laysBack 19 = .ok (.iaload, 1) := by decide +kernel
theorem dX11_laysBack_20 : decode cX11_laysBack 20 = .ok (.iastore, 1) := by decide +kernel
theorem dX11_laysBack_21 : decode cX11_laysBack 21 = .ok (.iinc 1 1, 3) := by decide +kernel
theorem dX11_laysBack_24 : decode cX11_laysBack 24 = .ok (.goto (-22), 3) := by decide +kernel
theorem dX11_laysBack_27 : decode cX11_laysBack 27 = .ok (.return_, 1) := by decide +kernel
theorem dX11_cisterns_0 : decode cX11_cisterns 0 = .ok (.aload_n 0, 1) := by decide +kernel
theorem dX11_cisterns_1 : decode cX11_cisterns 1 = .ok (.getfield 13, 3) := by decide +kernel
theorem dX11_cisterns_4 : decode cX11_cisterns 4 = .ok (.iconst 0, 1) := by decide +kernel
theorem dX11_cisterns_5 : decode cX11_cisterns 5 = .ok (.iaload, 1) := by decide +kernel
theorem dX11_cisterns_6 : decode cX11_cisterns 6 = .ok (.ireturn, 1) := by decide +kernel
theorem dX11_houses_0 : decode cX11_houses 0 = .ok (.aload_n 0, 1) := by decide +kernel
theorem dX11_houses_1 : decode cX11_houses 1 = .ok (.getfield 13, 3) := by decide +kernel
theorem dX11_houses_4 : decode cX11_houses 4 = .ok (.iconst 1, 1) := by decide +kernel
theorem dX11_houses_5 : decode cX11_houses 5 = .ok (.iaload, 1) := by decide +kernel
theorem dX11_houses_6 : decode cX11_houses 6 = .ok (.ireturn, 1) := by decide +kernel
theorem dX11_ofCistern_0 : decode cX11_ofCistern 0 = .ok (.aload_n 0, 1) := by decide +kernel
theorem dX11_ofCistern_1 : decode cX11_ofCistern 1 = .ok (.getfield 13, 3) := by decide +kernel
theorem dX11_ofCistern_4 : decode cX11_ofCistern 4 = .ok (.bipush 65, 2) := by decide +kernel
theorem dX11_ofCistern_6 : decode cX11_ofCistern 6 = .ok (.bipush 35, 2) := by decide +kernel
theorem dX11_ofCistern_8 : decode cX11_ofCistern 8 = .ok (.iload_n 1, 1) := by decide +kernel
theorem dX11_ofCistern_9 : decode cX11_ofCistern 9 = .ok (.imul, 1) := by decide +kernel
theorem dX11_ofCistern_10 : decode cX11_ofCistern 10 = .ok (.iadd, 1) := by decide +kernel
theorem dX11_ofCistern_11 : decode cX11_ofCistern 11 = .ok (.iload_n 2, 1) := by decide +kernel
theorem dX11_ofCistern_12 : decode cX11_ofCistern 12 = .ok (.iadd, 1) := by decide +kernel
theorem dX11_ofCistern_13 : decode cX11_ofCistern 13 = .ok (.iaload, 1) := by decide +kernel
theorem dX11_ofCistern_14 : decode cX11_ofCistern 14 = .ok (.ireturn, 1) := by decide +kernel
theorem dX11_setsCistern_0 : decode cX11_setsCistern 0 = .ok (.aload_n 0, 1) := by decide +kernel
theorem dX11_setsCistern_1 : decode cX11_setsCistern 1 = .ok (.getfield 13, 3) := by decide +kernel
theorem dX11_setsCistern_4 : decode cX11_setsCistern 4 = .ok (.bipush 65, 2) := by decide +kernel
theorem dX11_setsCistern_6 : decode cX11_setsCistern 6 = .ok (.bipush 35, 2) := by decide +kernel
theorem dX11_setsCistern_8 : decode cX11_setsCistern 8 = .ok (.iload_n 1, 1) := by decide +kernel
theorem dX11_setsCistern_9 : decode cX11_setsCistern 9 = .ok (.imul, 1) := by decide +kernel
theorem dX11_setsCistern_10 : decode cX11_setsCistern 10 = .ok (.iadd, 1) := by decide +kernel
theorem dX11_setsCistern_11 : decode cX11_setsCistern 11 = .ok (.iload_n 2, 1) := by decide +kernel
theorem dX11_setsCistern_12 : decode cX11_setsCistern 12 = .ok (.iadd, 1) := by decide +kernel
theorem dX11_setsCistern_13 : decode cX11_setsCistern 13 = .ok (.iload_n 3, 1) := by decide +kernel
theorem dX11_setsCistern_14 : decode cX11_setsCistern 14 = .ok (.iastore, 1) := by decide +kernel
theorem dX11_setsCistern_15 : decode cX11_setsCistern 15 = .ok (.return_, 1) := by decide +kernel
theorem dX11_ofHouse_0 : decode cX11_ofHouse 0 = .ok (.aload_n 0, 1) := by decide +kernel
theorem dX11_ofHouse_1 : decode cX11_ofHouse 1 = .ok (.getfield 13, 3) := by decide +kernel
theorem dX11_ofHouse_4 : decode cX11_ofHouse 4 = .ok (.sipush 345, 3) := by decide +kernel
theorem dX11_ofHouse_7 : decode cX11_ofHouse 7 = .ok (.bipush 34, 2) := by decide +kernel
theorem dX11_ofHouse_9 : decode cX11_ofHouse 9 = .ok (.iload_n 1, 1) := by decide +kernel
theorem dX11_ofHouse_10 : decode cX11_ofHouse 10 = .ok (.imul, 1) := by decide +kernel
theorem dX11_ofHouse_11 : decode cX11_ofHouse 11 = .ok (.iadd, 1) := by decide +kernel
theorem dX11_ofHouse_12 : decode cX11_ofHouse 12 = .ok (.iload_n 2, 1) := by decide +kernel
theorem dX11_ofHouse_13 : decode cX11_ofHouse 13 = .ok (.iadd, 1) := by decide +kernel
theorem dX11_ofHouse_14 : decode cX11_ofHouse 14 = .ok (.iaload, 1) := by decide +kernel
theorem dX11_ofHouse_15 : decode cX11_ofHouse 15 = .ok (.ireturn, 1) := by decide +kernel
theorem dX11_setsHouse_0 : decode cX11_setsHouse 0 = .ok (.aload_n 0, 1) := by decide +kernel
theorem dX11_setsHouse_1 : decode cX11_setsHouse 1 = .ok (.getfield 13, 3) := by decide +kernel
theorem dX11_setsHouse_4 : decode cX11_setsHouse 4 = .ok (.sipush 345, 3) := by decide +kernel
theorem dX11_setsHouse_7 : decode cX11_setsHouse 7 = .ok (.bipush 34, 2) := by decide +kernel
theorem dX11_setsHouse_9 : decode cX11_setsHouse 9 = .ok (.iload_n 1, 1) := by decide +kernel
theorem dX11_setsHouse_10 : decode cX11_setsHouse 10 = .ok (.imul, 1) := by decide +kernel
theorem dX11_setsHouse_11 : decode cX11_setsHouse 11 = .ok (.iadd, 1) := by decide +kernel
theorem dX11_setsHouse_12 : decode cX11_setsHouse 12 = .ok (.iload_n 2, 1) := by decide +kernel
theorem dX11_setsHouse_13 : decode cX11_setsHouse 13 = .ok (.iadd, 1) := by decide +kernel
theorem dX11_setsHouse_14 : decode cX11_setsHouse 14 = .ok (.iload_n 3, 1) := by decide +kernel
theorem dX11_setsHouse_15 : decode cX11_setsHouse 15 = .ok (.iastore, 1) := by decide +kernel
theorem dX11_setsHouse_16 : decode cX11_setsHouse 16 = .ok (.return_, 1) := by decide +kernel
theorem dX11_noCistern_0 : decode cX11_noCistern 0 = .ok (.iload_n 1, 1) := by decide +kernel
theorem dX11_noCistern_1 : decode cX11_noCistern 1 = .ok (.iconst 0, 1) := by decide +kernel
theorem dX11_noCistern_2 : decode cX11_noCistern 2 = .ok (.aload_n 0, 1) := by decide +kernel
theorem dX11_noCistern_3 : decode cX11_noCistern 3 = .ok (.invokevirtual 52, 3) := by decide +kernel
theorem dX11_noCistern_6 : decode cX11_noCistern 6 = .ok (.iconst 1, 1) := by decide +kernel
theorem dX11_noCistern_7 : decode cX11_noCistern 7 = .ok (.isub, 1) := by decide +kernel
theorem dX11_noCistern_8 : decode cX11_noCistern 8 = .ok (.invokestatic 56, 3) := by decide +kernel
theorem dX11_noCistern_11 : decode cX11_noCistern 11 = .ok (.ifCond .ne 7, 3) := by decide +kernel
theorem dX11_noCistern_14 : decode cX11_noCistern 14 = .ok (.iconst 1, 1) := by decide +kernel
theorem dX11_noCistern_15 : decode cX11_noCistern 15 = .ok (.goto 4, 3) := by decide +kernel
theorem dX11_noCistern_18 : decode cX11_noCistern 18 = .ok (.iconst 0, 1) := by decide +kernel
theorem dX11_noCistern_19 : decode cX11_noCistern 19 = .ok (.ireturn, 1) := by decide +kernel
theorem dX11_noHouse_0 : decode cX11_noHouse 0 = .ok (.iload_n 1, 1) := by decide +kernel
theorem dX11_noHouse_1 : decode cX11_noHouse 1 = .ok (.iconst 0, 1) := by decide +kernel
theorem dX11_noHouse_2 : decode cX11_noHouse 2 = .ok (.aload_n 0, 1) := by decide +kernel
theorem dX11_noHouse_3 : decode cX11_noHouse 3 = .ok (.invokevirtual 60, 3) := by decide +kernel
theorem dX11_noHouse_6 : decode cX11_noHouse 6 = .ok (.iconst 1, 1) := by decide +kernel
theorem dX11_noHouse_7 : decode cX11_noHouse 7 = .ok (.isub, 1) := by decide +kernel
theorem dX11_noHouse_8 : decode cX11_noHouse 8 = .ok (.invokestatic 56, 3) := by decide +kernel
theorem dX11_noHouse_11 : decode cX11_noHouse 11 = .ok (.ifCond .ne 7, 3) := by decide +kernel
theorem dX11_noHouse_14 : decode cX11_noHouse 14 = .ok (.iconst 1, 1) := by decide +kernel
theorem dX11_noHouse_15 : decode cX11_noHouse 15 = .ok (.goto 4, 3) := by decide +kernel
theorem dX11_noHouse_18 : decode cX11_noHouse 18 = .ok (.iconst 0, 1) := by decide +kernel
theorem dX11_noHouse_19 : decode cX11_noHouse 19 = .ok (.ireturn, 1) := by decide +kernel
theorem dX11_noYear_0 : decode cX11_noYear 0 = .ok (.iload_n 0, 1) := by decide +kernel
theorem dX11_noYear_1 : decode cX11_noYear 1 = .ok (.iconst 0, 1) := by decide +kernel
theorem dX11_noYear_2 : decode cX11_noYear 2 = .ok (.bipush 29, 2) := by decide +kernel
theorem dX11_noYear_4 : decode cX11_noYear 4 = .ok (.invokestatic 56, 3) := by decide +kernel
theorem dX11_noYear_7 : decode cX11_noYear 7 = .ok (.ifCond .ne 7, 3) := by decide +kernel
theorem dX11_noYear_10 : decode cX11_noYear 10 = .ok (.iconst 1, 1) := by decide +kernel
theorem dX11_noYear_11 : decode cX11_noYear 11 = .ok (.goto 4, 3) := by decide +kernel
theorem dX11_noYear_14 : decode cX11_noYear 14 = .ok (.iconst 0, 1) := by decide +kernel
theorem dX11_noYear_15 : decode cX11_noYear 15 = .ok (.ireturn, 1) := by decide +kernel
theorem dX11_now_0 : decode cX11_now 0 = .ok (.bipush 29, 2) := by decide +kernel
theorem dX11_now_2 : decode cX11_now 2 = .ok (.aload_n 0, 1) := by decide +kernel
theorem dX11_now_3 : decode cX11_now 3 = .ok (.getfield 13, 3) := by decide +kernel
theorem dX11_now_6 : decode cX11_now 6 = .ok (.iconst 4, 1) := by decide +kernel
theorem dX11_now_7 : decode cX11_now 7 = .ok (.iaload, 1) := by decide +kernel
theorem dX11_now_8 : decode cX11_now 8 = .ok (.bipush 12, 2) := by decide +kernel
theorem dX11_now_10 : decode cX11_now 10 = .ok (.idiv, 1) := by decide +kernel
theorem dX11_now_11 : decode cX11_now 11 = .ok (.invokestatic 63, 3) := by decide +kernel
theorem dX11_now_14 : decode cX11_now 14 = .ok (.ireturn, 1) := by decide +kernel
theorem dX11_layerOf_0 : decode cX11_layerOf 0 = .ok (.aload_n 0, 1) := by decide +kernel
theorem dX11_layerOf_1 : decode cX11_layerOf 1 = .ok (.iload_n 1, 1) := by decide +kernel
theorem dX11_layerOf_2 : decode cX11_layerOf 2 = .ok (.iconst 5, 1) := by decide +kernel
theorem dX11_layerOf_3 : decode cX11_layerOf 3 = .ok (.iload_n 2, 1) := by decide +kernel
theorem dX11_layerOf_4 : decode cX11_layerOf 4 = .ok (.iadd, 1) := by decide +kernel
theorem dX11_layerOf_5 : decode cX11_layerOf 5 = .ok (.invokevirtual 69, 3) := by decide +kernel
theorem dX11_layerOf_8 : decode cX11_layerOf 8 = .ok (.ireturn, 1) := by decide +kernel
theorem dX11_adds_0 : decode cX11_adds 0 = .ok (.aload_n 0, 1) := by decide +kernel
theorem dX11_adds_1 : decode cX11_adds 1 = .ok (.getfield 13, 3) := by decide +kernel
theorem dX11_adds_4 : decode cX11_adds 4 = .ok (.bipush 65, 2) := by decide +kernel
theorem dX11_adds_6 : decode cX11_adds 6 = .ok (.bipush 35, 2) := by decide +kernel
theorem dX11_adds_8 : decode cX11_adds 8 = .ok (.iload_n 1, 1) := by decide +kernel
theorem dX11_adds_9 : decode cX11_adds 9 = .ok (.imul, 1) := by decide +kernel
theorem dX11_adds_10 : decode cX11_adds 10 = .ok (.iadd, 1) := by decide +kernel
theorem dX11_adds_11 : decode cX11_adds 11 = .ok (.iconst 5, 1) := by decide +kernel
theorem dX11_adds_12 : decode cX11_adds 12 = .ok (.iadd, 1) := by decide +kernel
theorem dX11_adds_13 : decode cX11_adds 13 = .ok (.iload_n 2, 1) := by decide +kernel
theorem dX11_adds_14 : decode cX11_adds 14 = .ok (.iadd, 1) := by decide +kernel
theorem dX11_adds_15 : decode cX11_adds 15 = .ok (.dup2, 1) := by decide +kernel
theorem dX11_adds_16 : decode cX11_adds 16 = .ok (.iaload, 1) := by decide +kernel
theorem dX11_adds_17 : decode cX11_adds 17 = .ok (.iload_n 3, 1) := by decide +kernel
theorem dX11_adds_18 : decode cX11_adds 18 = .ok (.iadd, 1) := by decide +kernel
theorem dX11_adds_19 : decode cX11_adds 19 = .ok (.iastore, 1) := by decide +kernel
theorem dX11_adds_20 : decode cX11_adds 20 = .ok (.return_, 1) := by decide +kernel
theorem dX11_measures_0 : decode cX11_measures 0 = .ok (.iconst 0, 1) := by decide +kernel
theorem dX11_measures_1 : decode cX11_measures 1 = .ok (.istore_n 2, 1) := by decide +kernel
theorem dX11_measures_2 : decode cX11_measures 2 = .ok (.iconst 0, 1) := by decide +kernel
theorem dX11_measures_3 : decode cX11_measures 3 = .ok (.istore_n 3, 1) := by decide +kernel
theorem dX11_measures_4 : decode cX11_measures 4 = .ok (.iload_n 3, 1) := by decide +kernel
theorem dX11_measures_5 : decode cX11_measures 5 = .ok (.bipush 30, 2) := by decide +kernel
theorem dX11_measures_7 : decode cX11_measures 7 = .ok (.if_icmp .ge 18, 3) := by decide +kernel
theorem dX11_measures_10 : decode cX11_measures 10 = .ok (.iload_n 2, 1) := by decide +kernel
theorem dX11_measures_11 : decode cX11_measures 11 = .ok (.aload_n 0, 1) := by decide +kernel
theorem dX11_measures_12 : decode cX11_measures 12 = .ok (.iload_n 1, 1) := by decide +kernel
theorem dX11_measures_13 : decode cX11_measures 13 = .ok (.iload_n 3, 1) := by decide +kernel
theorem dX11_measures_14 : decode cX11_measures 14 = .ok (.invokevirtual 72, 3) := by decide +kernel
theorem dX11_measures_17 : decode cX11_measures 17 = .ok (.iadd, 1) := by decide +kernel
theorem dX11_measures_18 : decode cX11_measures 18 = .ok (.istore_n 2, 1) := by decide +kernel
theorem dX11_measures_19 : decode cX11_measures 19 = .ok (.iinc 3 1, 3) := by decide +kernel
theorem dX11_measures_22 : decode cX11_measures 22 = .ok (.goto (-18), 3) := by decide +kernel
theorem dX11_measures_25 : decode cX11_measures 25 = .ok (.iload_n 2, 1) := by decide +kernel
theorem dX11_measures_26 : decode cX11_measures 26 = .ok (.ireturn, 1) := by decide +kernel
theorem dX11_saltIn_0 : decode cX11_saltIn 0 = .ok (.iconst 0, 1) := by decide +kernel
theorem dX11_saltIn_1 : decode cX11_saltIn 1 = .ok (.istore_n 2, 1) := by decide +kernel
theorem dX11_saltIn_2 : decode cX11_saltIn 2 = .ok (.iconst 0, 1) := by decide +kernel
theorem dX11_saltIn_3 : decode cX11_saltIn 3 = .ok (.istore_n 3, 1) := by decide +kernel
theorem dX11_saltIn_4 : decode cX11_saltIn 4 = .ok (.iload_n 3, 1) := by decide +kernel
theorem dX11_saltIn_5 : decode cX11_saltIn 5 = .ok (.bipush 30, 2) := by decide +kernel
theorem dX11_saltIn_7 : decode cX11_saltIn 7 = .ok (.if_icmp .ge 28, 3) := by decide +kernel
theorem dX11_saltIn_10 : decode cX11_saltIn 10 = .ok (.iload_n 2, 1) := by decide +kernel
theorem dX11_saltIn_11 : decode cX11_saltIn 11 = .ok (.aload_n 0, 1) := by decide +kernel
theorem dX11_saltIn_12 : decode cX11_saltIn 12 = .ok (.iload_n 1, 1) := by decide +kernel
theorem dX11_saltIn_13 : decode cX11_saltIn 13 = .ok (.iload_n 3, 1) := by decide +kernel
theorem dX11_saltIn_14 : decode cX11_saltIn 14 = .ok (.invokevirtual 72, 3) := by decide +kernel
theorem dX11_saltIn_17 : decode cX11_saltIn 17 = .ok (.aload_n 0, 1) := by decide +kernel
theorem dX11_saltIn_18 : decode cX11_saltIn 18 = .ok (.getfield 13, 3) := by decide +kernel
theorem dX11_saltIn_21 : decode cX11_saltIn 21 = .ok (.bipush 35, 2) := by decide +kernel
theorem dX11_saltIn_23 : decode cX11_saltIn 23 = .ok (.iload_n 3, 1) := by decide +kernel
theorem dX11_saltIn_24 : decode cX11_saltIn 24 = .ok (.iadd, 1) := by decide +kernel
theorem dX11_saltIn_25 : decode cX11_saltIn 25 = .ok (.iaload, 1) := by decide +kernel
theorem dX11_saltIn_26 : decode cX11_saltIn 26 = .ok (.imul, 1) := by decide +kernel
theorem dX11_saltIn_27 : decode cX11_saltIn 27 = .ok (.iadd, 1) := by decide +kernel
theorem dX11_saltIn_28 : decode cX11_saltIn 28 = .ok (.istore_n 2, 1) := by decide +kernel
theorem dX11_saltIn_29 : decode cX11_saltIn 29 = .ok (.iinc 3 1, 3) := by decide +kernel
theorem dX11_saltIn_32 : decode cX11_saltIn 32 = .ok (.goto (-28), 3) := by decide +kernel
theorem dX11_saltIn_35 : decode cX11_saltIn 35 = .ok (.iload_n 2, 1) := by decide +kernel
theorem dX11_saltIn_36 : decode cX11_saltIn 36 = .ok (.ireturn, 1) := by decide +kernel
theorem dX11_saltOfMix_0 : decode cX11_saltOfMix 0 = .ok (.aload_n 0, 1) := by decide +kernel
theorem dX11_saltOfMix_1 : decode cX11_saltOfMix 1 = .ok (.iload_n 1, 1) := by decide +kernel
theorem dX11_saltOfMix_2 : decode cX11_saltOfMix 2 = .ok (.invokevirtual 75, 3) := by decide +kernel
theorem dX11_saltOfMix_5 : decode cX11_saltOfMix 5 = .ok (.ifCond .ne 7, 3) := by decide +kernel
theorem dX11_saltOfMix_8 : decode cX11_saltOfMix 8 = .ok (.iconst 0, 1) := by decide +kernel
theorem dX11_saltOfMix_9 : decode cX11_saltOfMix 9 = .ok (.goto 14, 3) := by decide +kernel
theorem dX11_saltOfMix_12 : decode cX11_saltOfMix 12 = .ok (.aload_n 0, 1) := by decide +kernel
theorem dX11_saltOfMix_13 : decode cX11_saltOfMix 13 = .ok (.iload_n 1, 1) := by decide +kernel
theorem dX11_saltOfMix_14 : decode cX11_saltOfMix 14 = .ok (.invokevirtual 79, 3) := by decide +kernel
theorem dX11_saltOfMix_17 : decode cX11_saltOfMix 17 = .ok (.aload_n 0, 1) := by decide +kernel
theorem dX11_saltOfMix_18 : decode cX11_saltOfMix 18 = .ok (.iload_n 1, 1) := by decide +kernel
theorem dX11_saltOfMix_19 : decode cX11_saltOfMix 19 = .ok (.invokevirtual 75, 3) := by decide +kernel
theorem dX11_saltOfMix_22 : decode cX11_saltOfMix 22 = .ok (.idiv, 1) := by decide +kernel
theorem dX11_saltOfMix_23 : decode cX11_saltOfMix 23 = .ok (.ireturn, 1) := by decide +kernel
theorem dX11_pours_0 : decode cX11_pours 0 = .ok (.iload_n 1, 1) := by decide +kernel
theorem dX11_pours_1 : decode cX11_pours 1 = .ok (.ifCond .ge 7, 3) := by decide +kernel
theorem dX11_pours_4 : decode cX11_pours 4 = .ok (.iconst 0, 1) := by decide +kernel
theorem dX11_pours_5 : decode cX11_pours 5 = .ok (.goto 19, 3) := by decide +kernel
theorem dX11_pours_8 : decode cX11_pours 8 = .ok (.iload_n 3, 1) := by decide +kernel
theorem dX11_pours_9 : decode cX11_pours 9 = .ok (.aload_n 0, 1) := by decide +kernel
theorem dX11_pours_10 : decode cX11_pours 10 = .ok (.iload_n 1, 1) := by decide +kernel
theorem dX11_pours_11 : decode cX11_pours 11 = .ok (.iconst 0, 1) := by decide +kernel
theorem dX11_pours_12 : decode cX11_pours 12 = .ok (.invokevirtual 69, 3) := by decide +kernel
theorem dX11_pours_15 : decode cX11_pours 15 = .ok (.aload_n 0, 1) := by decide +kernel
theorem dX11_pours_16 : decode cX11_pours 16 = .ok (.iload_n 1, 1) := by decide +kernel
theorem dX11_pours_17 : decode cX11_pours 17 = .ok (.invokevirtual 75, 3) := by decide +kernel
theorem dX11_pours_20 : decode cX11_pours 20 = .ok (.isub, 1) := by decide +kernel
theorem dX11_pours_21 : decode cX11_pours 21 = .ok (.invokestatic 63, 3) := by decide +kernel
theorem dX11_pours_24 : decode cX11_pours 24 = .ok (.istore 4, 2) := by decide +kernel
theorem dX11_pours_26 : decode cX11_pours 26 = .ok (.iload_n 1, 1) := by decide +kernel
theorem dX11_pours_27 : decode cX11_pours 27 = .ok (.ifCond .lt 11, 3) := by decide +kernel
theorem dX11_pours_30 : decode cX11_pours 30 = .ok (.aload_n 0, 1) := by decide +kernel
theorem dX11_pours_31 : decode cX11_pours 31 = .ok (.iload_n 1, 1) := by decide +kernel
theorem dX11_pours_32 : decode cX11_pours 32 = .ok (.iload_n 2, 1) := by decide +kernel
theorem dX11_pours_33 : decode cX11_pours 33 = .ok (.iload 4, 2) := by decide +kernel
theorem dX11_pours_35 : decode cX11_pours 35 = .ok (.invokevirtual 82, 3) := by decide +kernel
theorem dX11_pours_38 : decode cX11_pours 38 = .ok (.aload_n 0, 1) := by decide +kernel
theorem dX11_pours_39 : decode cX11_pours 39 = .ok (.getfield 13, 3) := by decide +kernel
theorem dX11_pours_42 : decode cX11_pours 42 = .ok (.bipush 7, 2) := by decide +kernel
theorem dX11_pours_44 : decode cX11_pours 44 = .ok (.dup2, 1) := by decide +kernel
theorem dX11_pours_45 : decode cX11_pours 45 = .ok (.iaload, 1) := by decide +kernel
theorem dX11_pours_46 : decode cX11_pours 46 = .ok (.iload_n 3, 1) := by decide +kernel
theorem dX11_pours_47 : decode cX11_pours 47 = .ok (.iload 4, 2) := by decide +kernel
theorem dX11_pours_49 : decode cX11_pours 49 = .ok (.isub, 1) := by decide +kernel
theorem dX11_pours_50 : decode cX11_pours 50 = .ok (.iadd, 1) := by decide +kernel
theorem dX11_pours_51 : decode cX11_pours 51 = .ok (.iastore, 1) := by decide +kernel
theorem dX11_pours_52 : decode cX11_pours 52 = .ok (.aload_n 0, 1) := by decide +kernel
theorem dX11_pours_53 : decode cX11_pours 53 = .ok (.getfield 13, 3) := by decide +kernel
theorem dX11_pours_56 : decode cX11_pours 56 = .ok (.bipush 8, 2) := by decide +kernel
theorem dX11_pours_58 : decode cX11_pours 58 = .ok (.dup2, 1) := by decide +kernel
theorem dX11_pours_59 : decode cX11_pours 59 = .ok (.iaload, 1) := by decide +kernel
theorem dX11_pours_60 : decode cX11_pours 60 = .ok (.iload_n 3, 1) := by decide +kernel
theorem dX11_pours_61 : decode cX11_pours 61 = .ok (.iadd, 1) := by decide +kernel
theorem dX11_pours_62 : decode cX11_pours 62 = .ok (.iastore, 1) := by decide +kernel
theorem dX11_pours_63 : decode cX11_pours 63 = .ok (.return_, 1) := by decide +kernel
theorem dX11_feed_0 : decode cX11_feed 0 = .ok (.aload_n 0, 1) := by decide +kernel
theorem dX11_feed_1 : decode cX11_feed 1 = .ok (.iconst 0, 1) := by decide +kernel
theorem dX11_feed_2 : decode cX11_feed 2 = .ok (.putfield 3, 3) := by decide +kernel
theorem dX11_feed_5 : decode cX11_feed 5 = .ok (.aload_n 0, 1) := by decide +kernel
theorem dX11_feed_6 : decode cX11_feed 6 = .ok (.getfield 86, 3) := by decide +kernel
theorem dX11_feed_9 : decode cX11_feed 9 = .ok (.bipush 20, 2) := by decide +kernel
theorem dX11_feed_11 : decode cX11_feed 11 = .ok (.iadd, 1) := by decide +kernel
theorem dX11_feed_12 : decode cX11_feed 12 = .ok (.sipush 400, 3) := by decide +kernel
theorem dX11_feed_15 : decode cX11_feed 15 = .ok (.if_icmp .le 5, 3) := by decide +kernel
theorem dX11_feed_18 : decode cX11_feed 18 = .ok (.iconst (-1), 1) := by decide +kernel
theorem dX11_feed_19 : decode cX11_feed 19 = .ok (.ireturn, 1) := by decide +kernel
theorem dX11_feed_20 : decode cX11_feed 20 = .ok (.aload_n 0, 1) := by decide +kernel
theorem dX11_feed_21 : decode cX11_feed 21 = .ok (.getfield 36, 3) := by decide +kernel
theorem dX11_feed_24 : decode cX11_feed 24 = .ok (.iconst 0, 1) := by decide +kernel
theorem dX11_feed_25 : decode cX11_feed 25 = .ok (.iload_n 1, 1) := by decide +kernel
theorem dX11_feed_26 : decode cX11_feed 26 = .ok (.iastore, 1) := by decide +kernel
theorem dX11_feed_27 : decode cX11_feed 27 = .ok (.aload_n 0, 1) := by decide +kernel
theorem dX11_feed_28 : decode cX11_feed 28 = .ok (.getfield 36, 3) := by decide +kernel
theorem dX11_feed_31 : decode cX11_feed 31 = .ok (.iconst 1, 1) := by decide +kernel
theorem dX11_feed_32 : decode cX11_feed 32 = .ok (.iload_n 2, 1) := by decide +kernel
theorem dX11_feed_33 : decode cX11_feed 33 = .ok (.iastore, 1) := by decide +kernel
theorem dX11_feed_34 : decode cX11_feed 34 = .ok (.aload_n 0, 1) := by decide +kernel
theorem dX11_feed_35 : decode cX11_feed 35 = .ok (.getfield 36, 3) := by decide +kernel
theorem dX11_feed_38 : decode cX11_feed 38 = .ok (.iconst 2, 1) := by decide +kernel
theorem dX11_feed_39 : decode cX11_feed 39 = .ok (.iload_n 3, 1) := by decide +kernel
theorem dX11_feed_40 : decode cX11_feed 40 = .ok (.iastore, 1) := by decide +kernel
theorem dX11_feed_41 : decode cX11_feed 41 = .ok (.aload_n 0, 1) := by decide +kernel
theorem dX11_feed_42 : decode cX11_feed 42 = .ok (.getfield 36, 3) := by decide +kernel
theorem dX11_feed_45 : decode cX11_feed 45 = .ok (.iconst 3, 1) := by decide +kernel
theorem dX11_feed_46 : decode cX11_feed 46 = .ok (.iload 4, 2) := by decide +kernel
theorem dX11_feed_48 : decode cX11_feed 48 = .ok (.iastore, 1) := by decide +kernel
theorem dX11_feed_49 : decode cX11_feed 49 = .ok (.aload_n 0, 1) := by decide +kernel
theorem dX11_feed_50 : decode cX11_feed 50 = .ok (.getfield 36, 3) := by decide +kernel
theorem dX11_feed_53 : decode cX11_feed 53 = .ok (.iconst 4, 1) := by decide +kernel
theorem dX11_feed_54 : decode cX11_feed 54 = .ok (.iload 5, 2) := by decide +kernel
theorem dX11_feed_56 : decode cX11_feed 56 = .ok (.iastore, 1) := by decide +kernel
theorem dX11_feed_57 : decode cX11_feed 57 = .ok (.iconst 0, 1) := by decide +kernel
theorem dX11_feed_58 : decode cX11_feed 58 = .ok (.istore 6, 2) := by decide +kernel
theorem dX11_feed_60 : decode cX11_feed 60 = .ok (.iload 6, 2) := by decide +kernel
theorem dX11_feed_62 : decode cX11_feed 62 = .ok (.bipush 20, 2) := by decide +kernel
theorem dX11_feed_64 : decode cX11_feed 64 = .ok (.if_icmp .ge 42, 3) := by decide +kernel
theorem dX11_feed_67 : decode cX11_feed 67 = .ok (.aload_n 0, 1) := by decide +kernel
theorem dX11_feed_68 : decode cX11_feed 68 = .ok (.getfield 29, 3) := by decide +kernel
theorem dX11_feed_71 : decode cX11_feed 71 = .ok (.aload_n 0, 1) := by decide +kernel
theorem dX11_feed_72 : decode cX11_feed 72 = .ok (.getfield 86, 3) := by decide +kernel
theorem dX11_feed_75 : decode cX11_feed 75 = .ok (.iload 6, 2) := by decide +kernel
theorem dX11_feed_77 : decode cX11_feed 77 = .ok (.iadd, 1) := by decide +kernel
theorem dX11_feed_78 : decode cX11_feed 78 = .ok (.aload_n 0, 1) := by decide +kernel
theorem dX11_feed_79 : decode cX11_feed 79 = .ok (.getfield 36, 3) := by decide +kernel
theorem dX11_feed_82 : decode cX11_feed 82 = .ok (.iload 6, 2) := by decide +kernel
theorem dX11_feed_84 : decode cX11_feed 84 = .ok (.iconst 4, 1) := by decide +kernel
theorem dX11_feed_85 : decode cX11_feed 85 = .ok (.idiv, 1) := by decide +kernel
theorem dX11_feed_86 : decode cX11_feed 86 = .ok (.iaload, 1) := by decide +kernel
theorem dX11_feed_87 : decode cX11_feed 87 = .ok (.bipush 24, 2) := by decide +kernel
theorem dX11_feed_89 : decode cX11_feed 89 = .ok (.bipush 8, 2) := by decide +kernel
theorem dX11_feed_91 : decode cX11_feed 91 = .ok (.iload 6, 2) := by decide +kernel
theorem dX11_feed_93 : decode cX11_feed 93 = .ok (.iconst 4, 1) := by decide +kernel
theorem dX11_feed_94 : decode cX11_feed 94 = .ok (.irem, 1) := by decide +kernel
theorem dX11_feed_95 : decode cX11_feed 95 = .ok (.imul, 1) := by decide +kernel
theorem dX11_feed_96 : decode cX11_feed 96 = .ok (.isub, 1) := by decide +kernel
theorem dX11_feed_97 : decode cX11_feed 97 = .ok (.ishr, 1) := by decide +kernel
theorem dX11_feed_98 : decode cX11_feed 98 = .ok (.i2b, 1) := by decide +kernel
theorem dX11_feed_99 : decode cX11_feed 99 = .ok (.bastore, 1) := by decide +kernel
theorem dX11_feed_100 : decode cX11_feed 100 = .ok (.iinc 6 1, 3) := by decide +kernel
theorem dX11_feed_103 : decode cX11_feed 103 = .ok (.goto (-43), 3) := by decide +kernel
theorem dX11_feed_106 : decode cX11_feed 106 = .ok (.aload_n 0, 1) := by decide +kernel
theorem dX11_feed_107 : decode cX11_feed 107 = .ok (.dup, 1) := by decide +kernel
theorem dX11_feed_108 : decode cX11_feed 108 = .ok (.getfield 86, 3) := by decide +kernel
theorem dX11_feed_111 : decode cX11_feed 111 = .ok (.bipush 20, 2) := by decide +kernel
theorem dX11_feed_113 : decode cX11_feed 113 = .ok (.iadd, 1) := by decide +kernel
theorem dX11_feed_114 : decode cX11_feed 114 = .ok (.putfield 86, 3) := by decide +kernel
theorem dX11_feed_117 : decode cX11_feed 117 = .ok (.aload_n 0, 1) := by decide +kernel
theorem dX11_feed_118 : decode cX11_feed 118 = .ok (.getfield 86, 3) := by decide +kernel
theorem dX11_feed_121 : decode cX11_feed 121 = .ok (.ireturn, 1) := by decide +kernel
theorem dX11_end_0 : decode cX11_end 0 = .ok (.aload_n 0, 1) := by decide +kernel
theorem dX11_end_1 : decode cX11_end 1 = .ok (.iconst 0, 1) := by decide +kernel
theorem dX11_end_2 : decode cX11_end 2 = .ok (.putfield 3, 3) := by decide +kernel
theorem dX11_end_5 : decode cX11_end 5 = .ok (.iload_n 1, 1) := by decide +kernel
theorem dX11_end_6 : decode cX11_end 6 = .ok (.ifCond .lt 11, 3) := by decide +kernel
theorem dX11_end_9 : decode cX11_end 9 = .ok (.iload_n 1, 1) := by decide +kernel
theorem dX11_end_10 : decode cX11_end 10 = .ok (.aload_n 0, 1) := by decide +kernel
theorem dX11_end_11 : decode cX11_end 11 = .ok (.getfield 86, 3) := by decide +kernel
theorem dX11_end_14 : decode cX11_end 14 = .ok (.if_icmp .le 5, 3) := by decide +kernel
theorem dX11_end_17 : decode cX11_end 17 = .ok (.iconst 0, 1) := by decide +kernel
theorem dX11_end_18 : decode cX11_end 18 = .ok (.ireturn, 1) := by decide +kernel
theorem dX11_end_19 : decode cX11_end 19 = .ok (.aload_n 0, 1) := by decide +kernel
theorem dX11_end_20 : decode cX11_end 20 = .ok (.iload_n 1, 1) := by decide +kernel
theorem dX11_end_21 : decode cX11_end 21 = .ok (.putfield 86, 3) := by decide +kernel
theorem dX11_end_24 : decode cX11_end 24 = .ok (.iconst 1, 1) := by decide +kernel
theorem dX11_end_25 : decode cX11_end 25 = .ok (.ireturn, 1) := by decide +kernel
theorem dX11_isAt_0 : decode cX11_isAt 0 = .ok (.aload_n 0, 1) := by decide +kernel
theorem dX11_isAt_1 : decode cX11_isAt 1 = .ok (.getfield 89, 3) := by decide +kernel
theorem dX11_isAt_4 : decode cX11_isAt 4 = .ok (.aload_n 0, 1) := by decide +kernel
theorem dX11_isAt_5 : decode cX11_isAt 5 = .ok (.getfield 92, 3) := by decide +kernel
theorem dX11_isAt_8 : decode cX11_isAt 8 = .ok (.if_icmp .ge 33, 3) := by decide +kernel
theorem dX11_isAt_11 : decode cX11_isAt 11 = .ok (.aload_n 0, 1) := by decide +kernel
theorem dX11_isAt_12 : decode cX11_isAt 12 = .ok (.getfield 29, 3) := by decide +kernel
theorem dX11_isAt_15 : decode cX11_isAt 15 = .ok (.aload_n 0, 1) := by decide +kernel
theorem dX11_isAt_16 : decode cX11_isAt 16 = .ok (.getfield 89, 3) := by decide +kernel
theorem dX11_isAt_19 : decode cX11_isAt 19 = .ok (.baload, 1) := by decide +kernel
theorem dX11_isAt_20 : decode cX11_isAt 20 = .ok (.iload_n 1, 1) := by decide +kernel
theorem dX11_isAt_21 : decode cX11_isAt 21 = .ok (.if_icmp .lt 20, 3) := by decide +kernel
theorem dX11_isAt_24 : decode cX11_isAt 24 = .ok (.aload_n 0, 1) := by decide +kernel
theorem dX11_isAt_25 : decode cX11_isAt 25 = .ok (.getfield 29, 3) := by decide +kernel
theorem dX11_isAt_28 : decode cX11_isAt 28 = .ok (.aload_n 0, 1) := by decide +kernel
theorem dX11_isAt_29 : decode cX11_isAt 29 = .ok (.getfield 89, 3) := by decide +kernel
theorem dX11_isAt_32 : decode cX11_isAt 32 = .ok (.baload, 1) := by decide +kernel
theorem dX11_isAt_33 : decode cX11_isAt 33 = .ok (.iload_n 2, 1) := by decide +kernel
theorem dX11_isAt_34 : decode cX11_isAt 34 = .ok (.if_icmp .gt 7, 3) := by decide +kernel
theorem dX11_isAt_37 : decode cX11_isAt 37 = .ok (.iconst 1, 1) := by decide +kernel
theorem dX11_isAt_38 : decode cX11_isAt 38 = .ok (.goto 4, 3) := by decide +kernel
theorem dX11_isAt_41 : decode cX11_isAt 41 = .ok (.iconst 0, 1) := by decide +kernel
theorem dX11_isAt_42 : decode cX11_isAt 42 = .ok (.ireturn, 1) := by decide +kernel
theorem dX11_blanks_0 : decode cX11_blanks 0 = .ok (.aload_n 0, 1) := by decide +kernel
theorem dX11_blanks_1 : decode cX11_blanks 1 = .ok (.bipush 32, 2) := by decide +kernel
theorem dX11_blanks_3 : decode cX11_blanks 3 = .ok (.bipush 32, 2) := by decide +kernel
theorem dX11_blanks_5 : decode cX11_blanks 5 = .ok (.invokevirtual 95, 3) := by decide +kernel
theorem dX11_blanks_8 : decode cX11_blanks 8 = .ok (.ifCond .eq 16, 3) := by decide +kernel
theorem dX11_blanks_11 : decode cX11_blanks 11 = .ok (.aload_n 0, 1) := by decide +kernel
theorem dX11_blanks_12 : decode cX11_blanks 12 = .ok (.dup, 1) := by decide +kernel
theorem dX11_blanks_13 : decode cX11_blanks 13 = .ok (.getfield 89, 3) := by decide +kernel
theorem dX11_blanks_16 : decode cX11_blanks 16 = .ok (.iconst 1, 1) := by decide +kernel
theorem dX11_blanks_17 : decode cX11_blanks 17 = .ok (.iadd, 1) := by decide +kernel
theorem dX11_blanks_18 : decode cX11_blanks 18 = .ok (.putfield 89, 3) := by decide +kernel
theorem dX11_blanks_21 : decode cX11_blanks 21 = .ok (.goto (-21), 3) := by decide +kernel
theorem dX11_blanks_24 : decode cX11_blanks 24 = .ok (.aload_n 0, 1) := by decide +kernel
theorem dX11_blanks_25 : decode cX11_blanks 25 = .ok (.aload_n 0, 1) := by decide +kernel
theorem dX11_blanks_26 : decode cX11_blanks 26 = .ok (.getfield 89, 3) := by decide +kernel
theorem dX11_blanks_29 : decode cX11_blanks 29 = .ok (.putfield 99, 3) := by decide +kernel
theorem dX11_blanks_32 : decode cX11_blanks 32 = .ok (.return_, 1) := by decide +kernel
theorem dX11_letters_0 : decode cX11_letters 0 = .ok (.aload_n 0, 1) := by decide +kernel
theorem dX11_letters_1 : decode cX11_letters 1 = .ok (.invokevirtual 102, 3) := by decide +kernel
theorem dX11_letters_4 : decode cX11_letters 4 = .ok (.aload_n 0, 1) := by decide +kernel
theorem dX11_letters_5 : decode cX11_letters 5 = .ok (.bipush 97, 2) := by decide +kernel
theorem dX11_letters_7 : decode cX11_letters 7 = .ok (.bipush 122, 2) := by decide +kernel
theorem dX11_letters_9 : decode cX11_letters 9 = .ok (.invokevirtual 95, 3) := by decide +kernel
theorem dX11_letters_12 : decode cX11_letters 12 = .ok (.ifCond .eq 16, 3) := by decide +kernel
theorem dX11_letters_15 : decode cX11_letters 15 = .ok (.aload_n 0, 1) := by decide +kernel
theorem dX11_letters_16 : decode cX11_letters 16 = .ok (.dup, 1) := by decide +kernel
theorem dX11_letters_17 : decode cX11_letters 17 = .ok (.getfield 89, 3) := by decide +kernel
theorem dX11_letters_20 : decode cX11_letters 20 = .ok (.iconst 1, 1) := by decide +kernel
theorem dX11_letters_21 : decode cX11_letters 21 = .ok (.iadd, 1) := by decide +kernel
theorem dX11_letters_22 : decode cX11_letters 22 = .ok (.putfield 89, 3) := by decide +kernel
theorem dX11_letters_25 : decode cX11_letters 25 = .ok (.goto (-21), 3) := by decide +kernel
theorem dX11_letters_28 : decode cX11_letters 28 = .ok (.return_, 1) := by decide +kernel
theorem dX11_isWord_0 : decode cX11_isWord 0 = .ok (.aload_n 0, 1) := by decide +kernel
theorem dX11_isWord_1 : decode cX11_isWord 1 = .ok (.getfield 89, 3) := by decide +kernel
theorem dX11_isWord_4 : decode cX11_isWord 4 = .ok (.aload_n 0, 1) := by decide +kernel
theorem dX11_isWord_5 : decode cX11_isWord 5 = .ok (.getfield 99, 3) := by decide +kernel
theorem dX11_isWord_8 : decode cX11_isWord 8 = .ok (.isub, 1) := by decide +kernel
theorem dX11_isWord_9 : decode cX11_isWord 9 = .ok (.aload_n 1, 1) := by decide +kernel
theorem dX11_isWord_10 : decode cX11_isWord 10 = .ok (.invokevirtual 105, 3) := by decide +kernel
theorem dX11_isWord_13 : decode cX11_isWord 13 = .ok (.if_icmp .ne 7, 3) := by decide +kernel
theorem dX11_isWord_16 : decode cX11_isWord 16 = .ok (.iconst 1, 1) := by decide +kernel
theorem dX11_isWord_17 : decode cX11_isWord 17 = .ok (.goto 4, 3) := by decide +kernel
theorem dX11_isWord_20 : decode cX11_isWord 20 = .ok (.iconst 0, 1) := by decide +kernel
theorem dX11_isWord_21 : decode cX11_isWord 21 = .ok (.istore_n 2, 1) := by decide +kernel
theorem dX11_isWord_22 : decode cX11_isWord 22 = .ok (.iconst 0, 1) := by decide +kernel
theorem dX11_isWord_23 : decode cX11_isWord 23 = .ok (.istore_n 3, 1) := by decide +kernel
theorem dX11_isWord_24 : decode cX11_isWord 24 = .ok (.iload_n 2, 1) := by decide +kernel
theorem dX11_isWord_25 : decode cX11_isWord 25 = .ok (.ifCond .eq 42, 3) := by decide +kernel
theorem dX11_isWord_28 : decode cX11_isWord 28 = .ok (.iload_n 3, 1) := by decide +kernel
theorem dX11_isWord_29 : decode cX11_isWord 29 = .ok (.aload_n 1, 1) := by decide +kernel
theorem dX11_isWord_30 : decode cX11_isWord 30 = .ok (.invokevirtual 105, 3) := by decide +kernel
theorem dX11_isWord_33 : decode cX11_isWord 33 = .ok (.if_icmp .ge 34, 3) := by decide +kernel
theorem dX11_isWord_36 : decode cX11_isWord 36 = .ok (.aload_n 0, 1) := by decide +kernel
theorem dX11_isWord_37 : decode cX11_isWord 37 = .ok (.getfield 29, 3) := by decide +kernel
theorem dX11_isWord_40 : decode cX11_isWord 40 = .ok (.aload_n 0, 1) := by decide +kernel
theorem dX11_isWord_41 : decode cX11_isWord 41 = .ok (.getfield 99, 3) := by decide +kernel
theorem dX11_isWord_44 : decode cX11_isWord 44 = .ok (.iload_n 3, 1) := by decide +kernel
theorem dX11_isWord_45 : decode cX11_isWord 45 = .ok (.iadd, 1) := by decide +kernel
theorem dX11_isWord_46 : decode cX11_isWord 46 = .ok (.baload, 1) := by decide +kernel
theorem dX11_isWord_47 : decode cX11_isWord 47 = .ok (.aload_n 1, 1) := by decide +kernel
theorem dX11_isWord_48 : decode cX11_isWord 48 = .ok (.iload_n 3, 1) := by decide +kernel
theorem dX11_isWord_49 : decode cX11_isWord 49 = .ok (.invokevirtual 110, 3) := by decide +kernel
theorem dX11_isWord_52 : decode cX11_isWord 52 = .ok (.if_icmp .ne 7, 3) := by decide +kernel
theorem dX11_isWord_55 : decode cX11_isWord 55 = .ok (.iconst 1, 1) := by decide +kernel
theorem dX11_isWord_56 : decode cX11_isWord 56 = .ok (.goto 4, 3) := by decide +kernel
theorem dX11_isWord_59 : decode cX11_isWord 59 = .ok (.iconst 0, 1) := by decide +kernel
theorem dX11_isWord_60 : decode cX11_isWord 60 = .ok (.istore_n 2, 1) := by decide +kernel
theorem dX11_isWord_61 : decode cX11_isWord 61 = .ok (.iinc 3 1, 3) := by decide +kernel
theorem dX11_isWord_64 : decode cX11_isWord 64 = .ok (.goto (-40), 3) := by decide +kernel
theorem dX11_isWord_67 : decode cX11_isWord 67 = .ok (.iload_n 2, 1) := by decide +kernel
theorem dX11_isWord_68 : decode cX11_isWord 68 = .ok (.ireturn, 1) := by decide +kernel
theorem dX11_passes_0 : decode cX11_passes 0 = .ok (.aload_n 0, 1) := by decide +kernel
theorem dX11_passes_1 : decode cX11_passes 1 = .ok (.invokevirtual 114, 3) := by decide +kernel
theorem dX11_passes_4 : decode cX11_passes 4 = .ok (.aload_n 0, 1) := by decide +kernel
theorem dX11_passes_5 : decode cX11_passes 5 = .ok (.aload_n 1, 1) := by decide +kernel
theorem dX11_passes_6 : decode cX11_passes 6 = .ok (.invokevirtual 117, 3) := by decide +kernel
theorem dX11_passes_9 : decode cX11_passes 9 = .ok (.ifCond .eq 5, 3) := by decide +kernel
theorem dX11_passes_12 : decode cX11_passes 12 = .ok (.iconst 1, 1) := by decide +kernel
theorem dX11_passes_13 : decode cX11_passes 13 = .ok (.ireturn, 1) := by decide +kernel
theorem dX11_passes_14 : decode cX11_passes 14 = .ok (.aload_n 0, 1) := by decide +kernel
theorem dX11_passes_15 : decode cX11_passes 15 = .ok (.aload_n 0, 1) := by decide +kernel
theorem dX11_passes_16 : decode cX11_passes 16 = .ok (.getfield 99, 3) := by decide +kernel
theorem dX11_passes_19 : decode cX11_passes 19 = .ok (.putfield 89, 3) := by decide +kernel
theorem dX11_passes_22 : decode cX11_passes 22 = .ok (.iconst 0, 1) := by decide +kernel
theorem dX11_passes_23 : decode cX11_passes 23 = .ok (.ireturn, 1) := by decide +kernel
theorem dX11_needs_0 : decode cX11_needs 0 = .ok (.aload_n 0, 1) := by decide +kernel
theorem dX11_needs_1 : decode cX11_needs 1 = .ok (.invokevirtual 114, 3) := by decide +kernel
theorem dX11_needs_4 : decode cX11_needs 4 = .ok (.aload_n 0, 1) := by decide +kernel
theorem dX11_needs_5 : decode cX11_needs 5 = .ok (.aload_n 1, 1) := by decide +kernel
theorem dX11_needs_6 : decode cX11_needs 6 = .ok (.invokevirtual 117, 3) := by decide +kernel
theorem dX11_needs_9 : decode cX11_needs 9 = .ok (.ireturn, 1) := by decide +kernel
theorem dX11_sign_0 : decode cX11_sign 0 = .ok (.aload_n 0, 1) := by decide +kernel
theorem dX11_sign_1 : decode cX11_sign 1 = .ok (.invokevirtual 102, 3) := by decide +kernel
theorem dX11_sign_4 : decode cX11_sign 4 = .ok (.aload_n 0, 1) := by decide +kernel
theorem dX11_sign_5 : decode cX11_sign 5 = .ok (.iload_n 1, 1) := by decide +kernel
theorem dX11_sign_6 : decode cX11_sign 6 = .ok (.iload_n 1, 1) := by decide +kernel
theorem dX11_sign_7 : decode cX11_sign 7 = .ok (.invokevirtual 95, 3) := by decide +kernel
theorem dX11_sign_10 : decode cX11_sign 10 = .ok (.ifCond .ne 5, 3) := by decide +kernel
theorem dX11_sign_13 : decode cX11_sign 13 = .ok (.iconst 0, 1) := by decide +kernel
theorem dX11_sign_14 : decode cX11_sign 14 = .ok (.ireturn, 1) := by decide +kernel
theorem dX11_sign_15 : decode cX11_sign 15 = .ok (.aload_n 0, 1) := by decide +kernel
theorem dX11_sign_16 : decode cX11_sign 16 = .ok (.dup, 1) := by decide +kernel
theorem dX11_sign_17 : decode cX11_sign 17 = .ok (.getfield 89, 3) := by decide +kernel
theorem dX11_sign_20 : decode cX11_sign 20 = .ok (.iconst 1, 1) := by decide +kernel
theorem dX11_sign_21 : decode cX11_sign 21 = .ok (.iadd, 1) := by decide +kernel
theorem dX11_sign_22 : decode cX11_sign 22 = .ok (.putfield 89, 3) := by decide +kernel
theorem dX11_sign_25 : decode cX11_sign 25 = .ok (.iconst 1, 1) := by decide +kernel
theorem dX11_sign_26 : decode cX11_sign 26 = .ok (.ireturn, 1) := by decide +kernel
theorem dX11_number_0 : decode cX11_number 0 = .ok (.aload_n 0, 1) := by decide +kernel
theorem dX11_number_1 : decode cX11_number 1 = .ok (.invokevirtual 102, 3) := by decide +kernel
theorem dX11_number_4 : decode cX11_number 4 = .ok (.iconst 0, 1) := by decide +kernel
theorem dX11_number_5 : decode cX11_number 5 = .ok (.istore_n 3, 1) := by decide +kernel
theorem dX11_number_6 : decode cX11_number 6 = .ok (.aload_n 0, 1) := by decide +kernel
theorem dX11_number_7 : decode cX11_number 7 = .ok (.bipush 48, 2) := by decide +kernel
theorem dX11_number_9 : decode cX11_number 9 = .ok (.bipush 57, 2) := by decide +kernel
theorem dX11_number_11 : decode cX11_number 11 = .ok (.invokevirtual 95, 3) := by decide +kernel
theorem dX11_number_14 : decode cX11_number 14 = .ok (.ifCond .eq 51, 3) := by decide +kernel
theorem dX11_number_17 : decode cX11_number 17 = .ok (.aload_n 0, 1) := by decide +kernel
theorem dX11_number_18 : decode cX11_number 18 = .ok (.getfield 89, 3) := by decide +kernel
theorem dX11_number_21 : decode cX11_number 21 = .ok (.aload_n 0, 1) := by decide +kernel
theorem dX11_number_22 : decode cX11_number 22 = .ok (.getfield 99, 3) := by decide +kernel
theorem dX11_number_25 : decode cX11_number 25 = .ok (.isub, 1) := by decide +kernel
theorem dX11_number_26 : decode cX11_number 26 = .ok (.iconst 3, 1) := by decide +kernel
theorem dX11_number_27 : decode cX11_number 27 = .ok (.if_icmp .ge 23, 3) := by decide +kernel
theorem dX11_number_30 : decode cX11_number 30 = .ok (.bipush 10, 2) := by decide +kernel
theorem dX11_number_32 : decode cX11_number 32 = .ok (.iload_n 3, 1) := by decide +kernel
theorem dX11_number_33 : decode cX11_number 33 = .ok (.imul, 1) := by decide +kernel
theorem dX11_number_34 : decode cX11_number 34 = .ok (.aload_n 0, 1) := by decide +kernel
theorem dX11_number_35 : decode cX11_number 35 = .ok (.getfield 29, 3) := by decide +kernel
theorem dX11_number_38 : decode cX11_number 38 = .ok (.aload_n 0, 1) := by decide +kernel
theorem dX11_number_39 : decode cX11_number 39 = .ok (.getfield 89, 3) := by decide +kernel
theorem dX11_number_42 : decode cX11_number 42 = .ok (.baload, 1) := by decide +kernel
theorem dX11_number_43 : decode cX11_number 43 = .ok (.iadd, 1) := by decide +kernel
theorem dX11_number_44 : decode cX11_number 44 = .ok (.bipush 48, 2) := by decide +kernel
theorem dX11_number_46 : decode cX11_number 46 = .ok (.isub, 1) := by decide +kernel
theorem dX11_number_47 : decode cX11_number 47 = .ok (.goto 4, 3) := by decide +kernel
theorem dX11_number_50 : decode cX11_number 50 = .ok (.iload_n 3, 1) := by decide +kernel
theorem dX11_number_51 : decode cX11_number 51 = .ok (.istore_n 3, 1) := by decide +kernel
theorem dX11_number_52 : decode cX11_number 52 = .ok (.aload_n 0, 1) := by decide +kernel
theorem dX11_number_53 : decode cX11_number 53 = .ok (.dup, 1) := by decide +kernel
theorem dX11_number_54 : decode cX11_number 54 = .ok (.getfield 89, 3) := by decide +kernel
theorem dX11_number_57 : decode cX11_number 57 = .ok (.iconst 1, 1) := by decide +kernel
theorem dX11_number_58 : decode cX11_number 58 = .ok (.iadd, 1) := by decide +kernel
theorem dX11_number_59 : decode cX11_number 59 = .ok (.putfield 89, 3) := by decide +kernel
theorem dX11_number_62 : decode cX11_number 62 = .ok (.goto (-56), 3) := by decide +kernel
theorem dX11_number_65 : decode cX11_number 65 = .ok (.aload_n 0, 1) := by decide +kernel
theorem dX11_number_66 : decode cX11_number 66 = .ok (.getfield 89, 3) := by decide +kernel
theorem dX11_number_69 : decode cX11_number 69 = .ok (.aload_n 0, 1) := by decide +kernel
theorem dX11_number_70 : decode cX11_number 70 = .ok (.getfield 99, 3) := by decide +kernel
theorem dX11_number_73 : decode cX11_number 73 = .ok (.if_icmp .eq 26, 3) := by decide +kernel
theorem dX11_number_76 : decode cX11_number 76 = .ok (.aload_n 0, 1) := by decide +kernel
theorem dX11_number_77 : decode cX11_number 77 = .ok (.getfield 89, 3) := by decide +kernel
theorem dX11_number_80 : decode cX11_number 80 = .ok (.aload_n 0, 1) := by decide +kernel
theorem dX11_number_81 : decode cX11_number 81 = .ok (.getfield 99, 3) := by decide +kernel
theorem dX11_number_84 : decode cX11_number 84 = .ok (.isub, 1) := by decide +kernel
theorem dX11_number_85 : decode cX11_number 85 = .ok (.iconst 3, 1) := by decide +kernel
theorem dX11_number_86 : decode cX11_number 86 = .ok (.if_icmp .gt 13, 3) := by decide +kernel
theorem dX11_number_89 : decode cX11_number 89 = .ok (.iload_n 3, 1) := by decide +kernel
theorem dX11_number_90 : decode cX11_number 90 = .ok (.iload_n 1, 1) := by decide +kernel
theorem dX11_number_91 : decode cX11_number 91 = .ok (.if_icmp .lt 8, 3) := by decide +kernel
theorem dX11_number_94 : decode cX11_number 94 = .ok (.iload_n 3, 1) := by decide +kernel
theorem dX11_number_95 : decode cX11_number 95 = .ok (.iload_n 2, 1) := by decide +kernel
theorem dX11_number_96 : decode cX11_number 96 = .ok (.if_icmp .le 7, 3) := by decide +kernel
theorem dX11_number_99 : decode cX11_number 99 = .ok (.iconst (-1), 1) := by decide +kernel
theorem dX11_number_100 : decode cX11_number 100 = .ok (.goto 4, 3) := by decide +kernel
theorem dX11_number_103 : decode cX11_number 103 = .ok (.iload_n 3, 1) := by decide +kernel
theorem dX11_number_104 : decode cX11_number 104 = .ok (.ireturn, 1) := by decide +kernel
theorem dX11_fault_0 : decode cX11_fault 0 = .ok (.aload_n 0, 1) := by decide +kernel
theorem dX11_fault_1 : decode cX11_fault 1 = .ok (.iconst 0, 1) := by decide +kernel
theorem dX11_fault_2 : decode cX11_fault 2 = .ok (.putfield 3, 3) := by decide +kernel
theorem dX11_fault_5 : decode cX11_fault 5 = .ok (.aload_n 0, 1) := by decide +kernel
theorem dX11_fault_6 : decode cX11_fault 6 = .ok (.getfield 33, 3) := by decide +kernel
theorem dX11_fault_9 : decode cX11_fault 9 = .ok (.ireturn, 1) := by decide +kernel
theorem dX11_uses_0 : decode cX11_uses 0 = .ok (.aload_n 0, 1) := by decide +kernel
theorem dX11_uses_1 : decode cX11_uses 1 = .ok (.iconst 0, 1) := by decide +kernel
theorem dX11_uses_2 : decode cX11_uses 2 = .ok (.putfield 3, 3) := by decide +kernel
theorem dX11_uses_5 : decode cX11_uses 5 = .ok (.aload_n 0, 1) := by decide +kernel
theorem dX11_uses_6 : decode cX11_uses 6 = .ok (.aload_n 0, 1) := by decide +kernel
theorem dX11_uses_7 : decode cX11_uses 7 = .ok (.getfield 86, 3) := by decide +kernel
theorem dX11_uses_10 : decode cX11_uses 10 = .ok (.putfield 92, 3) := by decide +kernel
theorem dX11_uses_13 : decode cX11_uses 13 = .ok (.aload_n 0, 1) := by decide +kernel
theorem dX11_uses_14 : decode cX11_uses 14 = .ok (.iconst 0, 1) := by decide +kernel
theorem dX11_uses_15 : decode cX11_uses 15 = .ok (.putfield 86, 3) := by decide +kernel
theorem dX11_uses_18 : decode cX11_uses 18 = .ok (.aload_n 0, 1) := by decide +kernel
theorem dX11_uses_19 : decode cX11_uses 19 = .ok (.iconst 0, 1) := by decide +kernel
theorem dX11_uses_20 : decode cX11_uses 20 = .ok (.putfield 89, 3) := by decide +kernel
theorem dX11_uses_23 : decode cX11_uses 23 = .ok (.return_, 1) := by decide +kernel
theorem dX11_cisternTold_0 : decode cX11_cisternTold 0 = .ok (.aload_n 0, 1) := by decide +kernel
theorem dX11_cisternTold_1 : decode cX11_cisternTold 1 = .ok (.iconst 0, 1) := by decide +kernel
theorem dX11_cisternTold_2 : decode cX11_cisternTold 2 = .ok (.aload_n 0, 1) := by decide +kernel
theorem dX11_cisternTold_3 : decode cX11_cisternTold 3 = .ok (.invokevirtual 52, 3) := by decide +kernel
theorem dX11_cisternTold_6 : decode cX11_cisternTold 6 = .ok (.iconst 1, 1) := by decide +kernel
theorem dX11_cisternTold_7 : decode cX11_cisternTold 7 = .ok (.isub, 1) := by decide +kernel
theorem dX11_cisternTold_8 : decode cX11_cisternTold 8 = .ok (.invokevirtual 121, 3) := by decide +kernel
theorem dX11_cisternTold_11 : decode cX11_cisternTold 11 = .ok (.ireturn, 1) := by decide +kernel
theorem dX11_readCistern_0 : decode cX11_readCistern 0 = .ok (.aload_n 0, 1) := by decide +kernel
theorem dX11_readCistern_1 : decode cX11_readCistern 1 = .ok (.invokevirtual 52, 3) := by decide +kernel
theorem dX11_readCistern_4 : decode cX11_readCistern 4 = .ok (.istore_n 1, 1) := by decide +kernel
theorem dX11_readCistern_5 : decode cX11_readCistern 5 = .ok (.iload_n 1, 1) := by decide +kernel
theorem dX11_readCistern_6 : decode cX11_readCistern 6 = .ok (.bipush 8, 2) := by decide +kernel
theorem dX11_readCistern_8 : decode cX11_readCistern 8 = .ok (.if_icmp .ne 5, 3) := by decide +kernel
theorem dX11_readCistern_11 : decode cX11_readCistern 11 = .ok (.iconst 0, 1) := by decide +kernel
theorem dX11_readCistern_12 : decode cX11_readCistern 12 = .ok (.ireturn, 1) := by decide +kernel
theorem dX11_readCistern_13 : decode cX11_readCistern 13 = .ok (.iconst 0, 1) := by decide +kernel
theorem dX11_readCistern_14 : decode cX11_readCistern 14 = .ok (.istore_n 2, 1) := by decide +kernel
theorem dX11_readCistern_15 : decode cX11_readCistern 15 = .ok (.iload_n 2, 1) := by decide +kernel
theorem dX11_readCistern_16 : decode cX11_readCistern 16 = .ok (.bipush 35, 2) := by decide +kernel
theorem dX11_readCistern_18 : decode cX11_readCistern 18 = .ok (.if_icmp .ge 16, 3) := by decide +kernel
theorem dX11_readCistern_21 : decode cX11_readCistern 21 = .ok (.aload_n 0, 1) := by decide +kernel
theorem dX11_readCistern_22 : decode cX11_readCistern 22 = .ok (.iload_n 1, 1) := by decide +kernel
theorem dX11_readCistern_23 : decode cX11_readCistern 23 = .ok (.iload_n 2, 1) := by decide +kernel
theorem dX11_readCistern_24 : decode cX11_readCistern 24 = .ok (.iconst 0, 1) := by decide +kernel
theorem dX11_readCistern_25 : decode cX11_readCistern 25 = .ok (.invokevirtual 124, 3) := by decide +kernel
theorem dX11_readCistern_28 : decode cX11_readCistern 28 = .ok (.iinc 2 1, 3) := by decide +kernel
theorem dX11_readCistern_31 : decode cX11_readCistern 31 = .ok (.goto (-16), 3) := by decide +kernel
theorem dX11_readCistern_34 : decode cX11_readCistern 34 = .ok (.aload_n 0, 1) := by decide +kernel
theorem dX11_readCistern_35 : decode cX11_readCistern 35 = .ok (.iload_n 1, 1) := by decide +kernel
theorem dX11_readCistern_36 : decode cX11_readCistern 36 = .ok (.iconst 4, 1) := by decide +kernel
theorem dX11_readCistern_37 : decode cX11_readCistern 37 = .ok (.iconst (-1), 1) := by decide +kernel
theorem dX11_readCistern_38 : decode cX11_readCistern 38 = .ok (.invokevirtual 124, 3) := by decide +kernel
theorem dX11_readCistern_41 : decode cX11_readCistern 41 = .ok (.aload_n 0, 1) := by decide +kernel
theorem dX11_readCistern_42 : decode cX11_readCistern 42 = .ok (.iload_n 1, 1) := by decide +kernel
theorem dX11_readCistern_43 : decode cX11_readCistern 43 = .ok (.iconst 0, 1) := by decide +kernel
theorem dX11_readCistern_44 : decode cX11_readCistern 44 = .ok (.aload_n 0, 1) := by decide +kernel
theorem dX11_readCistern_45 : decode cX11_readCistern 45 = .ok (.iconst 1, 1) := by decide +kernel
theorem dX11_readCistern_46 : decode cX11_readCistern 46 = .ok (.sipush 999, 3) := by decide +kernel
theorem dX11_readCistern_49 : decode cX11_readCistern 49 = .ok (.invokevirtual 121, 3) := by decide +kernel
theorem dX11_readCistern_52 : decode cX11_readCistern 52 = .ok (.invokevirtual 124, 3) := by decide +kernel
theorem dX11_readCistern_55 : decode cX11_readCistern 55 = .ok (.aload_n 0, 1) := by decide +kernel
theorem dX11_readCistern_56 : decode cX11_readCistern 56 = .ok (.iload_n 1, 1) := by decide +kernel
theorem dX11_readCistern_57 : decode cX11_readCistern 57 = .ok (.iconst 0, 1) := by decide +kernel
theorem dX11_readCistern_58 : decode cX11_readCistern 58 = .ok (.invokevirtual 69, 3) := by decide +kernel
theorem dX11_readCistern_61 : decode cX11_readCistern 61 = .ok (.ifCond .ge 5, 3) := by decide +kernel
theorem dX11_readCistern_64 : decode cX11_readCistern 64 = .ok (.iconst 0, 1) := by decide +kernel
theorem dX11_readCistern_65 : decode cX11_readCistern 65 = .ok (.ireturn, 1) := by decide +kernel
theorem dX11_readCistern_66 : decode cX11_readCistern 66 = .ok (.aload_n 0, 1) := by decide +kernel
theorem dX11_readCistern_67 : decode cX11_readCistern 67 = .ok (.iload_n 1, 1) := by decide +kernel
theorem dX11_readCistern_68 : decode cX11_readCistern 68 = .ok (.iconst 1, 1) := by decide +kernel
theorem dX11_readCistern_69 : decode cX11_readCistern 69 = .ok (.aload_n 0, 1) := by decide +kernel
theorem dX11_readCistern_70 : decode cX11_readCistern 70 = .ok (.ldc 127, 2) := by decide +kernel
theorem dX11_readCistern_72 : decode cX11_readCistern 72 = .ok (.invokevirtual 129, 3) := by decide +kernel
theorem dX11_readCistern_75 : decode cX11_readCistern 75 = .ok (.ifCond .eq 7, 3) := by decide +kernel
theorem dX11_readCistern_78 : decode cX11_readCistern 78 = .ok (.iconst 1, 1) := by decide +kernel
theorem dX11_readCistern_79 : decode cX11_readCistern 79 = .ok (.goto 30, 3) := by decide +kernel
theorem dX11_readCistern_82 : decode cX11_readCistern 82 = .ok (.aload_n 0, 1) := by decide +kernel
theorem dX11_readCistern_83 : decode cX11_readCistern 83 = .ok (.ldc 132, 2) := by decide +kernel
theorem dX11_readCistern_85 : decode cX11_readCistern 85 = .ok (.invokevirtual 129, 3) := by decide +kernel
theorem dX11_readCistern_88 : decode cX11_readCistern 88 = .ok (.ifCond .eq 7, 3) := by decide +kernel
theorem dX11_readCistern_91 : decode cX11_readCistern 91 = .ok (.iconst 2, 1) := by decide +kernel
theorem dX11_readCistern_92 : decode cX11_readCistern 92 = .ok (.goto 17, 3) := by decide +kernel
theorem dX11_readCistern_95 : decode cX11_readCistern 95 = .ok (.aload_n 0, 1) := by decide +kernel
theorem dX11_readCistern_96 : decode cX11_readCistern 96 = .ok (.ldc 134, 2) := by decide +kernel
theorem dX11_readCistern_98 : decode cX11_readCistern 98 = .ok (.invokevirtual 129, 3) := by decide +kernel
theorem dX11_readCistern_101 : decode cX11_readCistern 101 = .ok (.ifCond .eq 7, 3) := by decide +kernel
theorem dX11_readCistern_104 : decode cX11_readCistern 104 = .ok (.iconst 3, 1) := by decide +kernel
theorem dX11_readCistern_105 : decode cX11_readCistern 105 = .ok (.goto 4, 3) := by decide +kernel
theorem dX11_readCistern_108 : decode cX11_readCistern 108 = .ok (.iconst 0, 1) := by decide +kernel
theorem dX11_readCistern_109 : decode cX11_readCistern 109 = .ok (.invokevirtual 124, 3) := by decide +kernel
theorem dX11_readCistern_112 : decode cX11_readCistern 112 = .ok (.aload_n 0, 1) := by decide +kernel
theorem dX11_readCistern_113 : decode cX11_readCistern 113 = .ok (.getfield 13, 3) := by decide +kernel
theorem dX11_readCistern_116 : decode cX11_readCistern 116 = .ok (.iconst 0, 1) := by decide +kernel
theorem dX11_readCistern_117 : decode cX11_readCistern 117 = .ok (.dup2, 1) := by decide +kernel
theorem dX11_readCistern_118 : decode cX11_readCistern 118 = .ok (.iaload, 1) := by decide +kernel
theorem dX11_readCistern_119 : decode cX11_readCistern 119 = .ok (.iconst 1, 1) := by decide +kernel
theorem dX11_readCistern_120 : decode cX11_readCistern 120 = .ok (.iadd, 1) := by decide +kernel
theorem dX11_readCistern_121 : decode cX11_readCistern 121 = .ok (.iastore, 1) := by decide +kernel
theorem dX11_readCistern_122 : decode cX11_readCistern 122 = .ok (.iconst 1, 1) := by decide +kernel
theorem dX11_readCistern_123 : decode cX11_readCistern 123 = .ok (.ireturn, 1) := by decide +kernel
theorem dX11_readPour_0 : decode cX11_readPour 0 = .ok (.aload_n 0, 1) := by decide +kernel
theorem dX11_readPour_1 : decode cX11_readPour 1 = .ok (.iconst 0, 1) := by decide +kernel
theorem dX11_readPour_2 : decode cX11_readPour 2 = .ok (.sipush 999, 3) := by decide +kernel
theorem dX11_readPour_5 : decode cX11_readPour 5 = .ok (.invokevirtual 121, 3) := by decide +kernel
theorem dX11_readPour_8 : decode cX11_readPour 8 = .ok (.istore_n 1, 1) := by decide +kernel
theorem dX11_readPour_9 : decode cX11_readPour 9 = .ok (.iload_n 1, 1) := by decide +kernel
theorem dX11_readPour_10 : decode cX11_readPour 10 = .ok (.ifCond .lt 12, 3) := by decide +kernel
theorem dX11_readPour_13 : decode cX11_readPour 13 = .ok (.aload_n 0, 1) := by decide +kernel
theorem dX11_readPour_14 : decode cX11_readPour 14 = .ok (.ldc 136, 2) := by decide +kernel
theorem dX11_readPour_16 : decode cX11_readPour 16 = .ok (.invokevirtual 138, 3) := by decide +kernel
theorem dX11_readPour_19 : decode cX11_readPour 19 = .ok (.ifCond .ne 5, 3) := by decide +kernel
theorem dX11_readPour_22 : decode cX11_readPour 22 = .ok (.iconst 0, 1) := by decide +kernel
theorem dX11_readPour_23 : decode cX11_readPour 23 = .ok (.ireturn, 1) := by decide +kernel
theorem dX11_readPour_24 : decode cX11_readPour 24 = .ok (.aload_n 0, 1) := by decide +kernel
theorem dX11_readPour_25 : decode cX11_readPour 25 = .ok (.iconst 0, 1) := by decide +kernel
theorem dX11_readPour_26 : decode cX11_readPour 26 = .ok (.bipush 29, 2) := by decide +kernel
theorem dX11_readPour_28 : decode cX11_readPour 28 = .ok (.invokevirtual 121, 3) := by decide +kernel
theorem dX11_readPour_31 : decode cX11_readPour 31 = .ok (.istore_n 2, 1) := by decide +kernel
theorem dX11_readPour_32 : decode cX11_readPour 32 = .ok (.iload_n 2, 1) := by decide +kernel
theorem dX11_readPour_33 : decode cX11_readPour 33 = .ok (.ifCond .lt 12, 3) := by decide +kernel
theorem dX11_readPour_36 : decode cX11_readPour 36 = .ok (.aload_n 0, 1) := by decide +kernel
theorem dX11_readPour_37 : decode cX11_readPour 37 = .ok (.ldc 141, 2) := by decide +kernel
theorem dX11_readPour_39 : decode cX11_readPour 39 = .ok (.invokevirtual 138, 3) := by decide +kernel
theorem dX11_readPour_42 : decode cX11_readPour 42 = .ok (.ifCond .ne 5, 3) := by decide +kernel
theorem dX11_readPour_45 : decode cX11_readPour 45 = .ok (.iconst 0, 1) := by decide +kernel
theorem dX11_readPour_46 : decode cX11_readPour 46 = .ok (.ireturn, 1) := by decide +kernel
theorem dX11_readPour_47 : decode cX11_readPour 47 = .ok (.aload_n 0, 1) := by decide +kernel
theorem dX11_readPour_48 : decode cX11_readPour 48 = .ok (.invokevirtual 142, 3) := by decide +kernel
theorem dX11_readPour_51 : decode cX11_readPour 51 = .ok (.istore_n 3, 1) := by decide +kernel
theorem dX11_readPour_52 : decode cX11_readPour 52 = .ok (.iload_n 3, 1) := by decide +kernel
theorem dX11_readPour_53 : decode cX11_readPour 53 = .ok (.ifCond .lt 10, 3) := by decide +kernel
theorem dX11_readPour_56 : decode cX11_readPour 56 = .ok (.aload_n 0, 1) := by decide +kernel
theorem dX11_readPour_57 : decode cX11_readPour 57 = .ok (.iload_n 3, 1) := by decide +kernel
theorem dX11_readPour_58 : decode cX11_readPour 58 = .ok (.iload_n 2, 1) := by decide +kernel
theorem dX11_readPour_59 : decode cX11_readPour 59 = .ok (.iload_n 1, 1) := by decide +kernel
theorem dX11_readPour_60 : decode cX11_readPour 60 = .ok (.invokevirtual 145, 3) := by decide +kernel
theorem dX11_readPour_63 : decode cX11_readPour 63 = .ok (.iload_n 3, 1) := by decide +kernel
theorem dX11_readPour_64 : decode cX11_readPour 64 = .ok (.ifCond .lt 7, 3) := by decide +kernel
theorem dX11_readPour_67 : decode cX11_readPour 67 = .ok (.iconst 1, 1) := by decide +kernel
theorem dX11_readPour_68 : decode cX11_readPour 68 = .ok (.goto 4, 3) := by decide +kernel
theorem dX11_readPour_71 : decode cX11_readPour 71 = .ok (.iconst 0, 1) := by decide +kernel
theorem dX11_readPour_72 : decode cX11_readPour 72 = .ok (.ireturn, 1) := by decide +kernel
theorem dX11_readSalt_0 : decode cX11_readSalt 0 = .ok (.aload_n 0, 1) := by decide +kernel
theorem dX11_readSalt_1 : decode cX11_readSalt 1 = .ok (.iconst 0, 1) := by decide +kernel
theorem dX11_readSalt_2 : decode cX11_readSalt 2 = .ok (.bipush 29, 2) := by decide +kernel
theorem dX11_readSalt_4 : decode cX11_readSalt 4 = .ok (.invokevirtual 121, 3) := by decide +kernel
theorem dX11_readSalt_7 : decode cX11_readSalt 7 = .ok (.istore_n 1, 1) := by decide +kernel
theorem dX11_readSalt_8 : decode cX11_readSalt 8 = .ok (.iload_n 1, 1) := by decide +kernel
theorem dX11_readSalt_9 : decode cX11_readSalt 9 = .ok (.ifCond .ge 7, 3) := by decide +kernel
theorem dX11_readSalt_12 : decode cX11_readSalt 12 = .ok (.iconst (-1), 1) := by decide +kernel
theorem dX11_readSalt_13 : decode cX11_readSalt 13 = .ok (.goto 10, 3) := by decide +kernel
theorem dX11_readSalt_16 : decode cX11_readSalt 16 = .ok (.aload_n 0, 1) := by decide +kernel
theorem dX11_readSalt_17 : decode cX11_readSalt 17 = .ok (.iconst 0, 1) := by decide +kernel
theorem dX11_readSalt_18 : decode cX11_readSalt 18 = .ok (.bipush 99, 2) := by decide +kernel
theorem dX11_readSalt_20 : decode cX11_readSalt 20 = .ok (.invokevirtual 121, 3) := by decide +kernel
theorem dX11_readSalt_23 : decode cX11_readSalt 23 = .ok (.istore_n 2, 1) := by decide +kernel
theorem dX11_readSalt_24 : decode cX11_readSalt 24 = .ok (.iload_n 2, 1) := by decide +kernel
theorem dX11_readSalt_25 : decode cX11_readSalt 25 = .ok (.ifCond .lt 13, 3) := by decide +kernel
theorem dX11_readSalt_28 : decode cX11_readSalt 28 = .ok (.aload_n 0, 1) := by decide +kernel
theorem dX11_readSalt_29 : decode cX11_readSalt 29 = .ok (.getfield 13, 3) := by decide +kernel
theorem dX11_readSalt_32 : decode cX11_readSalt 32 = .ok (.bipush 35, 2) := by decide +kernel
theorem dX11_readSalt_34 : decode cX11_readSalt 34 = .ok (.iload_n 1, 1) := by decide +kernel
theorem dX11_readSalt_35 : decode cX11_readSalt 35 = .ok (.iadd, 1) := by decide +kernel
theorem dX11_readSalt_36 : decode cX11_readSalt 36 = .ok (.iload_n 2, 1) := by decide +kernel
theorem dX11_readSalt_37 : decode cX11_readSalt 37 = .ok (.iastore, 1) := by decide +kernel
theorem dX11_readSalt_38 : decode cX11_readSalt 38 = .ok (.iload_n 2, 1) := by decide +kernel
theorem dX11_readSalt_39 : decode cX11_readSalt 39 = .ok (.ifCond .lt 7, 3) := by decide +kernel
theorem dX11_readSalt_42 : decode cX11_readSalt 42 = .ok (.iconst 1, 1) := by decide +kernel
theorem dX11_readSalt_43 : decode cX11_readSalt 43 = .ok (.goto 4, 3) := by decide +kernel
theorem dX11_readSalt_46 : decode cX11_readSalt 46 = .ok (.iconst 0, 1) := by decide +kernel
theorem dX11_readSalt_47 : decode cX11_readSalt 47 = .ok (.ireturn, 1) := by decide +kernel
theorem dX11_readHouse_0 : decode cX11_readHouse 0 = .ok (.aload_n 0, 1) := by decide +kernel
theorem dX11_readHouse_1 : decode cX11_readHouse 1 = .ok (.invokevirtual 60, 3) := by decide +kernel
theorem dX11_readHouse_4 : decode cX11_readHouse 4 = .ok (.istore_n 1, 1) := by decide +kernel
theorem dX11_readHouse_5 : decode cX11_readHouse 5 = .ok (.iload_n 1, 1) := by decide +kernel
theorem dX11_readHouse_6 : decode cX11_readHouse 6 = .ok (.bipush 8, 2) := by decide +kernel
theorem dX11_readHouse_8 : decode cX11_readHouse 8 = .ok (.if_icmp .ne 5, 3) := by decide +kernel
theorem dX11_readHouse_11 : decode cX11_readHouse 11 = .ok (.iconst 0, 1) := by decide +kernel
theorem dX11_readHouse_12 : decode cX11_readHouse 12 = .ok (.ireturn, 1) := by decide +kernel
theorem dX11_readHouse_13 : decode cX11_readHouse 13 = .ok (.iconst 0, 1) := by decide +kernel
theorem dX11_readHouse_14 : decode cX11_readHouse 14 = .ok (.istore_n 2, 1) := by decide +kernel
theorem dX11_readHouse_15 : decode cX11_readHouse 15 = .ok (.iload_n 2, 1) := by decide +kernel
theorem dX11_readHouse_16 : decode cX11_readHouse 16 = .ok (.bipush 34, 2) := by decide +kernel
theorem dX11_readHouse_18 : decode cX11_readHouse 18 = .ok (.if_icmp .ge 16, 3) := by decide +kernel
theorem dX11_readHouse_21 : decode cX11_readHouse 21 = .ok (.aload_n 0, 1) := by decide +kernel
theorem dX11_readHouse_22 : decode cX11_readHouse 22 = .ok (.iload_n 1, 1) := by decide +kernel
theorem dX11_readHouse_23 : decode cX11_readHouse 23 = .ok (.iload_n 2, 1) := by decide +kernel
theorem dX11_readHouse_24 : decode cX11_readHouse 24 = .ok (.iconst 0, 1) := by decide +kernel
theorem dX11_readHouse_25 : decode cX11_readHouse 25 = .ok (.invokevirtual 148, 3) := by decide +kernel
theorem dX11_readHouse_28 : decode cX11_readHouse 28 = .ok (.iinc 2 1, 3) := by decide +kernel
theorem dX11_readHouse_31 : decode cX11_readHouse 31 = .ok (.goto (-16), 3) := by decide +kernel
theorem dX11_readHouse_34 : decode cX11_readHouse 34 = .ok (.aload_n 0, 1) := by decide +kernel
theorem dX11_readHouse_35 : decode cX11_readHouse 35 = .ok (.iload_n 1, 1) := by decide +kernel
theorem dX11_readHouse_36 : decode cX11_readHouse 36 = .ok (.iconst 0, 1) := by decide +kernel
theorem dX11_readHouse_37 : decode cX11_readHouse 37 = .ok (.aload_n 0, 1) := by decide +kernel
theorem dX11_readHouse_38 : decode cX11_readHouse 38 = .ok (.iconst 0, 1) := by decide +kernel
theorem dX11_readHouse_39 : decode cX11_readHouse 39 = .ok (.bipush 99, 2) := by decide +kernel
theorem dX11_readHouse_41 : decode cX11_readHouse 41 = .ok (.invokevirtual 121, 3) := by decide +kernel
theorem dX11_readHouse_44 : decode cX11_readHouse 44 = .ok (.invokevirtual 148, 3) := by decide +kernel
theorem dX11_readHouse_47 : decode cX11_readHouse 47 = .ok (.aload_n 0, 1) := by decide +kernel
theorem dX11_readHouse_48 : decode cX11_readHouse 48 = .ok (.iload_n 1, 1) := by decide +kernel
theorem dX11_readHouse_49 : decode cX11_readHouse 49 = .ok (.iconst 0, 1) := by decide +kernel
theorem dX11_readHouse_50 : decode cX11_readHouse 50 = .ok (.invokevirtual 151, 3) := by decide +kernel
theorem dX11_readHouse_53 : decode cX11_readHouse 53 = .ok (.ifCond .lt 12, 3) := by decide +kernel
theorem dX11_readHouse_56 : decode cX11_readHouse 56 = .ok (.aload_n 0, 1) := by decide +kernel
theorem dX11_readHouse_57 : decode cX11_readHouse 57 = .ok (.ldc 154, 2) := by decide +kernel
theorem dX11_readHouse_59 : decode cX11_readHouse 59 = .ok (.invokevirtual 138, 3) := by decide +kernel
theorem dX11_readHouse_62 : decode cX11_readHouse 62 = .ok (.ifCond .ne 5, 3) := by decide +kernel
theorem dX11_readHouse_65 : decode cX11_readHouse 65 = .ok (.iconst 0, 1) := by decide +kernel
theorem dX11_readHouse_66 : decode cX11_readHouse 66 = .ok (.ireturn, 1) := by decide +kernel
theorem dX11_readHouse_67 : decode cX11_readHouse 67 = .ok (.aload_n 0, 1) := by decide +kernel
theorem dX11_readHouse_68 : decode cX11_readHouse 68 = .ok (.iload_n 1, 1) := by decide +kernel
theorem dX11_readHouse_69 : decode cX11_readHouse 69 = .ok (.iconst 1, 1) := by decide +kernel
theorem dX11_readHouse_70 : decode cX11_readHouse 70 = .ok (.aload_n 0, 1) := by decide +kernel
theorem dX11_readHouse_71 : decode cX11_readHouse 71 = .ok (.invokevirtual 142, 3) := by decide +kernel
theorem dX11_readHouse_74 : decode cX11_readHouse 74 = .ok (.invokevirtual 148, 3) := by decide +kernel
theorem dX11_readHouse_77 : decode cX11_readHouse 77 = .ok (.aload_n 0, 1) := by decide +kernel
theorem dX11_readHouse_78 : decode cX11_readHouse 78 = .ok (.iload_n 1, 1) := by decide +kernel
theorem dX11_readHouse_79 : decode cX11_readHouse 79 = .ok (.iconst 1, 1) := by decide +kernel
theorem dX11_readHouse_80 : decode cX11_readHouse 80 = .ok (.invokevirtual 151, 3) := by decide +kernel
theorem dX11_readHouse_83 : decode cX11_readHouse 83 = .ok (.ifCond .ge 5, 3) := by decide +kernel
theorem dX11_readHouse_86 : decode cX11_readHouse 86 = .ok (.iconst 0, 1) := by decide +kernel
theorem dX11_readHouse_87 : decode cX11_readHouse 87 = .ok (.ireturn, 1) := by decide +kernel
theorem dX11_readHouse_88 : decode cX11_readHouse 88 = .ok (.aload_n 0, 1) := by decide +kernel
theorem dX11_readHouse_89 : decode cX11_readHouse 89 = .ok (.iload_n 1, 1) := by decide +kernel
theorem dX11_readHouse_90 : decode cX11_readHouse 90 = .ok (.iconst 2, 1) := by decide +kernel
theorem dX11_readHouse_91 : decode cX11_readHouse 91 = .ok (.aload_n 0, 1) := by decide +kernel
theorem dX11_readHouse_92 : decode cX11_readHouse 92 = .ok (.ldc 156, 2) := by decide +kernel
theorem dX11_readHouse_94 : decode cX11_readHouse 94 = .ok (.invokevirtual 129, 3) := by decide +kernel
theorem dX11_readHouse_97 : decode cX11_readHouse 97 = .ok (.ifCond .eq 13, 3) := by decide +kernel
theorem dX11_readHouse_100 : decode cX11_readHouse 100 = .ok (.aload_n 0, 1) := by decide +kernel
theorem dX11_readHouse_101 : decode cX11_readHouse 101 = .ok (.iconst 0, 1) := by decide +kernel
theorem dX11_readHouse_102 : decode cX11_readHouse 102 = .ok (.bipush 99, 2) := by decide +kernel
theorem dX11_readHouse_104 : decode cX11_readHouse 104 = .ok (.invokevirtual 121, 3) := by decide +kernel
theorem dX11_readHouse_107 : decode cX11_readHouse 107 = .ok (.goto 5, 3) := by decide +kernel
theorem dX11_readHouse_110 : decode cX11_readHouse 110 = .ok (.bipush 99, 2) := by decide +kernel
theorem dX11_readHouse_112 : decode cX11_readHouse 112 = .ok (.invokevirtual 148, 3) := by decide +kernel
theorem dX11_readHouse_115 : decode cX11_readHouse 115 = .ok (.aload_n 0, 1) := by decide +kernel
theorem dX11_readHouse_116 : decode cX11_readHouse 116 = .ok (.iload_n 1, 1) := by decide +kernel
theorem dX11_readHouse_117 : decode cX11_readHouse 117 = .ok (.iconst 2, 1) := by decide +kernel
theorem dX11_readHouse_118 : decode cX11_readHouse 118 = .ok (.invokevirtual 151, 3) := by decide +kernel
theorem dX11_readHouse_121 : decode cX11_readHouse 121 = .ok (.ifCond .ge 5, 3) := by decide +kernel
theorem dX11_readHouse_124 : decode cX11_readHouse 124 = .ok (.iconst 0, 1) := by decide +kernel
theorem dX11_readHouse_125 : decode cX11_readHouse 125 = .ok (.ireturn, 1) := by decide +kernel
theorem dX11_readHouse_126 : decode cX11_readHouse 126 = .ok (.aload_n 0, 1) := by decide +kernel
theorem dX11_readHouse_127 : decode cX11_readHouse 127 = .ok (.getfield 13, 3) := by decide +kernel
theorem dX11_readHouse_130 : decode cX11_readHouse 130 = .ok (.iconst 1, 1) := by decide +kernel
theorem dX11_readHouse_131 : decode cX11_readHouse 131 = .ok (.dup2, 1) := by decide +kernel
theorem dX11_readHouse_132 : decode cX11_readHouse 132 = .ok (.iaload, 1) := by decide +kernel
theorem dX11_readHouse_133 : decode cX11_readHouse 133 = .ok (.iconst 1, 1) := by decide +kernel
theorem dX11_readHouse_134 : decode cX11_readHouse 134 = .ok (.iadd, 1) := by decide +kernel
theorem dX11_readHouse_135 : decode cX11_readHouse 135 = .ok (.iastore, 1) := by decide +kernel
theorem dX11_readHouse_136 : decode cX11_readHouse 136 = .ok (.iconst 1, 1) := by decide +kernel
theorem dX11_readHouse_137 : decode cX11_readHouse 137 = .ok (.ireturn, 1) := by decide +kernel
theorem dX11_readLeak_0 : decode cX11_readLeak 0 = .ok (.aload_n 0, 1) := by decide +kernel
theorem dX11_readLeak_1 : decode cX11_readLeak 1 = .ok (.invokevirtual 142, 3) := by decide +kernel
theorem dX11_readLeak_4 : decode cX11_readLeak 4 = .ok (.istore_n 1, 1) := by decide +kernel
theorem dX11_readLeak_5 : decode cX11_readLeak 5 = .ok (.iload_n 1, 1) := by decide +kernel
theorem dX11_readLeak_6 : decode cX11_readLeak 6 = .ok (.ifCond .ge 5, 3) := by decide +kernel
theorem dX11_readLeak_9 : decode cX11_readLeak 9 = .ok (.iconst 0, 1) := by decide +kernel
theorem dX11_readLeak_10 : decode cX11_readLeak 10 = .ok (.ireturn, 1) := by decide +kernel
theorem dX11_readLeak_11 : decode cX11_readLeak 11 = .ok (.iconst (-1), 1) := by decide +kernel
theorem dX11_readLeak_12 : decode cX11_readLeak 12 = .ok (.istore_n 2, 1) := by decide +kernel
theorem dX11_readLeak_13 : decode cX11_readLeak 13 = .ok (.aload_n 0, 1) := by decide +kernel
theorem dX11_readLeak_14 : decode cX11_readLeak 14 = .ok (.ldc 158, 2) := by decide +kernel
theorem dX11_readLeak_16 : decode cX11_readLeak 16 = .ok (.invokevirtual 129, 3) := by decide +kernel
theorem dX11_readLeak_19 : decode cX11_readLeak 19 = .ok (.ifCond .ne 30, 3) := by decide +kernel
theorem dX11_readLeak_22 : decode cX11_readLeak 22 = .ok (.aload_n 0, 1) := by decide +kernel
theorem dX11_readLeak_23 : decode cX11_readLeak 23 = .ok (.ldc 160, 2) := by decide +kernel
theorem dX11_readLeak_25 : decode cX11_readLeak 25 = .ok (.invokevirtual 138, 3) := by decide +kernel
theorem dX11_readLeak_28 : decode cX11_readLeak 28 = .ok (.ifCond .ne 5, 3) := by decide +kernel
theorem dX11_readLeak_31 : decode cX11_readLeak 31 = .ok (.iconst 0, 1) := by decide +kernel
theorem dX11_readLeak_32 : decode cX11_readLeak 32 = .ok (.ireturn, 1) := by decide +kernel
theorem dX11_readLeak_33 : decode cX11_readLeak 33 = .ok (.aload_n 0, 1) := by decide +kernel
theorem dX11_readLeak_34 : decode cX11_readLeak 34 = .ok (.invokevirtual 142, 3) := by decide +kernel
theorem dX11_readLeak_37 : decode cX11_readLeak 37 = .ok (.istore_n 2, 1) := by decide +kernel
theorem dX11_readLeak_38 : decode cX11_readLeak 38 = .ok (.iload_n 2, 1) := by decide +kernel
theorem dX11_readLeak_39 : decode cX11_readLeak 39 = .ok (.ifCond .lt 8, 3) := by decide +kernel
theorem dX11_readLeak_42 : decode cX11_readLeak 42 = .ok (.iload_n 2, 1) := by decide +kernel
theorem dX11_readLeak_43 : decode cX11_readLeak 43 = .ok (.iload_n 1, 1) := by decide +kernel
theorem dX11_readLeak_44 : decode cX11_readLeak 44 = .ok (.if_icmp .ne 5, 3) := by decide +kernel
theorem dX11_readLeak_47 : decode cX11_readLeak 47 = .ok (.iconst 0, 1) := by decide +kernel
theorem dX11_readLeak_48 : decode cX11_readLeak 48 = .ok (.ireturn, 1) := by decide +kernel
theorem dX11_readLeak_49 : decode cX11_readLeak 49 = .ok (.aload_n 0, 1) := by decide +kernel
theorem dX11_readLeak_50 : decode cX11_readLeak 50 = .ok (.iconst 0, 1) := by decide +kernel
theorem dX11_readLeak_51 : decode cX11_readLeak 51 = .ok (.bipush 99, 2) := by decide +kernel
theorem dX11_readLeak_53 : decode cX11_readLeak 53 = .ok (.invokevirtual 121, 3) := by decide +kernel
theorem dX11_readLeak_56 : decode cX11_readLeak 56 = .ok (.istore_n 3, 1) := by decide +kernel
theorem dX11_readLeak_57 : decode cX11_readLeak 57 = .ok (.iload_n 3, 1) := by decide +kernel
theorem dX11_readLeak_58 : decode cX11_readLeak 58 = .ok (.ifCond .ge 5, 3) := by decide +kernel
theorem dX11_readLeak_61 : decode cX11_readLeak 61 = .ok (.iconst 0, 1) := by decide +kernel
theorem dX11_readLeak_62 : decode cX11_readLeak 62 = .ok (.ireturn, 1) := by decide +kernel
theorem dX11_readLeak_63 : decode cX11_readLeak 63 = .ok (.aload_n 0, 1) := by decide +kernel
theorem dX11_readLeak_64 : decode cX11_readLeak 64 = .ok (.iload_n 1, 1) := by decide +kernel
theorem dX11_readLeak_65 : decode cX11_readLeak 65 = .ok (.iconst 3, 1) := by decide +kernel
theorem dX11_readLeak_66 : decode cX11_readLeak 66 = .ok (.iload_n 3, 1) := by decide +kernel
theorem dX11_readLeak_67 : decode cX11_readLeak 67 = .ok (.invokevirtual 124, 3) := by decide +kernel
theorem dX11_readLeak_70 : decode cX11_readLeak 70 = .ok (.aload_n 0, 1) := by decide +kernel
theorem dX11_readLeak_71 : decode cX11_readLeak 71 = .ok (.iload_n 1, 1) := by decide +kernel
theorem dX11_readLeak_72 : decode cX11_readLeak 72 = .ok (.iconst 4, 1) := by decide +kernel
theorem dX11_readLeak_73 : decode cX11_readLeak 73 = .ok (.iload_n 2, 1) := by decide +kernel
theorem dX11_readLeak_74 : decode cX11_readLeak 74 = .ok (.invokevirtual 124, 3) := by decide +kernel
theorem dX11_readLeak_77 : decode cX11_readLeak 77 = .ok (.iconst 1, 1) := by decide +kernel
theorem dX11_readLeak_78 : decode cX11_readLeak 78 = .ok (.ireturn, 1) := by decide +kernel
theorem dX11_readSeal_0 : decode cX11_readSeal 0 = .ok (.aload_n 0, 1) := by decide +kernel
theorem dX11_readSeal_1 : decode cX11_readSeal 1 = .ok (.invokevirtual 142, 3) := by decide +kernel
theorem dX11_readSeal_4 : decode cX11_readSeal 4 = .ok (.istore_n 2, 1) := by decide +kernel
theorem dX11_readSeal_5 : decode cX11_readSeal 5 = .ok (.iload_n 2, 1) := by decide +kernel
theorem dX11_readSeal_6 : decode cX11_readSeal 6 = .ok (.ifCond .lt 10, 3) := by decide +kernel
theorem dX11_readSeal_9 : decode cX11_readSeal 9 = .ok (.aload_n 0, 1) := by decide +kernel
theorem dX11_readSeal_10 : decode cX11_readSeal 10 = .ok (.iload_n 2, 1) := by decide +kernel
theorem dX11_readSeal_11 : decode cX11_readSeal 11 = .ok (.iconst 2, 1) := by decide +kernel
theorem dX11_readSeal_12 : decode cX11_readSeal 12 = .ok (.iload_n 1, 1) := by decide +kernel
theorem dX11_readSeal_13 : decode cX11_readSeal 13 = .ok (.invokevirtual 124, 3) := by decide +kernel
theorem dX11_readSeal_16 : decode cX11_readSeal 16 = .ok (.iload_n 2, 1) := by decide +kernel
theorem dX11_readSeal_17 : decode cX11_readSeal 17 = .ok (.ifCond .lt 7, 3) := by decide +kernel
theorem dX11_readSeal_20 : decode cX11_readSeal 20 = .ok (.iconst 1, 1) := by decide +kernel
theorem dX11_readSeal_21 : decode cX11_readSeal 21 = .ok (.goto 4, 3) := by decide +kernel
theorem dX11_readSeal_24 : decode cX11_readSeal 24 = .ok (.iconst 0, 1) := by decide +kernel
theorem dX11_readSeal_25 : decode cX11_readSeal 25 = .ok (.ireturn, 1) := by decide +kernel
theorem dX11_readLandLine_0 : decode cX11_readLandLine 0 = .ok (.aload_n 0, 1) := by decide +kernel
theorem dX11_readLandLine_1 : decode cX11_readLandLine 1 = .ok (.ldc 162, 2) := by decide +kernel
theorem dX11_readLandLine_3 : decode cX11_readLandLine 3 = .ok (.invokevirtual 117, 3) := by decide +kernel
theorem dX11_readLandLine_6 : decode cX11_readLandLine 6 = .ok (.ifCond .eq 8, 3) := by decide +kernel
theorem dX11_readLandLine_9 : decode cX11_readLandLine 9 = .ok (.aload_n 0, 1) := by decide +kernel
theorem dX11_readLandLine_10 : decode cX11_readLandLine 10 = .ok (.invokevirtual 164, 3) := by decide +kernel
theorem dX11_readLandLine_13 : decode cX11_readLandLine 13 = .ok (.ireturn, 1) := by decide +kernel
theorem dX11_readLandLine_14 : decode cX11_readLandLine 14 = .ok (.aload_n 0, 1) := by decide +kernel
theorem dX11_readLandLine_15 : decode cX11_readLandLine 15 = .ok (.ldc 168, 2) := by decide +kernel
theorem dX11_readLandLine_17 : decode cX11_readLandLine 17 = .ok (.invokevirtual 117, 3) := by decide +kernel
theorem dX11_readLandLine_20 : decode cX11_readLandLine 20 = .ok (.ifCond .eq 8, 3) := by decide +kernel
theorem dX11_readLandLine_23 : decode cX11_readLandLine 23 = .ok (.aload_n 0, 1) := by decide +kernel
theorem dX11_readLandLine_24 : decode cX11_readLandLine 24 = .ok (.invokevirtual 170, 3) := by decide +kernel
theorem dX11_readLandLine_27 : decode cX11_readLandLine 27 = .ok (.ireturn, 1) := by decide +kernel
theorem dX11_readLandLine_28 : decode cX11_readLandLine 28 = .ok (.aload_n 0, 1) := by decide +kernel
theorem dX11_readLandLine_29 : decode cX11_readLandLine 29 = .ok (.ldc 173, 2) := by decide +kernel
theorem dX11_readLandLine_31 : decode cX11_readLandLine 31 = .ok (.invokevirtual 117, 3) := by decide +kernel
theorem dX11_readLandLine_34 : decode cX11_readLandLine 34 = .ok (.ifCond .eq 8, 3) := by decide +kernel
theorem dX11_readLandLine_37 : decode cX11_readLandLine 37 = .ok (.aload_n 0, 1) := by decide +kernel
theorem dX11_readLandLine_38 : decode cX11_readLandLine 38 = .ok (.invokevirtual 175, 3) := by decide +kernel
theorem dX11_readLandLine_41 : decode cX11_readLandLine 41 = .ok (.ireturn, 1) := by decide +kernel
theorem dX11_readLandLine_42 : decode cX11_readLandLine 42 = .ok (.aload_n 0, 1) := by decide +kernel
theorem dX11_readLandLine_43 : decode cX11_readLandLine 43 = .ok (.ldc 178, 2) := by decide +kernel
theorem dX11_readLandLine_45 : decode cX11_readLandLine 45 = .ok (.invokevirtual 117, 3) := by decide +kernel
theorem dX11_readLandLine_48 : decode cX11_readLandLine 48 = .ok (.ifCond .eq 8, 3) := by decide +kernel
theorem dX11_readLandLine_51 : decode cX11_readLandLine 51 = .ok (.aload_n 0, 1) := by decide +kernel
theorem dX11_readLandLine_52 : decode cX11_readLandLine 52 = .ok (.invokevirtual 180, 3) := by decide +kernel
theorem dX11_readLandLine_55 : decode cX11_readLandLine 55 = .ok (.ireturn, 1) := by decide +kernel
theorem dX11_readLandLine_56 : decode cX11_readLandLine 56 = .ok (.aload_n 0, 1) := by decide +kernel
theorem dX11_readLandLine_57 : decode cX11_readLandLine 57 = .ok (.ldc 183, 2) := by decide +kernel
theorem dX11_readLandLine_59 : decode cX11_readLandLine 59 = .ok (.invokevirtual 117, 3) := by decide +kernel
theorem dX11_readLandLine_62 : decode cX11_readLandLine 62 = .ok (.ifCond .eq 8, 3) := by decide +kernel
theorem dX11_readLandLine_65 : decode cX11_readLandLine 65 = .ok (.aload_n 0, 1) := by decide +kernel
theorem dX11_readLandLine_66 : decode cX11_readLandLine 66 = .ok (.invokevirtual 185, 3) := by decide +kernel
theorem dX11_readLandLine_69 : decode cX11_readLandLine 69 = .ok (.ireturn, 1) := by decide +kernel
theorem dX11_readLandLine_70 : decode cX11_readLandLine 70 = .ok (.aload_n 0, 1) := by decide +kernel
theorem dX11_readLandLine_71 : decode cX11_readLandLine 71 = .ok (.ldc 188, 2) := by decide +kernel
theorem dX11_readLandLine_73 : decode cX11_readLandLine 73 = .ok (.invokevirtual 117, 3) := by decide +kernel
theorem dX11_readLandLine_76 : decode cX11_readLandLine 76 = .ok (.istore_n 1, 1) := by decide +kernel
theorem dX11_readLandLine_77 : decode cX11_readLandLine 77 = .ok (.iload_n 1, 1) := by decide +kernel
theorem dX11_readLandLine_78 : decode cX11_readLandLine 78 = .ok (.ifCond .ne 12, 3) := by decide +kernel
theorem dX11_readLandLine_81 : decode cX11_readLandLine 81 = .ok (.aload_n 0, 1) := by decide +kernel
theorem dX11_readLandLine_82 : decode cX11_readLandLine 82 = .ok (.ldc 190, 2) := by decide +kernel
theorem dX11_readLandLine_84 : decode cX11_readLandLine 84 = .ok (.invokevirtual 117, 3) := by decide +kernel
theorem dX11_readLandLine_87 : decode cX11_readLandLine 87 = .ok (.ifCond .eq 23, 3) := by decide +kernel
theorem dX11_readLandLine_90 : decode cX11_readLandLine 90 = .ok (.aload_n 0, 1) := by decide +kernel
theorem dX11_readLandLine_91 : decode cX11_readLandLine 91 = .ok (.iload_n 1, 1) := by decide +kernel
theorem dX11_readLandLine_92 : decode cX11_readLandLine 92 = .ok (.ifCond .eq 7, 3) := by decide +kernel
theorem dX11_readLandLine_95 : decode cX11_readLandLine 95 = .ok (.iconst 1, 1) := by decide +kernel
