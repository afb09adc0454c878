theorem dX11_readLandLine_96 : decode cX11_readLandLine 96 = .ok (.goto 4, 3) := by decide +kernel
theorem dX11_readLandLine_99 : decode cX11_readLandLine 99 = .ok (.iconst 0, 1) := by decide +kernel
theorem dX11_readLandLine_100 : decode cX11_readLandLine 100 = .ok (.invokevirtual 192, 3) := by decide +kernel
theorem dX11_readLandLine_103 : decode cX11_readLandLine 103 = .ok (.ifCond .eq 7, 3) := by decide +kernel
theorem dX11_readLandLine_106 : decode cX11_readLandLine 106 = .ok (.iconst 1, 1) := by decide +kernel
theorem dX11_readLandLine_107 : decode cX11_readLandLine 107 = .ok (.goto 4, 3) := by decide +kernel
theorem dX11_readLandLine_110 : decode cX11_readLandLine 110 = .ok (.iconst 0, 1) := by decide +kernel
theorem dX11_readLandLine_111 : decode cX11_readLandLine 111 = .ok (.ireturn, 1) := by decide +kernel
theorem dX11_emits_0 : decode cX11_emits 0 = .ok (.aload_n 0, 1) := by decide +kernel
theorem dX11_emits_1 : decode cX11_emits 1 = .ok (.getfield 13, 3) := by decide +kernel
theorem dX11_emits_4 : decode cX11_emits 4 = .ok (.sipush 1491, 3) := by decide +kernel
theorem dX11_emits_7 : decode cX11_emits 7 = .ok (.iconst 2, 1) := by decide +kernel
theorem dX11_emits_8 : decode cX11_emits 8 = .ok (.aload_n 0, 1) := by decide +kernel
theorem dX11_emits_9 : decode cX11_emits 9 = .ok (.getfield 196, 3) := by decide +kernel
theorem dX11_emits_12 : decode cX11_emits 12 = .ok (.imul, 1) := by decide +kernel
theorem dX11_emits_13 : decode cX11_emits 13 = .ok (.iadd, 1) := by decide +kernel
theorem dX11_emits_14 : decode cX11_emits 14 = .ok (.iload_n 1, 1) := by decide +kernel
theorem dX11_emits_15 : decode cX11_emits 15 = .ok (.iastore, 1) := by decide +kernel
theorem dX11_emits_16 : decode cX11_emits 16 = .ok (.aload_n 0, 1) := by decide +kernel
theorem dX11_emits_17 : decode cX11_emits 17 = .ok (.getfield 13, 3) := by decide +kernel
theorem dX11_emits_20 : decode cX11_emits 20 = .ok (.sipush 1491, 3) := by decide +kernel
theorem dX11_emits_23 : decode cX11_emits 23 = .ok (.iconst 2, 1) := by decide +kernel
theorem dX11_emits_24 : decode cX11_emits 24 = .ok (.aload_n 0, 1) := by decide +kernel
theorem dX11_emits_25 : decode cX11_emits 25 = .ok (.getfield 196, 3) := by decide +kernel
theorem dX11_emits_28 : decode cX11_emits 28 = .ok (.imul, 1) := by decide +kernel
theorem dX11_emits_29 : decode cX11_emits 29 = .ok (.iadd, 1) := by decide +kernel
theorem dX11_emits_30 : decode cX11_emits 30 = .ok (.iconst 1, 1) := by decide +kernel
theorem dX11_emits_31 : decode cX11_emits 31 = .ok (.iadd, 1) := by decide +kernel
theorem dX11_emits_32 : decode cX11_emits 32 = .ok (.iload_n 2, 1) := by decide +kernel
theorem dX11_emits_33 : decode cX11_emits 33 = .ok (.iastore, 1) := by decide +kernel
theorem dX11_emits_34 : decode cX11_emits 34 = .ok (.aload_n 0, 1) := by decide +kernel
theorem dX11_emits_35 : decode cX11_emits 35 = .ok (.dup, 1) := by decide +kernel
theorem dX11_emits_36 : decode cX11_emits 36 = .ok (.getfield 196, 3) := by decide +kernel
theorem dX11_emits_39 : decode cX11_emits 39 = .ok (.iconst 1, 1) := by decide +kernel
theorem dX11_emits_40 : decode cX11_emits 40 = .ok (.iadd, 1) := by decide +kernel
theorem dX11_emits_41 : decode cX11_emits 41 = .ok (.putfield 196, 3) := by decide +kernel
theorem dX11_emits_44 : decode cX11_emits 44 = .ok (.return_, 1) := by decide +kernel
theorem dX11_readPart_0 : decode cX11_readPart 0 = .ok (.aload_n 0, 1) := by decide +kernel
theorem dX11_readPart_1 : decode cX11_readPart 1 = .ok (.invokevirtual 114, 3) := by decide +kernel
theorem dX11_readPart_4 : decode cX11_readPart 4 = .ok (.aload_n 0, 1) := by decide +kernel
theorem dX11_readPart_5 : decode cX11_readPart 5 = .ok (.getfield 89, 3) := by decide +kernel
theorem dX11_readPart_8 : decode cX11_readPart 8 = .ok (.aload_n 0, 1) := by decide +kernel
theorem dX11_readPart_9 : decode cX11_readPart 9 = .ok (.getfield 99, 3) := by decide +kernel
theorem dX11_readPart_12 : decode cX11_readPart 12 = .ok (.if_icmp .ne 22, 3) := by decide +kernel
theorem dX11_readPart_15 : decode cX11_readPart 15 = .ok (.aload_n 0, 1) := by decide +kernel
theorem dX11_readPart_16 : decode cX11_readPart 16 = .ok (.iconst 0, 1) := by decide +kernel
theorem dX11_readPart_17 : decode cX11_readPart 17 = .ok (.sipush 999, 3) := by decide +kernel
theorem dX11_readPart_20 : decode cX11_readPart 20 = .ok (.invokevirtual 121, 3) := by decide +kernel
theorem dX11_readPart_23 : decode cX11_readPart 23 = .ok (.istore_n 1, 1) := by decide +kernel
theorem dX11_readPart_24 : decode cX11_readPart 24 = .ok (.aload_n 0, 1) := by decide +kernel
theorem dX11_readPart_25 : decode cX11_readPart 25 = .ok (.bipush 9, 2) := by decide +kernel
theorem dX11_readPart_27 : decode cX11_readPart 27 = .ok (.iload_n 1, 1) := by decide +kernel
theorem dX11_readPart_28 : decode cX11_readPart 28 = .ok (.invokevirtual 199, 3) := by decide +kernel
theorem dX11_readPart_31 : decode cX11_readPart 31 = .ok (.goto 76, 3) := by decide +kernel
theorem dX11_readPart_34 : decode cX11_readPart 34 = .ok (.aload_n 0, 1) := by decide +kernel
theorem dX11_readPart_35 : decode cX11_readPart 35 = .ok (.ldc 203, 2) := by decide +kernel
theorem dX11_readPart_37 : decode cX11_readPart 37 = .ok (.invokevirtual 117, 3) := by decide +kernel
theorem dX11_readPart_40 : decode cX11_readPart 40 = .ok (.ifCond .eq 7, 3) := by decide +kernel
theorem dX11_readPart_43 : decode cX11_readPart 43 = .ok (.iconst 0, 1) := by decide +kernel
theorem dX11_readPart_44 : decode cX11_readPart 44 = .ok (.goto 56, 3) := by decide +kernel
theorem dX11_readPart_47 : decode cX11_readPart 47 = .ok (.aload_n 0, 1) := by decide +kernel
theorem dX11_readPart_48 : decode cX11_readPart 48 = .ok (.ldc 205, 2) := by decide +kernel
theorem dX11_readPart_50 : decode cX11_readPart 50 = .ok (.invokevirtual 117, 3) := by decide +kernel
theorem dX11_readPart_53 : decode cX11_readPart 53 = .ok (.ifCond .eq 7, 3) := by decide +kernel
theorem dX11_readPart_56 : decode cX11_readPart 56 = .ok (.iconst 1, 1) := by decide +kernel
theorem dX11_readPart_57 : decode cX11_readPart 57 = .ok (.goto 43, 3) := by decide +kernel
theorem dX11_readPart_60 : decode cX11_readPart 60 = .ok (.aload_n 0, 1) := by decide +kernel
theorem dX11_readPart_61 : decode cX11_readPart 61 = .ok (.ldc 173, 2) := by decide +kernel
theorem dX11_readPart_63 : decode cX11_readPart 63 = .ok (.invokevirtual 117, 3) := by decide +kernel
theorem dX11_readPart_66 : decode cX11_readPart 66 = .ok (.ifCond .eq 7, 3) := by decide +kernel
theorem dX11_readPart_69 : decode cX11_readPart 69 = .ok (.iconst 2, 1) := by decide +kernel
theorem dX11_readPart_70 : decode cX11_readPart 70 = .ok (.goto 30, 3) := by decide +kernel
theorem dX11_readPart_73 : decode cX11_readPart 73 = .ok (.aload_n 0, 1) := by decide +kernel
theorem dX11_readPart_74 : decode cX11_readPart 74 = .ok (.ldc 207, 2) := by decide +kernel
theorem dX11_readPart_76 : decode cX11_readPart 76 = .ok (.invokevirtual 117, 3) := by decide +kernel
theorem dX11_readPart_79 : decode cX11_readPart 79 = .ok (.ifCond .eq 7, 3) := by decide +kernel
theorem dX11_readPart_82 : decode cX11_readPart 82 = .ok (.iconst 3, 1) := by decide +kernel
theorem dX11_readPart_83 : decode cX11_readPart 83 = .ok (.goto 17, 3) := by decide +kernel
theorem dX11_readPart_86 : decode cX11_readPart 86 = .ok (.aload_n 0, 1) := by decide +kernel
theorem dX11_readPart_87 : decode cX11_readPart 87 = .ok (.ldc 209, 2) := by decide +kernel
theorem dX11_readPart_89 : decode cX11_readPart 89 = .ok (.invokevirtual 117, 3) := by decide +kernel
theorem dX11_readPart_92 : decode cX11_readPart 92 = .ok (.ifCond .eq 7, 3) := by decide +kernel
theorem dX11_readPart_95 : decode cX11_readPart 95 = .ok (.iconst 4, 1) := by decide +kernel
theorem dX11_readPart_96 : decode cX11_readPart 96 = .ok (.goto 4, 3) := by decide +kernel
theorem dX11_readPart_99 : decode cX11_readPart 99 = .ok (.iconst (-1), 1) := by decide +kernel
theorem dX11_readPart_100 : decode cX11_readPart 100 = .ok (.istore_n 1, 1) := by decide +kernel
theorem dX11_readPart_101 : decode cX11_readPart 101 = .ok (.aload_n 0, 1) := by decide +kernel
theorem dX11_readPart_102 : decode cX11_readPart 102 = .ok (.iload_n 1, 1) := by decide +kernel
theorem dX11_readPart_103 : decode cX11_readPart 103 = .ok (.iconst 0, 1) := by decide +kernel
theorem dX11_readPart_104 : decode cX11_readPart 104 = .ok (.invokevirtual 199, 3) := by decide +kernel
theorem dX11_readPart_107 : decode cX11_readPart 107 = .ok (.iload_n 1, 1) := by decide +kernel
theorem dX11_readPart_108 : decode cX11_readPart 108 = .ok (.ifCond .lt 7, 3) := by decide +kernel
theorem dX11_readPart_111 : decode cX11_readPart 111 = .ok (.iconst 1, 1) := by decide +kernel
theorem dX11_readPart_112 : decode cX11_readPart 112 = .ok (.goto 4, 3) := by decide +kernel
theorem dX11_readPart_115 : decode cX11_readPart 115 = .ok (.iconst 0, 1) := by decide +kernel
theorem dX11_readPart_116 : decode cX11_readPart 116 = .ok (.ireturn, 1) := by decide +kernel
theorem dX11_readSum_0 : decode cX11_readSum 0 = .ok (.aload_n 0, 1) := by decide +kernel
theorem dX11_readSum_1 : decode cX11_readSum 1 = .ok (.invokevirtual 210, 3) := by decide +kernel
theorem dX11_readSum_4 : decode cX11_readSum 4 = .ok (.ifCond .ne 5, 3) := by decide +kernel
theorem dX11_readSum_7 : decode cX11_readSum 7 = .ok (.iconst 0, 1) := by decide +kernel
theorem dX11_readSum_8 : decode cX11_readSum 8 = .ok (.ireturn, 1) := by decide +kernel
theorem dX11_readSum_9 : decode cX11_readSum 9 = .ok (.aload_n 0, 1) := by decide +kernel
theorem dX11_readSum_10 : decode cX11_readSum 10 = .ok (.bipush 43, 2) := by decide +kernel
theorem dX11_readSum_12 : decode cX11_readSum 12 = .ok (.invokevirtual 213, 3) := by decide +kernel
theorem dX11_readSum_15 : decode cX11_readSum 15 = .ok (.ifCond .eq 22, 3) := by decide +kernel
theorem dX11_readSum_18 : decode cX11_readSum 18 = .ok (.aload_n 0, 1) := by decide +kernel
theorem dX11_readSum_19 : decode cX11_readSum 19 = .ok (.invokevirtual 210, 3) := by decide +kernel
theorem dX11_readSum_22 : decode cX11_readSum 22 = .ok (.ifCond .ne 5, 3) := by decide +kernel
theorem dX11_readSum_25 : decode cX11_readSum 25 = .ok (.iconst 0, 1) := by decide +kernel
theorem dX11_readSum_26 : decode cX11_readSum 26 = .ok (.ireturn, 1) := by decide +kernel
theorem dX11_readSum_27 : decode cX11_readSum 27 = .ok (.aload_n 0, 1) := by decide +kernel
theorem dX11_readSum_28 : decode cX11_readSum 28 = .ok (.bipush 10, 2) := by decide +kernel
theorem dX11_readSum_30 : decode cX11_readSum 30 = .ok (.iconst 0, 1) := by decide +kernel
theorem dX11_readSum_31 : decode cX11_readSum 31 = .ok (.invokevirtual 199, 3) := by decide +kernel
theorem dX11_readSum_34 : decode cX11_readSum 34 = .ok (.goto (-25), 3) := by decide +kernel
theorem dX11_readSum_37 : decode cX11_readSum 37 = .ok (.iconst 1, 1) := by decide +kernel
theorem dX11_readSum_38 : decode cX11_readSum 38 = .ok (.ireturn, 1) := by decide +kernel
theorem dX11_tagAt_0 : decode cX11_tagAt 0 = .ok (.aload_n 0, 1) := by decide +kernel
theorem dX11_tagAt_1 : decode cX11_tagAt 1 = .ok (.ldc 127, 2) := by decide +kernel
theorem dX11_tagAt_3 : decode cX11_tagAt 3 = .ok (.invokevirtual 117, 3) := by decide +kernel
theorem dX11_tagAt_6 : decode cX11_tagAt 6 = .ok (.ifCond .eq 7, 3) := by decide +kernel
theorem dX11_tagAt_9 : decode cX11_tagAt 9 = .ok (.iconst 5, 1) := by decide +kernel
theorem dX11_tagAt_10 : decode cX11_tagAt 10 = .ok (.goto 46, 3) := by decide +kernel
theorem dX11_tagAt_13 : decode cX11_tagAt 13 = .ok (.aload_n 0, 1) := by decide +kernel
theorem dX11_tagAt_14 : decode cX11_tagAt 14 = .ok (.ldc 132, 2) := by decide +kernel
theorem dX11_tagAt_16 : decode cX11_tagAt 16 = .ok (.invokevirtual 117, 3) := by decide +kernel
theorem dX11_tagAt_19 : decode cX11_tagAt 19 = .ok (.ifCond .eq 8, 3) := by decide +kernel
theorem dX11_tagAt_22 : decode cX11_tagAt 22 = .ok (.bipush 6, 2) := by decide +kernel
theorem dX11_tagAt_24 : decode cX11_tagAt 24 = .ok (.goto 32, 3) := by decide +kernel
theorem dX11_tagAt_27 : decode cX11_tagAt 27 = .ok (.aload_n 0, 1) := by decide +kernel
theorem dX11_tagAt_28 : decode cX11_tagAt 28 = .ok (.ldc 134, 2) := by decide +kernel
theorem dX11_tagAt_30 : decode cX11_tagAt 30 = .ok (.invokevirtual 117, 3) := by decide +kernel
theorem dX11_tagAt_33 : decode cX11_tagAt 33 = .ok (.ifCond .eq 8, 3) := by decide +kernel
theorem dX11_tagAt_36 : decode cX11_tagAt 36 = .ok (.bipush 7, 2) := by decide +kernel
theorem dX11_tagAt_38 : decode cX11_tagAt 38 = .ok (.goto 18, 3) := by decide +kernel
theorem dX11_tagAt_41 : decode cX11_tagAt 41 = .ok (.aload_n 0, 1) := by decide +kernel
theorem dX11_tagAt_42 : decode cX11_tagAt 42 = .ok (.ldc 216, 2) := by decide +kernel
theorem dX11_tagAt_44 : decode cX11_tagAt 44 = .ok (.invokevirtual 117, 3) := by decide +kernel
theorem dX11_tagAt_47 : decode cX11_tagAt 47 = .ok (.ifCond .eq 8, 3) := by decide +kernel
theorem dX11_tagAt_50 : decode cX11_tagAt 50 = .ok (.bipush 8, 2) := by decide +kernel
theorem dX11_tagAt_52 : decode cX11_tagAt 52 = .ok (.goto 4, 3) := by decide +kernel
theorem dX11_tagAt_55 : decode cX11_tagAt 55 = .ok (.iconst (-1), 1) := by decide +kernel
theorem dX11_tagAt_56 : decode cX11_tagAt 56 = .ok (.ireturn, 1) := by decide +kernel
theorem dX11_readAtom_0 : decode cX11_readAtom 0 = .ok (.aload_n 0, 1) := by decide +kernel
theorem dX11_readAtom_1 : decode cX11_readAtom 1 = .ok (.bipush 40, 2) := by decide +kernel
theorem dX11_readAtom_3 : decode cX11_readAtom 3 = .ok (.invokevirtual 213, 3) := by decide +kernel
theorem dX11_readAtom_6 : decode cX11_readAtom 6 = .ok (.ifCond .eq 50, 3) := by decide +kernel
theorem dX11_readAtom_9 : decode cX11_readAtom 9 = .ok (.aload_n 0, 1) := by decide +kernel
theorem dX11_readAtom_10 : decode cX11_readAtom 10 = .ok (.getfield 218, 3) := by decide +kernel
theorem dX11_readAtom_13 : decode cX11_readAtom 13 = .ok (.bipush 6, 2) := by decide +kernel
theorem dX11_readAtom_15 : decode cX11_readAtom 15 = .ok (.if_icmp .ne 5, 3) := by decide +kernel
theorem dX11_readAtom_18 : decode cX11_readAtom 18 = .ok (.iconst 0, 1) := by decide +kernel
theorem dX11_readAtom_19 : decode cX11_readAtom 19 = .ok (.ireturn, 1) := by decide +kernel
theorem dX11_readAtom_20 : decode cX11_readAtom 20 = .ok (.aload_n 0, 1) := by decide +kernel
theorem dX11_readAtom_21 : decode cX11_readAtom 21 = .ok (.dup, 1) := by decide +kernel
theorem dX11_readAtom_22 : decode cX11_readAtom 22 = .ok (.getfield 218, 3) := by decide +kernel
theorem dX11_readAtom_25 : decode cX11_readAtom 25 = .ok (.iconst 1, 1) := by decide +kernel
theorem dX11_readAtom_26 : decode cX11_readAtom 26 = .ok (.iadd, 1) := by decide +kernel
theorem dX11_readAtom_27 : decode cX11_readAtom 27 = .ok (.putfield 218, 3) := by decide +kernel
theorem dX11_readAtom_30 : decode cX11_readAtom 30 = .ok (.aload_n 0, 1) := by decide +kernel
theorem dX11_readAtom_31 : decode cX11_readAtom 31 = .ok (.invokevirtual 221, 3) := by decide +kernel
theorem dX11_readAtom_34 : decode cX11_readAtom 34 = .ok (.ifCond .ne 5, 3) := by decide +kernel
theorem dX11_readAtom_37 : decode cX11_readAtom 37 = .ok (.iconst 0, 1) := by decide +kernel
theorem dX11_readAtom_38 : decode cX11_readAtom 38 = .ok (.ireturn, 1) := by decide +kernel
theorem dX11_readAtom_39 : decode cX11_readAtom 39 = .ok (.aload_n 0, 1) := by decide +kernel
theorem dX11_readAtom_40 : decode cX11_readAtom 40 = .ok (.dup, 1) := by decide +kernel
theorem dX11_readAtom_41 : decode cX11_readAtom 41 = .ok (.getfield 218, 3) := by decide +kernel
theorem dX11_readAtom_44 : decode cX11_readAtom 44 = .ok (.iconst 1, 1) := by decide +kernel
theorem dX11_readAtom_45 : decode cX11_readAtom 45 = .ok (.isub, 1) := by decide +kernel
theorem dX11_readAtom_46 : decode cX11_readAtom 46 = .ok (.putfield 218, 3) := by decide +kernel
theorem dX11_readAtom_49 : decode cX11_readAtom 49 = .ok (.aload_n 0, 1) := by decide +kernel
theorem dX11_readAtom_50 : decode cX11_readAtom 50 = .ok (.bipush 41, 2) := by decide +kernel
theorem dX11_readAtom_52 : decode cX11_readAtom 52 = .ok (.invokevirtual 213, 3) := by decide +kernel
theorem dX11_readAtom_55 : decode cX11_readAtom 55 = .ok (.ireturn, 1) := by decide +kernel
theorem dX11_readAtom_56 : decode cX11_readAtom 56 = .ok (.aload_n 0, 1) := by decide +kernel
theorem dX11_readAtom_57 : decode cX11_readAtom 57 = .ok (.ldc 224, 2) := by decide +kernel
theorem dX11_readAtom_59 : decode cX11_readAtom 59 = .ok (.invokevirtual 129, 3) := by decide +kernel
theorem dX11_readAtom_62 : decode cX11_readAtom 62 = .ok (.ifCond .eq 52, 3) := by decide +kernel
theorem dX11_readAtom_65 : decode cX11_readAtom 65 = .ok (.aload_n 0, 1) := by decide +kernel
theorem dX11_readAtom_66 : decode cX11_readAtom 66 = .ok (.getfield 218, 3) := by decide +kernel
theorem dX11_readAtom_69 : decode cX11_readAtom 69 = .ok (.bipush 6, 2) := by decide +kernel
theorem dX11_readAtom_71 : decode cX11_readAtom 71 = .ok (.if_icmp .ne 5, 3) := by decide +kernel
theorem dX11_readAtom_74 : decode cX11_readAtom 74 = .ok (.iconst 0, 1) := by decide +kernel
theorem dX11_readAtom_75 : decode cX11_readAtom 75 = .ok (.ireturn, 1) := by decide +kernel
theorem dX11_readAtom_76 : decode cX11_readAtom 76 = .ok (.aload_n 0, 1) := by decide +kernel
theorem dX11_readAtom_77 : decode cX11_readAtom 77 = .ok (.dup, 1) := by decide +kernel
theorem dX11_readAtom_78 : decode cX11_readAtom 78 = .ok (.getfield 218, 3) := by decide +kernel
theorem dX11_readAtom_81 : decode cX11_readAtom 81 = .ok (.iconst 1, 1) := by decide +kernel
theorem dX11_readAtom_82 : decode cX11_readAtom 82 = .ok (.iadd, 1) := by decide +kernel
theorem dX11_readAtom_83 : decode cX11_readAtom 83 = .ok (.putfield 218, 3) := by decide +kernel
theorem dX11_readAtom_86 : decode cX11_readAtom 86 = .ok (.aload_n 0, 1) := by decide +kernel
theorem dX11_readAtom_87 : decode cX11_readAtom 87 = .ok (.invokevirtual 226, 3) := by decide +kernel
theorem dX11_readAtom_90 : decode cX11_readAtom 90 = .ok (.ifCond .ne 5, 3) := by decide +kernel
theorem dX11_readAtom_93 : decode cX11_readAtom 93 = .ok (.iconst 0, 1) := by decide +kernel
theorem dX11_readAtom_94 : decode cX11_readAtom 94 = .ok (.ireturn, 1) := by decide +kernel
theorem dX11_readAtom_95 : decode cX11_readAtom 95 = .ok (.aload_n 0, 1) := by decide +kernel
theorem dX11_readAtom_96 : decode cX11_readAtom 96 = .ok (.dup, 1) := by decide +kernel
theorem dX11_readAtom_97 : decode cX11_readAtom 97 = .ok (.getfield 218, 3) := by decide +kernel
theorem dX11_readAtom_100 : decode cX11_readAtom 100 = .ok (.iconst 1, 1) := by decide +kernel
theorem dX11_readAtom_101 : decode cX11_readAtom 101 = .ok (.isub, 1) := by decide +kernel
theorem dX11_readAtom_102 : decode cX11_readAtom 102 = .ok (.putfield 218, 3) := by decide +kernel
theorem dX11_readAtom_105 : decode cX11_readAtom 105 = .ok (.aload_n 0, 1) := by decide +kernel
theorem dX11_readAtom_106 : decode cX11_readAtom 106 = .ok (.bipush 13, 2) := by decide +kernel
theorem dX11_readAtom_108 : decode cX11_readAtom 108 = .ok (.iconst 0, 1) := by decide +kernel
theorem dX11_readAtom_109 : decode cX11_readAtom 109 = .ok (.invokevirtual 199, 3) := by decide +kernel
theorem dX11_readAtom_112 : decode cX11_readAtom 112 = .ok (.iconst 1, 1) := by decide +kernel
theorem dX11_readAtom_113 : decode cX11_readAtom 113 = .ok (.ireturn, 1) := by decide +kernel
theorem dX11_readAtom_114 : decode cX11_readAtom 114 = .ok (.aload_n 0, 1) := by decide +kernel
theorem dX11_readAtom_115 : decode cX11_readAtom 115 = .ok (.invokevirtual 114, 3) := by decide +kernel
theorem dX11_readAtom_118 : decode cX11_readAtom 118 = .ok (.aload_n 0, 1) := by decide +kernel
theorem dX11_readAtom_119 : decode cX11_readAtom 119 = .ok (.invokevirtual 229, 3) := by decide +kernel
theorem dX11_readAtom_122 : decode cX11_readAtom 122 = .ok (.istore_n 1, 1) := by decide +kernel
theorem dX11_readAtom_123 : decode cX11_readAtom 123 = .ok (.iload_n 1, 1) := by decide +kernel
theorem dX11_readAtom_124 : decode cX11_readAtom 124 = .ok (.ifCond .lt 11, 3) := by decide +kernel
theorem dX11_readAtom_127 : decode cX11_readAtom 127 = .ok (.aload_n 0, 1) := by decide +kernel
theorem dX11_readAtom_128 : decode cX11_readAtom 128 = .ok (.iload_n 1, 1) := by decide +kernel
theorem dX11_readAtom_129 : decode cX11_readAtom 129 = .ok (.iconst 0, 1) := by decide +kernel
theorem dX11_readAtom_130 : decode cX11_readAtom 130 = .ok (.invokevirtual 199, 3) := by decide +kernel
theorem dX11_readAtom_133 : decode cX11_readAtom 133 = .ok (.iconst 1, 1) := by decide +kernel
theorem dX11_readAtom_134 : decode cX11_readAtom 134 = .ok (.ireturn, 1) := by decide +kernel
theorem dX11_readAtom_135 : decode cX11_readAtom 135 = .ok (.aload_n 0, 1) := by decide +kernel
theorem dX11_readAtom_136 : decode cX11_readAtom 136 = .ok (.aload_n 0, 1) := by decide +kernel
theorem dX11_readAtom_137 : decode cX11_readAtom 137 = .ok (.getfield 99, 3) := by decide +kernel
theorem dX11_readAtom_140 : decode cX11_readAtom 140 = .ok (.putfield 89, 3) := by decide +kernel
theorem dX11_readAtom_143 : decode cX11_readAtom 143 = .ok (.aload_n 0, 1) := by decide +kernel
theorem dX11_readAtom_144 : decode cX11_readAtom 144 = .ok (.invokevirtual 232, 3) := by decide +kernel
theorem dX11_readAtom_147 : decode cX11_readAtom 147 = .ok (.ifCond .ne 5, 3) := by decide +kernel
theorem dX11_readAtom_150 : decode cX11_readAtom 150 = .ok (.iconst 0, 1) := by decide +kernel
theorem dX11_readAtom_151 : decode cX11_readAtom 151 = .ok (.ireturn, 1) := by decide +kernel
theorem dX11_readAtom_152 : decode cX11_readAtom 152 = .ok (.aload_n 0, 1) := by decide +kernel
theorem dX11_readAtom_153 : decode cX11_readAtom 153 = .ok (.bipush 60, 2) := by decide +kernel
theorem dX11_readAtom_155 : decode cX11_readAtom 155 = .ok (.invokevirtual 213, 3) := by decide +kernel
theorem dX11_readAtom_158 : decode cX11_readAtom 158 = .ok (.istore_n 2, 1) := by decide +kernel
theorem dX11_readAtom_159 : decode cX11_readAtom 159 = .ok (.iload_n 2, 1) := by decide +kernel
theorem dX11_readAtom_160 : decode cX11_readAtom 160 = .ok (.ifCond .ne 12, 3) := by decide +kernel
theorem dX11_readAtom_163 : decode cX11_readAtom 163 = .ok (.aload_n 0, 1) := by decide +kernel
theorem dX11_readAtom_164 : decode cX11_readAtom 164 = .ok (.bipush 62, 2) := by decide +kernel
theorem dX11_readAtom_166 : decode cX11_readAtom 166 = .ok (.invokevirtual 213, 3) := by decide +kernel
theorem dX11_readAtom_169 : decode cX11_readAtom 169 = .ok (.ifCond .eq 10, 3) := by decide +kernel
theorem dX11_readAtom_172 : decode cX11_readAtom 172 = .ok (.aload_n 0, 1) := by decide +kernel
theorem dX11_readAtom_173 : decode cX11_readAtom 173 = .ok (.invokevirtual 232, 3) := by decide +kernel
theorem dX11_readAtom_176 : decode cX11_readAtom 176 = .ok (.ifCond .ne 5, 3) := by decide +kernel
theorem dX11_readAtom_179 : decode cX11_readAtom 179 = .ok (.iconst 0, 1) := by decide +kernel
theorem dX11_readAtom_180 : decode cX11_readAtom 180 = .ok (.ireturn, 1) := by decide +kernel
theorem dX11_readAtom_181 : decode cX11_readAtom 181 = .ok (.aload_n 0, 1) := by decide +kernel
theorem dX11_readAtom_182 : decode cX11_readAtom 182 = .ok (.iload_n 2, 1) := by decide +kernel
theorem dX11_readAtom_183 : decode cX11_readAtom 183 = .ok (.ifCond .eq 8, 3) := by decide +kernel
theorem dX11_readAtom_186 : decode cX11_readAtom 186 = .ok (.bipush 11, 2) := by decide +kernel
theorem dX11_readAtom_188 : decode cX11_readAtom 188 = .ok (.goto 5, 3) := by decide +kernel
theorem dX11_readAtom_191 : decode cX11_readAtom 191 = .ok (.bipush 12, 2) := by decide +kernel
theorem dX11_readAtom_193 : decode cX11_readAtom 193 = .ok (.iconst 0, 1) := by decide +kernel
theorem dX11_readAtom_194 : decode cX11_readAtom 194 = .ok (.invokevirtual 199, 3) := by decide +kernel
theorem dX11_readAtom_197 : decode cX11_readAtom 197 = .ok (.iconst 1, 1) := by decide +kernel
theorem dX11_readAtom_198 : decode cX11_readAtom 198 = .ok (.ireturn, 1) := by decide +kernel
theorem dX11_readAllOf_0 : decode cX11_readAllOf 0 = .ok (.aload_n 0, 1) := by decide +kernel
theorem dX11_readAllOf_1 : decode cX11_readAllOf 1 = .ok (.invokevirtual 226, 3) := by decide +kernel
theorem dX11_readAllOf_4 : decode cX11_readAllOf 4 = .ok (.ifCond .ne 5, 3) := by decide +kernel
theorem dX11_readAllOf_7 : decode cX11_readAllOf 7 = .ok (.iconst 0, 1) := by decide +kernel
theorem dX11_readAllOf_8 : decode cX11_readAllOf 8 = .ok (.ireturn, 1) := by decide +kernel
theorem dX11_readAllOf_9 : decode cX11_readAllOf 9 = .ok (.aload_n 0, 1) := by decide +kernel
theorem dX11_readAllOf_10 : decode cX11_readAllOf 10 = .ok (.ldc 235, 2) := by decide +kernel
theorem dX11_readAllOf_12 : decode cX11_readAllOf 12 = .ok (.invokevirtual 129, 3) := by decide +kernel
theorem dX11_readAllOf_15 : decode cX11_readAllOf 15 = .ok (.ifCond .eq 22, 3) := by decide +kernel
theorem dX11_readAllOf_18 : decode cX11_readAllOf 18 = .ok (.aload_n 0, 1) := by decide +kernel
theorem dX11_readAllOf_19 : decode cX11_readAllOf 19 = .ok (.invokevirtual 226, 3) := by decide +kernel
theorem dX11_readAllOf_22 : decode cX11_readAllOf 22 = .ok (.ifCond .ne 5, 3) := by decide +kernel
theorem dX11_readAllOf_25 : decode cX11_readAllOf 25 = .ok (.iconst 0, 1) := by decide +kernel
theorem dX11_readAllOf_26 : decode cX11_readAllOf 26 = .ok (.ireturn, 1) := by decide +kernel
theorem dX11_readAllOf_27 : decode cX11_readAllOf 27 = .ok (.aload_n 0, 1) := by decide +kernel
theorem dX11_readAllOf_28 : decode cX11_readAllOf 28 = .ok (.bipush 14, 2) := by decide +kernel
theorem dX11_readAllOf_30 : decode cX11_readAllOf 30 = .ok (.iconst 0, 1) := by decide +kernel
theorem dX11_readAllOf_31 : decode cX11_readAllOf 31 = .ok (.invokevirtual 199, 3) := by decide +kernel
theorem dX11_readAllOf_34 : decode cX11_readAllOf 34 = .ok (.goto (-25), 3) := by decide +kernel
theorem dX11_readAllOf_37 : decode cX11_readAllOf 37 = .ok (.iconst 1, 1) := by decide +kernel
theorem dX11_readAllOf_38 : decode cX11_readAllOf 38 = .ok (.ireturn, 1) := by decide +kernel
theorem dX11_readCond_0 : decode cX11_readCond 0 = .ok (.aload_n 0, 1) := by decide +kernel
theorem dX11_readCond_1 : decode cX11_readCond 1 = .ok (.invokevirtual 237, 3) := by decide +kernel
theorem dX11_readCond_4 : decode cX11_readCond 4 = .ok (.ifCond .ne 5, 3) := by decide +kernel
theorem dX11_readCond_7 : decode cX11_readCond 7 = .ok (.iconst 0, 1) := by decide +kernel
theorem dX11_readCond_8 : decode cX11_readCond 8 = .ok (.ireturn, 1) := by decide +kernel
theorem dX11_readCond_9 : decode cX11_readCond 9 = .ok (.aload_n 0, 1) := by decide +kernel
theorem dX11_readCond_10 : decode cX11_readCond 10 = .ok (.ldc 240, 2) := by decide +kernel
theorem dX11_readCond_12 : decode cX11_readCond 12 = .ok (.invokevirtual 129, 3) := by decide +kernel
theorem dX11_readCond_15 : decode cX11_readCond 15 = .ok (.ifCond .eq 22, 3) := by decide +kernel
theorem dX11_readCond_18 : decode cX11_readCond 18 = .ok (.aload_n 0, 1) := by decide +kernel
theorem dX11_readCond_19 : decode cX11_readCond 19 = .ok (.invokevirtual 237, 3) := by decide +kernel
theorem dX11_readCond_22 : decode cX11_readCond 22 = .ok (.ifCond .ne 5, 3) := by decide +kernel
theorem dX11_readCond_25 : decode cX11_readCond 25 = .ok (.iconst 0, 1) := by decide +kernel
theorem dX11_readCond_26 : decode cX11_readCond 26 = .ok (.ireturn, 1) := by decide +kernel
theorem dX11_readCond_27 : decode cX11_readCond 27 = .ok (.aload_n 0, 1) := by decide +kernel
theorem dX11_readCond_28 : decode cX11_readCond 28 = .ok (.bipush 15, 2) := by decide +kernel
theorem dX11_readCond_30 : decode cX11_readCond 30 = .ok (.iconst 0, 1) := by decide +kernel
theorem dX11_readCond_31 : decode cX11_readCond 31 = .ok (.invokevirtual 199, 3) := by decide +kernel
theorem dX11_readCond_34 : decode cX11_readCond 34 = .ok (.goto (-25), 3) := by decide +kernel
theorem dX11_readCond_37 : decode cX11_readCond 37 = .ok (.iconst 1, 1) := by decide +kernel
theorem dX11_readCond_38 : decode cX11_readCond 38 = .ok (.ireturn, 1) := by decide +kernel
theorem dX11_readLawLine_0 : decode cX11_readLawLine 0 = .ok (.sipush 1455, 3) := by decide +kernel
theorem dX11_readLawLine_3 : decode cX11_readLawLine 3 = .ok (.iconst 3, 1) := by decide +kernel
theorem dX11_readLawLine_4 : decode cX11_readLawLine 4 = .ok (.iload_n 1, 1) := by decide +kernel
theorem dX11_readLawLine_5 : decode cX11_readLawLine 5 = .ok (.imul, 1) := by decide +kernel
theorem dX11_readLawLine_6 : decode cX11_readLawLine 6 = .ok (.iadd, 1) := by decide +kernel
theorem dX11_readLawLine_7 : decode cX11_readLawLine 7 = .ok (.istore_n 2, 1) := by decide +kernel
theorem dX11_readLawLine_8 : decode cX11_readLawLine 8 = .ok (.aload_n 0, 1) := by decide +kernel
theorem dX11_readLawLine_9 : decode cX11_readLawLine 9 = .ok (.ldc 242, 2) := by decide +kernel
theorem dX11_readLawLine_11 : decode cX11_readLawLine 11 = .ok (.invokevirtual 117, 3) := by decide +kernel
theorem dX11_readLawLine_14 : decode cX11_readLawLine 14 = .ok (.istore_n 3, 1) := by decide +kernel
theorem dX11_readLawLine_15 : decode cX11_readLawLine 15 = .ok (.iload_n 3, 1) := by decide +kernel
theorem dX11_readLawLine_16 : decode cX11_readLawLine 16 = .ok (.ifCond .ne 14, 3) := by decide +kernel
theorem dX11_readLawLine_19 : decode cX11_readLawLine 19 = .ok (.aload_n 0, 1) := by decide +kernel
theorem dX11_readLawLine_20 : decode cX11_readLawLine 20 = .ok (.ldc 244, 2) := by decide +kernel
theorem dX11_readLawLine_22 : decode cX11_readLawLine 22 = .ok (.invokevirtual 117, 3) := by decide +kernel
theorem dX11_readLawLine_25 : decode cX11_readLawLine 25 = .ok (.ifCond .ne 5, 3) := by decide +kernel
theorem dX11_readLawLine_28 : decode cX11_readLawLine 28 = .ok (.iconst 0, 1) := by decide +kernel
theorem dX11_readLawLine_29 : decode cX11_readLawLine 29 = .ok (.ireturn, 1) := by decide +kernel
theorem dX11_readLawLine_30 : decode cX11_readLawLine 30 = .ok (.aload_n 0, 1) := by decide +kernel
theorem dX11_readLawLine_31 : decode cX11_readLawLine 31 = .ok (.getfield 13, 3) := by decide +kernel
theorem dX11_readLawLine_34 : decode cX11_readLawLine 34 = .ok (.iload_n 2, 1) := by decide +kernel
theorem dX11_readLawLine_35 : decode cX11_readLawLine 35 = .ok (.iload_n 3, 1) := by decide +kernel
theorem dX11_readLawLine_36 : decode cX11_readLawLine 36 = .ok (.ifCond .eq 14, 3) := by decide +kernel
theorem dX11_readLawLine_39 : decode cX11_readLawLine 39 = .ok (.aload_n 0, 1) := by decide +kernel
theorem dX11_readLawLine_40 : decode cX11_readLawLine 40 = .ok (.iconst 0, 1) := by decide +kernel
theorem dX11_readLawLine_41 : decode cX11_readLawLine 41 = .ok (.sipush 999, 3) := by decide +kernel
theorem dX11_readLawLine_44 : decode cX11_readLawLine 44 = .ok (.invokevirtual 121, 3) := by decide +kernel
theorem dX11_readLawLine_47 : decode cX11_readLawLine 47 = .ok (.goto 4, 3) := by decide +kernel
theorem dX11_readLawLine_50 : decode cX11_readLawLine 50 = .ok (.iconst (-1), 1) := by decide +kernel
theorem dX11_readLawLine_51 : decode cX11_readLawLine 51 = .ok (.iastore, 1) := by decide +kernel
theorem dX11_readLawLine_52 : decode cX11_readLawLine 52 = .ok (.iload_n 3, 1) := by decide +kernel
theorem dX11_readLawLine_53 : decode cX11_readLawLine 53 = .ok (.ifCond .eq 14, 3) := by decide +kernel
theorem dX11_readLawLine_56 : decode cX11_readLawLine 56 = .ok (.aload_n 0, 1) := by decide +kernel
theorem dX11_readLawLine_57 : decode cX11_readLawLine 57 = .ok (.getfield 13, 3) := by decide +kernel
theorem dX11_readLawLine_60 : decode cX11_readLawLine 60 = .ok (.iload_n 2, 1) := by decide +kernel
theorem dX11_readLawLine_61 : decode cX11_readLawLine 61 = .ok (.iaload, 1) := by decide +kernel
theorem dX11_readLawLine_62 : decode cX11_readLawLine 62 = .ok (.ifCond .ge 5, 3) := by decide +kernel
theorem dX11_readLawLine_65 : decode cX11_readLawLine 65 = .ok (.iconst 0, 1) := by decide +kernel
theorem dX11_readLawLine_66 : decode cX11_readLawLine 66 = .ok (.ireturn, 1) := by decide +kernel
theorem dX11_readLawLine_67 : decode cX11_readLawLine 67 = .ok (.aload_n 0, 1) := by decide +kernel
theorem dX11_readLawLine_68 : decode cX11_readLawLine 68 = .ok (.getfield 13, 3) := by decide +kernel
theorem dX11_readLawLine_71 : decode cX11_readLawLine 71 = .ok (.iload_n 2, 1) := by decide +kernel
theorem dX11_readLawLine_72 : decode cX11_readLawLine 72 = .ok (.iconst 1, 1) := by decide +kernel
theorem dX11_readLawLine_73 : decode cX11_readLawLine 73 = .ok (.iadd, 1) := by decide +kernel
theorem dX11_readLawLine_74 : decode cX11_readLawLine 74 = .ok (.aload_n 0, 1) := by decide +kernel
theorem dX11_readLawLine_75 : decode cX11_readLawLine 75 = .ok (.getfield 196, 3) := by decide +kernel
theorem dX11_readLawLine_78 : decode cX11_readLawLine 78 = .ok (.iastore, 1) := by decide +kernel
theorem dX11_readLawLine_79 : decode cX11_readLawLine 79 = .ok (.aload_n 0, 1) := by decide +kernel
theorem dX11_readLawLine_80 : decode cX11_readLawLine 80 = .ok (.iconst 0, 1) := by decide +kernel
theorem dX11_readLawLine_81 : decode cX11_readLawLine 81 = .ok (.putfield 218, 3) := by decide +kernel
theorem dX11_readLawLine_84 : decode cX11_readLawLine 84 = .ok (.aload_n 0, 1) := by decide +kernel
theorem dX11_readLawLine_85 : decode cX11_readLawLine 85 = .ok (.ldc 246, 2) := by decide +kernel
theorem dX11_readLawLine_87 : decode cX11_readLawLine 87 = .ok (.invokevirtual 129, 3) := by decide +kernel
theorem dX11_readLawLine_90 : decode cX11_readLawLine 90 = .ok (.ifCond .eq 12, 3) := by decide +kernel
theorem dX11_readLawLine_93 : decode cX11_readLawLine 93 = .ok (.aload_n 0, 1) := by decide +kernel
theorem dX11_readLawLine_94 : decode cX11_readLawLine 94 = .ok (.invokevirtual 221, 3) := by decide +kernel
theorem dX11_readLawLine_97 : decode cX11_readLawLine 97 = .ok (.ifCond .ne 5, 3) := by decide +kernel
theorem dX11_readLawLine_100 : decode cX11_readLawLine 100 = .ok (.iconst 0, 1) := by decide +kernel
theorem dX11_readLawLine_101 : decode cX11_readLawLine 101 = .ok (.ireturn, 1) := by decide +kernel
theorem dX11_readLawLine_102 : decode cX11_readLawLine 102 = .ok (.aload_n 0, 1) := by decide +kernel
theorem dX11_readLawLine_103 : decode cX11_readLawLine 103 = .ok (.getfield 13, 3) := by decide +kernel
theorem dX11_readLawLine_106 : decode cX11_readLawLine 106 = .ok (.iload_n 2, 1) := by decide +kernel
theorem dX11_readLawLine_107 : decode cX11_readLawLine 107 = .ok (.iconst 2, 1) := by decide +kernel
theorem dX11_readLawLine_108 : decode cX11_readLawLine 108 = .ok (.iadd, 1) := by decide +kernel
theorem dX11_readLawLine_109 : decode cX11_readLawLine 109 = .ok (.aload_n 0, 1) := by decide +kernel
theorem dX11_readLawLine_110 : decode cX11_readLawLine 110 = .ok (.getfield 196, 3) := by decide +kernel
theorem dX11_readLawLine_113 : decode cX11_readLawLine 113 = .ok (.iastore, 1) := by decide +kernel
theorem dX11_readLawLine_114 : decode cX11_readLawLine 114 = .ok (.iconst 1, 1) := by decide +kernel
theorem dX11_readLawLine_115 : decode cX11_readLawLine 115 = .ok (.ireturn, 1) := by decide +kernel
theorem dX11_readLine_0 : decode cX11_readLine 0 = .ok (.aload_n 0, 1) := by decide +kernel
theorem dX11_readLine_1 : decode cX11_readLine 1 = .ok (.invokevirtual 114, 3) := by decide +kernel
theorem dX11_readLine_4 : decode cX11_readLine 4 = .ok (.iload_n 2, 1) := by decide +kernel
theorem dX11_readLine_5 : decode cX11_readLine 5 = .ok (.iload_n 1, 1) := by decide +kernel
theorem dX11_readLine_6 : decode cX11_readLine 6 = .ok (.ifCond .eq 8, 3) := by decide +kernel
theorem dX11_readLine_9 : decode cX11_readLine 9 = .ok (.bipush 14, 2) := by decide +kernel
theorem dX11_readLine_11 : decode cX11_readLine 11 = .ok (.goto 5, 3) := by decide +kernel
theorem dX11_readLine_14 : decode cX11_readLine 14 = .ok (.bipush 12, 2) := by decide +kernel
theorem dX11_readLine_16 : decode cX11_readLine 16 = .ok (.if_icmp .ge 29, 3) := by decide +kernel
theorem dX11_readLine_19 : decode cX11_readLine 19 = .ok (.iload_n 1, 1) := by decide +kernel
theorem dX11_readLine_20 : decode cX11_readLine 20 = .ok (.ifCond .eq 13, 3) := by decide +kernel
theorem dX11_readLine_23 : decode cX11_readLine 23 = .ok (.aload_n 0, 1) := by decide +kernel
theorem dX11_readLine_24 : decode cX11_readLine 24 = .ok (.invokevirtual 248, 3) := by decide +kernel
theorem dX11_readLine_27 : decode cX11_readLine 27 = .ok (.ifCond .eq 18, 3) := by decide +kernel
theorem dX11_readLine_30 : decode cX11_readLine 30 = .ok (.goto 11, 3) := by decide +kernel
theorem dX11_readLine_33 : decode cX11_readLine 33 = .ok (.aload_n 0, 1) := by decide +kernel
theorem dX11_readLine_34 : decode cX11_readLine 34 = .ok (.iload_n 2, 1) := by decide +kernel
theorem dX11_readLine_35 : decode cX11_readLine 35 = .ok (.invokevirtual 251, 3) := by decide +kernel
theorem dX11_readLine_38 : decode cX11_readLine 38 = .ok (.ifCond .eq 7, 3) := by decide +kernel
theorem dX11_readLine_41 : decode cX11_readLine 41 = .ok (.iconst 1, 1) := by decide +kernel
theorem dX11_readLine_42 : decode cX11_readLine 42 = .ok (.goto 4, 3) := by decide +kernel
theorem dX11_readLine_45 : decode cX11_readLine 45 = .ok (.iconst 0, 1) := by decide +kernel
theorem dX11_readLine_46 : decode cX11_readLine 46 = .ok (.ireturn, 1) := by decide +kernel
theorem dX11_readAll_0 : decode cX11_readAll 0 = .ok (.aload_n 0, 1) := by decide +kernel
theorem dX11_readAll_1 : decode cX11_readAll 1 = .ok (.invokevirtual 254, 3) := by decide +kernel
theorem dX11_readAll_4 : decode cX11_readAll 4 = .ok (.aload_n 0, 1) := by decide +kernel
theorem dX11_readAll_5 : decode cX11_readAll 5 = .ok (.iconst 0, 1) := by decide +kernel
theorem dX11_readAll_6 : decode cX11_readAll 6 = .ok (.putfield 196, 3) := by decide +kernel
theorem dX11_readAll_9 : decode cX11_readAll 9 = .ok (.aload_n 0, 1) := by decide +kernel
theorem dX11_readAll_10 : decode cX11_readAll 10 = .ok (.invokevirtual 102, 3) := by decide +kernel
theorem dX11_readAll_13 : decode cX11_readAll 13 = .ok (.aload_n 0, 1) := by decide +kernel
theorem dX11_readAll_14 : decode cX11_readAll 14 = .ok (.getfield 89, 3) := by decide +kernel
theorem dX11_readAll_17 : decode cX11_readAll 17 = .ok (.aload_n 0, 1) := by decide +kernel
theorem dX11_readAll_18 : decode cX11_readAll 18 = .ok (.getfield 92, 3) := by decide +kernel
theorem dX11_readAll_21 : decode cX11_readAll 21 = .ok (.if_icmp .ne 5, 3) := by decide +kernel
theorem dX11_readAll_24 : decode cX11_readAll 24 = .ok (.iconst 0, 1) := by decide +kernel
theorem dX11_readAll_25 : decode cX11_readAll 25 = .ok (.ireturn, 1) := by decide +kernel
theorem dX11_readAll_26 : decode cX11_readAll 26 = .ok (.iconst 0, 1) := by decide +kernel
theorem dX11_readAll_27 : decode cX11_readAll 27 = .ok (.istore_n 2, 1) := by decide +kernel
theorem dX11_readAll_28 : decode cX11_readAll 28 = .ok (.aload_n 0, 1) := by decide +kernel
theorem dX11_readAll_29 : decode cX11_readAll 29 = .ok (.iload_n 1, 1) := by decide +kernel
theorem dX11_readAll_30 : decode cX11_readAll 30 = .ok (.iload_n 2, 1) := by decide +kernel
theorem dX11_readAll_31 : decode cX11_readAll 31 = .ok (.invokevirtual 257, 3) := by decide +kernel
theorem dX11_readAll_34 : decode cX11_readAll 34 = .ok (.ifCond .ne 5, 3) := by decide +kernel
theorem dX11_readAll_37 : decode cX11_readAll 37 = .ok (.iconst (-1), 1) := by decide +kernel
theorem dX11_readAll_38 : decode cX11_readAll 38 = .ok (.ireturn, 1) := by decide +kernel
theorem dX11_readAll_39 : decode cX11_readAll 39 = .ok (.aload_n 0, 1) := by decide +kernel
theorem dX11_readAll_40 : decode cX11_readAll 40 = .ok (.invokevirtual 102, 3) := by decide +kernel
theorem dX11_readAll_43 : decode cX11_readAll 43 = .ok (.aload_n 0, 1) := by decide +kernel
theorem dX11_readAll_44 : decode cX11_readAll 44 = .ok (.getfield 89, 3) := by decide +kernel
theorem dX11_readAll_47 : decode cX11_readAll 47 = .ok (.aload_n 0, 1) := by decide +kernel
theorem dX11_readAll_48 : decode cX11_readAll 48 = .ok (.getfield 92, 3) := by decide +kernel
theorem dX11_readAll_51 : decode cX11_readAll 51 = .ok (.if_icmp .ne 7, 3) := by decide +kernel
theorem dX11_readAll_54 : decode cX11_readAll 54 = .ok (.iload_n 2, 1) := by decide +kernel
theorem dX11_readAll_55 : decode cX11_readAll 55 = .ok (.iconst 1, 1) := by decide +kernel
theorem dX11_readAll_56 : decode cX11_readAll 56 = .ok (.iadd, 1) := by decide +kernel
theorem dX11_readAll_57 : decode cX11_readAll 57 = .ok (.ireturn, 1) := by decide +kernel
theorem dX11_readAll_58 : decode cX11_readAll 58 = .ok (.aload_n 0, 1) := by decide +kernel
theorem dX11_readAll_59 : decode cX11_readAll 59 = .ok (.bipush 59, 2) := by decide +kernel
theorem dX11_readAll_61 : decode cX11_readAll 61 = .ok (.bipush 59, 2) := by decide +kernel
theorem dX11_readAll_63 : decode cX11_readAll 63 = .ok (.invokevirtual 95, 3) := by decide +kernel
theorem dX11_readAll_66 : decode cX11_readAll 66 = .ok (.ifCond .ne 5, 3) := by decide +kernel
theorem dX11_readAll_69 : decode cX11_readAll 69 = .ok (.iconst (-1), 1) := by decide +kernel
theorem dX11_readAll_70 : decode cX11_readAll 70 = .ok (.ireturn, 1) := by decide +kernel
theorem dX11_readAll_71 : decode cX11_readAll 71 = .ok (.aload_n 0, 1) := by decide +kernel
theorem dX11_readAll_72 : decode cX11_readAll 72 = .ok (.dup, 1) := by decide +kernel
theorem dX11_readAll_73 : decode cX11_readAll 73 = .ok (.getfield 89, 3) := by decide +kernel
theorem dX11_readAll_76 : decode cX11_readAll 76 = .ok (.iconst 1, 1) := by decide +kernel
theorem dX11_readAll_77 : decode cX11_readAll 77 = .ok (.iadd, 1) := by decide +kernel
theorem dX11_readAll_78 : decode cX11_readAll 78 = .ok (.putfield 89, 3) := by decide +kernel
theorem dX11_readAll_81 : decode cX11_readAll 81 = .ok (.iinc 2 1, 3) := by decide +kernel
theorem dX11_readAll_84 : decode cX11_readAll 84 = .ok (.goto (-56), 3) := by decide +kernel
theorem dX11_land_0 : decode cX11_land 0 = .ok (.iconst 0, 1) := by decide +kernel
theorem dX11_land_1 : decode cX11_land 1 = .ok (.istore_n 1, 1) := by decide +kernel
theorem dX11_land_2 : decode cX11_land 2 = .ok (.iload_n 1, 1) := by decide +kernel
theorem dX11_land_3 : decode cX11_land 3 = .ok (.sipush 1454, 3) := by decide +kernel
theorem dX11_land_6 : decode cX11_land 6 = .ok (.if_icmp .ge 21, 3) := by decide +kernel
theorem dX11_land_9 : decode cX11_land 9 = .ok (.aload_n 0, 1) := by decide +kernel
theorem dX11_land_10 : decode cX11_land 10 = .ok (.getfield 20, 3) := by decide +kernel
theorem dX11_land_13 : decode cX11_land 13 = .ok (.iload_n 1, 1) := by decide +kernel
theorem dX11_land_14 : decode cX11_land 14 = .ok (.aload_n 0, 1) := by decide +kernel
theorem dX11_land_15 : decode cX11_land 15 = .ok (.getfield 13, 3) := by decide +kernel
theorem dX11_land_18 : decode cX11_land 18 = .ok (.iload_n 1, 1) := by decide +kernel
theorem dX11_land_19 : decode cX11_land 19 = .ok (.iaload, 1) := by decide +kernel
theorem dX11_land_20 : decode cX11_land 20 = .ok (.iastore, 1) := by decide +kernel
theorem dX11_land_21 : decode cX11_land 21 = .ok (.iinc 1 1, 3) := by decide +kernel
theorem dX11_land_24 : decode cX11_land 24 = .ok (.goto (-22), 3) := by decide +kernel
theorem dX11_land_27 : decode cX11_land 27 = .ok (.aload_n 0, 1) := by decide +kernel
theorem dX11_land_28 : decode cX11_land 28 = .ok (.iconst 1, 1) := by decide +kernel
theorem dX11_land_29 : decode cX11_land 29 = .ok (.invokevirtual 261, 3) := by decide +kernel
theorem dX11_land_32 : decode cX11_land 32 = .ok (.istore_n 1, 1) := by decide +kernel
theorem dX11_land_33 : decode cX11_land 33 = .ok (.aload_n 0, 1) := by decide +kernel
theorem dX11_land_34 : decode cX11_land 34 = .ok (.iload_n 1, 1) := by decide +kernel
theorem dX11_land_35 : decode cX11_land 35 = .ok (.ifCond .ge 10, 3) := by decide +kernel
theorem dX11_land_38 : decode cX11_land 38 = .ok (.aload_n 0, 1) := by decide +kernel
theorem dX11_land_39 : decode cX11_land 39 = .ok (.getfield 99, 3) := by decide +kernel
theorem dX11_land_42 : decode cX11_land 42 = .ok (.goto 4, 3) := by decide +kernel
theorem dX11_land_45 : decode cX11_land 45 = .ok (.iconst (-1), 1) := by decide +kernel
theorem dX11_land_46 : decode cX11_land 46 = .ok (.putfield 33, 3) := by decide +kernel
theorem dX11_land_49 : decode cX11_land 49 = .ok (.aload_n 0, 1) := by decide +kernel
theorem dX11_land_50 : decode cX11_land 50 = .ok (.iload_n 1, 1) := by decide +kernel
theorem dX11_land_51 : decode cX11_land 51 = .ok (.ifCond .ge 7, 3) := by decide +kernel
theorem dX11_land_54 : decode cX11_land 54 = .ok (.iconst 1, 1) := by decide +kernel
theorem dX11_land_55 : decode cX11_land 55 = .ok (.goto 4, 3) := by decide +kernel
theorem dX11_land_58 : decode cX11_land 58 = .ok (.iconst 0, 1) := by decide +kernel
theorem dX11_land_59 : decode cX11_land 59 = .ok (.iconst 1, 1) := by decide +kernel
theorem dX11_land_60 : decode cX11_land 60 = .ok (.invokevirtual 265, 3) := by decide +kernel
theorem dX11_land_63 : decode cX11_land 63 = .ok (.ifCond .ne 27, 3) := by decide +kernel
theorem dX11_land_66 : decode cX11_land 66 = .ok (.aload_n 0, 1) := by decide +kernel
theorem dX11_land_67 : decode cX11_land 67 = .ok (.aload_n 0, 1) := by decide +kernel
theorem dX11_land_68 : decode cX11_land 68 = .ok (.getfield 13, 3) := by decide +kernel
theorem dX11_land_71 : decode cX11_land 71 = .ok (.iconst 2, 1) := by decide +kernel
theorem dX11_land_72 : decode cX11_land 72 = .ok (.iaload, 1) := by decide +kernel
theorem dX11_land_73 : decode cX11_land 73 = .ok (.bipush 10, 2) := by decide +kernel
theorem dX11_land_75 : decode cX11_land 75 = .ok (.if_icmp .ne 7, 3) := by decide +kernel
theorem dX11_land_78 : decode cX11_land 78 = .ok (.iconst 1, 1) := by decide +kernel
theorem dX11_land_79 : decode cX11_land 79 = .ok (.goto 4, 3) := by decide +kernel
theorem dX11_land_82 : decode cX11_land 82 = .ok (.iconst 0, 1) := by decide +kernel
theorem dX11_land_83 : decode cX11_land 83 = .ok (.iconst 2, 1) := by decide +kernel
theorem dX11_land_84 : decode cX11_land 84 = .ok (.invokevirtual 265, 3) := by decide +kernel
theorem dX11_land_87 : decode cX11_land 87 = .ok (.ifCond .eq 32, 3) := by decide +kernel
theorem dX11_land_90 : decode cX11_land 90 = .ok (.iconst 0, 1) := by decide +kernel
theorem dX11_land_91 : decode cX11_land 91 = .ok (.istore_n 2, 1) := by decide +kernel
theorem dX11_land_92 : decode cX11_land 92 = .ok (.iload_n 2, 1) := by decide +kernel
theorem dX11_land_93 : decode cX11_land 93 = .ok (.sipush 1454, 3) := by decide +kernel
theorem dX11_land_96 : decode cX11_land 96 = .ok (.if_icmp .ge 21, 3) := by decide +kernel
theorem dX11_land_99 : decode cX11_land 99 = .ok (.aload_n 0, 1) := by decide +kernel
theorem dX11_land_100 : decode cX11_land 100 = .ok (.getfield 13, 3) := by decide +kernel
theorem dX11_land_103 : decode cX11_land 103 = .ok (.iload_n 2, 1) := by decide +kernel
theorem dX11_land_104 : decode cX11_land 104 = .ok (.aload_n 0, 1) := by decide +kernel
theorem dX11_land_105 : decode cX11_land 105 = .ok (.getfield 20, 3) := by decide +kernel
theorem dX11_land_108 : decode cX11_land 108 = .ok (.iload_n 2, 1) := by decide +kernel
theorem dX11_land_109 : decode cX11_land 109 = .ok (.iaload, 1) := by decide +kernel
theorem dX11_land_110 : decode cX11_land 110 = .ok (.iastore, 1) := by decide +kernel
theorem dX11_land_111 : decode cX11_land 111 = .ok (.iinc 2 1, 3) := by decide +kernel
theorem dX11_land_114 : decode cX11_land 114 = .ok (.goto (-22), 3) := by decide +kernel
theorem dX11_land_117 : decode cX11_land 117 = .ok (.iconst 0, 1) := by decide +kernel
theorem dX11_land_118 : decode cX11_land 118 = .ok (.ireturn, 1) := by decide +kernel
theorem dX11_land_119 : decode cX11_land 119 = .ok (.aload_n 0, 1) := by decide +kernel
theorem dX11_land_120 : decode cX11_land 120 = .ok (.getfield 13, 3) := by decide +kernel
theorem dX11_land_123 : decode cX11_land 123 = .ok (.iconst 2, 1) := by decide +kernel
theorem dX11_land_124 : decode cX11_land 124 = .ok (.dup2, 1) := by decide +kernel
theorem dX11_land_125 : decode cX11_land 125 = .ok (.iaload, 1) := by decide +kernel
theorem dX11_land_126 : decode cX11_land 126 = .ok (.iconst 1, 1) := by decide +kernel
theorem dX11_land_127 : decode cX11_land 127 = .ok (.iadd, 1) := by decide +kernel
theorem dX11_land_128 : decode cX11_land 128 = .ok (.iastore, 1) := by decide +kernel
theorem dX11_land_129 : decode cX11_land 129 = .ok (.aload_n 0, 1) := by decide +kernel
theorem dX11_land_130 : decode cX11_land 130 = .ok (.getfield 13, 3) := by decide +kernel
theorem dX11_land_133 : decode cX11_land 133 = .ok (.iconst 2, 1) := by decide +kernel
theorem dX11_land_134 : decode cX11_land 134 = .ok (.iaload, 1) := by decide +kernel
theorem dX11_land_135 : decode cX11_land 135 = .ok (.ireturn, 1) := by decide +kernel
theorem dX11_law_0 : decode cX11_law 0 = .ok (.aload_n 0, 1) := by decide +kernel
theorem dX11_law_1 : decode cX11_law 1 = .ok (.iconst 0, 1) := by decide +kernel
theorem dX11_law_2 : decode cX11_law 2 = .ok (.invokevirtual 261, 3) := by decide +kernel
theorem dX11_law_5 : decode cX11_law 5 = .ok (.istore_n 1, 1) := by decide +kernel
theorem dX11_law_6 : decode cX11_law 6 = .ok (.aload_n 0, 1) := by decide +kernel
theorem dX11_law_7 : decode cX11_law 7 = .ok (.iload_n 1, 1) := by decide +kernel
theorem dX11_law_8 : decode cX11_law 8 = .ok (.ifCond .ge 10, 3) := by decide +kernel
theorem dX11_law_11 : decode cX11_law 11 = .ok (.aload_n 0, 1) := by decide +kernel
theorem dX11_law_12 : decode cX11_law 12 = .ok (.getfield 99, 3) := by decide +kernel
theorem dX11_law_15 : decode cX11_law 15 = .ok (.goto 4, 3) := by decide +kernel
theorem dX11_law_18 : decode cX11_law 18 = .ok (.iconst (-1), 1) := by decide +kernel
theorem dX11_law_19 : decode cX11_law 19 = .ok (.putfield 33, 3) := by decide +kernel
theorem dX11_law_22 : decode cX11_law 22 = .ok (.aload_n 0, 1) := by decide +kernel
theorem dX11_law_23 : decode cX11_law 23 = .ok (.iload_n 1, 1) := by decide +kernel
theorem dX11_law_24 : decode cX11_law 24 = .ok (.ifCond .ge 7, 3) := by decide +kernel
theorem dX11_law_27 : decode cX11_law 27 = .ok (.iconst 1, 1) := by decide +kernel
theorem dX11_law_28 : decode cX11_law 28 = .ok (.goto 4, 3) := by decide +kernel
theorem dX11_law_31 : decode cX11_law 31 = .ok (.iconst 0, 1) := by decide +kernel
theorem dX11_law_32 : decode cX11_law 32 = .ok (.iconst 1, 1) := by decide +kernel
theorem dX11_law_33 : decode cX11_law 33 = .ok (.invokevirtual 265, 3) := by decide +kernel
theorem dX11_law_36 : decode cX11_law 36 = .ok (.ifCond .eq 5, 3) := by decide +kernel
theorem dX11_law_39 : decode cX11_law 39 = .ok (.iconst 0, 1) := by decide +kernel
theorem dX11_law_40 : decode cX11_law 40 = .ok (.ireturn, 1) := by decide +kernel
theorem dX11_law_41 : decode cX11_law 41 = .ok (.aload_n 0, 1) := by decide +kernel
theorem dX11_law_42 : decode cX11_law 42 = .ok (.getfield 13, 3) := by decide +kernel
theorem dX11_law_45 : decode cX11_law 45 = .ok (.sipush 1454, 3) := by decide +kernel
theorem dX11_law_48 : decode cX11_law 48 = .ok (.iload_n 1, 1) := by decide +kernel
theorem dX11_law_49 : decode cX11_law 49 = .ok (.iastore, 1) := by decide +kernel
theorem dX11_law_50 : decode cX11_law 50 = .ok (.iconst 0, 1) := by decide +kernel
theorem dX11_law_51 : decode cX11_law 51 = .ok (.istore_n 2, 1) := by decide +kernel
theorem dX11_law_52 : decode cX11_law 52 = .ok (.iload_n 2, 1) := by decide +kernel
theorem dX11_law_53 : decode cX11_law 53 = .ok (.sipush 837, 3) := by decide +kernel
theorem dX11_law_56 : decode cX11_law 56 = .ok (.if_icmp .ge 29, 3) := by decide +kernel
theorem dX11_law_59 : decode cX11_law 59 = .ok (.aload_n 0, 1) := by decide +kernel
theorem dX11_law_60 : decode cX11_law 60 = .ok (.getfield 13, 3) := by decide +kernel
theorem dX11_law_63 : decode cX11_law 63 = .ok (.sipush 617, 3) := by decide +kernel
theorem dX11_law_66 : decode cX11_law 66 = .ok (.iload_n 2, 1) := by decide +kernel
theorem dX11_law_67 : decode cX11_law 67 = .ok (.iadd, 1) := by decide +kernel
theorem dX11_law_68 : decode cX11_law 68 = .ok (.aload_n 0, 1) := by decide +kernel
theorem dX11_law_69 : decode cX11_law 69 = .ok (.getfield 13, 3) := by decide +kernel
theorem dX11_law_72 : decode cX11_law 72 = .ok (.sipush 1454, 3) := by decide +kernel
theorem dX11_law_75 : decode cX11_law 75 = .ok (.iload_n 2, 1) := by decide +kernel
theorem dX11_law_76 : decode cX11_law 76 = .ok (.iadd, 1) := by decide +kernel
theorem dX11_law_77 : decode cX11_law 77 = .ok (.iaload, 1) := by decide +kernel
theorem dX11_law_78 : decode cX11_law 78 = .ok (.iastore, 1) := by decide +kernel
theorem dX11_law_79 : decode cX11_law 79 = .ok (.iinc 2 1, 3) := by decide +kernel
theorem dX11_law_82 : decode cX11_law 82 = .ok (.goto (-30), 3) := by decide +kernel
theorem dX11_law_85 : decode cX11_law 85 = .ok (.aload_n 0, 1) := by decide +kernel
theorem dX11_law_86 : decode cX11_law 86 = .ok (.getfield 13, 3) := by decide +kernel
theorem dX11_law_89 : decode cX11_law 89 = .ok (.iconst 3, 1) := by decide +kernel
theorem dX11_law_90 : decode cX11_law 90 = .ok (.iconst 1, 1) := by decide +kernel
theorem dX11_law_91 : decode cX11_law 91 = .ok (.iastore, 1) := by decide +kernel
theorem dX11_law_92 : decode cX11_law 92 = .ok (.iload_n 1, 1) := by decide +kernel
theorem dX11_law_93 : decode cX11_law 93 = .ok (.ireturn, 1) := by decide +kernel
theorem dX11_factOf_0 : decode cX11_factOf 0 = .ok (.iload_n 1, 1) := by decide +kernel
theorem dX11_factOf_1 : decode cX11_factOf 1 = .ok (.tableswitch 150 0 8 #[51, 54, 66, 77, 87, 95, 111, 127, 143], 51) := by decide +kernel
theorem dX11_factOf_52 : decode cX11_factOf 52 = .ok (.iload 4, 2) := by decide +kernel
theorem dX11_factOf_54 : decode cX11_factOf 54 = .ok (.ireturn, 1) := by decide +kernel
theorem dX11_factOf_55 : decode cX11_factOf 55 = .ok (.iconst 0, 1) := by decide +kernel
theorem dX11_factOf_56 : decode cX11_factOf 56 = .ok (.aload_n 0, 1) := by decide +kernel
theorem dX11_factOf_57 : decode cX11_factOf 57 = .ok (.invokevirtual 268, 3) := by decide +kernel
theorem dX11_factOf_60 : decode cX11_factOf 60 = .ok (.iload 4, 2) := by decide +kernel
theorem dX11_factOf_62 : decode cX11_factOf 62 = .ok (.isub, 1) := by decide +kernel
theorem dX11_factOf_63 : decode cX11_factOf 63 = .ok (.invokestatic 271, 3) := by decide +kernel
theorem dX11_factOf_66 : decode cX11_factOf 66 = .ok (.ireturn, 1) := by decide +kernel
theorem dX11_factOf_67 : decode cX11_factOf 67 = .ok (.aload_n 0, 1) := by decide +kernel
theorem dX11_factOf_68 : decode cX11_factOf 68 = .ok (.getfield 13, 3) := by decide +kernel
theorem dX11_factOf_71 : decode cX11_factOf 71 = .ok (.bipush 35, 2) := by decide +kernel
theorem dX11_factOf_73 : decode cX11_factOf 73 = .ok (.iload 4, 2) := by decide +kernel
theorem dX11_factOf_75 : decode cX11_factOf 75 = .ok (.iadd, 1) := by decide +kernel
theorem dX11_factOf_76 : decode cX11_factOf 76 = .ok (.iaload, 1) := by decide +kernel
theorem dX11_factOf_77 : decode cX11_factOf 77 = .ok (.ireturn, 1) := by decide +kernel
theorem dX11_factOf_78 : decode cX11_factOf 78 = .ok (.aload_n 0, 1) := by decide +kernel
theorem dX11_factOf_79 : decode cX11_factOf 79 = .ok (.getfield 13, 3) := by decide +kernel
theorem dX11_factOf_82 : decode cX11_factOf 82 = .ok (.iconst 4, 1) := by decide +kernel
theorem dX11_factOf_83 : decode cX11_factOf 83 = .ok (.iaload, 1) := by decide +kernel
theorem dX11_factOf_84 : decode cX11_factOf 84 = .ok (.bipush 12, 2) := by decide +kernel
theorem dX11_factOf_86 : decode cX11_factOf 86 = .ok (.irem, 1) := by decide +kernel
theorem dX11_factOf_87 : decode cX11_factOf 87 = .ok (.ireturn, 1) := by decide +kernel
theorem dX11_factOf_88 : decode cX11_factOf 88 = .ok (.aload_n 0, 1) := by decide +kernel
theorem dX11_factOf_89 : decode cX11_factOf 89 = .ok (.iload_n 3, 1) := by decide +kernel
theorem dX11_factOf_90 : decode cX11_factOf 90 = .ok (.iload 4, 2) := by decide +kernel
theorem dX11_factOf_92 : decode cX11_factOf 92 = .ok (.invokevirtual 72, 3) := by decide +kernel
theorem dX11_factOf_95 : decode cX11_factOf 95 = .ok (.ireturn, 1) := by decide +kernel
theorem dX11_factOf_96 : decode cX11_factOf 96 = .ok (.aload_n 0, 1) := by decide +kernel
theorem dX11_factOf_97 : decode cX11_factOf 97 = .ok (.iload_n 3, 1) := by decide +kernel
theorem dX11_factOf_98 : decode cX11_factOf 98 = .ok (.iconst 1, 1) := by decide +kernel
theorem dX11_factOf_99 : decode cX11_factOf 99 = .ok (.invokevirtual 69, 3) := by decide +kernel
theorem dX11_factOf_102 : decode cX11_factOf 102 = .ok (.iconst 1, 1) := by decide +kernel
theorem dX11_factOf_103 : decode cX11_factOf 103 = .ok (.if_icmp .ne 7, 3) := by decide +kernel
theorem dX11_factOf_106 : decode cX11_factOf 106 = .ok (.iconst 1, 1) := by decide +kernel
theorem dX11_factOf_107 : decode cX11_factOf 107 = .ok (.goto 4, 3) := by decide +kernel
theorem dX11_factOf_110 : decode cX11_factOf 110 = .ok (.iconst 0, 1) := by decide +kernel
theorem dX11_factOf_111 : decode cX11_factOf 111 = .ok (.ireturn, 1) := by decide +kernel
theorem dX11_factOf_112 : decode cX11_factOf 112 = .ok (.aload_n 0, 1) := by decide +kernel
theorem dX11_factOf_113 : decode cX11_factOf 113 = .ok (.iload_n 3, 1) := by decide +kernel
theorem dX11_factOf_114 : decode cX11_factOf 114 = .ok (.iconst 1, 1) := by decide +kernel
theorem dX11_factOf_115 : decode cX11_factOf 115 = .ok (.invokevirtual 69, 3) := by decide +kernel
theorem dX11_factOf_118 : decode cX11_factOf 118 = .ok (.iconst 2, 1) := by decide +kernel
theorem dX11_factOf_119 : decode cX11_factOf 119 = .ok (.if_icmp .ne 7, 3) := by decide +kernel
theorem dX11_factOf_122 : decode cX11_factOf 122 = .ok (.iconst 1, 1) := by decide +kernel
theorem dX11_factOf_123 : decode cX11_factOf 123 = .ok (.goto 4, 3) := by decide +kernel
theorem dX11_factOf_126 : decode cX11_factOf 126 = .ok (.iconst 0, 1) := by decide +kernel
theorem dX11_factOf_127 : decode cX11_factOf 127 = .ok (.ireturn, 1) := by decide +kernel
theorem dX11_factOf_128 : decode cX11_factOf 128 = .ok (.aload_n 0, 1) := by decide +kernel
theorem dX11_factOf_129 : decode cX11_factOf 129 = .ok (.iload_n 3, 1) := by decide +kernel
theorem dX11_factOf_130 : decode cX11_factOf 130 = .ok (.iconst 1, 1) := by decide +kernel
theorem dX11_factOf_131 : decode cX11_factOf 131 = .ok (.invokevirtual 69, 3) := by decide +kernel
theorem dX11_factOf_134 : decode cX11_factOf 134 = .ok (.iconst 3, 1) := by decide +kernel
theorem dX11_factOf_135 : decode cX11_factOf 135 = .ok (.if_icmp .ne 7, 3) := by decide +kernel
theorem dX11_factOf_138 : decode cX11_factOf 138 = .ok (.iconst 1, 1) := by decide +kernel
theorem dX11_factOf_139 : decode cX11_factOf 139 = .ok (.goto 4, 3) := by decide +kernel
theorem dX11_factOf_142 : decode cX11_factOf 142 = .ok (.iconst 0, 1) := by decide +kernel
theorem dX11_factOf_143 : decode cX11_factOf 143 = .ok (.ireturn, 1) := by decide +kernel
theorem dX11_factOf_144 : decode cX11_factOf 144 = .ok (.aload_n 0, 1) := by decide +kernel
theorem dX11_factOf_145 : decode cX11_factOf 145 = .ok (.iload_n 3, 1) := by decide +kernel
theorem dX11_factOf_146 : decode cX11_factOf 146 = .ok (.iconst 2, 1) := by decide +kernel
theorem dX11_factOf_147 : decode cX11_factOf 147 = .ok (.invokevirtual 69, 3) := by decide +kernel
theorem dX11_factOf_150 : decode cX11_factOf 150 = .ok (.ireturn, 1) := by decide +kernel
theorem dX11_factOf_151 : decode cX11_factOf 151 = .ok (.iload_n 2, 1) := by decide +kernel
theorem dX11_factOf_152 : decode cX11_factOf 152 = .ok (.ireturn, 1) := by decide +kernel
theorem dX11_holdsLine_0 : decode cX11_holdsLine 0 = .ok (.iconst 0, 1) := by decide +kernel
theorem dX11_holdsLine_1 : decode cX11_holdsLine 1 = .ok (.istore 4, 2) := by decide +kernel
theorem dX11_holdsLine_3 : decode cX11_holdsLine 3 = .ok (.sipush 618, 3) := by decide +kernel
theorem dX11_holdsLine_6 : decode cX11_holdsLine 6 = .ok (.iconst 3, 1) := by decide +kernel
theorem dX11_holdsLine_7 : decode cX11_holdsLine 7 = .ok (.iload_n 1, 1) := by decide +kernel
theorem dX11_holdsLine_8 : decode cX11_holdsLine 8 = .ok (.imul, 1) := by decide +kernel
theorem dX11_holdsLine_9 : decode cX11_holdsLine 9 = .ok (.iadd, 1) := by decide +kernel
theorem dX11_holdsLine_10 : decode cX11_holdsLine 10 = .ok (.istore 5, 2) := by decide +kernel
theorem dX11_holdsLine_12 : decode cX11_holdsLine 12 = .ok (.aload_n 0, 1) := by decide +kernel
theorem dX11_holdsLine_13 : decode cX11_holdsLine 13 = .ok (.getfield 13, 3) := by decide +kernel
theorem dX11_holdsLine_16 : decode cX11_holdsLine 16 = .ok (.iload 5, 2) := by decide +kernel
theorem dX11_holdsLine_18 : decode cX11_holdsLine 18 = .ok (.iconst 1, 1) := by decide +kernel
theorem dX11_holdsLine_19 : decode cX11_holdsLine 19 = .ok (.iadd, 1) := by decide +kernel
theorem dX11_holdsLine_20 : decode cX11_holdsLine 20 = .ok (.iaload, 1) := by decide +kernel
theorem dX11_holdsLine_21 : decode cX11_holdsLine 21 = .ok (.istore 6, 2) := by decide +kernel
theorem dX11_holdsLine_23 : decode cX11_holdsLine 23 = .ok (.iload 6, 2) := by decide +kernel
theorem dX11_holdsLine_25 : decode cX11_holdsLine 25 = .ok (.aload_n 0, 1) := by decide +kernel
theorem dX11_holdsLine_26 : decode cX11_holdsLine 26 = .ok (.getfield 13, 3) := by decide +kernel
theorem dX11_holdsLine_29 : decode cX11_holdsLine 29 = .ok (.iload 5, 2) := by decide +kernel
theorem dX11_holdsLine_31 : decode cX11_holdsLine 31 = .ok (.iconst 2, 1) := by decide +kernel
theorem dX11_holdsLine_32 : decode cX11_holdsLine 32 = .ok (.iadd, 1) := by decide +kernel
theorem dX11_holdsLine_33 : decode cX11_holdsLine 33 = .ok (.iaload, 1) := by decide +kernel
theorem dX11_holdsLine_34 : decode cX11_holdsLine 34 = .ok (.if_icmp .ge 237, 3) := by decide +kernel
theorem dX11_holdsLine_37 : decode cX11_holdsLine 37 = .ok (.aload_n 0, 1) := by decide +kernel
theorem dX11_holdsLine_38 : decode cX11_holdsLine 38 = .ok (.getfield 13, 3) := by decide +kernel
theorem dX11_holdsLine_41 : decode cX11_holdsLine 41 = .ok (.sipush 654, 3) := by decide +kernel
theorem dX11_holdsLine_44 : decode cX11_holdsLine 44 = .ok (.iconst 2, 1) := by decide +kernel
theorem dX11_holdsLine_45 : decode cX11_holdsLine 45 = .ok (.iload 6, 2) := by decide +kernel
theorem dX11_holdsLine_47 : decode cX11_holdsLine 47 = .ok (.imul, 1) := by decide +kernel
theorem dX11_holdsLine_48 : decode cX11_holdsLine 48 = .ok (.iadd, 1) := by decide +kernel
theorem dX11_holdsLine_49 : decode cX11_holdsLine 49 = .ok (.iaload, 1) := by decide +kernel
theorem dX11_holdsLine_50 : decode cX11_holdsLine 50 = .ok (.istore 7, 2) := by decide +kernel
theorem dX11_holdsLine_52 : decode cX11_holdsLine 52 = .ok (.iload 7, 2) := by decide +kernel
theorem dX11_holdsLine_54 : decode cX11_holdsLine 54 = .ok (.bipush 9, 2) := by decide +kernel
theorem dX11_holdsLine_56 : decode cX11_holdsLine 56 = .ok (.if_icmp .gt 39, 3) := by decide +kernel
theorem dX11_holdsLine_59 : decode cX11_holdsLine 59 = .ok (.aload_n 0, 1) := by decide +kernel
theorem dX11_holdsLine_60 : decode cX11_holdsLine 60 = .ok (.getfield 39, 3) := by decide +kernel
theorem dX11_holdsLine_63 : decode cX11_holdsLine 63 = .ok (.iload 4, 2) := by decide +kernel
theorem dX11_holdsLine_65 : decode cX11_holdsLine 65 = .ok (.aload_n 0, 1) := by decide +kernel
theorem dX11_holdsLine_66 : decode cX11_holdsLine 66 = .ok (.iload 7, 2) := by decide +kernel
theorem dX11_holdsLine_68 : decode cX11_holdsLine 68 = .ok (.aload_n 0, 1) := by decide +kernel
theorem dX11_holdsLine_69 : decode cX11_holdsLine 69 = .ok (.getfield 13, 3) := by decide +kernel
theorem dX11_holdsLine_72 : decode cX11_holdsLine 72 = .ok (.sipush 654, 3) := by decide +kernel
theorem dX11_holdsLine_75 : decode cX11_holdsLine 75 = .ok (.iconst 2, 1) := by decide +kernel
theorem dX11_holdsLine_76 : decode cX11_holdsLine 76 = .ok (.iload 6, 2) := by decide +kernel
theorem dX11_holdsLine_78 : decode cX11_holdsLine 78 = .ok (.imul, 1) := by decide +kernel
theorem dX11_holdsLine_79 : decode cX11_holdsLine 79 = .ok (.iadd, 1) := by decide +kernel
theorem dX11_holdsLine_80 : decode cX11_holdsLine 80 = .ok (.iconst 1, 1) := by decide +kernel
theorem dX11_holdsLine_81 : decode cX11_holdsLine 81 = .ok (.iadd, 1) := by decide +kernel
theorem dX11_holdsLine_82 : decode cX11_holdsLine 82 = .ok (.iaload, 1) := by decide +kernel
theorem dX11_holdsLine_83 : decode cX11_holdsLine 83 = .ok (.iload_n 2, 1) := by decide +kernel
theorem dX11_holdsLine_84 : decode cX11_holdsLine 84 = .ok (.iload_n 3, 1) := by decide +kernel
theorem dX11_holdsLine_85 : decode cX11_holdsLine 85 = .ok (.invokevirtual 274, 3) := by decide +kernel
theorem dX11_holdsLine_88 : decode cX11_holdsLine 88 = .ok (.iastore, 1) := by decide +kernel
theorem dX11_holdsLine_89 : decode cX11_holdsLine 89 = .ok (.iinc 4 1, 3) := by decide +kernel
theorem dX11_holdsLine_92 : decode cX11_holdsLine 92 = .ok (.goto 173, 3) := by decide +kernel
theorem dX11_holdsLine_95 : decode cX11_holdsLine 95 = .ok (.iload 7, 2) := by decide +kernel
theorem dX11_holdsLine_97 : decode cX11_holdsLine 97 = .ok (.bipush 13, 2) := by decide +kernel
theorem dX11_holdsLine_99 : decode cX11_holdsLine 99 = .ok (.if_icmp .ne 26, 3) := by decide +kernel
theorem dX11_holdsLine_102 : decode cX11_holdsLine 102 = .ok (.aload_n 0, 1) := by decide +kernel
theorem dX11_holdsLine_103 : decode cX11_holdsLine 103 = .ok (.getfield 39, 3) := by decide +kernel
theorem dX11_holdsLine_106 : decode cX11_holdsLine 106 = .ok (.iload 4, 2) := by decide +kernel
theorem dX11_holdsLine_108 : decode cX11_holdsLine 108 = .ok (.iconst 1, 1) := by decide +kernel
theorem dX11_holdsLine_109 : decode cX11_holdsLine 109 = .ok (.isub, 1) := by decide +kernel
theorem dX11_holdsLine_110 : decode cX11_holdsLine 110 = .ok (.iconst 1, 1) := by decide +kernel
theorem dX11_holdsLine_111 : decode cX11_holdsLine 111 = .ok (.aload_n 0, 1) := by decide +kernel
theorem dX11_holdsLine_112 : decode cX11_holdsLine 112 = .ok (.getfield 39, 3) := by decide +kernel
theorem dX11_holdsLine_115 : decode cX11_holdsLine 115 = .ok (.iload 4, 2) := by decide +kernel
theorem dX11_holdsLine_117 : decode cX11_holdsLine 117 = .ok (.iconst 1, 1) := by decide +kernel
theorem dX11_holdsLine_118 : decode cX11_holdsLine 118 = .ok (.isub, 1) := by decide +kernel
theorem dX11_holdsLine_119 : decode cX11_holdsLine 119 = .ok (.iaload, 1) := by decide +kernel
theorem dX11_holdsLine_120 : decode cX11_holdsLine 120 = .ok (.isub, 1) := by decide +kernel
theorem dX11_holdsLine_121 : decode cX11_holdsLine 121 = .ok (.iastore, 1) := by decide +kernel
theorem dX11_holdsLine_122 : decode cX11_holdsLine 122 = .ok (.goto 143, 3) := by decide +kernel
theorem dX11_holdsLine_125 : decode cX11_holdsLine 125 = .ok (.iinc 4 (-1), 3) := by decide +kernel
theorem dX11_holdsLine_128 : decode cX11_holdsLine 128 = .ok (.aload_n 0, 1) := by decide +kernel
theorem dX11_holdsLine_129 : decode cX11_holdsLine 129 = .ok (.getfield 39, 3) := by decide +kernel
theorem dX11_holdsLine_132 : decode cX11_holdsLine 132 = .ok (.iload 4, 2) := by decide +kernel
theorem dX11_holdsLine_134 : decode cX11_holdsLine 134 = .ok (.iconst 1, 1) := by decide +kernel
theorem dX11_holdsLine_135 : decode cX11_holdsLine 135 = .ok (.isub, 1) := by decide +kernel
theorem dX11_holdsLine_136 : decode cX11_holdsLine 136 = .ok (.iaload, 1) := by decide +kernel
theorem dX11_holdsLine_137 : decode cX11_holdsLine 137 = .ok (.istore 8, 2) := by decide +kernel
theorem dX11_holdsLine_139 : decode cX11_holdsLine 139 = .ok (.aload_n 0, 1) := by decide +kernel
theorem dX11_holdsLine_140 : decode cX11_holdsLine 140 = .ok (.getfield 39, 3) := by decide +kernel
theorem dX11_holdsLine_143 : decode cX11_holdsLine 143 = .ok (.iload 4, 2) := by decide +kernel
theorem dX11_holdsLine_145 : decode cX11_holdsLine 145 = .ok (.iaload, 1) := by decide +kernel
theorem dX11_holdsLine_146 : decode cX11_holdsLine 146 = .ok (.istore 9, 2) := by decide +kernel
theorem dX11_holdsLine_148 : decode cX11_holdsLine 148 = .ok (.iload 7, 2) := by decide +kernel
theorem dX11_holdsLine_150 : decode cX11_holdsLine 150 = .ok (.bipush 11, 2) := by decide +kernel
theorem dX11_holdsLine_152 : decode cX11_holdsLine 152 = .ok (.if_icmp .ne 18, 3) := by decide +kernel
theorem dX11_holdsLine_155 : decode cX11_holdsLine 155 = .ok (.iload 8, 2) := by decide +kernel
theorem dX11_holdsLine_157 : decode cX11_holdsLine 157 = .ok (.iload 9, 2) := by decide +kernel
theorem dX11_holdsLine_159 : decode cX11_holdsLine 159 = .ok (.if_icmp .ge 7, 3) := by decide +kernel
theorem dX11_holdsLine_162 : decode cX11_holdsLine 162 = .ok (.iconst 1, 1) := by decide +kernel
theorem dX11_holdsLine_163 : decode cX11_holdsLine 163 = .ok (.goto 66, 3) := by decide +kernel
theorem dX11_holdsLine_166 : decode cX11_holdsLine 166 = .ok (.iconst 0, 1) := by decide +kernel
theorem dX11_holdsLine_167 : decode cX11_holdsLine 167 = .ok (.goto 62, 3) := by decide +kernel
theorem dX11_holdsLine_170 : decode cX11_holdsLine 170 = .ok (.iload 7, 2) := by decide +kernel
theorem dX11_holdsLine_172 : decode cX11_holdsLine 172 = .ok (.bipush 12, 2) := by decide +kernel
theorem dX11_holdsLine_174 : decode cX11_holdsLine 174 = .ok (.if_icmp .ne 18, 3) := by decide +kernel
theorem dX11_holdsLine_177 : decode cX11_holdsLine 177 = .ok (.iload 8, 2) := by decide +kernel
theorem dX11_holdsLine_179 : decode cX11_holdsLine 179 = .ok (.iload 9, 2) := by decide +kernel
theorem dX11_holdsLine_181 : decode cX11_holdsLine 181 = .ok (.if_icmp .le 7, 3) := by decide +kernel
theorem dX11_holdsLine_184 : decode cX11_holdsLine 184 = .ok (.iconst 1, 1) := by decide +kernel
theorem dX11_holdsLine_185 : decode cX11_holdsLine 185 = .ok (.goto 44, 3) := by decide +kernel
theorem dX11_holdsLine_188 : decode cX11_holdsLine 188 = .ok (.iconst 0, 1) := by decide +kernel
theorem dX11_holdsLine_189 : decode cX11_holdsLine 189 = .ok (.goto 40, 3) := by decide +kernel
theorem dX11_holdsLine_192 : decode cX11_holdsLine 192 = .ok (.iload 7, 2) := by decide +kernel
theorem dX11_holdsLine_194 : decode cX11_holdsLine 194 = .ok (.bipush 14, 2) := by decide +kernel
theorem dX11_holdsLine_196 : decode cX11_holdsLine 196 = .ok (.if_icmp .ne 20, 3) := by decide +kernel
theorem dX11_holdsLine_199 : decode cX11_holdsLine 199 = .ok (.iload 8, 2) := by decide +kernel
theorem dX11_holdsLine_201 : decode cX11_holdsLine 201 = .ok (.iload 9, 2) := by decide +kernel
theorem dX11_holdsLine_203 : decode cX11_holdsLine 203 = .ok (.iadd, 1) := by decide +kernel
theorem dX11_holdsLine_204 : decode cX11_holdsLine 204 = .ok (.iconst 2, 1) := by decide +kernel
theorem dX11_holdsLine_205 : decode cX11_holdsLine 205 = .ok (.if_icmp .ne 7, 3) := by decide +kernel
theorem dX11_holdsLine_208 : decode cX11_holdsLine 208 = .ok (.iconst 1, 1) := by decide +kernel
theorem dX11_holdsLine_209 : decode cX11_holdsLine 209 = .ok (.goto 20, 3) := by decide +kernel
theorem dX11_holdsLine_212 : decode cX11_holdsLine 212 = .ok (.iconst 0, 1) := by decide +kernel
theorem dX11_holdsLine_213 : decode cX11_holdsLine 213 = .ok (.goto 16, 3) := by decide +kernel
theorem dX11_holdsLine_216 : decode cX11_holdsLine 216 = .ok (.iload 8, 2) := by decide +kernel
theorem dX11_holdsLine_218 : decode cX11_holdsLine 218 = .ok (.iload 9, 2) := by decide +kernel
theorem dX11_holdsLine_220 : decode cX11_holdsLine 220 = .ok (.iadd, 1) := by decide +kernel
theorem dX11_holdsLine_221 : decode cX11_holdsLine 221 = .ok (.ifCond .le 7, 3) := by decide +kernel
theorem dX11_holdsLine_224 : decode cX11_holdsLine 224 = .ok (.iconst 1, 1) := by decide +kernel
theorem dX11_holdsLine_225 : decode cX11_holdsLine 225 = .ok (.goto 4, 3) := by decide +kernel
theorem dX11_holdsLine_228 : decode cX11_holdsLine 228 = .ok (.iconst 0, 1) := by decide +kernel
theorem dX11_holdsLine_229 : decode cX11_holdsLine 229 = .ok (.istore 10, 2) := by decide +kernel
theorem dX11_holdsLine_231 : decode cX11_holdsLine 231 = .ok (.aload_n 0, 1) := by decide +kernel
theorem dX11_holdsLine_232 : decode cX11_holdsLine 232 = .ok (.getfield 39, 3) := by decide +kernel
theorem dX11_holdsLine_235 : decode cX11_holdsLine 235 = .ok (.iload 4, 2) := by decide +kernel
theorem dX11_holdsLine_237 : decode cX11_holdsLine 237 = .ok (.iconst 1, 1) := by decide +kernel
theorem dX11_holdsLine_238 : decode cX11_holdsLine 238 = .ok (.isub, 1) := by decide +kernel
theorem dX11_holdsLine_239 : decode cX11_holdsLine 239 = .ok (.iload 7, 2) := by decide +kernel
theorem dX11_holdsLine_241 : decode cX11_holdsLine 241 = .ok (.bipush 10, 2) := by decide +kernel
theorem dX11_holdsLine_243 : decode cX11_holdsLine 243 = .ok (.if_icmp .ne 11, 3) := by decide +kernel
theorem dX11_holdsLine_246 : decode cX11_holdsLine 246 = .ok (.iload 8, 2) := by decide +kernel
theorem dX11_holdsLine_248 : decode cX11_holdsLine 248 = .ok (.iload 9, 2) := by decide +kernel
theorem dX11_holdsLine_250 : decode cX11_holdsLine 250 = .ok (.iadd, 1) := by decide +kernel
theorem dX11_holdsLine_251 : decode cX11_holdsLine 251 = .ok (.goto 13, 3) := by decide +kernel
theorem dX11_holdsLine_254 : decode cX11_holdsLine 254 = .ok (.iload 10, 2) := by decide +kernel
theorem dX11_holdsLine_256 : decode cX11_holdsLine 256 = .ok (.ifCond .eq 7, 3) := by decide +kernel
theorem dX11_holdsLine_259 : decode cX11_holdsLine 259 = .ok (.iconst 1, 1) := by decide +kernel
theorem dX11_holdsLine_260 : decode cX11_holdsLine 260 = .ok (.goto 4, 3) := by decide +kernel
theorem dX11_holdsLine_263 : decode cX11_holdsLine 263 = .ok (.iconst 0, 1) := by decide +kernel
theorem dX11_holdsLine_264 : decode cX11_holdsLine 264 = .ok (.iastore, 1) := by decide +kernel
theorem dX11_holdsLine_265 : decode cX11_holdsLine 265 = .ok (.iinc 6 1, 3) := by decide +kernel
theorem dX11_holdsLine_268 : decode cX11_holdsLine 268 = .ok (.goto (-245), 3) := by decide +kernel
theorem dX11_holdsLine_271 : decode cX11_holdsLine 271 = .ok (.iload 4, 2) := by decide +kernel
theorem dX11_holdsLine_273 : decode cX11_holdsLine 273 = .ok (.ifCond .eq 13, 3) := by decide +kernel
theorem dX11_holdsLine_276 : decode cX11_holdsLine 276 = .ok (.aload_n 0, 1) := by decide +kernel
theorem dX11_holdsLine_277 : decode cX11_holdsLine 277 = .ok (.getfield 39, 3) := by decide +kernel
theorem dX11_holdsLine_280 : decode cX11_holdsLine 280 = .ok (.iconst 0, 1) := by decide +kernel
theorem dX11_holdsLine_281 : decode cX11_holdsLine 281 = .ok (.iaload, 1) := by decide +kernel
theorem dX11_holdsLine_282 : decode cX11_holdsLine 282 = .ok (.iconst 1, 1) := by decide +kernel
theorem dX11_holdsLine_283 : decode cX11_holdsLine 283 = .ok (.if_icmp .ne 7, 3) := by decide +kernel
theorem dX11_holdsLine_286 : decode cX11_holdsLine 286 = .ok (.iconst 1, 1) := by decide +kernel
theorem dX11_holdsLine_287 : decode cX11_holdsLine 287 = .ok (.goto 4, 3) := by decide +kernel
theorem dX11_holdsLine_290 : decode cX11_holdsLine 290 = .ok (.iconst 0, 1) := by decide +kernel
theorem dX11_holdsLine_291 : decode cX11_holdsLine 291 = .ok (.ireturn, 1) := by decide +kernel
theorem dX11_placeOf_0 : decode cX11_placeOf 0 = .ok (.aload_n 0, 1) := by decide +kernel
theorem dX11_placeOf_1 : decode cX11_placeOf 1 = .ok (.iload_n 1, 1) := by decide +kernel
theorem dX11_placeOf_2 : decode cX11_placeOf 2 = .ok (.iload_n 2, 1) := by decide +kernel
theorem dX11_placeOf_3 : decode cX11_placeOf 3 = .ok (.invokevirtual 72, 3) := by decide +kernel
theorem dX11_placeOf_6 : decode cX11_placeOf 6 = .ok (.ifCond .ne 5, 3) := by decide +kernel
theorem dX11_placeOf_9 : decode cX11_placeOf 9 = .ok (.iconst (-1), 1) := by decide +kernel
theorem dX11_placeOf_10 : decode cX11_placeOf 10 = .ok (.ireturn, 1) := by decide +kernel
theorem dX11_placeOf_11 : decode cX11_placeOf 11 = .ok (.aload_n 0, 1) := by decide +kernel
theorem dX11_placeOf_12 : decode cX11_placeOf 12 = .ok (.getfield 13, 3) := by decide +kernel
theorem dX11_placeOf_15 : decode cX11_placeOf 15 = .ok (.iconst 3, 1) := by decide +kernel
theorem dX11_placeOf_16 : decode cX11_placeOf 16 = .ok (.iaload, 1) := by decide +kernel
theorem dX11_placeOf_17 : decode cX11_placeOf 17 = .ok (.ifCond .ne 38, 3) := by decide +kernel
theorem dX11_placeOf_20 : decode cX11_placeOf 20 = .ok (.aload_n 0, 1) := by decide +kernel
theorem dX11_placeOf_21 : decode cX11_placeOf 21 = .ok (.iload_n 1, 1) := by decide +kernel
theorem dX11_placeOf_22 : decode cX11_placeOf 22 = .ok (.iconst 1, 1) := by decide +kernel
theorem dX11_placeOf_23 : decode cX11_placeOf 23 = .ok (.invokevirtual 69, 3) := by decide +kernel
theorem dX11_placeOf_26 : decode cX11_placeOf 26 = .ok (.iconst 1, 1) := by decide +kernel
theorem dX11_placeOf_27 : decode cX11_placeOf 27 = .ok (.if_icmp .eq 13, 3) := by decide +kernel
theorem dX11_placeOf_30 : decode cX11_placeOf 30 = .ok (.aload_n 0, 1) := by decide +kernel
theorem dX11_placeOf_31 : decode cX11_placeOf 31 = .ok (.iload_n 1, 1) := by decide +kernel
theorem dX11_placeOf_32 : decode cX11_placeOf 32 = .ok (.iconst 2, 1) := by decide +kernel
theorem dX11_placeOf_33 : decode cX11_placeOf 33 = .ok (.invokevirtual 69, 3) := by decide +kernel
theorem dX11_placeOf_36 : decode cX11_placeOf 36 = .ok (.iconst 1, 1) := by decide +kernel
theorem dX11_placeOf_37 : decode cX11_placeOf 37 = .ok (.if_icmp .ne 7, 3) := by decide +kernel
theorem dX11_placeOf_40 : decode cX11_placeOf 40 = .ok (.iconst (-1), 1) := by decide +kernel
theorem dX11_placeOf_41 : decode cX11_placeOf 41 = .ok (.goto 13, 3) := by decide +kernel
theorem dX11_placeOf_44 : decode cX11_placeOf 44 = .ok (.iconst 0, 1) := by decide +kernel
theorem dX11_placeOf_45 : decode cX11_placeOf 45 = .ok (.aload_n 0, 1) := by decide +kernel
theorem dX11_placeOf_46 : decode cX11_placeOf 46 = .ok (.invokevirtual 268, 3) := by decide +kernel
theorem dX11_placeOf_49 : decode cX11_placeOf 49 = .ok (.iload_n 2, 1) := by decide +kernel
theorem dX11_placeOf_50 : decode cX11_placeOf 50 = .ok (.isub, 1) := by decide +kernel
theorem dX11_placeOf_51 : decode cX11_placeOf 51 = .ok (.invokestatic 271, 3) := by decide +kernel
theorem dX11_placeOf_54 : decode cX11_placeOf 54 = .ok (.ireturn, 1) := by decide +kernel
theorem dX11_placeOf_55 : decode cX11_placeOf 55 = .ok (.iconst 0, 1) := by decide +kernel
theorem dX11_placeOf_56 : decode cX11_placeOf 56 = .ok (.istore_n 3, 1) := by decide +kernel
theorem dX11_placeOf_57 : decode cX11_placeOf 57 = .ok (.iconst 0, 1) := by decide +kernel
theorem dX11_placeOf_58 : decode cX11_placeOf 58 = .ok (.istore 4, 2) := by decide +kernel
theorem dX11_placeOf_60 : decode cX11_placeOf 60 = .ok (.iload 4, 2) := by decide +kernel
theorem dX11_placeOf_62 : decode cX11_placeOf 62 = .ok (.aload_n 0, 1) := by decide +kernel
theorem dX11_placeOf_63 : decode cX11_placeOf 63 = .ok (.getfield 13, 3) := by decide +kernel
theorem dX11_placeOf_66 : decode cX11_placeOf 66 = .ok (.sipush 617, 3) := by decide +kernel
theorem dX11_placeOf_69 : decode cX11_placeOf 69 = .ok (.iaload, 1) := by decide +kernel
theorem dX11_placeOf_70 : decode cX11_placeOf 70 = .ok (.if_icmp .ge 50, 3) := by decide +kernel
theorem dX11_placeOf_73 : decode cX11_placeOf 73 = .ok (.aload_n 0, 1) := by decide +kernel
theorem dX11_placeOf_74 : decode cX11_placeOf 74 = .ok (.iload 4, 2) := by decide +kernel
theorem dX11_placeOf_76 : decode cX11_placeOf 76 = .ok (.iload_n 1, 1) := by decide +kernel
theorem dX11_placeOf_77 : decode cX11_placeOf 77 = .ok (.iload_n 2, 1) := by decide +kernel
theorem dX11_placeOf_78 : decode cX11_placeOf 78 = .ok (.invokevirtual 278, 3) := by decide +kernel
theorem dX11_placeOf_81 : decode cX11_placeOf 81 = .ok (.ifCond .ne 6, 3) := by decide +kernel
theorem dX11_placeOf_84 : decode cX11_placeOf 84 = .ok (.goto 30, 3) := by decide +kernel
theorem dX11_placeOf_87 : decode cX11_placeOf 87 = .ok (.aload_n 0, 1) := by decide +kernel
theorem dX11_placeOf_88 : decode cX11_placeOf 88 = .ok (.getfield 13, 3) := by decide +kernel
theorem dX11_placeOf_91 : decode cX11_placeOf 91 = .ok (.sipush 618, 3) := by decide +kernel
theorem dX11_placeOf_94 : decode cX11_placeOf 94 = .ok (.iconst 3, 1) := by decide +kernel
theorem dX11_placeOf_95 : decode cX11_placeOf 95 = .ok (.iload 4, 2) := by decide +kernel
theorem dX11_placeOf_97 : decode cX11_placeOf 97 = .ok (.imul, 1) := by decide +kernel
theorem dX11_placeOf_98 : decode cX11_placeOf 98 = .ok (.iadd, 1) := by decide +kernel
theorem dX11_placeOf_99 : decode cX11_placeOf 99 = .ok (.iaload, 1) := by decide +kernel
theorem dX11_placeOf_100 : decode cX11_placeOf 100 = .ok (.istore 5, 2) := by decide +kernel
theorem dX11_placeOf_102 : decode cX11_placeOf 102 = .ok (.iload 5, 2) := by decide +kernel
theorem dX11_placeOf_104 : decode cX11_placeOf 104 = .ok (.ifCond .ge 5, 3) := by decide +kernel
theorem dX11_placeOf_107 : decode cX11_placeOf 107 = .ok (.iconst (-1), 1) := by decide +kernel
theorem dX11_placeOf_108 : decode cX11_placeOf 108 = .ok (.ireturn, 1) := by decide +kernel
theorem dX11_placeOf_109 : decode cX11_placeOf 109 = .ok (.iload_n 3, 1) := by decide +kernel
theorem dX11_placeOf_110 : decode cX11_placeOf 110 = .ok (.iload 5, 2) := by decide +kernel
theorem dX11_placeOf_112 : decode cX11_placeOf 112 = .ok (.iadd, 1) := by decide +kernel
theorem dX11_placeOf_113 : decode cX11_placeOf 113 = .ok (.istore_n 3, 1) := by decide +kernel
theorem dX11_placeOf_114 : decode cX11_placeOf 114 = .ok (.iinc 4 1, 3) := by decide +kernel
theorem dX11_placeOf_117 : decode cX11_placeOf 117 = .ok (.goto (-57), 3) := by decide +kernel
theorem dX11_placeOf_120 : decode cX11_placeOf 120 = .ok (.iload_n 3, 1) := by decide +kernel
theorem dX11_placeOf_121 : decode cX11_placeOf 121 = .ok (.ireturn, 1) := by decide +kernel
theorem dX11_nextOf_0 : decode cX11_nextOf 0 = .ok (.iconst (-1), 1) := by decide +kernel
theorem dX11_nextOf_1 : decode cX11_nextOf 1 = .ok (.istore_n 2, 1) := by decide +kernel
theorem dX11_nextOf_2 : decode cX11_nextOf 2 = .ok (.iconst (-1), 1) := by decide +kernel
theorem dX11_nextOf_3 : decode cX11_nextOf 3 = .ok (.istore_n 3, 1) := by decide +kernel
theorem dX11_nextOf_4 : decode cX11_nextOf 4 = .ok (.iconst 0, 1) := by decide +kernel
theorem dX11_nextOf_5 : decode cX11_nextOf 5 = .ok (.istore 4, 2) := by decide +kernel
theorem dX11_nextOf_7 : decode cX11_nextOf 7 = .ok (.iload 4, 2) := by decide +kernel
theorem dX11_nextOf_9 : decode cX11_nextOf 9 = .ok (.bipush 30, 2) := by decide +kernel
theorem dX11_nextOf_11 : decode cX11_nextOf 11 = .ok (.if_icmp .ge 33, 3) := by decide +kernel
theorem dX11_nextOf_14 : decode cX11_nextOf 14 = .ok (.aload_n 0, 1) := by decide +kernel
theorem dX11_nextOf_15 : decode cX11_nextOf 15 = .ok (.iload_n 1, 1) := by decide +kernel
theorem dX11_nextOf_16 : decode cX11_nextOf 16 = .ok (.iload 4, 2) := by decide +kernel
theorem dX11_nextOf_18 : decode cX11_nextOf 18 = .ok (.invokevirtual 281, 3) := by decide +kernel
theorem dX11_nextOf_21 : decode cX11_nextOf 21 = .ok (.istore 5, 2) := by decide +kernel
theorem dX11_nextOf_23 : decode cX11_nextOf 23 = .ok (.iload 5, 2) := by decide +kernel
theorem dX11_nextOf_25 : decode cX11_nextOf 25 = .ok (.iload_n 3, 1) := by decide +kernel
theorem dX11_nextOf_26 : decode cX11_nextOf 26 = .ok (.if_icmp .gt 6, 3) := by decide +kernel
theorem dX11_nextOf_29 : decode cX11_nextOf 29 = .ok (.goto 9, 3) := by decide +kernel
theorem dX11_nextOf_32 : decode cX11_nextOf 32 = .ok (.iload 4, 2) := by decide +kernel
theorem dX11_nextOf_34 : decode cX11_nextOf 34 = .ok (.istore_n 2, 1) := by decide +kernel
theorem dX11_nextOf_35 : decode cX11_nextOf 35 = .ok (.iload 5, 2) := by decide +kernel
theorem dX11_nextOf_37 : decode cX11_nextOf 37 = .ok (.istore_n 3, 1) := by decide +kernel
theorem dX11_nextOf_38 : decode cX11_nextOf 38 = .ok (.iinc 4 1, 3) := by decide +kernel
theorem dX11_nextOf_41 : decode cX11_nextOf 41 = .ok (.goto (-34), 3) := by decide +kernel
theorem dX11_nextOf_44 : decode cX11_nextOf 44 = .ok (.iload_n 2, 1) := by decide +kernel
theorem dX11_nextOf_45 : decode cX11_nextOf 45 = .ok (.ireturn, 1) := by decide +kernel
theorem dX11_cistern_0 : decode cX11_cistern 0 = .ok (.aload_n 0, 1) := by decide +kernel
theorem dX11_cistern_1 : decode cX11_cistern 1 = .ok (.iconst 0, 1) := by decide +kernel
theorem dX11_cistern_2 : decode cX11_cistern 2 = .ok (.putfield 3, 3) := by decide +kernel
theorem dX11_cistern_5 : decode cX11_cistern 5 = .ok (.aload_n 0, 1) := by decide +kernel
theorem dX11_cistern_6 : decode cX11_cistern 6 = .ok (.aload_n 0, 1) := by decide +kernel
theorem dX11_cistern_7 : decode cX11_cistern 7 = .ok (.iload_n 1, 1) := by decide +kernel
theorem dX11_cistern_8 : decode cX11_cistern 8 = .ok (.invokevirtual 284, 3) := by decide +kernel
theorem dX11_cistern_11 : decode cX11_cistern 11 = .ok (.iconst 1, 1) := by decide +kernel
theorem dX11_cistern_12 : decode cX11_cistern 12 = .ok (.invokevirtual 265, 3) := by decide +kernel
theorem dX11_cistern_15 : decode cX11_cistern 15 = .ok (.ifCond .ne 26, 3) := by decide +kernel
theorem dX11_cistern_18 : decode cX11_cistern 18 = .ok (.aload_n 0, 1) := by decide +kernel
theorem dX11_cistern_19 : decode cX11_cistern 19 = .ok (.iload_n 2, 1) := by decide +kernel
theorem dX11_cistern_20 : decode cX11_cistern 20 = .ok (.iconst 0, 1) := by decide +kernel
theorem dX11_cistern_21 : decode cX11_cistern 21 = .ok (.bipush 6, 2) := by decide +kernel
theorem dX11_cistern_23 : decode cX11_cistern 23 = .ok (.invokestatic 56, 3) := by decide +kernel
theorem dX11_cistern_26 : decode cX11_cistern 26 = .ok (.ifCond .ne 7, 3) := by decide +kernel
theorem dX11_cistern_29 : decode cX11_cistern 29 = .ok (.iconst 1, 1) := by decide +kernel
theorem dX11_cistern_30 : decode cX11_cistern 30 = .ok (.goto 4, 3) := by decide +kernel
theorem dX11_cistern_33 : decode cX11_cistern 33 = .ok (.iconst 0, 1) := by decide +kernel
theorem dX11_cistern_34 : decode cX11_cistern 34 = .ok (.iconst 2, 1) := by decide +kernel
theorem dX11_cistern_35 : decode cX11_cistern 35 = .ok (.invokevirtual 265, 3) := by decide +kernel
theorem dX11_cistern_38 : decode cX11_cistern 38 = .ok (.ifCond .eq 5, 3) := by decide +kernel
theorem dX11_cistern_41 : decode cX11_cistern 41 = .ok (.iconst 0, 1) := by decide +kernel
theorem dX11_cistern_42 : decode cX11_cistern 42 = .ok (.ireturn, 1) := by decide +kernel
theorem dX11_cistern_43 : decode cX11_cistern 43 = .ok (.iload_n 2, 1) := by decide +kernel
theorem dX11_cistern_44 : decode cX11_cistern 44 = .ok (.iconst 5, 1) := by decide +kernel
theorem dX11_cistern_45 : decode cX11_cistern 45 = .ok (.if_icmp .ge 12, 3) := by decide +kernel
theorem dX11_cistern_48 : decode cX11_cistern 48 = .ok (.aload_n 0, 1) := by decide +kernel
theorem dX11_cistern_49 : decode cX11_cistern 49 = .ok (.iload_n 1, 1) := by decide +kernel
theorem dX11_cistern_50 : decode cX11_cistern 50 = .ok (.iload_n 2, 1) := by decide +kernel
theorem dX11_cistern_51 : decode cX11_cistern 51 = .ok (.invokevirtual 69, 3) := by decide +kernel
theorem dX11_cistern_54 : decode cX11_cistern 54 = .ok (.goto 21, 3) := by decide +kernel
theorem dX11_cistern_57 : decode cX11_cistern 57 = .ok (.iload_n 2, 1) := by decide +kernel
theorem dX11_cistern_58 : decode cX11_cistern 58 = .ok (.iconst 5, 1) := by decide +kernel
theorem dX11_cistern_59 : decode cX11_cistern 59 = .ok (.if_icmp .ne 11, 3) := by decide +kernel
theorem dX11_cistern_62 : decode cX11_cistern 62 = .ok (.aload_n 0, 1) := by decide +kernel
theorem dX11_cistern_63 : decode cX11_cistern 63 = .ok (.iload_n 1, 1) := by decide +kernel
theorem dX11_cistern_64 : decode cX11_cistern 64 = .ok (.invokevirtual 75, 3) := by decide +kernel
theorem dX11_cistern_67 : decode cX11_cistern 67 = .ok (.goto 8, 3) := by decide +kernel
theorem dX11_cistern_70 : decode cX11_cistern 70 = .ok (.aload_n 0, 1) := by decide +kernel
theorem dX11_cistern_71 : decode cX11_cistern 71 = .ok (.iload_n 1, 1) := by decide +kernel
theorem dX11_cistern_72 : decode cX11_cistern 72 = .ok (.invokevirtual 287, 3) := by decide +kernel
theorem dX11_cistern_75 : decode cX11_cistern 75 = .ok (.ireturn, 1) := by decide +kernel
theorem dX11_layer_0 : decode cX11_layer 0 = .ok (.aload_n 0, 1) := by decide +kernel
theorem dX11_layer_1 : decode cX11_layer 1 = .ok (.iconst 0, 1) := by decide +kernel
theorem dX11_layer_2 : decode cX11_layer 2 = .ok (.putfield 3, 3) := by decide +kernel
theorem dX11_layer_5 : decode cX11_layer 5 = .ok (.aload_n 0, 1) := by decide +kernel
theorem dX11_layer_6 : decode cX11_layer 6 = .ok (.aload_n 0, 1) := by decide +kernel
theorem dX11_layer_7 : decode cX11_layer 7 = .ok (.iload_n 1, 1) := by decide +kernel
theorem dX11_layer_8 : decode cX11_layer 8 = .ok (.invokevirtual 284, 3) := by decide +kernel
theorem dX11_layer_11 : decode cX11_layer 11 = .ok (.ifCond .ne 10, 3) := by decide +kernel
theorem dX11_layer_14 : decode cX11_layer 14 = .ok (.iload_n 2, 1) := by decide +kernel
theorem dX11_layer_15 : decode cX11_layer 15 = .ok (.invokestatic 290, 3) := by decide +kernel
theorem dX11_layer_18 : decode cX11_layer 18 = .ok (.ifCond .eq 7, 3) := by decide +kernel
theorem dX11_layer_21 : decode cX11_layer 21 = .ok (.iconst 1, 1) := by decide +kernel
theorem dX11_layer_22 : decode cX11_layer 22 = .ok (.goto 4, 3) := by decide +kernel
theorem dX11_layer_25 : decode cX11_layer 25 = .ok (.iconst 0, 1) := by decide +kernel
theorem dX11_layer_26 : decode cX11_layer 26 = .ok (.iconst 1, 1) := by decide +kernel
theorem dX11_layer_27 : decode cX11_layer 27 = .ok (.invokevirtual 265, 3) := by decide +kernel
theorem dX11_layer_30 : decode cX11_layer 30 = .ok (.ifCond .eq 7, 3) := by decide +kernel
theorem dX11_layer_33 : decode cX11_layer 33 = .ok (.iconst 0, 1) := by decide +kernel
theorem dX11_layer_34 : decode cX11_layer 34 = .ok (.goto 9, 3) := by decide +kernel
theorem dX11_layer_37 : decode cX11_layer 37 = .ok (.aload_n 0, 1) := by decide +kernel
theorem dX11_layer_38 : decode cX11_layer 38 = .ok (.iload_n 1, 1) := by decide +kernel
theorem dX11_layer_39 : decode cX11_layer 39 = .ok (.iload_n 2, 1) := by decide +kernel
theorem dX11_layer_40 : decode cX11_layer 40 = .ok (.invokevirtual 72, 3) := by decide +kernel
theorem dX11_layer_43 : decode cX11_layer 43 = .ok (.ireturn, 1) := by decide +kernel
theorem dX11_salt_0 : decode cX11_salt 0 = .ok (.aload_n 0, 1) := by decide +kernel
theorem dX11_salt_1 : decode cX11_salt 1 = .ok (.iconst 0, 1) := by decide +kernel
theorem dX11_salt_2 : decode cX11_salt 2 = .ok (.putfield 3, 3) := by decide +kernel
theorem dX11_salt_5 : decode cX11_salt 5 = .ok (.aload_n 0, 1) := by decide +kernel
theorem dX11_salt_6 : decode cX11_salt 6 = .ok (.iload_n 1, 1) := by decide +kernel
theorem dX11_salt_7 : decode cX11_salt 7 = .ok (.invokestatic 290, 3) := by decide +kernel
theorem dX11_salt_10 : decode cX11_salt 10 = .ok (.iconst 1, 1) := by decide +kernel
theorem dX11_salt_11 : decode cX11_salt 11 = .ok (.invokevirtual 265, 3) := by decide +kernel
theorem dX11_salt_14 : decode cX11_salt 14 = .ok (.ifCond .eq 7, 3) := by decide +kernel
theorem dX11_salt_17 : decode cX11_salt 17 = .ok (.iconst 0, 1) := by decide +kernel
theorem dX11_salt_18 : decode cX11_salt 18 = .ok (.goto 12, 3) := by decide +kernel
theorem dX11_salt_21 : decode cX11_salt 21 = .ok (.aload_n 0, 1) := by decide +kernel
theorem dX11_salt_22 : decode cX11_salt 22 = .ok (.getfield 13, 3) := by decide +kernel
theorem dX11_salt_25 : decode cX11_salt 25 = .ok (.bipush 35, 2) := by decide +kernel
theorem dX11_salt_27 : decode cX11_salt 27 = .ok (.iload_n 1, 1) := by decide +kernel
theorem dX11_salt_28 : decode cX11_salt 28 = .ok (.iadd, 1) := by decide +kernel
theorem dX11_salt_29 : decode cX11_salt 29 = .ok (.iaload, 1) := by decide +kernel
theorem dX11_salt_30 : decode cX11_salt 30 = .ok (.ireturn, 1) := by decide +kernel
theorem dX11_drunkBy_0 : decode cX11_drunkBy 0 = .ok (.iconst 0, 1) := by decide +kernel
theorem dX11_drunkBy_1 : decode cX11_drunkBy 1 = .ok (.istore_n 2, 1) := by decide +kernel
theorem dX11_drunkBy_2 : decode cX11_drunkBy 2 = .ok (.iconst 0, 1) := by decide +kernel
theorem dX11_drunkBy_3 : decode cX11_drunkBy 3 = .ok (.istore_n 3, 1) := by decide +kernel
theorem dX11_drunkBy_4 : decode cX11_drunkBy 4 = .ok (.iload_n 3, 1) := by decide +kernel
theorem dX11_drunkBy_5 : decode cX11_drunkBy 5 = .ok (.bipush 30, 2) := by decide +kernel
theorem dX11_drunkBy_7 : decode cX11_drunkBy 7 = .ok (.if_icmp .ge 20, 3) := by decide +kernel
theorem dX11_drunkBy_10 : decode cX11_drunkBy 10 = .ok (.iload_n 2, 1) := by decide +kernel
theorem dX11_drunkBy_11 : decode cX11_drunkBy 11 = .ok (.aload_n 0, 1) := by decide +kernel
theorem dX11_drunkBy_12 : decode cX11_drunkBy 12 = .ok (.iload_n 1, 1) := by decide +kernel
theorem dX11_drunkBy_13 : decode cX11_drunkBy 13 = .ok (.iconst 4, 1) := by decide +kernel
theorem dX11_drunkBy_14 : decode cX11_drunkBy 14 = .ok (.iload_n 3, 1) := by decide +kernel
theorem dX11_drunkBy_15 : decode cX11_drunkBy 15 = .ok (.iadd, 1) := by decide +kernel
theorem dX11_drunkBy_16 : decode cX11_drunkBy 16 = .ok (.invokevirtual 151, 3) := by decide +kernel
theorem dX11_drunkBy_19 : decode cX11_drunkBy 19 = .ok (.iadd, 1) := by decide +kernel
theorem dX11_drunkBy_20 : decode cX11_drunkBy 20 = .ok (.istore_n 2, 1) := by decide +kernel
theorem dX11_drunkBy_21 : decode cX11_drunkBy 21 = .ok (.iinc 3 1, 3) := by decide +kernel
theorem dX11_drunkBy_24 : decode cX11_drunkBy 24 = .ok (.goto (-20), 3) := by decide +kernel
theorem dX11_drunkBy_27 : decode cX11_drunkBy 27 = .ok (.iload_n 2, 1) := by decide +kernel
theorem dX11_drunkBy_28 : decode cX11_drunkBy 28 = .ok (.ireturn, 1) := by decide +kernel
theorem dX11_house_0 : decode cX11_house 0 = .ok (.aload_n 0, 1) := by decide +kernel
theorem dX11_house_1 : decode cX11_house 1 = .ok (.iconst 0, 1) := by decide +kernel
theorem dX11_house_2 : decode cX11_house 2 = .ok (.putfield 3, 3) := by decide +kernel
theorem dX11_house_5 : decode cX11_house 5 = .ok (.aload_n 0, 1) := by decide +kernel
theorem dX11_house_6 : decode cX11_house 6 = .ok (.aload_n 0, 1) := by decide +kernel
theorem dX11_house_7 : decode cX11_house 7 = .ok (.iload_n 1, 1) := by decide +kernel
theorem dX11_house_8 : decode cX11_house 8 = .ok (.invokevirtual 293, 3) := by decide +kernel
theorem dX11_house_11 : decode cX11_house 11 = .ok (.iconst 1, 1) := by decide +kernel
theorem dX11_house_12 : decode cX11_house 12 = .ok (.invokevirtual 265, 3) := by decide +kernel
theorem dX11_house_15 : decode cX11_house 15 = .ok (.ifCond .ne 25, 3) := by decide +kernel
theorem dX11_house_18 : decode cX11_house 18 = .ok (.aload_n 0, 1) := by decide +kernel
theorem dX11_house_19 : decode cX11_house 19 = .ok (.iload_n 2, 1) := by decide +kernel
theorem dX11_house_20 : decode cX11_house 20 = .ok (.iconst 0, 1) := by decide +kernel
theorem dX11_house_21 : decode cX11_house 21 = .ok (.iconst 4, 1) := by decide +kernel
theorem dX11_house_22 : decode cX11_house 22 = .ok (.invokestatic 56, 3) := by decide +kernel
theorem dX11_house_25 : decode cX11_house 25 = .ok (.ifCond .ne 7, 3) := by decide +kernel
theorem dX11_house_28 : decode cX11_house 28 = .ok (.iconst 1, 1) := by decide +kernel
theorem dX11_house_29 : decode cX11_house 29 = .ok (.goto 4, 3) := by decide +kernel
theorem dX11_house_32 : decode cX11_house 32 = .ok (.iconst 0, 1) := by decide +kernel
theorem dX11_house_33 : decode cX11_house 33 = .ok (.iconst 2, 1) := by decide +kernel
theorem dX11_house_34 : decode cX11_house 34 = .ok (.invokevirtual 265, 3) := by decide +kernel
theorem dX11_house_37 : decode cX11_house 37 = .ok (.ifCond .eq 5, 3) := by decide +kernel
theorem dX11_house_40 : decode cX11_house 40 = .ok (.iconst 0, 1) := by decide +kernel
theorem dX11_house_41 : decode cX11_house 41 = .ok (.ireturn, 1) := by decide +kernel
theorem dX11_house_42 : decode cX11_house 42 = .ok (.iload_n 2, 1) := by decide +kernel
theorem dX11_house_43 : decode cX11_house 43 = .ok (.iconst 4, 1) := by decide +kernel
theorem dX11_house_44 : decode cX11_house 44 = .ok (.if_icmp .ge 12, 3) := by decide +kernel
theorem dX11_house_47 : decode cX11_house 47 = .ok (.aload_n 0, 1) := by decide +kernel
theorem dX11_house_48 : decode cX11_house 48 = .ok (.iload_n 1, 1) := by decide +kernel
theorem dX11_house_49 : decode cX11_house 49 = .ok (.iload_n 2, 1) := by decide +kernel
theorem dX11_house_50 : decode cX11_house 50 = .ok (.invokevirtual 151, 3) := by decide +kernel
theorem dX11_house_53 : decode cX11_house 53 = .ok (.goto 8, 3) := by decide +kernel
theorem dX11_house_56 : decode cX11_house 56 = .ok (.aload_n 0, 1) := by decide +kernel
theorem dX11_house_57 : decode cX11_house 57 = .ok (.iload_n 1, 1) := by decide +kernel
theorem dX11_house_58 : decode cX11_house 58 = .ok (.invokevirtual 296, 3) := by decide +kernel
theorem dX11_house_61 : decode cX11_house 61 = .ok (.ireturn, 1) := by decide +kernel
theorem dX11_drank_0 : decode cX11_drank 0 = .ok (.aload_n 0, 1) := by decide +kernel
theorem dX11_drank_1 : decode cX11_drank 1 = .ok (.iconst 0, 1) := by decide +kernel
theorem dX11_drank_2 : decode cX11_drank 2 = .ok (.putfield 3, 3) := by decide +kernel
theorem dX11_drank_5 : decode cX11_drank 5 = .ok (.aload_n 0, 1) := by decide +kernel
theorem dX11_drank_6 : decode cX11_drank 6 = .ok (.aload_n 0, 1) := by decide +kernel
theorem dX11_drank_7 : decode cX11_drank 7 = .ok (.iload_n 1, 1) := by decide +kernel
theorem dX11_drank_8 : decode cX11_drank 8 = .ok (.invokevirtual 293, 3) := by decide +kernel
theorem dX11_drank_11 : decode cX11_drank 11 = .ok (.ifCond .ne 10, 3) := by decide +kernel
theorem dX11_drank_14 : decode cX11_drank 14 = .ok (.iload_n 2, 1) := by decide +kernel
theorem dX11_drank_15 : decode cX11_drank 15 = .ok (.invokestatic 290, 3) := by decide +kernel
theorem dX11_drank_18 : decode cX11_drank 18 = .ok (.ifCond .eq 7, 3) := by decide +kernel
theorem dX11_drank_21 : decode cX11_drank 21 = .ok (.iconst 1, 1) := by decide +kernel
theorem dX11_drank_22 : decode cX11_drank 22 = .ok (.goto 4, 3) := by decide +kernel
theorem dX11_drank_25 : decode cX11_drank 25 = .ok (.iconst 0, 1) := by decide +kernel
theorem dX11_drank_26 : decode cX11_drank 26 = .ok (.iconst 1, 1) := by decide +kernel
theorem dX11_drank_27 : decode cX11_drank 27 = .ok (.invokevirtual 265, 3) := by decide +kernel
theorem dX11_drank_30 : decode cX11_drank 30 = .ok (.ifCond .eq 7, 3) := by decide +kernel
theorem dX11_drank_33 : decode cX11_drank 33 = .ok (.iconst 0, 1) := by decide +kernel
theorem dX11_drank_34 : decode cX11_drank 34 = .ok (.goto 11, 3) := by decide +kernel
theorem dX11_drank_37 : decode cX11_drank 37 = .ok (.aload_n 0, 1) := by decide +kernel
theorem dX11_drank_38 : decode cX11_drank 38 = .ok (.iload_n 1, 1) := by decide +kernel
theorem dX11_drank_39 : decode cX11_drank 39 = .ok (.iconst 4, 1) := by decide +kernel
theorem dX11_drank_40 : decode cX11_drank 40 = .ok (.iload_n 2, 1) := by decide +kernel
theorem dX11_drank_41 : decode cX11_drank 41 = .ok (.iadd, 1) := by decide +kernel
theorem dX11_drank_42 : decode cX11_drank 42 = .ok (.invokevirtual 151, 3) := by decide +kernel
theorem dX11_drank_45 : decode cX11_drank 45 = .ok (.ireturn, 1) := by decide +kernel
theorem dX11_place_0 : decode cX11_place 0 = .ok (.aload_n 0, 1) := by decide +kernel
theorem dX11_place_1 : decode cX11_place 1 = .ok (.iconst 0, 1) := by decide +kernel
theorem dX11_place_2 : decode cX11_place 2 = .ok (.putfield 3, 3) := by decide +kernel
theorem dX11_place_5 : decode cX11_place 5 = .ok (.aload_n 0, 1) := by decide +kernel
theorem dX11_place_6 : decode cX11_place 6 = .ok (.aload_n 0, 1) := by decide +kernel
theorem dX11_place_7 : decode cX11_place 7 = .ok (.iload_n 1, 1) := by decide +kernel
theorem dX11_place_8 : decode cX11_place 8 = .ok (.invokevirtual 284, 3) := by decide +kernel
theorem dX11_place_11 : decode cX11_place 11 = .ok (.ifCond .ne 10, 3) := by decide +kernel
theorem dX11_place_14 : decode cX11_place 14 = .ok (.iload_n 2, 1) := by decide +kernel
theorem dX11_place_15 : decode cX11_place 15 = .ok (.invokestatic 290, 3) := by decide +kernel
theorem dX11_place_18 : decode cX11_place 18 = .ok (.ifCond .eq 7, 3) := by decide +kernel
theorem dX11_place_21 : decode cX11_place 21 = .ok (.iconst 1, 1) := by decide +kernel
theorem dX11_place_22 : decode cX11_place 22 = .ok (.goto 4, 3) := by decide +kernel
theorem dX11_place_25 : decode cX11_place 25 = .ok (.iconst 0, 1) := by decide +kernel
theorem dX11_place_26 : decode cX11_place 26 = .ok (.iconst 1, 1) := by decide +kernel
theorem dX11_place_27 : decode cX11_place 27 = .ok (.invokevirtual 265, 3) := by decide +kernel
theorem dX11_place_30 : decode cX11_place 30 = .ok (.ifCond .eq 7, 3) := by decide +kernel
theorem dX11_place_33 : decode cX11_place 33 = .ok (.iconst 0, 1) := by decide +kernel
theorem dX11_place_34 : decode cX11_place 34 = .ok (.goto 9, 3) := by decide +kernel
theorem dX11_place_37 : decode cX11_place 37 = .ok (.aload_n 0, 1) := by decide +kernel
theorem dX11_place_38 : decode cX11_place 38 = .ok (.iload_n 1, 1) := by decide +kernel
theorem dX11_place_39 : decode cX11_place 39 = .ok (.iload_n 2, 1) := by decide +kernel
theorem dX11_place_40 : decode cX11_place 40 = .ok (.invokevirtual 281, 3) := by decide +kernel
theorem dX11_place_43 : decode cX11_place 43 = .ok (.ireturn, 1) := by decide +kernel
theorem dX11_next_0 : decode cX11_next 0 = .ok (.aload_n 0, 1) := by decide +kernel
theorem dX11_next_1 : decode cX11_next 1 = .ok (.iconst 0, 1) := by decide +kernel
theorem dX11_next_2 : decode cX11_next 2 = .ok (.putfield 3, 3) := by decide +kernel
theorem dX11_next_5 : decode cX11_next 5 = .ok (.aload_n 0, 1) := by decide +kernel
theorem dX11_next_6 : decode cX11_next 6 = .ok (.aload_n 0, 1) := by decide +kernel
theorem dX11_next_7 : decode cX11_next 7 = .ok (.iload_n 1, 1) := by decide +kernel
theorem dX11_next_8 : decode cX11_next 8 = .ok (.invokevirtual 284, 3) := by decide +kernel
theorem dX11_next_11 : decode cX11_next 11 = .ok (.iconst 1, 1) := by decide +kernel
theorem dX11_next_12 : decode cX11_next 12 = .ok (.invokevirtual 265, 3) := by decide +kernel
theorem dX11_next_15 : decode cX11_next 15 = .ok (.ifCond .eq 7, 3) := by decide +kernel
theorem dX11_next_18 : decode cX11_next 18 = .ok (.iconst 0, 1) := by decide +kernel
theorem dX11_next_19 : decode cX11_next 19 = .ok (.goto 8, 3) := by decide +kernel
theorem dX11_next_22 : decode cX11_next 22 = .ok (.aload_n 0, 1) := by decide +kernel
theorem dX11_next_23 : decode cX11_next 23 = .ok (.iload_n 1, 1) := by decide +kernel
theorem dX11_next_24 : decode cX11_next 24 = .ok (.invokevirtual 299, 3) := by decide +kernel
theorem dX11_next_27 : decode cX11_next 27 = .ok (.ireturn, 1) := by decide +kernel
theorem dX11_fullest_0 : decode cX11_fullest 0 = .ok (.iconst 0, 1) := by decide +kernel
theorem dX11_fullest_1 : decode cX11_fullest 1 = .ok (.istore_n 2, 1) := by decide +kernel
theorem dX11_fullest_2 : decode cX11_fullest 2 = .ok (.iconst 1, 1) := by decide +kernel
theorem dX11_fullest_3 : decode cX11_fullest 3 = .ok (.istore_n 3, 1) := by decide +kernel
theorem dX11_fullest_4 : decode cX11_fullest 4 = .ok (.iload_n 3, 1) := by decide +kernel
theorem dX11_fullest_5 : decode cX11_fullest 5 = .ok (.bipush 30, 2) := by decide +kernel
theorem dX11_fullest_7 : decode cX11_fullest 7 = .ok (.if_icmp .ge 30, 3) := by decide +kernel
theorem dX11_fullest_10 : decode cX11_fullest 10 = .ok (.aload_n 0, 1) := by decide +kernel
theorem dX11_fullest_11 : decode cX11_fullest 11 = .ok (.iload_n 1, 1) := by decide +kernel
theorem dX11_fullest_12 : decode cX11_fullest 12 = .ok (.iload_n 3, 1) := by decide +kernel
theorem dX11_fullest_13 : decode cX11_fullest 13 = .ok (.invokevirtual 72, 3) := by decide +kernel
theorem dX11_fullest_16 : decode cX11_fullest 16 = .ok (.aload_n 0, 1) := by decide +kernel
theorem dX11_fullest_17 : decode cX11_fullest 17 = .ok (.iload_n 1, 1) := by decide +kernel
theorem dX11_fullest_18 : decode cX11_fullest 18 = .ok (.iload_n 2, 1) := by decide +kernel
theorem dX11_fullest_19 : decode cX11_fullest 19 = .ok (.invokevirtual 72, 3) := by decide +kernel
theorem dX11_fullest_22 : decode cX11_fullest 22 = .ok (.if_icmp .lt 7, 3) := by decide +kernel
theorem dX11_fullest_25 : decode cX11_fullest 25 = .ok (.iload_n 3, 1) := by decide +kernel
theorem dX11_fullest_26 : decode cX11_fullest 26 = .ok (.goto 4, 3) := by decide +kernel
theorem dX11_fullest_29 : decode cX11_fullest 29 = .ok (.iload_n 2, 1) := by decide +kernel
theorem dX11_fullest_30 : decode cX11_fullest 30 = .ok (.istore_n 2, 1) := by decide +kernel
theorem dX11_fullest_31 : decode cX11_fullest 31 = .ok (.iinc 3 1, 3) := by decide +kernel
theorem dX11_fullest_34 : decode cX11_fullest 34 = .ok (.goto (-30), 3) := by decide +kernel
theorem dX11_fullest_37 : decode cX11_fullest 37 = .ok (.iload_n 2, 1) := by decide +kernel
theorem dX11_fullest_38 : decode cX11_fullest 38 = .ok (.ireturn, 1) := by decide +kernel
theorem dX11_drops_0 : decode cX11_drops 0 = .ok (.aload_n 0, 1) := by decide +kernel
theorem dX11_drops_1 : decode cX11_drops 1 = .ok (.iload_n 1, 1) := by decide +kernel
theorem dX11_drops_2 : decode cX11_drops 2 = .ok (.invokevirtual 302, 3) := by decide +kernel
theorem dX11_drops_5 : decode cX11_drops 5 = .ok (.istore_n 3, 1) := by decide +kernel
theorem dX11_drops_6 : decode cX11_drops 6 = .ok (.aload_n 0, 1) := by decide +kernel
theorem dX11_drops_7 : decode cX11_drops 7 = .ok (.iload_n 1, 1) := by decide +kernel
theorem dX11_drops_8 : decode cX11_drops 8 = .ok (.iload_n 3, 1) := by decide +kernel
theorem dX11_drops_9 : decode cX11_drops 9 = .ok (.iconst (-1), 1) := by decide +kernel
theorem dX11_drops_10 : decode cX11_drops 10 = .ok (.invokevirtual 82, 3) := by decide +kernel
theorem dX11_drops_13 : decode cX11_drops 13 = .ok (.iload_n 2, 1) := by decide +kernel
theorem dX11_drops_14 : decode cX11_drops 14 = .ok (.ifCond .lt 27, 3) := by decide +kernel
theorem dX11_drops_17 : decode cX11_drops 17 = .ok (.aload_n 0, 1) := by decide +kernel
theorem dX11_drops_18 : decode cX11_drops 18 = .ok (.iload_n 2, 1) := by decide +kernel
theorem dX11_drops_19 : decode cX11_drops 19 = .ok (.invokevirtual 75, 3) := by decide +kernel
theorem dX11_drops_22 : decode cX11_drops 22 = .ok (.aload_n 0, 1) := by decide +kernel
theorem dX11_drops_23 : decode cX11_drops 23 = .ok (.iload_n 2, 1) := by decide +kernel
theorem dX11_drops_24 : decode cX11_drops 24 = .ok (.iconst 0, 1) := by decide +kernel
theorem dX11_drops_25 : decode cX11_drops 25 = .ok (.invokevirtual 69, 3) := by decide +kernel
theorem dX11_drops_28 : decode cX11_drops 28 = .ok (.if_icmp .ge 13, 3) := by decide +kernel
theorem dX11_drops_31 : decode cX11_drops 31 = .ok (.aload_n 0, 1) := by decide +kernel
theorem dX11_drops_32 : decode cX11_drops 32 = .ok (.iload_n 2, 1) := by decide +kernel
theorem dX11_drops_33 : decode cX11_drops 33 = .ok (.iload_n 3, 1) := by decide +kernel
theorem dX11_drops_34 : decode cX11_drops 34 = .ok (.iconst 1, 1) := by decide +kernel
theorem dX11_drops_35 : decode cX11_drops 35 = .ok (.invokevirtual 82, 3) := by decide +kernel
theorem dX11_drops_38 : decode cX11_drops 38 = .ok (.goto 14, 3) := by decide +kernel
theorem dX11_drops_41 : decode cX11_drops 41 = .ok (.aload_n 0, 1) := by decide +kernel
theorem dX11_drops_42 : decode cX11_drops 42 = .ok (.getfield 13, 3) := by decide +kernel
theorem dX11_drops_45 : decode cX11_drops 45 = .ok (.bipush 6, 2) := by decide +kernel
theorem dX11_drops_47 : decode cX11_drops 47 = .ok (.dup2, 1) := by decide +kernel
theorem dX11_drops_48 : decode cX11_drops 48 = .ok (.iaload, 1) := by decide +kernel
theorem dX11_drops_49 : decode cX11_drops 49 = .ok (.iconst 1, 1) := by decide +kernel
theorem dX11_drops_50 : decode cX11_drops 50 = .ok (.iadd, 1) := by decide +kernel
theorem dX11_drops_51 : decode cX11_drops 51 = .ok (.iastore, 1) := by decide +kernel
theorem dX11_drops_52 : decode cX11_drops 52 = .ok (.return_, 1) := by decide +kernel
theorem dX11_leaks_0 : decode cX11_leaks 0 = .ok (.iconst 0, 1) := by decide +kernel
theorem dX11_leaks_1 : decode cX11_leaks 1 = .ok (.istore_n 1, 1) := by decide +kernel
theorem dX11_leaks_2 : decode cX11_leaks 2 = .ok (.iload_n 1, 1) := by decide +kernel
theorem dX11_leaks_3 : decode cX11_leaks 3 = .ok (.aload_n 0, 1) := by decide +kernel
theorem dX11_leaks_4 : decode cX11_leaks 4 = .ok (.invokevirtual 52, 3) := by decide +kernel
theorem dX11_leaks_7 : decode cX11_leaks 7 = .ok (.if_icmp .ge 70, 3) := by decide +kernel
theorem dX11_leaks_10 : decode cX11_leaks 10 = .ok (.aload_n 0, 1) := by decide +kernel
theorem dX11_leaks_11 : decode cX11_leaks 11 = .ok (.iload_n 1, 1) := by decide +kernel
theorem dX11_leaks_12 : decode cX11_leaks 12 = .ok (.iconst 1, 1) := by decide +kernel
theorem dX11_leaks_13 : decode cX11_leaks 13 = .ok (.invokevirtual 69, 3) := by decide +kernel
theorem dX11_leaks_16 : decode cX11_leaks 16 = .ok (.iconst 3, 1) := by decide +kernel
theorem dX11_leaks_17 : decode cX11_leaks 17 = .ok (.if_icmp .ne 17, 3) := by decide +kernel
theorem dX11_leaks_20 : decode cX11_leaks 20 = .ok (.aload_n 0, 1) := by decide +kernel
theorem dX11_leaks_21 : decode cX11_leaks 21 = .ok (.iload_n 1, 1) := by decide +kernel
theorem dX11_leaks_22 : decode cX11_leaks 22 = .ok (.invokevirtual 75, 3) := by decide +kernel
theorem dX11_leaks_25 : decode cX11_leaks 25 = .ok (.ifCond .le 9, 3) := by decide +kernel
theorem dX11_leaks_28 : decode cX11_leaks 28 = .ok (.aload_n 0, 1) := by decide +kernel
theorem dX11_leaks_29 : decode cX11_leaks 29 = .ok (.iload_n 1, 1) := by decide +kernel
theorem dX11_leaks_30 : decode cX11_leaks 30 = .ok (.iconst (-1), 1) := by decide +kernel
theorem dX11_leaks_31 : decode cX11_leaks 31 = .ok (.invokevirtual 305, 3) := by decide +kernel
theorem dX11_leaks_34 : decode cX11_leaks 34 = .ok (.iconst 0, 1) := by decide +kernel
theorem dX11_leaks_35 : decode cX11_leaks 35 = .ok (.istore_n 2, 1) := by decide +kernel
theorem dX11_leaks_36 : decode cX11_leaks 36 = .ok (.iload_n 2, 1) := by decide +kernel
theorem dX11_leaks_37 : decode cX11_leaks 37 = .ok (.aload_n 0, 1) := by decide +kernel
theorem dX11_leaks_38 : decode cX11_leaks 38 = .ok (.iload_n 1, 1) := by decide +kernel
theorem dX11_leaks_39 : decode cX11_leaks 39 = .ok (.iconst 3, 1) := by decide +kernel
theorem dX11_leaks_40 : decode cX11_leaks 40 = .ok (.invokevirtual 69, 3) := by decide +kernel
theorem dX11_leaks_43 : decode cX11_leaks 43 = .ok (.if_icmp .ge 28, 3) := by decide +kernel
theorem dX11_leaks_46 : decode cX11_leaks 46 = .ok (.aload_n 0, 1) := by decide +kernel
theorem dX11_leaks_47 : decode cX11_leaks 47 = .ok (.iload_n 1, 1) := by decide +kernel
theorem dX11_leaks_48 : decode cX11_leaks 48 = .ok (.invokevirtual 75, 3) := by decide +kernel
theorem dX11_leaks_51 : decode cX11_leaks 51 = .ok (.ifCond .le 20, 3) := by decide +kernel
theorem dX11_leaks_54 : decode cX11_leaks 54 = .ok (.aload_n 0, 1) := by decide +kernel
theorem dX11_leaks_55 : decode cX11_leaks 55 = .ok (.iload_n 1, 1) := by decide +kernel
theorem dX11_leaks_56 : decode cX11_leaks 56 = .ok (.aload_n 0, 1) := by decide +kernel
theorem dX11_leaks_57 : decode cX11_leaks 57 = .ok (.iload_n 1, 1) := by decide +kernel
theorem dX11_leaks_58 : decode cX11_leaks 58 = .ok (.iconst 4, 1) := by decide +kernel
theorem dX11_leaks_59 : decode cX11_leaks 59 = .ok (.invokevirtual 69, 3) := by decide +kernel
theorem dX11_leaks_62 : decode cX11_leaks 62 = .ok (.invokevirtual 305, 3) := by decide +kernel
theorem dX11_leaks_65 : decode cX11_leaks 65 = .ok (.iinc 2 1, 3) := by decide +kernel
theorem dX11_leaks_68 : decode cX11_leaks 68 = .ok (.goto (-32), 3) := by decide +kernel
theorem dX11_leaks_71 : decode cX11_leaks 71 = .ok (.iinc 1 1, 3) := by decide +kernel
theorem dX11_leaks_74 : decode cX11_leaks 74 = .ok (.goto (-72), 3) := by decide +kernel
theorem dX11_leaks_77 : decode cX11_leaks 77 = .ok (.return_, 1) := by decide +kernel
theorem dX11_drinks_0 : decode cX11_drinks 0 = .ok (.aload_n 0, 1) := by decide +kernel
theorem dX11_drinks_1 : decode cX11_drinks 1 = .ok (.iload_n 1, 1) := by decide +kernel
theorem dX11_drinks_2 : decode cX11_drinks 2 = .ok (.iconst 1, 1) := by decide +kernel
theorem dX11_drinks_3 : decode cX11_drinks 3 = .ok (.invokevirtual 151, 3) := by decide +kernel
theorem dX11_drinks_6 : decode cX11_drinks 6 = .ok (.istore_n 2, 1) := by decide +kernel
theorem dX11_drinks_7 : decode cX11_drinks 7 = .ok (.iconst 0, 1) := by decide +kernel
theorem dX11_drinks_8 : decode cX11_drinks 8 = .ok (.istore_n 3, 1) := by decide +kernel
theorem dX11_drinks_9 : decode cX11_drinks 9 = .ok (.iload_n 3, 1) := by decide +kernel
theorem dX11_drinks_10 : decode cX11_drinks 10 = .ok (.aload_n 0, 1) := by decide +kernel
theorem dX11_drinks_11 : decode cX11_drinks 11 = .ok (.iload_n 1, 1) := by decide +kernel
theorem dX11_drinks_12 : decode cX11_drinks 12 = .ok (.iconst 0, 1) := by decide +kernel
theorem dX11_drinks_13 : decode cX11_drinks 13 = .ok (.invokevirtual 151, 3) := by decide +kernel
theorem dX11_drinks_16 : decode cX11_drinks 16 = .ok (.if_icmp .ge 77, 3) := by decide +kernel
theorem dX11_drinks_19 : decode cX11_drinks 19 = .ok (.aload_n 0, 1) := by decide +kernel
theorem dX11_drinks_20 : decode cX11_drinks 20 = .ok (.iload_n 2, 1) := by decide +kernel
theorem dX11_drinks_21 : decode cX11_drinks 21 = .ok (.invokevirtual 299, 3) := by decide +kernel
theorem dX11_drinks_24 : decode cX11_drinks 24 = .ok (.istore 4, 2) := by decide +kernel
theorem dX11_drinks_26 : decode cX11_drinks 26 = .ok (.iload 4, 2) := by decide +kernel
theorem dX11_drinks_28 : decode cX11_drinks 28 = .ok (.ifCond .lt 22, 3) := by decide +kernel
theorem dX11_drinks_31 : decode cX11_drinks 31 = .ok (.aload_n 0, 1) := by decide +kernel
theorem dX11_drinks_32 : decode cX11_drinks 32 = .ok (.getfield 13, 3) := by decide +kernel
theorem dX11_drinks_35 : decode cX11_drinks 35 = .ok (.bipush 35, 2) := by decide +kernel
theorem dX11_drinks_37 : decode cX11_drinks 37 = .ok (.iload 4, 2) := by decide +kernel
theorem dX11_drinks_39 : decode cX11_drinks 39 = .ok (.iadd, 1) := by decide +kernel
theorem dX11_drinks_40 : decode cX11_drinks 40 = .ok (.iaload, 1) := by decide +kernel
theorem dX11_drinks_41 : decode cX11_drinks 41 = .ok (.aload_n 0, 1) := by decide +kernel
theorem dX11_drinks_42 : decode cX11_drinks 42 = .ok (.iload_n 1, 1) := by decide +kernel
theorem dX11_drinks_43 : decode cX11_drinks 43 = .ok (.iconst 2, 1) := by decide +kernel
theorem dX11_drinks_44 : decode cX11_drinks 44 = .ok (.invokevirtual 151, 3) := by decide +kernel
theorem dX11_drinks_47 : decode cX11_drinks 47 = .ok (.if_icmp .le 12, 3) := by decide +kernel
theorem dX11_drinks_50 : decode cX11_drinks 50 = .ok (.aload_n 0, 1) := by decide +kernel
theorem dX11_drinks_51 : decode cX11_drinks 51 = .ok (.iload_n 1, 1) := by decide +kernel
theorem dX11_drinks_52 : decode cX11_drinks 52 = .ok (.iconst 0, 1) := by decide +kernel
theorem dX11_drinks_53 : decode cX11_drinks 53 = .ok (.invokevirtual 151, 3) := by decide +kernel
theorem dX11_drinks_56 : decode cX11_drinks 56 = .ok (.iload_n 3, 1) := by decide +kernel
theorem dX11_drinks_57 : decode cX11_drinks 57 = .ok (.isub, 1) := by decide +kernel
theorem dX11_drinks_58 : decode cX11_drinks 58 = .ok (.ireturn, 1) := by decide +kernel
theorem dX11_drinks_59 : decode cX11_drinks 59 = .ok (.aload_n 0, 1) := by decide +kernel
theorem dX11_drinks_60 : decode cX11_drinks 60 = .ok (.iload_n 2, 1) := by decide +kernel
theorem dX11_drinks_61 : decode cX11_drinks 61 = .ok (.iload 4, 2) := by decide +kernel
theorem dX11_drinks_63 : decode cX11_drinks 63 = .ok (.iconst (-1), 1) := by decide +kernel
theorem dX11_drinks_64 : decode cX11_drinks 64 = .ok (.invokevirtual 82, 3) := by decide +kernel
theorem dX11_drinks_67 : decode cX11_drinks 67 = .ok (.aload_n 0, 1) := by decide +kernel
theorem dX11_drinks_68 : decode cX11_drinks 68 = .ok (.iload_n 1, 1) := by decide +kernel
theorem dX11_drinks_69 : decode cX11_drinks 69 = .ok (.iconst 4, 1) := by decide +kernel
theorem dX11_drinks_70 : decode cX11_drinks 70 = .ok (.iload 4, 2) := by decide +kernel
theorem dX11_drinks_72 : decode cX11_drinks 72 = .ok (.iadd, 1) := by decide +kernel
theorem dX11_drinks_73 : decode cX11_drinks 73 = .ok (.aload_n 0, 1) := by decide +kernel
theorem dX11_drinks_74 : decode cX11_drinks 74 = .ok (.iload_n 1, 1) := by decide +kernel
theorem dX11_drinks_75 : decode cX11_drinks 75 = .ok (.iconst 4, 1) := by decide +kernel
theorem dX11_drinks_76 : decode cX11_drinks 76 = .ok (.iload 4, 2) := by decide +kernel
theorem dX11_drinks_78 : decode cX11_drinks 78 = .ok (.iadd, 1) := by decide +kernel
theorem dX11_drinks_79 : decode cX11_drinks 79 = .ok (.invokevirtual 151, 3) := by decide +kernel
theorem dX11_drinks_82 : decode cX11_drinks 82 = .ok (.iconst 1, 1) := by decide +kernel
theorem dX11_drinks_83 : decode cX11_drinks 83 = .ok (.iadd, 1) := by decide +kernel
theorem dX11_drinks_84 : decode cX11_drinks 84 = .ok (.invokevirtual 148, 3) := by decide +kernel
theorem dX11_drinks_87 : decode cX11_drinks 87 = .ok (.iinc 3 1, 3) := by decide +kernel
theorem dX11_drinks_90 : decode cX11_drinks 90 = .ok (.goto (-81), 3) := by decide +kernel
theorem dX11_drinks_93 : decode cX11_drinks 93 = .ok (.iconst 0, 1) := by decide +kernel
theorem dX11_drinks_94 : decode cX11_drinks 94 = .ok (.ireturn, 1) := by decide +kernel
theorem dX11_draw_0 : decode cX11_draw 0 = .ok (.aload_n 0, 1) := by decide +kernel
theorem dX11_draw_1 : decode cX11_draw 1 = .ok (.getfield 13, 3) := by decide +kernel
theorem dX11_draw_4 : decode cX11_draw 4 = .ok (.iconst 5, 1) := by decide +kernel
theorem dX11_draw_5 : decode cX11_draw 5 = .ok (.ldc_w 308, 3) := by decide +kernel
theorem dX11_draw_8 : decode cX11_draw 8 = .ok (.aload_n 0, 1) := by decide +kernel
theorem dX11_draw_9 : decode cX11_draw 9 = .ok (.getfield 13, 3) := by decide +kernel
theorem dX11_draw_12 : decode cX11_draw 12 = .ok (.iconst 5, 1) := by decide +kernel
theorem dX11_draw_13 : decode cX11_draw 13 = .ok (.iaload, 1) := by decide +kernel
theorem dX11_draw_14 : decode cX11_draw 14 = .ok (.imul, 1) := by decide +kernel
theorem dX11_draw_15 : decode cX11_draw 15 = .ok (.sipush 12345, 3) := by decide +kernel
theorem dX11_draw_18 : decode cX11_draw 18 = .ok (.iadd, 1) := by decide +kernel
theorem dX11_draw_19 : decode cX11_draw 19 = .ok (.iastore, 1) := by decide +kernel
theorem dX11_draw_20 : decode cX11_draw 20 = .ok (.aload_n 0, 1) := by decide +kernel
theorem dX11_draw_21 : decode cX11_draw 21 = .ok (.getfield 13, 3) := by decide +kernel
theorem dX11_draw_24 : decode cX11_draw 24 = .ok (.iconst 5, 1) := by decide +kernel
theorem dX11_draw_25 : decode cX11_draw 25 = .ok (.iaload, 1) := by decide +kernel
theorem dX11_draw_26 : decode cX11_draw 26 = .ok (.bipush 16, 2) := by decide +kernel
theorem dX11_draw_28 : decode cX11_draw 28 = .ok (.ishr, 1) := by decide +kernel
theorem dX11_draw_29 : decode cX11_draw 29 = .ok (.sipush 32767, 3) := by decide +kernel
theorem dX11_draw_32 : decode cX11_draw 32 = .ok (.iand, 1) := by decide +kernel
theorem dX11_draw_33 : decode cX11_draw 33 = .ok (.iload_n 1, 1) := by decide +kernel
theorem dX11_draw_34 : decode cX11_draw 34 = .ok (.irem, 1) := by decide +kernel
theorem dX11_draw_35 : decode cX11_draw 35 = .ok (.ireturn, 1) := by decide +kernel
theorem dX11_frosts_0 : decode cX11_frosts 0 = .ok (.aload_n 0, 1) := by decide +kernel
theorem dX11_frosts_1 : decode cX11_frosts 1 = .ok (.bipush 100, 2) := by decide +kernel
theorem dX11_frosts_3 : decode cX11_frosts 3 = .ok (.invokevirtual 309, 3) := by decide +kernel
theorem dX11_frosts_6 : decode cX11_frosts 6 = .ok (.bipush 20, 2) := by decide +kernel
theorem dX11_frosts_8 : decode cX11_frosts 8 = .ok (.if_icmp .lt 4, 3) := by decide +kernel
theorem dX11_frosts_11 : decode cX11_frosts 11 = .ok (.return_, 1) := by decide +kernel
theorem dX11_frosts_12 : decode cX11_frosts 12 = .ok (.iconst 0, 1) := by decide +kernel
theorem dX11_frosts_13 : decode cX11_frosts 13 = .ok (.istore_n 1, 1) := by decide +kernel
theorem dX11_frosts_14 : decode cX11_frosts 14 = .ok (.iload_n 1, 1) := by decide +kernel
theorem dX11_frosts_15 : decode cX11_frosts 15 = .ok (.aload_n 0, 1) := by decide +kernel
theorem dX11_frosts_16 : decode cX11_frosts 16 = .ok (.invokevirtual 52, 3) := by decide +kernel
theorem dX11_frosts_19 : decode cX11_frosts 19 = .ok (.if_icmp .ge 29, 3) := by decide +kernel
theorem dX11_frosts_22 : decode cX11_frosts 22 = .ok (.aload_n 0, 1) := by decide +kernel
theorem dX11_frosts_23 : decode cX11_frosts 23 = .ok (.iload_n 1, 1) := by decide +kernel
theorem dX11_frosts_24 : decode cX11_frosts 24 = .ok (.iconst 2, 1) := by decide +kernel
theorem dX11_frosts_25 : decode cX11_frosts 25 = .ok (.invokevirtual 69, 3) := by decide +kernel
theorem dX11_frosts_28 : decode cX11_frosts 28 = .ok (.ifCond .ne 6, 3) := by decide +kernel
theorem dX11_frosts_31 : decode cX11_frosts 31 = .ok (.goto 11, 3) := by decide +kernel
theorem dX11_frosts_34 : decode cX11_frosts 34 = .ok (.aload_n 0, 1) := by decide +kernel
theorem dX11_frosts_35 : decode cX11_frosts 35 = .ok (.iload_n 1, 1) := by decide +kernel
theorem dX11_frosts_36 : decode cX11_frosts 36 = .ok (.iconst 2, 1) := by decide +kernel
theorem dX11_frosts_37 : decode cX11_frosts 37 = .ok (.iconst 0, 1) := by decide +kernel
theorem dX11_frosts_38 : decode cX11_frosts 38 = .ok (.invokevirtual 124, 3) := by decide +kernel
theorem dX11_frosts_41 : decode cX11_frosts 41 = .ok (.return_, 1) := by decide +kernel
theorem dX11_frosts_42 : decode cX11_frosts 42 = .ok (.iinc 1 1, 3) := by decide +kernel
theorem dX11_frosts_45 : decode cX11_frosts 45 = .ok (.goto (-31), 3) := by decide +kernel
theorem dX11_frosts_48 : decode cX11_frosts 48 = .ok (.return_, 1) := by decide +kernel
theorem dX11_month_0 : decode cX11_month 0 = .ok (.aload_n 0, 1) := by decide +kernel
theorem dX11_month_1 : decode cX11_month 1 = .ok (.invokevirtual 312, 3) := by decide +kernel
theorem dX11_month_4 : decode cX11_month 4 = .ok (.aload_n 0, 1) := by decide +kernel
theorem dX11_month_5 : decode cX11_month 5 = .ok (.iconst (-1), 1) := by decide +kernel
theorem dX11_month_6 : decode cX11_month 6 = .ok (.putfield 315, 3) := by decide +kernel
theorem dX11_month_9 : decode cX11_month 9 = .ok (.iconst 0, 1) := by decide +kernel
theorem dX11_month_10 : decode cX11_month 10 = .ok (.istore_n 1, 1) := by decide +kernel
theorem dX11_month_11 : decode cX11_month 11 = .ok (.iconst 0, 1) := by decide +kernel
theorem dX11_month_12 : decode cX11_month 12 = .ok (.istore_n 2, 1) := by decide +kernel
theorem dX11_month_13 : decode cX11_month 13 = .ok (.iload_n 2, 1) := by decide +kernel
theorem dX11_month_14 : decode cX11_month 14 = .ok (.aload_n 0, 1) := by decide +kernel
theorem dX11_month_15 : decode cX11_month 15 = .ok (.invokevirtual 60, 3) := by decide +kernel
theorem dX11_month_18 : decode cX11_month 18 = .ok (.if_icmp .ge 49, 3) := by decide +kernel
theorem dX11_month_21 : decode cX11_month 21 = .ok (.aload_n 0, 1) := by decide +kernel
theorem dX11_month_22 : decode cX11_month 22 = .ok (.iload_n 2, 1) := by decide +kernel
theorem dX11_month_23 : decode cX11_month 23 = .ok (.invokevirtual 318, 3) := by decide +kernel
theorem dX11_month_26 : decode cX11_month 26 = .ok (.istore_n 3, 1) := by decide +kernel
theorem dX11_month_27 : decode cX11_month 27 = .ok (.aload_n 0, 1) := by decide +kernel
theorem dX11_month_28 : decode cX11_month 28 = .ok (.iload_n 2, 1) := by decide +kernel
theorem dX11_month_29 : decode cX11_month 29 = .ok (.iconst 3, 1) := by decide +kernel
theorem dX11_month_30 : decode cX11_month 30 = .ok (.aload_n 0, 1) := by decide +kernel
theorem dX11_month_31 : decode cX11_month 31 = .ok (.iload_n 2, 1) := by decide +kernel
theorem dX11_month_32 : decode cX11_month 32 = .ok (.iconst 3, 1) := by decide +kernel
theorem dX11_month_33 : decode cX11_month 33 = .ok (.invokevirtual 151, 3) := by decide +kernel
theorem dX11_month_36 : decode cX11_month 36 = .ok (.iload_n 3, 1) := by decide +kernel
theorem dX11_month_37 : decode cX11_month 37 = .ok (.iadd, 1) := by decide +kernel
theorem dX11_month_38 : decode cX11_month 38 = .ok (.invokevirtual 148, 3) := by decide +kernel
theorem dX11_month_41 : decode cX11_month 41 = .ok (.iload_n 1, 1) := by decide +kernel
theorem dX11_month_42 : decode cX11_month 42 = .ok (.iload_n 3, 1) := by decide +kernel
theorem dX11_month_43 : decode cX11_month 43 = .ok (.iadd, 1) := by decide +kernel
theorem dX11_month_44 : decode cX11_month 44 = .ok (.istore_n 1, 1) := by decide +kernel
theorem dX11_month_45 : decode cX11_month 45 = .ok (.iload_n 3, 1) := by decide +kernel
theorem dX11_month_46 : decode cX11_month 46 = .ok (.ifCond .le 15, 3) := by decide +kernel
theorem dX11_month_49 : decode cX11_month 49 = .ok (.aload_n 0, 1) := by decide +kernel
theorem dX11_month_50 : decode cX11_month 50 = .ok (.getfield 315, 3) := by decide +kernel
theorem dX11_month_53 : decode cX11_month 53 = .ok (.ifCond .ge 8, 3) := by decide +kernel
theorem dX11_month_56 : decode cX11_month 56 = .ok (.aload_n 0, 1) := by decide +kernel
theorem dX11_month_57 : decode cX11_month 57 = .ok (.iload_n 2, 1) := by decide +kernel
theorem dX11_month_58 : decode cX11_month 58 = .ok (.putfield 315, 3) := by decide +kernel
theorem dX11_month_61 : decode cX11_month 61 = .ok (.iinc 2 1, 3) := by decide +kernel
theorem dX11_month_64 : decode cX11_month 64 = .ok (.goto (-51), 3) := by decide +kernel
theorem dX11_month_67 : decode cX11_month 67 = .ok (.aload_n 0, 1) := by decide +kernel
theorem dX11_month_68 : decode cX11_month 68 = .ok (.getfield 13, 3) := by decide +kernel
theorem dX11_month_71 : decode cX11_month 71 = .ok (.iconst 4, 1) := by decide +kernel
theorem dX11_month_72 : decode cX11_month 72 = .ok (.dup2, 1) := by decide +kernel
theorem dX11_month_73 : decode cX11_month 73 = .ok (.iaload, 1) := by decide +kernel
theorem dX11_month_74 : decode cX11_month 74 = .ok (.iconst 1, 1) := by decide +kernel
theorem dX11_month_75 : decode cX11_month 75 = .ok (.iadd, 1) := by decide +kernel
theorem dX11_month_76 : decode cX11_month 76 = .ok (.iastore, 1) := by decide +kernel
theorem dX11_month_77 : decode cX11_month 77 = .ok (.aload_n 0, 1) := by decide +kernel
theorem dX11_month_78 : decode cX11_month 78 = .ok (.getfield 13, 3) := by decide +kernel
theorem dX11_month_81 : decode cX11_month 81 = .ok (.iconst 4, 1) := by decide +kernel
theorem dX11_month_82 : decode cX11_month 82 = .ok (.iaload, 1) := by decide +kernel
theorem dX11_month_83 : decode cX11_month 83 = .ok (.bipush 12, 2) := by decide +kernel
theorem dX11_month_85 : decode cX11_month 85 = .ok (.irem, 1) := by decide +kernel
theorem dX11_month_86 : decode cX11_month 86 = .ok (.ifCond .ne 7, 3) := by decide +kernel
theorem dX11_month_89 : decode cX11_month 89 = .ok (.aload_n 0, 1) := by decide +kernel
theorem dX11_month_90 : decode cX11_month 90 = .ok (.invokevirtual 321, 3) := by decide +kernel
theorem dX11_month_93 : decode cX11_month 93 = .ok (.iload_n 1, 1) := by decide +kernel
theorem dX11_month_94 : decode cX11_month 94 = .ok (.ireturn, 1) := by decide +kernel
theorem dX11_remembers_0 : decode cX11_remembers 0 = .ok (.aload_n 0, 1) := by decide +kernel
theorem dX11_remembers_1 : decode cX11_remembers 1 = .ok (.getfield 49, 3) := by decide +kernel
theorem dX11_remembers_4 : decode cX11_remembers 4 = .ok (.bipush 12, 2) := by decide +kernel
theorem dX11_remembers_6 : decode cX11_remembers 6 = .ok (.if_icmp .ne 37, 3) := by decide +kernel
theorem dX11_remembers_9 : decode cX11_remembers 9 = .ok (.iconst 0, 1) := by decide +kernel
theorem dX11_remembers_10 : decode cX11_remembers 10 = .ok (.istore_n 1, 1) := by decide +kernel
theorem dX11_remembers_11 : decode cX11_remembers 11 = .ok (.iload_n 1, 1) := by decide +kernel
theorem dX11_remembers_12 : decode cX11_remembers 12 = .ok (.sipush 15994, 3) := by decide +kernel
theorem dX11_remembers_15 : decode cX11_remembers 15 = .ok (.if_icmp .ge 25, 3) := by decide +kernel
theorem dX11_remembers_18 : decode cX11_remembers 18 = .ok (.aload_n 0, 1) := by decide +kernel
theorem dX11_remembers_19 : decode cX11_remembers 19 = .ok (.getfield 26, 3) := by decide +kernel
theorem dX11_remembers_22 : decode cX11_remembers 22 = .ok (.iload_n 1, 1) := by decide +kernel
theorem dX11_remembers_23 : decode cX11_remembers 23 = .ok (.aload_n 0, 1) := by decide +kernel
theorem dX11_remembers_24 : decode cX11_remembers 24 = .ok (.getfield 26, 3) := by decide +kernel
theorem dX11_remembers_27 : decode cX11_remembers 27 = .ok (.iload_n 1, 1) := by decide +kernel
theorem dX11_remembers_28 : decode cX11_remembers 28 = .ok (.sipush 1454, 3) := by decide +kernel
theorem dX11_remembers_31 : decode cX11_remembers 31 = .ok (.iadd, 1) := by decide +kernel
theorem dX11_remembers_32 : decode cX11_remembers 32 = .ok (.iaload, 1) := by decide +kernel
theorem dX11_remembers_33 : decode cX11_remembers 33 = .ok (.iastore, 1) := by decide +kernel
theorem dX11_remembers_34 : decode cX11_remembers 34 = .ok (.iinc 1 1, 3) := by decide +kernel
theorem dX11_remembers_37 : decode cX11_remembers 37 = .ok (.goto (-26), 3) := by decide +kernel
theorem dX11_remembers_40 : decode cX11_remembers 40 = .ok (.goto 13, 3) := by decide +kernel
theorem dX11_remembers_43 : decode cX11_remembers 43 = .ok (.aload_n 0, 1) := by decide +kernel
theorem dX11_remembers_44 : decode cX11_remembers 44 = .ok (.dup, 1) := by decide +kernel
theorem dX11_remembers_45 : decode cX11_remembers 45 = .ok (.getfield 49, 3) := by decide +kernel
theorem dX11_remembers_48 : decode cX11_remembers 48 = .ok (.iconst 1, 1) := by decide +kernel
theorem dX11_remembers_49 : decode cX11_remembers 49 = .ok (.iadd, 1) := by decide +kernel
theorem dX11_remembers_50 : decode cX11_remembers 50 = .ok (.putfield 49, 3) := by decide +kernel
theorem dX11_remembers_53 : decode cX11_remembers 53 = .ok (.iconst 0, 1) := by decide +kernel
theorem dX11_remembers_54 : decode cX11_remembers 54 = .ok (.istore_n 1, 1) := by decide +kernel
theorem dX11_remembers_55 : decode cX11_remembers 55 = .ok (.iload_n 1, 1) := by decide +kernel
theorem dX11_remembers_56 : decode cX11_remembers 56 = .ok (.sipush 1454, 3) := by decide +kernel
theorem dX11_remembers_59 : decode cX11_remembers 59 = .ok (.if_icmp .ge 32, 3) := by decide +kernel
theorem dX11_remembers_62 : decode cX11_remembers 62 = .ok (.aload_n 0, 1) := by decide +kernel
theorem dX11_remembers_63 : decode cX11_remembers 63 = .ok (.getfield 26, 3) := by decide +kernel
theorem dX11_remembers_66 : decode cX11_remembers 66 = .ok (.sipush 1454, 3) := by decide +kernel
theorem dX11_remembers_69 : decode cX11_remembers 69 = .ok (.aload_n 0, 1) := by decide +kernel
theorem dX11_remembers_70 : decode cX11_remembers 70 = .ok (.getfield 49, 3) := by decide +kernel
theorem dX11_remembers_73 : decode cX11_remembers 73 = .ok (.iconst 1, 1) := by decide +kernel
theorem dX11_remembers_74 : decode cX11_remembers 74 = .ok (.isub, 1) := by decide +kernel
theorem dX11_remembers_75 : decode cX11_remembers 75 = .ok (.imul, 1) := by decide +kernel
theorem dX11_remembers_76 : decode cX11_remembers 76 = .ok (.iload_n 1, 1) := by decide +kernel
theorem dX11_remembers_77 : decode cX11_remembers 77 = .ok (.iadd, 1) := by decide +kernel
theorem dX11_remembers_78 : decode cX11_remembers 78 = .ok (.aload_n 0, 1) := by decide +kernel
theorem dX11_remembers_79 : decode cX11_remembers 79 = .ok (.getfield 13, 3) := by decide +kernel
theorem dX11_remembers_82 : decode cX11_remembers 82 = .ok (.iload_n 1, 1) := by decide +kernel
theorem dX11_remembers_83 : decode cX11_remembers 83 = .ok (.iaload, 1) := by decide +kernel
theorem dX11_remembers_84 : decode cX11_remembers 84 = .ok (.iastore, 1) := by decide +kernel
theorem dX11_remembers_85 : decode cX11_remembers 85 = .ok (.iinc 1 1, 3) := by decide +kernel
theorem dX11_remembers_88 : decode cX11_remembers 88 = .ok (.goto (-33), 3) := by decide +kernel
theorem dX11_remembers_91 : decode cX11_remembers 91 = .ok (.return_, 1) := by decide +kernel
theorem dX11_months_0 : decode cX11_months 0 = .ok (.aload_n 0, 1) := by decide +kernel
theorem dX11_months_1 : decode cX11_months 1 = .ok (.iconst 0, 1) := by decide +kernel
theorem dX11_months_2 : decode cX11_months 2 = .ok (.putfield 3, 3) := by decide +kernel
theorem dX11_months_5 : decode cX11_months 5 = .ok (.aload_n 0, 1) := by decide +kernel
theorem dX11_months_6 : decode cX11_months 6 = .ok (.iload_n 1, 1) := by decide +kernel
theorem dX11_months_7 : decode cX11_months 7 = .ok (.iconst 1, 1) := by decide +kernel
theorem dX11_months_8 : decode cX11_months 8 = .ok (.bipush 60, 2) := by decide +kernel
theorem dX11_months_10 : decode cX11_months 10 = .ok (.invokestatic 56, 3) := by decide +kernel
theorem dX11_months_13 : decode cX11_months 13 = .ok (.ifCond .ne 7, 3) := by decide +kernel
theorem dX11_months_16 : decode cX11_months 16 = .ok (.iconst 1, 1) := by decide +kernel
theorem dX11_months_17 : decode cX11_months 17 = .ok (.goto 4, 3) := by decide +kernel
theorem dX11_months_20 : decode cX11_months 20 = .ok (.iconst 0, 1) := by decide +kernel
theorem dX11_months_21 : decode cX11_months 21 = .ok (.iconst 1, 1) := by decide +kernel
theorem dX11_months_22 : decode cX11_months 22 = .ok (.invokevirtual 265, 3) := by decide +kernel
theorem dX11_months_25 : decode cX11_months 25 = .ok (.ifCond .eq 5, 3) := by decide +kernel
theorem dX11_months_28 : decode cX11_months 28 = .ok (.iconst 0, 1) := by decide +kernel
theorem dX11_months_29 : decode cX11_months 29 = .ok (.ireturn, 1) := by decide +kernel
theorem dX11_months_30 : decode cX11_months 30 = .ok (.iconst 0, 1) := by decide +kernel
theorem dX11_months_31 : decode cX11_months 31 = .ok (.istore_n 2, 1) := by decide +kernel
theorem dX11_months_32 : decode cX11_months 32 = .ok (.iconst 0, 1) := by decide +kernel
theorem dX11_months_33 : decode cX11_months 33 = .ok (.istore_n 3, 1) := by decide +kernel
theorem dX11_months_34 : decode cX11_months 34 = .ok (.iload_n 3, 1) := by decide +kernel
theorem dX11_months_35 : decode cX11_months 35 = .ok (.iload_n 1, 1) := by decide +kernel
theorem dX11_months_36 : decode cX11_months 36 = .ok (.if_icmp .ge 20, 3) := by decide +kernel
theorem dX11_months_39 : decode cX11_months 39 = .ok (.aload_n 0, 1) := by decide +kernel
theorem dX11_months_40 : decode cX11_months 40 = .ok (.invokevirtual 324, 3) := by decide +kernel
theorem dX11_months_43 : decode cX11_months 43 = .ok (.iload_n 2, 1) := by decide +kernel
theorem dX11_months_44 : decode cX11_months 44 = .ok (.aload_n 0, 1) := by decide +kernel
theorem dX11_months_45 : decode cX11_months 45 = .ok (.invokevirtual 327, 3) := by decide +kernel
theorem dX11_months_48 : decode cX11_months 48 = .ok (.iadd, 1) := by decide +kernel
theorem dX11_months_49 : decode cX11_months 49 = .ok (.istore_n 2, 1) := by decide +kernel
theorem dX11_months_50 : decode cX11_months 50 = .ok (.iinc 3 1, 3) := by decide +kernel
theorem dX11_months_53 : decode cX11_months 53 = .ok (.goto (-19), 3) := by decide +kernel
theorem dX11_months_56 : decode cX11_months 56 = .ok (.iload_n 2, 1) := by decide +kernel
theorem dX11_months_57 : decode cX11_months 57 = .ok (.ireturn, 1) := by decide +kernel
theorem dX11_undo_0 : decode cX11_undo 0 = .ok (.aload_n 0, 1) := by decide +kernel
theorem dX11_undo_1 : decode cX11_undo 1 = .ok (.iconst 0, 1) := by decide +kernel
theorem dX11_undo_2 : decode cX11_undo 2 = .ok (.putfield 3, 3) := by decide +kernel
theorem dX11_undo_5 : decode cX11_undo 5 = .ok (.aload_n 0, 1) := by decide +kernel
theorem dX11_undo_6 : decode cX11_undo 6 = .ok (.getfield 49, 3) := by decide +kernel
theorem dX11_undo_9 : decode cX11_undo 9 = .ok (.ifCond .ne 5, 3) := by decide +kernel
theorem dX11_undo_12 : decode cX11_undo 12 = .ok (.iconst (-1), 1) := by decide +kernel
theorem dX11_undo_13 : decode cX11_undo 13 = .ok (.ireturn, 1) := by decide +kernel
theorem dX11_undo_14 : decode cX11_undo 14 = .ok (.aload_n 0, 1) := by decide +kernel
theorem dX11_undo_15 : decode cX11_undo 15 = .ok (.dup, 1) := by decide +kernel
theorem dX11_undo_16 : decode cX11_undo 16 = .ok (.getfield 49, 3) := by decide +kernel
theorem dX11_undo_19 : decode cX11_undo 19 = .ok (.iconst 1, 1) := by decide +kernel
theorem dX11_undo_20 : decode cX11_undo 20 = .ok (.isub, 1) := by decide +kernel
theorem dX11_undo_21 : decode cX11_undo 21 = .ok (.putfield 49, 3) := by decide +kernel
theorem dX11_undo_24 : decode cX11_undo 24 = .ok (.iconst 0, 1) := by decide +kernel
theorem dX11_undo_25 : decode cX11_undo 25 = .ok (.istore_n 1, 1) := by decide +kernel
theorem dX11_undo_26 : decode cX11_undo 26 = .ok (.iload_n 1, 1) := by decide +kernel
theorem dX11_undo_27 : decode cX11_undo 27 = .ok (.sipush 1454, 3) := by decide +kernel
theorem dX11_undo_30 : decode cX11_undo 30 = .ok (.if_icmp .ge 30, 3) := by decide +kernel
theorem dX11_undo_33 : decode cX11_undo 33 = .ok (.aload_n 0, 1) := by decide +kernel
theorem dX11_undo_34 : decode cX11_undo 34 = .ok (.getfield 13, 3) := by decide +kernel
theorem dX11_undo_37 : decode cX11_undo 37 = .ok (.iload_n 1, 1) := by decide +kernel
theorem dX11_undo_38 : decode cX11_undo 38 = .ok (.aload_n 0, 1) := by decide +kernel
theorem dX11_undo_39 : decode cX11_undo 39 = .ok (.getfield 26, 3) := by decide +kernel
theorem dX11_undo_42 : decode cX11_undo 42 = .ok (.sipush 1454, 3) := by decide +kernel
theorem dX11_undo_45 : decode cX11_undo 45 = .ok (.aload_n 0, 1) := by decide +kernel
theorem dX11_undo_46 : decode cX11_undo 46 = .ok (.getfield 49, 3) := by decide +kernel
theorem dX11_undo_49 : decode cX11_undo 49 = .ok (.imul, 1) := by decide +kernel
theorem dX11_undo_50 : decode cX11_undo 50 = .ok (.iload_n 1, 1) := by decide +kernel
theorem dX11_undo_51 : decode cX11_undo 51 = .ok (.iadd, 1) := by decide +kernel
theorem dX11_undo_52 : decode cX11_undo 52 = .ok (.iaload, 1) := by decide +kernel
theorem dX11_undo_53 : decode cX11_undo 53 = .ok (.iastore, 1) := by decide +kernel
theorem dX11_undo_54 : decode cX11_undo 54 = .ok (.iinc 1 1, 3) := by decide +kernel
theorem dX11_undo_57 : decode cX11_undo 57 = .ok (.goto (-31), 3) := by decide +kernel
theorem dX11_undo_60 : decode cX11_undo 60 = .ok (.aload_n 0, 1) := by decide +kernel
theorem dX11_undo_61 : decode cX11_undo 61 = .ok (.getfield 13, 3) := by decide +kernel
theorem dX11_undo_64 : decode cX11_undo 64 = .ok (.iconst 4, 1) := by decide +kernel
theorem dX11_undo_65 : decode cX11_undo 65 = .ok (.iaload, 1) := by decide +kernel
theorem dX11_undo_66 : decode cX11_undo 66 = .ok (.ireturn, 1) := by decide +kernel
theorem dX11_oath_0 : decode cX11_oath 0 = .ok (.aload_n 0, 1) := by decide +kernel
theorem dX11_oath_1 : decode cX11_oath 1 = .ok (.iconst 0, 1) := by decide +kernel
theorem dX11_oath_2 : decode cX11_oath 2 = .ok (.putfield 3, 3) := by decide +kernel
theorem dX11_oath_5 : decode cX11_oath 5 = .ok (.aload_n 0, 1) := by decide +kernel
theorem dX11_oath_6 : decode cX11_oath 6 = .ok (.aload_n 0, 1) := by decide +kernel
theorem dX11_oath_7 : decode cX11_oath 7 = .ok (.iload_n 1, 1) := by decide +kernel
theorem dX11_oath_8 : decode cX11_oath 8 = .ok (.invokevirtual 284, 3) := by decide +kernel
theorem dX11_oath_11 : decode cX11_oath 11 = .ok (.iconst 1, 1) := by decide +kernel
theorem dX11_oath_12 : decode cX11_oath 12 = .ok (.invokevirtual 265, 3) := by decide +kernel
theorem dX11_oath_15 : decode cX11_oath 15 = .ok (.ifCond .ne 20, 3) := by decide +kernel
theorem dX11_oath_18 : decode cX11_oath 18 = .ok (.aload_n 0, 1) := by decide +kernel
theorem dX11_oath_19 : decode cX11_oath 19 = .ok (.iload_n 2, 1) := by decide +kernel
theorem dX11_oath_20 : decode cX11_oath 20 = .ok (.ifCond .ge 7, 3) := by decide +kernel
theorem dX11_oath_23 : decode cX11_oath 23 = .ok (.iconst 1, 1) := by decide +kernel
theorem dX11_oath_24 : decode cX11_oath 24 = .ok (.goto 4, 3) := by decide +kernel
theorem dX11_oath_27 : decode cX11_oath 27 = .ok (.iconst 0, 1) := by decide +kernel
theorem dX11_oath_28 : decode cX11_oath 28 = .ok (.iconst 2, 1) := by decide +kernel
theorem dX11_oath_29 : decode cX11_oath 29 = .ok (.invokevirtual 265, 3) := by decide +kernel
theorem dX11_oath_32 : decode cX11_oath 32 = .ok (.ifCond .eq 5, 3) := by decide +kernel
theorem dX11_oath_35 : decode cX11_oath 35 = .ok (.iconst 0, 1) := by decide +kernel
theorem dX11_oath_36 : decode cX11_oath 36 = .ok (.ireturn, 1) := by decide +kernel
theorem dX11_oath_37 : decode cX11_oath 37 = .ok (.iload_n 2, 1) := by decide +kernel
theorem dX11_oath_38 : decode cX11_oath 38 = .ok (.istore_n 3, 1) := by decide +kernel
theorem dX11_oath_39 : decode cX11_oath 39 = .ok (.iconst 0, 1) := by decide +kernel
theorem dX11_oath_40 : decode cX11_oath 40 = .ok (.istore 4, 2) := by decide +kernel
theorem dX11_oath_42 : decode cX11_oath 42 = .ok (.iload 4, 2) := by decide +kernel
theorem dX11_oath_44 : decode cX11_oath 44 = .ok (.bipush 30, 2) := by decide +kernel
theorem dX11_oath_46 : decode cX11_oath 46 = .ok (.if_icmp .ge 37, 3) := by decide +kernel
theorem dX11_oath_49 : decode cX11_oath 49 = .ok (.iload_n 3, 1) := by decide +kernel
theorem dX11_oath_50 : decode cX11_oath 50 = .ok (.aload_n 0, 1) := by decide +kernel
theorem dX11_oath_51 : decode cX11_oath 51 = .ok (.iload_n 1, 1) := by decide +kernel
theorem dX11_oath_52 : decode cX11_oath 52 = .ok (.iload 4, 2) := by decide +kernel
theorem dX11_oath_54 : decode cX11_oath 54 = .ok (.invokevirtual 72, 3) := by decide +kernel
theorem dX11_oath_57 : decode cX11_oath 57 = .ok (.invokestatic 63, 3) := by decide +kernel
theorem dX11_oath_60 : decode cX11_oath 60 = .ok (.istore 5, 2) := by decide +kernel
theorem dX11_oath_62 : decode cX11_oath 62 = .ok (.aload_n 0, 1) := by decide +kernel
theorem dX11_oath_63 : decode cX11_oath 63 = .ok (.iload_n 1, 1) := by decide +kernel
theorem dX11_oath_64 : decode cX11_oath 64 = .ok (.iload 4, 2) := by decide +kernel
theorem dX11_oath_66 : decode cX11_oath 66 = .ok (.iload 5, 2) := by decide +kernel
theorem dX11_oath_68 : decode cX11_oath 68 = .ok (.ineg, 1) := by decide +kernel
theorem dX11_oath_69 : decode cX11_oath 69 = .ok (.invokevirtual 82, 3) := by decide +kernel
theorem dX11_oath_72 : decode cX11_oath 72 = .ok (.iload_n 3, 1) := by decide +kernel
theorem dX11_oath_73 : decode cX11_oath 73 = .ok (.iload 5, 2) := by decide +kernel
theorem dX11_oath_75 : decode cX11_oath 75 = .ok (.isub, 1) := by decide +kernel
theorem dX11_oath_76 : decode cX11_oath 76 = .ok (.istore_n 3, 1) := by decide +kernel
theorem dX11_oath_77 : decode cX11_oath 77 = .ok (.iinc 4 1, 3) := by decide +kernel
theorem dX11_oath_80 : decode cX11_oath 80 = .ok (.goto (-38), 3) := by decide +kernel
theorem dX11_oath_83 : decode cX11_oath 83 = .ok (.aload_n 0, 1) := by decide +kernel
theorem dX11_oath_84 : decode cX11_oath 84 = .ok (.getfield 13, 3) := by decide +kernel
theorem dX11_oath_87 : decode cX11_oath 87 = .ok (.bipush 9, 2) := by decide +kernel
theorem dX11_oath_89 : decode cX11_oath 89 = .ok (.dup2, 1) := by decide +kernel
theorem dX11_oath_90 : decode cX11_oath 90 = .ok (.iaload, 1) := by decide +kernel
theorem dX11_oath_91 : decode cX11_oath 91 = .ok (.iload_n 2, 1) := by decide +kernel
theorem dX11_oath_92 : decode cX11_oath 92 = .ok (.iload_n 3, 1) := by decide +kernel
theorem dX11_oath_93 : decode cX11_oath 93 = .ok (.isub, 1) := by decide +kernel
theorem dX11_oath_94 : decode cX11_oath 94 = .ok (.iadd, 1) := by decide +kernel
theorem dX11_oath_95 : decode cX11_oath 95 = .ok (.iastore, 1) := by decide +kernel
theorem dX11_oath_96 : decode cX11_oath 96 = .ok (.iload_n 2, 1) := by decide +kernel
theorem dX11_oath_97 : decode cX11_oath 97 = .ok (.iload_n 3, 1) := by decide +kernel
theorem dX11_oath_98 : decode cX11_oath 98 = .ok (.isub, 1) := by decide +kernel
theorem dX11_oath_99 : decode cX11_oath 99 = .ok (.ireturn, 1) := by decide +kernel
theorem dX11_winter_0 : decode cX11_winter 0 = .ok (.aload_n 0, 1) := by decide +kernel
theorem dX11_winter_1 : decode cX11_winter 1 = .ok (.iconst 0, 1) := by decide +kernel
theorem dX11_winter_2 : decode cX11_winter 2 = .ok (.putfield 3, 3) := by decide +kernel
theorem dX11_winter_5 : decode cX11_winter 5 = .ok (.aload_n 0, 1) := by decide +kernel
theorem dX11_winter_6 : decode cX11_winter 6 = .ok (.iload_n 1, 1) := by decide +kernel
theorem dX11_winter_7 : decode cX11_winter 7 = .ok (.iconst 1, 1) := by decide +kernel
theorem dX11_winter_8 : decode cX11_winter 8 = .ok (.sipush 999, 3) := by decide +kernel
theorem dX11_winter_11 : decode cX11_winter 11 = .ok (.invokestatic 56, 3) := by decide +kernel
theorem dX11_winter_14 : decode cX11_winter 14 = .ok (.ifCond .ne 7, 3) := by decide +kernel
theorem dX11_winter_17 : decode cX11_winter 17 = .ok (.iconst 1, 1) := by decide +kernel
theorem dX11_winter_18 : decode cX11_winter 18 = .ok (.goto 4, 3) := by decide +kernel
theorem dX11_winter_21 : decode cX11_winter 21 = .ok (.iconst 0, 1) := by decide +kernel
theorem dX11_winter_22 : decode cX11_winter 22 = .ok (.iconst 1, 1) := by decide +kernel
theorem dX11_winter_23 : decode cX11_winter 23 = .ok (.invokevirtual 265, 3) := by decide +kernel
theorem dX11_winter_26 : decode cX11_winter 26 = .ok (.ifCond .eq 5, 3) := by decide +kernel
theorem dX11_winter_29 : decode cX11_winter 29 = .ok (.iconst 0, 1) := by decide +kernel
theorem dX11_winter_30 : decode cX11_winter 30 = .ok (.ireturn, 1) := by decide +kernel
theorem dX11_winter_31 : decode cX11_winter 31 = .ok (.aload_n 0, 1) := by decide +kernel
theorem dX11_winter_32 : decode cX11_winter 32 = .ok (.aload_n 0, 1) := by decide +kernel
theorem dX11_winter_33 : decode cX11_winter 33 = .ok (.iload_n 1, 1) := by decide +kernel
theorem dX11_winter_34 : decode cX11_winter 34 = .ok (.invokevirtual 309, 3) := by decide +kernel
theorem dX11_winter_37 : decode cX11_winter 37 = .ok (.iconst 1, 1) := by decide +kernel
theorem dX11_winter_38 : decode cX11_winter 38 = .ok (.iadd, 1) := by decide +kernel
theorem dX11_winter_39 : decode cX11_winter 39 = .ok (.invokevirtual 329, 3) := by decide +kernel
theorem dX11_winter_42 : decode cX11_winter 42 = .ok (.ireturn, 1) := by decide +kernel
theorem dX11_winters_0 : decode cX11_winters 0 = .ok (.iconst (-1), 1) := by decide +kernel
theorem dX11_winters_1 : decode cX11_winters 1 = .ok (.istore_n 2, 1) := by decide +kernel
theorem dX11_winters_2 : decode cX11_winters 2 = .ok (.iconst 0, 1) := by decide +kernel
theorem dX11_winters_3 : decode cX11_winters 3 = .ok (.istore_n 3, 1) := by decide +kernel
theorem dX11_winters_4 : decode cX11_winters 4 = .ok (.iload_n 3, 1) := by decide +kernel
theorem dX11_winters_5 : decode cX11_winters 5 = .ok (.aload_n 0, 1) := by decide +kernel
theorem dX11_winters_6 : decode cX11_winters 6 = .ok (.invokevirtual 52, 3) := by decide +kernel
theorem dX11_winters_9 : decode cX11_winters 9 = .ok (.if_icmp .ge 36, 3) := by decide +kernel
theorem dX11_winters_12 : decode cX11_winters 12 = .ok (.iload_n 2, 1) := by decide +kernel
theorem dX11_winters_13 : decode cX11_winters 13 = .ok (.ifCond .ge 32, 3) := by decide +kernel
theorem dX11_winters_16 : decode cX11_winters 16 = .ok (.aload_n 0, 1) := by decide +kernel
theorem dX11_winters_17 : decode cX11_winters 17 = .ok (.iload_n 3, 1) := by decide +kernel
theorem dX11_winters_18 : decode cX11_winters 18 = .ok (.invokevirtual 75, 3) := by decide +kernel
theorem dX11_winters_21 : decode cX11_winters 21 = .ok (.ifCond .ne 16, 3) := by decide +kernel
theorem dX11_winters_24 : decode cX11_winters 24 = .ok (.aload_n 0, 1) := by decide +kernel
theorem dX11_winters_25 : decode cX11_winters 25 = .ok (.iload_n 3, 1) := by decide +kernel
theorem dX11_winters_26 : decode cX11_winters 26 = .ok (.iconst 2, 1) := by decide +kernel
theorem dX11_winters_27 : decode cX11_winters 27 = .ok (.invokevirtual 69, 3) := by decide +kernel
theorem dX11_winters_30 : decode cX11_winters 30 = .ok (.ifCond .ne 7, 3) := by decide +kernel
theorem dX11_winters_33 : decode cX11_winters 33 = .ok (.iload_n 3, 1) := by decide +kernel
theorem dX11_winters_34 : decode cX11_winters 34 = .ok (.goto 4, 3) := by decide +kernel
theorem dX11_winters_37 : decode cX11_winters 37 = .ok (.iconst (-1), 1) := by decide +kernel
theorem dX11_winters_38 : decode cX11_winters 38 = .ok (.istore_n 2, 1) := by decide +kernel
theorem dX11_winters_39 : decode cX11_winters 39 = .ok (.iinc 3 1, 3) := by decide +kernel
theorem dX11_winters_42 : decode cX11_winters 42 = .ok (.goto (-38), 3) := by decide +kernel
theorem dX11_winters_45 : decode cX11_winters 45 = .ok (.aload_n 0, 1) := by decide +kernel
theorem dX11_winters_46 : decode cX11_winters 46 = .ok (.iload_n 2, 1) := by decide +kernel
theorem dX11_winters_47 : decode cX11_winters 47 = .ok (.aload_n 0, 1) := by decide +kernel
theorem dX11_winters_48 : decode cX11_winters 48 = .ok (.invokevirtual 268, 3) := by decide +kernel
theorem dX11_winters_51 : decode cX11_winters 51 = .ok (.iload_n 1, 1) := by decide +kernel
theorem dX11_winters_52 : decode cX11_winters 52 = .ok (.invokevirtual 145, 3) := by decide +kernel
theorem dX11_winters_55 : decode cX11_winters 55 = .ok (.iload_n 2, 1) := by decide +kernel
theorem dX11_winters_56 : decode cX11_winters 56 = .ok (.ifCond .lt 10, 3) := by decide +kernel
theorem dX11_winters_59 : decode cX11_winters 59 = .ok (.aload_n 0, 1) := by decide +kernel
theorem dX11_winters_60 : decode cX11_winters 60 = .ok (.iload_n 2, 1) := by decide +kernel
theorem dX11_winters_61 : decode cX11_winters 61 = .ok (.iconst 2, 1) := by decide +kernel
theorem dX11_winters_62 : decode cX11_winters 62 = .ok (.iconst 1, 1) := by decide +kernel
theorem dX11_winters_63 : decode cX11_winters 63 = .ok (.invokevirtual 124, 3) := by decide +kernel
theorem dX11_winters_66 : decode cX11_winters 66 = .ok (.iload_n 2, 1) := by decide +kernel
theorem dX11_winters_67 : decode cX11_winters 67 = .ok (.ireturn, 1) := by decide +kernel
theorem dX11_seal_0 : decode cX11_seal 0 = .ok (.aload_n 0, 1) := by decide +kernel
theorem dX11_seal_1 : decode cX11_seal 1 = .ok (.iconst 0, 1) := by decide +kernel
theorem dX11_seal_2 : decode cX11_seal 2 = .ok (.putfield 3, 3) := by decide +kernel
theorem dX11_seal_5 : decode cX11_seal 5 = .ok (.aload_n 0, 1) := by decide +kernel
theorem dX11_seal_6 : decode cX11_seal 6 = .ok (.aload_n 0, 1) := by decide +kernel
theorem dX11_seal_7 : decode cX11_seal 7 = .ok (.iload_n 1, 1) := by decide +kernel
theorem dX11_seal_8 : decode cX11_seal 8 = .ok (.invokevirtual 284, 3) := by decide +kernel
theorem dX11_seal_11 : decode cX11_seal 11 = .ok (.iconst 1, 1) := by decide +kernel
theorem dX11_seal_12 : decode cX11_seal 12 = .ok (.invokevirtual 265, 3) := by decide +kernel
theorem dX11_seal_15 : decode cX11_seal 15 = .ok (.ifCond .eq 5, 3) := by decide +kernel
theorem dX11_seal_18 : decode cX11_seal 18 = .ok (.iconst 0, 1) := by decide +kernel
theorem dX11_seal_19 : decode cX11_seal 19 = .ok (.ireturn, 1) := by decide +kernel
theorem dX11_seal_20 : decode cX11_seal 20 = .ok (.aload_n 0, 1) := by decide +kernel
theorem dX11_seal_21 : decode cX11_seal 21 = .ok (.iload_n 1, 1) := by decide +kernel
theorem dX11_seal_22 : decode cX11_seal 22 = .ok (.iconst 2, 1) := by decide +kernel
theorem dX11_seal_23 : decode cX11_seal 23 = .ok (.invokevirtual 69, 3) := by decide +kernel
theorem dX11_seal_26 : decode cX11_seal 26 = .ok (.iconst 1, 1) := by decide +kernel
theorem dX11_seal_27 : decode cX11_seal 27 = .ok (.if_icmp .ne 7, 3) := by decide +kernel
theorem dX11_seal_30 : decode cX11_seal 30 = .ok (.iconst 1, 1) := by decide +kernel
theorem dX11_seal_31 : decode cX11_seal 31 = .ok (.goto 4, 3) := by decide +kernel
theorem dX11_seal_34 : decode cX11_seal 34 = .ok (.iconst 0, 1) := by decide +kernel
theorem dX11_seal_35 : decode cX11_seal 35 = .ok (.istore_n 3, 1) := by decide +kernel
theorem dX11_seal_36 : decode cX11_seal 36 = .ok (.aload_n 0, 1) := by decide +kernel
theorem dX11_seal_37 : decode cX11_seal 37 = .ok (.iload_n 1, 1) := by decide +kernel
theorem dX11_seal_38 : decode cX11_seal 38 = .ok (.iconst 2, 1) := by decide +kernel
theorem dX11_seal_39 : decode cX11_seal 39 = .ok (.iload_n 2, 1) := by decide +kernel
theorem dX11_seal_40 : decode cX11_seal 40 = .ok (.ifCond .eq 7, 3) := by decide +kernel
theorem dX11_seal_43 : decode cX11_seal 43 = .ok (.iconst 1, 1) := by decide +kernel
theorem dX11_seal_44 : decode cX11_seal 44 = .ok (.goto 4, 3) := by decide +kernel
theorem dX11_seal_47 : decode cX11_seal 47 = .ok (.iconst 0, 1) := by decide +kernel
theorem dX11_seal_48 : decode cX11_seal 48 = .ok (.invokevirtual 124, 3) := by decide +kernel
theorem dX11_seal_51 : decode cX11_seal 51 = .ok (.iload_n 3, 1) := by decide +kernel
theorem dX11_seal_52 : decode cX11_seal 52 = .ok (.iload_n 2, 1) := by decide +kernel
theorem dX11_seal_53 : decode cX11_seal 53 = .ok (.if_icmp .eq 7, 3) := by decide +kernel
theorem dX11_seal_56 : decode cX11_seal 56 = .ok (.iconst 1, 1) := by decide +kernel
theorem dX11_seal_57 : decode cX11_seal 57 = .ok (.goto 4, 3) := by decide +kernel
theorem dX11_seal_60 : decode cX11_seal 60 = .ok (.iconst 0, 1) := by decide +kernel
theorem dX11_seal_61 : decode cX11_seal 61 = .ok (.ireturn, 1) := by decide +kernel
theorem dX11_seed_0 : decode cX11_seed 0 = .ok (.aload_n 0, 1) := by decide +kernel
theorem dX11_seed_1 : decode cX11_seed 1 = .ok (.iconst 0, 1) := by decide +kernel
theorem dX11_seed_2 : decode cX11_seed 2 = .ok (.putfield 3, 3) := by decide +kernel
theorem dX11_seed_5 : decode cX11_seed 5 = .ok (.aload_n 0, 1) := by decide +kernel
theorem dX11_seed_6 : decode cX11_seed 6 = .ok (.getfield 13, 3) := by decide +kernel
theorem dX11_seed_9 : decode cX11_seed 9 = .ok (.iconst 5, 1) := by decide +kernel
theorem dX11_seed_10 : decode cX11_seed 10 = .ok (.iaload, 1) := by decide +kernel
theorem dX11_seed_11 : decode cX11_seed 11 = .ok (.istore_n 2, 1) := by decide +kernel
theorem dX11_seed_12 : decode cX11_seed 12 = .ok (.aload_n 0, 1) := by decide +kernel
theorem dX11_seed_13 : decode cX11_seed 13 = .ok (.getfield 13, 3) := by decide +kernel
theorem dX11_seed_16 : decode cX11_seed 16 = .ok (.iconst 5, 1) := by decide +kernel
theorem dX11_seed_17 : decode cX11_seed 17 = .ok (.iload_n 1, 1) := by decide +kernel
theorem dX11_seed_18 : decode cX11_seed 18 = .ok (.iastore, 1) := by decide +kernel
theorem dX11_seed_19 : decode cX11_seed 19 = .ok (.iload_n 2, 1) := by decide +kernel
theorem dX11_seed_20 : decode cX11_seed 20 = .ok (.ireturn, 1) := by decide +kernel
theorem dX11_blend_0 : decode cX11_blend 0 = .ok (.aload_n 0, 1) := by decide +kernel
theorem dX11_blend_1 : decode cX11_blend 1 = .ok (.iconst 0, 1) := by decide +kernel
theorem dX11_blend_2 : decode cX11_blend 2 = .ok (.putfield 3, 3) := by decide +kernel
theorem dX11_blend_5 : decode cX11_blend 5 = .ok (.aload_n 0, 1) := by decide +kernel
theorem dX11_blend_6 : decode cX11_blend 6 = .ok (.aload_n 0, 1) := by decide +kernel
theorem dX11_blend_7 : decode cX11_blend 7 = .ok (.iload_n 1, 1) := by decide +kernel
theorem dX11_blend_8 : decode cX11_blend 8 = .ok (.invokevirtual 284, 3) := by decide +kernel
theorem dX11_blend_11 : decode cX11_blend 11 = .ok (.ifCond .ne 11, 3) := by decide +kernel
theorem dX11_blend_14 : decode cX11_blend 14 = .ok (.aload_n 0, 1) := by decide +kernel
theorem dX11_blend_15 : decode cX11_blend 15 = .ok (.iload_n 2, 1) := by decide +kernel
theorem dX11_blend_16 : decode cX11_blend 16 = .ok (.invokevirtual 284, 3) := by decide +kernel
theorem dX11_blend_19 : decode cX11_blend 19 = .ok (.ifCond .eq 7, 3) := by decide +kernel
theorem dX11_blend_22 : decode cX11_blend 22 = .ok (.iconst 1, 1) := by decide +kernel
theorem dX11_blend_23 : decode cX11_blend 23 = .ok (.goto 4, 3) := by decide +kernel
theorem dX11_blend_26 : decode cX11_blend 26 = .ok (.iconst 0, 1) := by decide +kernel
theorem dX11_blend_27 : decode cX11_blend 27 = .ok (.iconst 1, 1) := by decide +kernel
theorem dX11_blend_28 : decode cX11_blend 28 = .ok (.invokevirtual 265, 3) := by decide +kernel
theorem dX11_blend_31 : decode cX11_blend 31 = .ok (.ifCond .ne 31, 3) := by decide +kernel
theorem dX11_blend_34 : decode cX11_blend 34 = .ok (.aload_n 0, 1) := by decide +kernel
theorem dX11_blend_35 : decode cX11_blend 35 = .ok (.iload_n 1, 1) := by decide +kernel
theorem dX11_blend_36 : decode cX11_blend 36 = .ok (.iload_n 2, 1) := by decide +kernel
theorem dX11_blend_37 : decode cX11_blend 37 = .ok (.if_icmp .eq 13, 3) := by decide +kernel
theorem dX11_blend_40 : decode cX11_blend 40 = .ok (.iload_n 3, 1) := by decide +kernel
theorem dX11_blend_41 : decode cX11_blend 41 = .ok (.iconst 0, 1) := by decide +kernel
theorem dX11_blend_42 : decode cX11_blend 42 = .ok (.bipush 99, 2) := by decide +kernel
theorem dX11_blend_44 : decode cX11_blend 44 = .ok (.invokestatic 56, 3) := by decide +kernel
theorem dX11_blend_47 : decode cX11_blend 47 = .ok (.ifCond .ne 7, 3) := by decide +kernel
theorem dX11_blend_50 : decode cX11_blend 50 = .ok (.iconst 1, 1) := by decide +kernel
theorem dX11_blend_51 : decode cX11_blend 51 = .ok (.goto 4, 3) := by decide +kernel
theorem dX11_blend_54 : decode cX11_blend 54 = .ok (.iconst 0, 1) := by decide +kernel
theorem dX11_blend_55 : decode cX11_blend 55 = .ok (.iconst 2, 1) := by decide +kernel
theorem dX11_blend_56 : decode cX11_blend 56 = .ok (.invokevirtual 265, 3) := by decide +kernel
theorem dX11_blend_59 : decode cX11_blend 59 = .ok (.ifCond .eq 5, 3) := by decide +kernel
theorem dX11_blend_62 : decode cX11_blend 62 = .ok (.iconst 0, 1) := by decide +kernel
theorem dX11_blend_63 : decode cX11_blend 63 = .ok (.ireturn, 1) := by decide +kernel
theorem dX11_blend_64 : decode cX11_blend 64 = .ok (.iconst 1, 1) := by decide +kernel
theorem dX11_blend_65 : decode cX11_blend 65 = .ok (.aload_n 0, 1) := by decide +kernel
theorem dX11_blend_66 : decode cX11_blend 66 = .ok (.iload_n 1, 1) := by decide +kernel
theorem dX11_blend_67 : decode cX11_blend 67 = .ok (.invokevirtual 75, 3) := by decide +kernel
theorem dX11_blend_70 : decode cX11_blend 70 = .ok (.invokestatic 271, 3) := by decide +kernel
theorem dX11_blend_73 : decode cX11_blend 73 = .ok (.i2l, 1) := by decide +kernel
theorem dX11_blend_74 : decode cX11_blend 74 = .ok (.lstore 4, 2) := by decide +kernel
theorem dX11_blend_76 : decode cX11_blend 76 = .ok (.iconst 1, 1) := by decide +kernel
theorem dX11_blend_77 : decode cX11_blend 77 = .ok (.aload_n 0, 1) := by decide +kernel
theorem dX11_blend_78 : decode cX11_blend 78 = .ok (.iload_n 2, 1) := by decide +kernel
theorem dX11_blend_79 : decode cX11_blend 79 = .ok (.invokevirtual 75, 3) := by decide +kernel
theorem dX11_blend_82 : decode cX11_blend 82 = .ok (.invokestatic 271, 3) := by decide +kernel
theorem dX11_blend_85 : decode cX11_blend 85 = .ok (.i2l, 1) := by decide +kernel
theorem dX11_blend_86 : decode cX11_blend 86 = .ok (.lstore 6, 2) := by decide +kernel
theorem dX11_blend_88 : decode cX11_blend 88 = .ok (.lload 6, 2) := by decide +kernel
theorem dX11_blend_90 : decode cX11_blend 90 = .ok (.aload_n 0, 1) := by decide +kernel
theorem dX11_blend_91 : decode cX11_blend 91 = .ok (.iload_n 1, 1) := by decide +kernel
theorem dX11_blend_92 : decode cX11_blend 92 = .ok (.invokevirtual 79, 3) := by decide +kernel
theorem dX11_blend_95 : decode cX11_blend 95 = .ok (.i2l, 1) := by decide +kernel
theorem dX11_blend_96 : decode cX11_blend 96 = .ok (.lmul, 1) := by decide +kernel
theorem dX11_blend_97 : decode cX11_blend 97 = .ok (.lstore 8, 2) := by decide +kernel
theorem dX11_blend_99 : decode cX11_blend 99 = .ok (.lload 4, 2) := by decide +kernel
theorem dX11_blend_101 : decode cX11_blend 101 = .ok (.aload_n 0, 1) := by decide +kernel
theorem dX11_blend_102 : decode cX11_blend 102 = .ok (.iload_n 2, 1) := by decide +kernel
theorem dX11_blend_103 : decode cX11_blend 103 = .ok (.invokevirtual 79, 3) := by decide +kernel
theorem dX11_blend_106 : decode cX11_blend 106 = .ok (.i2l, 1) := by decide +kernel
theorem dX11_blend_107 : decode cX11_blend 107 = .ok (.lmul, 1) := by decide +kernel
theorem dX11_blend_108 : decode cX11_blend 108 = .ok (.lstore 10, 2) := by decide +kernel
theorem dX11_blend_110 : decode cX11_blend 110 = .ok (.iconst 0, 1) := by decide +kernel
theorem dX11_blend_111 : decode cX11_blend 111 = .ok (.istore 12, 2) := by decide +kernel
theorem dX11_blend_113 : decode cX11_blend 113 = .ok (.iconst 0, 1) := by decide +kernel
theorem dX11_blend_114 : decode cX11_blend 114 = .ok (.istore 13, 2) := by decide +kernel
theorem dX11_blend_116 : decode cX11_blend 116 = .ok (.aload_n 0, 1) := by decide +kernel
theorem dX11_blend_117 : decode cX11_blend 117 = .ok (.iload_n 2, 1) := by decide +kernel
theorem dX11_blend_118 : decode cX11_blend 118 = .ok (.invokevirtual 75, 3) := by decide +kernel
theorem dX11_blend_121 : decode cX11_blend 121 = .ok (.istore 14, 2) := by decide +kernel
theorem dX11_blend_123 : decode cX11_blend 123 = .ok (.aload_n 0, 1) := by decide +kernel
theorem dX11_blend_124 : decode cX11_blend 124 = .ok (.iload_n 1, 1) := by decide +kernel
theorem dX11_blend_125 : decode cX11_blend 125 = .ok (.invokevirtual 75, 3) := by decide +kernel
theorem dX11_blend_128 : decode cX11_blend 128 = .ok (.istore 15, 2) := by decide +kernel
theorem dX11_blend_130 : decode cX11_blend 130 = .ok (.iload 15, 2) := by decide +kernel
theorem dX11_blend_132 : decode cX11_blend 132 = .ok (.ifCond .lt 92, 3) := by decide +kernel
theorem dX11_blend_135 : decode cX11_blend 135 = .ok (.iload 14, 2) := by decide +kernel
theorem dX11_blend_137 : decode cX11_blend 137 = .ok (.istore 16, 2) := by decide +kernel
theorem dX11_blend_139 : decode cX11_blend 139 = .ok (.iload 16, 2) := by decide +kernel
theorem dX11_blend_141 : decode cX11_blend 141 = .ok (.ifCond .lt 41, 3) := by decide +kernel
theorem dX11_blend_144 : decode cX11_blend 144 = .ok (.iload 15, 2) := by decide +kernel
theorem dX11_blend_146 : decode cX11_blend 146 = .ok (.i2l, 1) := by decide +kernel
theorem dX11_blend_147 : decode cX11_blend 147 = .ok (.lload 8, 2) := by decide +kernel
theorem dX11_blend_149 : decode cX11_blend 149 = .ok (.lmul, 1) := by decide +kernel
theorem dX11_blend_150 : decode cX11_blend 150 = .ok (.iload 16, 2) := by decide +kernel
theorem dX11_blend_152 : decode cX11_blend 152 = .ok (.i2l, 1) := by decide +kernel
theorem dX11_blend_153 : decode cX11_blend 153 = .ok (.lload 10, 2) := by decide +kernel
theorem dX11_blend_155 : decode cX11_blend 155 = .ok (.lmul, 1) := by decide +kernel
theorem dX11_blend_156 : decode cX11_blend 156 = .ok (.ladd, 1) := by decide +kernel
theorem dX11_blend_157 : decode cX11_blend 157 = .ok (.iload_n 3, 1) := by decide +kernel
theorem dX11_blend_158 : decode cX11_blend 158 = .ok (.i2l, 1) := by decide +kernel
theorem dX11_blend_159 : decode cX11_blend 159 = .ok (.lload 4, 2) := by decide +kernel
theorem dX11_blend_161 : decode cX11_blend 161 = .ok (.lmul, 1) := by decide +kernel
theorem dX11_blend_162 : decode cX11_blend 162 = .ok (.lload 6, 2) := by decide +kernel
theorem dX11_blend_164 : decode cX11_blend 164 = .ok (.lmul, 1) := by decide +kernel
theorem dX11_blend_165 : decode cX11_blend 165 = .ok (.iload 15, 2) := by decide +kernel
theorem dX11_blend_167 : decode cX11_blend 167 = .ok (.iload 16, 2) := by decide +kernel
theorem dX11_blend_169 : decode cX11_blend 169 = .ok (.iadd, 1) := by decide +kernel
theorem dX11_blend_170 : decode cX11_blend 170 = .ok (.i2l, 1) := by decide +kernel
theorem dX11_blend_171 : decode cX11_blend 171 = .ok (.lmul, 1) := by decide +kernel
theorem dX11_blend_172 : decode cX11_blend 172 = .ok (.lcmp, 1) := by decide +kernel
theorem dX11_blend_173 : decode cX11_blend 173 = .ok (.ifCond .le 9, 3) := by decide +kernel
theorem dX11_blend_176 : decode cX11_blend 176 = .ok (.iinc 16 (-1), 3) := by decide +kernel
theorem dX11_blend_179 : decode cX11_blend 179 = .ok (.goto (-40), 3) := by decide +kernel
theorem dX11_blend_182 : decode cX11_blend 182 = .ok (.iload 16, 2) := by decide +kernel
theorem dX11_blend_184 : decode cX11_blend 184 = .ok (.ifCond .lt 34, 3) := by decide +kernel
theorem dX11_blend_187 : decode cX11_blend 187 = .ok (.iload 15, 2) := by decide +kernel
theorem dX11_blend_189 : decode cX11_blend 189 = .ok (.iload 16, 2) := by decide +kernel
theorem dX11_blend_191 : decode cX11_blend 191 = .ok (.iadd, 1) := by decide +kernel
theorem dX11_blend_192 : decode cX11_blend 192 = .ok (.iload 13, 2) := by decide +kernel
theorem dX11_blend_194 : decode cX11_blend 194 = .ok (.if_icmp .gt 6, 3) := by decide +kernel
theorem dX11_blend_197 : decode cX11_blend 197 = .ok (.goto 21, 3) := by decide +kernel
theorem dX11_blend_200 : decode cX11_blend 200 = .ok (.sipush 1000, 3) := by decide +kernel
theorem dX11_blend_203 : decode cX11_blend 203 = .ok (.iload 15, 2) := by decide +kernel
theorem dX11_blend_205 : decode cX11_blend 205 = .ok (.imul, 1) := by decide +kernel
theorem dX11_blend_206 : decode cX11_blend 206 = .ok (.iload 16, 2) := by decide +kernel
theorem dX11_blend_208 : decode cX11_blend 208 = .ok (.iadd, 1) := by decide +kernel
theorem dX11_blend_209 : decode cX11_blend 209 = .ok (.istore 12, 2) := by decide +kernel
theorem dX11_blend_211 : decode cX11_blend 211 = .ok (.iload 15, 2) := by decide +kernel
theorem dX11_blend_213 : decode cX11_blend 213 = .ok (.iload 16, 2) := by decide +kernel
theorem dX11_blend_215 : decode cX11_blend 215 = .ok (.iadd, 1) := by decide +kernel
theorem dX11_blend_216 : decode cX11_blend 216 = .ok (.istore 13, 2) := by decide +kernel
theorem dX11_blend_218 : decode cX11_blend 218 = .ok (.iinc 15 (-1), 3) := by decide +kernel
theorem dX11_blend_221 : decode cX11_blend 221 = .ok (.goto (-91), 3) := by decide +kernel
theorem dX11_blend_224 : decode cX11_blend 224 = .ok (.iload 12, 2) := by decide +kernel
theorem dX11_blend_226 : decode cX11_blend 226 = .ok (.ireturn, 1) := by decide +kernel
theorem dX11_lastsNow_0 : decode cX11_lastsNow 0 = .ok (.aload_n 0, 1) := by decide +kernel
theorem dX11_lastsNow_1 : decode cX11_lastsNow 1 = .ok (.invokevirtual 332, 3) := by decide +kernel
theorem dX11_lastsNow_4 : decode cX11_lastsNow 4 = .ok (.iconst 0, 1) := by decide +kernel
theorem dX11_lastsNow_5 : decode cX11_lastsNow 5 = .ok (.istore_n 1, 1) := by decide +kernel
theorem dX11_lastsNow_6 : decode cX11_lastsNow 6 = .ok (.iload_n 1, 1) := by decide +kernel
theorem dX11_lastsNow_7 : decode cX11_lastsNow 7 = .ok (.bipush 60, 2) := by decide +kernel
theorem dX11_lastsNow_9 : decode cX11_lastsNow 9 = .ok (.if_icmp .ge 16, 3) := by decide +kernel
theorem dX11_lastsNow_12 : decode cX11_lastsNow 12 = .ok (.aload_n 0, 1) := by decide +kernel
theorem dX11_lastsNow_13 : decode cX11_lastsNow 13 = .ok (.invokevirtual 327, 3) := by decide +kernel
theorem dX11_lastsNow_16 : decode cX11_lastsNow 16 = .ok (.ifCond .ne 9, 3) := by decide +kernel
theorem dX11_lastsNow_19 : decode cX11_lastsNow 19 = .ok (.iinc 1 1, 3) := by decide +kernel
theorem dX11_lastsNow_22 : decode cX11_lastsNow 22 = .ok (.goto (-16), 3) := by decide +kernel
theorem dX11_lastsNow_25 : decode cX11_lastsNow 25 = .ok (.iload_n 1, 1) := by decide +kernel
theorem dX11_lastsNow_26 : decode cX11_lastsNow 26 = .ok (.bipush 60, 2) := by decide +kernel
theorem dX11_lastsNow_28 : decode cX11_lastsNow 28 = .ok (.if_icmp .ne 8, 3) := by decide +kernel
theorem dX11_lastsNow_31 : decode cX11_lastsNow 31 = .ok (.aload_n 0, 1) := by decide +kernel
theorem dX11_lastsNow_32 : decode cX11_lastsNow 32 = .ok (.iconst (-1), 1) := by decide +kernel
theorem dX11_lastsNow_33 : decode cX11_lastsNow 33 = .ok (.putfield 315, 3) := by decide +kernel
theorem dX11_lastsNow_36 : decode cX11_lastsNow 36 = .ok (.aload_n 0, 1) := by decide +kernel
theorem dX11_lastsNow_37 : decode cX11_lastsNow 37 = .ok (.invokevirtual 335, 3) := by decide +kernel
theorem dX11_lastsNow_40 : decode cX11_lastsNow 40 = .ok (.iload_n 1, 1) := by decide +kernel
theorem dX11_lastsNow_41 : decode cX11_lastsNow 41 = .ok (.ireturn, 1) := by decide +kernel
theorem dX11_lasts_0 : decode cX11_lasts 0 = .ok (.aload_n 0, 1) := by decide +kernel
theorem dX11_lasts_1 : decode cX11_lasts 1 = .ok (.iconst 0, 1) := by decide +kernel
theorem dX11_lasts_2 : decode cX11_lasts 2 = .ok (.putfield 3, 3) := by decide +kernel
theorem dX11_lasts_5 : decode cX11_lasts 5 = .ok (.aload_n 0, 1) := by decide +kernel
theorem dX11_lasts_6 : decode cX11_lasts 6 = .ok (.invokevirtual 338, 3) := by decide +kernel
theorem dX11_lasts_9 : decode cX11_lasts 9 = .ok (.ireturn, 1) := by decide +kernel
theorem dX11_worst_0 : decode cX11_worst 0 = .ok (.aload_n 0, 1) := by decide +kernel
theorem dX11_worst_1 : decode cX11_worst 1 = .ok (.iconst 0, 1) := by decide +kernel
theorem dX11_worst_2 : decode cX11_worst 2 = .ok (.putfield 3, 3) := by decide +kernel
theorem dX11_worst_5 : decode cX11_worst 5 = .ok (.aload_n 0, 1) := by decide +kernel
theorem dX11_worst_6 : decode cX11_worst 6 = .ok (.invokevirtual 338, 3) := by decide +kernel
theorem dX11_worst_9 : decode cX11_worst 9 = .ok (.pop, 1) := by decide +kernel
theorem dX11_worst_10 : decode cX11_worst 10 = .ok (.aload_n 0, 1) := by decide +kernel
theorem dX11_worst_11 : decode cX11_worst 11 = .ok (.getfield 315, 3) := by decide +kernel
theorem dX11_worst_14 : decode cX11_worst 14 = .ok (.ireturn, 1) := by decide +kernel
theorem dX11_isLawful_0 : decode cX11_isLawful 0 = .ok (.aload_n 0, 1) := by decide +kernel
theorem dX11_isLawful_1 : decode cX11_isLawful 1 = .ok (.iload_n 1, 1) := by decide +kernel
theorem dX11_isLawful_2 : decode cX11_isLawful 2 = .ok (.iconst 1, 1) := by decide +kernel
theorem dX11_isLawful_3 : decode cX11_isLawful 3 = .ok (.invokevirtual 151, 3) := by decide +kernel
theorem dX11_isLawful_6 : decode cX11_isLawful 6 = .ok (.istore_n 3, 1) := by decide +kernel
theorem dX11_isLawful_7 : decode cX11_isLawful 7 = .ok (.aload_n 0, 1) := by decide +kernel
theorem dX11_isLawful_8 : decode cX11_isLawful 8 = .ok (.iload_n 3, 1) := by decide +kernel
theorem dX11_isLawful_9 : decode cX11_isLawful 9 = .ok (.invokevirtual 299, 3) := by decide +kernel
theorem dX11_isLawful_12 : decode cX11_isLawful 12 = .ok (.iload_n 2, 1) := by decide +kernel
theorem dX11_isLawful_13 : decode cX11_isLawful 13 = .ok (.if_icmp .ne 25, 3) := by decide +kernel
theorem dX11_isLawful_16 : decode cX11_isLawful 16 = .ok (.aload_n 0, 1) := by decide +kernel
theorem dX11_isLawful_17 : decode cX11_isLawful 17 = .ok (.getfield 13, 3) := by decide +kernel
theorem dX11_isLawful_20 : decode cX11_isLawful 20 = .ok (.bipush 35, 2) := by decide +kernel
theorem dX11_isLawful_22 : decode cX11_isLawful 22 = .ok (.iload_n 2, 1) := by decide +kernel
theorem dX11_isLawful_23 : decode cX11_isLawful 23 = .ok (.iadd, 1) := by decide +kernel
theorem dX11_isLawful_24 : decode cX11_isLawful 24 = .ok (.iaload, 1) := by decide +kernel
theorem dX11_isLawful_25 : decode cX11_isLawful 25 = .ok (.aload_n 0, 1) := by decide +kernel
theorem dX11_isLawful_26 : decode cX11_isLawful 26 = .ok (.iload_n 1, 1) := by decide +kernel
theorem dX11_isLawful_27 : decode cX11_isLawful 27 = .ok (.iconst 2, 1) := by decide +kernel
theorem dX11_isLawful_28 : decode cX11_isLawful 28 = .ok (.invokevirtual 151, 3) := by decide +kernel
theorem dX11_isLawful_31 : decode cX11_isLawful 31 = .ok (.if_icmp .gt 7, 3) := by decide +kernel
theorem dX11_isLawful_34 : decode cX11_isLawful 34 = .ok (.iconst 1, 1) := by decide +kernel
theorem dX11_isLawful_35 : decode cX11_isLawful 35 = .ok (.goto 4, 3) := by decide +kernel
theorem dX11_isLawful_38 : decode cX11_isLawful 38 = .ok (.iconst 0, 1) := by decide +kernel
theorem dX11_isLawful_39 : decode cX11_isLawful 39 = .ok (.ireturn, 1) := by decide +kernel
theorem dX11_judge_0 : decode cX11_judge 0 = .ok (.aload_n 0, 1) := by decide +kernel
theorem dX11_judge_1 : decode cX11_judge 1 = .ok (.invokevirtual 254, 3) := by decide +kernel
theorem dX11_judge_4 : decode cX11_judge 4 = .ok (.aload_n 0, 1) := by decide +kernel
theorem dX11_judge_5 : decode cX11_judge 5 = .ok (.getfield 92, 3) := by decide +kernel
theorem dX11_judge_8 : decode cX11_judge 8 = .ok (.iconst 2, 1) := by decide +kernel
theorem dX11_judge_9 : decode cX11_judge 9 = .ok (.irem, 1) := by decide +kernel
theorem dX11_judge_10 : decode cX11_judge 10 = .ok (.iconst 1, 1) := by decide +kernel
theorem dX11_judge_11 : decode cX11_judge 11 = .ok (.if_icmp .ne 7, 3) := by decide +kernel
theorem dX11_judge_14 : decode cX11_judge 14 = .ok (.iconst 1, 1) := by decide +kernel
theorem dX11_judge_15 : decode cX11_judge 15 = .ok (.goto 4, 3) := by decide +kernel
theorem dX11_judge_18 : decode cX11_judge 18 = .ok (.iconst 0, 1) := by decide +kernel
theorem dX11_judge_19 : decode cX11_judge 19 = .ok (.istore_n 1, 1) := by decide +kernel
theorem dX11_judge_20 : decode cX11_judge 20 = .ok (.iconst 0, 1) := by decide +kernel
theorem dX11_judge_21 : decode cX11_judge 21 = .ok (.istore_n 2, 1) := by decide +kernel
theorem dX11_judge_22 : decode cX11_judge 22 = .ok (.iload_n 2, 1) := by decide +kernel
theorem dX11_judge_23 : decode cX11_judge 23 = .ok (.aload_n 0, 1) := by decide +kernel
theorem dX11_judge_24 : decode cX11_judge 24 = .ok (.getfield 92, 3) := by decide +kernel
theorem dX11_judge_27 : decode cX11_judge 27 = .ok (.if_icmp .ge 59, 3) := by decide +kernel
theorem dX11_judge_30 : decode cX11_judge 30 = .ok (.iload_n 1, 1) := by decide +kernel
theorem dX11_judge_31 : decode cX11_judge 31 = .ok (.ifCond .ne 43, 3) := by decide +kernel
theorem dX11_judge_34 : decode cX11_judge 34 = .ok (.iload_n 2, 1) := by decide +kernel
theorem dX11_judge_35 : decode cX11_judge 35 = .ok (.iconst 2, 1) := by decide +kernel
theorem dX11_judge_36 : decode cX11_judge 36 = .ok (.irem, 1) := by decide +kernel
theorem dX11_judge_37 : decode cX11_judge 37 = .ok (.ifCond .ne 22, 3) := by decide +kernel
theorem dX11_judge_40 : decode cX11_judge 40 = .ok (.aload_n 0, 1) := by decide +kernel
theorem dX11_judge_41 : decode cX11_judge 41 = .ok (.aload_n 0, 1) := by decide +kernel
theorem dX11_judge_42 : decode cX11_judge 42 = .ok (.getfield 29, 3) := by decide +kernel
theorem dX11_judge_45 : decode cX11_judge 45 = .ok (.iload_n 2, 1) := by decide +kernel
theorem dX11_judge_46 : decode cX11_judge 46 = .ok (.baload, 1) := by decide +kernel
theorem dX11_judge_47 : decode cX11_judge 47 = .ok (.bipush 97, 2) := by decide +kernel
theorem dX11_judge_49 : decode cX11_judge 49 = .ok (.isub, 1) := by decide +kernel
theorem dX11_judge_50 : decode cX11_judge 50 = .ok (.invokevirtual 293, 3) := by decide +kernel
theorem dX11_judge_53 : decode cX11_judge 53 = .ok (.ifCond .eq 25, 3) := by decide +kernel
theorem dX11_judge_56 : decode cX11_judge 56 = .ok (.goto 18, 3) := by decide +kernel
theorem dX11_judge_59 : decode cX11_judge 59 = .ok (.aload_n 0, 1) := by decide +kernel
theorem dX11_judge_60 : decode cX11_judge 60 = .ok (.getfield 29, 3) := by decide +kernel
theorem dX11_judge_63 : decode cX11_judge 63 = .ok (.iload_n 2, 1) := by decide +kernel
theorem dX11_judge_64 : decode cX11_judge 64 = .ok (.baload, 1) := by decide +kernel
theorem dX11_judge_65 : decode cX11_judge 65 = .ok (.bipush 48, 2) := by decide +kernel
theorem dX11_judge_67 : decode cX11_judge 67 = .ok (.isub, 1) := by decide +kernel
theorem dX11_judge_68 : decode cX11_judge 68 = .ok (.invokestatic 290, 3) := by decide +kernel
theorem dX11_judge_71 : decode cX11_judge 71 = .ok (.ifCond .eq 7, 3) := by decide +kernel
theorem dX11_judge_74 : decode cX11_judge 74 = .ok (.iconst 1, 1) := by decide +kernel
theorem dX11_judge_75 : decode cX11_judge 75 = .ok (.goto 4, 3) := by decide +kernel
theorem dX11_judge_78 : decode cX11_judge 78 = .ok (.iconst 0, 1) := by decide +kernel
theorem dX11_judge_79 : decode cX11_judge 79 = .ok (.istore_n 1, 1) := by decide +kernel
theorem dX11_judge_80 : decode cX11_judge 80 = .ok (.iinc 2 1, 3) := by decide +kernel
theorem dX11_judge_83 : decode cX11_judge 83 = .ok (.goto (-61), 3) := by decide +kernel
theorem dX11_judge_86 : decode cX11_judge 86 = .ok (.aload_n 0, 1) := by decide +kernel
theorem dX11_judge_87 : decode cX11_judge 87 = .ok (.iload_n 1, 1) := by decide +kernel
theorem dX11_judge_88 : decode cX11_judge 88 = .ok (.iconst 1, 1) := by decide +kernel
theorem dX11_judge_89 : decode cX11_judge 89 = .ok (.invokevirtual 265, 3) := by decide +kernel
theorem dX11_judge_92 : decode cX11_judge 92 = .ok (.ifCond .eq 5, 3) := by decide +kernel
theorem dX11_judge_95 : decode cX11_judge 95 = .ok (.iconst 0, 1) := by decide +kernel
theorem dX11_judge_96 : decode cX11_judge 96 = .ok (.ireturn, 1) := by decide +kernel
theorem dX11_judge_97 : decode cX11_judge 97 = .ok (.aload_n 0, 1) := by decide +kernel
theorem dX11_judge_98 : decode cX11_judge 98 = .ok (.invokevirtual 332, 3) := by decide +kernel
theorem dX11_judge_101 : decode cX11_judge 101 = .ok (.iconst (-1), 1) := by decide +kernel
theorem dX11_judge_102 : decode cX11_judge 102 = .ok (.istore_n 2, 1) := by decide +kernel
theorem dX11_judge_103 : decode cX11_judge 103 = .ok (.iconst 0, 1) := by decide +kernel
theorem dX11_judge_104 : decode cX11_judge 104 = .ok (.istore_n 3, 1) := by decide +kernel
theorem dX11_judge_105 : decode cX11_judge 105 = .ok (.iload_n 3, 1) := by decide +kernel
theorem dX11_judge_106 : decode cX11_judge 106 = .ok (.aload_n 0, 1) := by decide +kernel
theorem dX11_judge_107 : decode cX11_judge 107 = .ok (.getfield 92, 3) := by decide +kernel
theorem dX11_judge_110 : decode cX11_judge 110 = .ok (.iconst 2, 1) := by decide +kernel
theorem dX11_judge_111 : decode cX11_judge 111 = .ok (.idiv, 1) := by decide +kernel
theorem dX11_judge_112 : decode cX11_judge 112 = .ok (.if_icmp .ge 71, 3) := by decide +kernel
theorem dX11_judge_115 : decode cX11_judge 115 = .ok (.iload_n 2, 1) := by decide +kernel
theorem dX11_judge_116 : decode cX11_judge 116 = .ok (.ifCond .ge 67, 3) := by decide +kernel
theorem dX11_judge_119 : decode cX11_judge 119 = .ok (.aload_n 0, 1) := by decide +kernel
theorem dX11_judge_120 : decode cX11_judge 120 = .ok (.getfield 29, 3) := by decide +kernel
theorem dX11_judge_123 : decode cX11_judge 123 = .ok (.iconst 2, 1) := by decide +kernel
theorem dX11_judge_124 : decode cX11_judge 124 = .ok (.iload_n 3, 1) := by decide +kernel
theorem dX11_judge_125 : decode cX11_judge 125 = .ok (.imul, 1) := by decide +kernel
theorem dX11_judge_126 : decode cX11_judge 126 = .ok (.baload, 1) := by decide +kernel
theorem dX11_judge_127 : decode cX11_judge 127 = .ok (.bipush 97, 2) := by decide +kernel
theorem dX11_judge_129 : decode cX11_judge 129 = .ok (.isub, 1) := by decide +kernel
theorem dX11_judge_130 : decode cX11_judge 130 = .ok (.istore 4, 2) := by decide +kernel
theorem dX11_judge_132 : decode cX11_judge 132 = .ok (.aload_n 0, 1) := by decide +kernel
theorem dX11_judge_133 : decode cX11_judge 133 = .ok (.getfield 29, 3) := by decide +kernel
theorem dX11_judge_136 : decode cX11_judge 136 = .ok (.iconst 2, 1) := by decide +kernel
theorem dX11_judge_137 : decode cX11_judge 137 = .ok (.iload_n 3, 1) := by decide +kernel
theorem dX11_judge_138 : decode cX11_judge 138 = .ok (.imul, 1) := by decide +kernel
theorem dX11_judge_139 : decode cX11_judge 139 = .ok (.iconst 1, 1) := by decide +kernel
theorem dX11_judge_140 : decode cX11_judge 140 = .ok (.iadd, 1) := by decide +kernel
theorem dX11_judge_141 : decode cX11_judge 141 = .ok (.baload, 1) := by decide +kernel
theorem dX11_judge_142 : decode cX11_judge 142 = .ok (.bipush 48, 2) := by decide +kernel
theorem dX11_judge_144 : decode cX11_judge 144 = .ok (.isub, 1) := by decide +kernel
theorem dX11_judge_145 : decode cX11_judge 145 = .ok (.istore 5, 2) := by decide +kernel
theorem dX11_judge_147 : decode cX11_judge 147 = .ok (.aload_n 0, 1) := by decide +kernel
theorem dX11_judge_148 : decode cX11_judge 148 = .ok (.iload 4, 2) := by decide +kernel
theorem dX11_judge_150 : decode cX11_judge 150 = .ok (.iload 5, 2) := by decide +kernel
theorem dX11_judge_152 : decode cX11_judge 152 = .ok (.invokevirtual 341, 3) := by decide +kernel
theorem dX11_judge_155 : decode cX11_judge 155 = .ok (.ifCond .eq 20, 3) := by decide +kernel
theorem dX11_judge_158 : decode cX11_judge 158 = .ok (.aload_n 0, 1) := by decide +kernel
theorem dX11_judge_159 : decode cX11_judge 159 = .ok (.aload_n 0, 1) := by decide +kernel
theorem dX11_judge_160 : decode cX11_judge 160 = .ok (.iload 4, 2) := by decide +kernel
theorem dX11_judge_162 : decode cX11_judge 162 = .ok (.iconst 1, 1) := by decide +kernel
theorem dX11_judge_163 : decode cX11_judge 163 = .ok (.invokevirtual 151, 3) := by decide +kernel
theorem dX11_judge_166 : decode cX11_judge 166 = .ok (.iload 5, 2) := by decide +kernel
theorem dX11_judge_168 : decode cX11_judge 168 = .ok (.iconst (-1), 1) := by decide +kernel
theorem dX11_judge_169 : decode cX11_judge 169 = .ok (.invokevirtual 82, 3) := by decide +kernel
theorem dX11_judge_172 : decode cX11_judge 172 = .ok (.goto 5, 3) := by decide +kernel
theorem dX11_judge_175 : decode cX11_judge 175 = .ok (.iload_n 3, 1) := by decide +kernel
theorem dX11_judge_176 : decode cX11_judge 176 = .ok (.istore_n 2, 1) := by decide +kernel
theorem dX11_judge_177 : decode cX11_judge 177 = .ok (.iinc 3 1, 3) := by decide +kernel
theorem dX11_judge_180 : decode cX11_judge 180 = .ok (.goto (-75), 3) := by decide +kernel
theorem dX11_judge_183 : decode cX11_judge 183 = .ok (.aload_n 0, 1) := by decide +kernel
theorem dX11_judge_184 : decode cX11_judge 184 = .ok (.invokevirtual 335, 3) := by decide +kernel
theorem dX11_judge_187 : decode cX11_judge 187 = .ok (.iload_n 2, 1) := by decide +kernel
theorem dX11_judge_188 : decode cX11_judge 188 = .ok (.ireturn, 1) := by decide +kernel
theorem dX11_swap_0 : decode cX11_swap 0 = .ok (.aload_n 0, 1) := by decide +kernel
theorem dX11_swap_1 : decode cX11_swap 1 = .ok (.iconst 0, 1) := by decide +kernel
theorem dX11_swap_2 : decode cX11_swap 2 = .ok (.putfield 3, 3) := by decide +kernel
theorem dX11_swap_5 : decode cX11_swap 5 = .ok (.aload_n 0, 1) := by decide +kernel
theorem dX11_swap_6 : decode cX11_swap 6 = .ok (.aload_n 0, 1) := by decide +kernel
theorem dX11_swap_7 : decode cX11_swap 7 = .ok (.iload_n 1, 1) := by decide +kernel
theorem dX11_swap_8 : decode cX11_swap 8 = .ok (.invokevirtual 284, 3) := by decide +kernel
theorem dX11_swap_11 : decode cX11_swap 11 = .ok (.ifCond .ne 26, 3) := by decide +kernel
theorem dX11_swap_14 : decode cX11_swap 14 = .ok (.iload_n 2, 1) := by decide +kernel
theorem dX11_swap_15 : decode cX11_swap 15 = .ok (.invokestatic 290, 3) := by decide +kernel
theorem dX11_swap_18 : decode cX11_swap 18 = .ok (.ifCond .ne 19, 3) := by decide +kernel
theorem dX11_swap_21 : decode cX11_swap 21 = .ok (.aload_n 0, 1) := by decide +kernel
theorem dX11_swap_22 : decode cX11_swap 22 = .ok (.iload_n 3, 1) := by decide +kernel
theorem dX11_swap_23 : decode cX11_swap 23 = .ok (.invokevirtual 284, 3) := by decide +kernel
theorem dX11_swap_26 : decode cX11_swap 26 = .ok (.ifCond .ne 11, 3) := by decide +kernel
theorem dX11_swap_29 : decode cX11_swap 29 = .ok (.iload 4, 2) := by decide +kernel
theorem dX11_swap_31 : decode cX11_swap 31 = .ok (.invokestatic 290, 3) := by decide +kernel
theorem dX11_swap_34 : decode cX11_swap 34 = .ok (.ifCond .eq 7, 3) := by decide +kernel
theorem dX11_swap_37 : decode cX11_swap 37 = .ok (.iconst 1, 1) := by decide +kernel
theorem dX11_swap_38 : decode cX11_swap 38 = .ok (.goto 4, 3) := by decide +kernel
theorem dX11_swap_41 : decode cX11_swap 41 = .ok (.iconst 0, 1) := by decide +kernel
theorem dX11_swap_42 : decode cX11_swap 42 = .ok (.iconst 1, 1) := by decide +kernel
theorem dX11_swap_43 : decode cX11_swap 43 = .ok (.invokevirtual 265, 3) := by decide +kernel
theorem dX11_swap_46 : decode cX11_swap 46 = .ok (.ifCond .ne 32, 3) := by decide +kernel
theorem dX11_swap_49 : decode cX11_swap 49 = .ok (.aload_n 0, 1) := by decide +kernel
theorem dX11_swap_50 : decode cX11_swap 50 = .ok (.iload_n 1, 1) := by decide +kernel
theorem dX11_swap_51 : decode cX11_swap 51 = .ok (.iload_n 3, 1) := by decide +kernel
theorem dX11_swap_52 : decode cX11_swap 52 = .ok (.if_icmp .eq 14, 3) := by decide +kernel
theorem dX11_swap_55 : decode cX11_swap 55 = .ok (.iload_n 2, 1) := by decide +kernel
theorem dX11_swap_56 : decode cX11_swap 56 = .ok (.iload 4, 2) := by decide +kernel
theorem dX11_swap_58 : decode cX11_swap 58 = .ok (.if_icmp .eq 8, 3) := by decide +kernel
theorem dX11_swap_61 : decode cX11_swap 61 = .ok (.iload 5, 2) := by decide +kernel
theorem dX11_swap_63 : decode cX11_swap 63 = .ok (.ifCond .ge 7, 3) := by decide +kernel
theorem dX11_swap_66 : decode cX11_swap 66 = .ok (.iconst 1, 1) := by decide +kernel
theorem dX11_swap_67 : decode cX11_swap 67 = .ok (.goto 4, 3) := by decide +kernel
theorem dX11_swap_70 : decode cX11_swap 70 = .ok (.iconst 0, 1) := by decide +kernel
theorem dX11_swap_71 : decode cX11_swap 71 = .ok (.iconst 2, 1) := by decide +kernel
theorem dX11_swap_72 : decode cX11_swap 72 = .ok (.invokevirtual 265, 3) := by decide +kernel
theorem dX11_swap_75 : decode cX11_swap 75 = .ok (.ifCond .eq 5, 3) := by decide +kernel
theorem dX11_swap_78 : decode cX11_swap 78 = .ok (.iconst 0, 1) := by decide +kernel
theorem dX11_swap_79 : decode cX11_swap 79 = .ok (.ireturn, 1) := by decide +kernel
theorem dX11_swap_80 : decode cX11_swap 80 = .ok (.iload 5, 2) := by decide +kernel
theorem dX11_swap_82 : decode cX11_swap 82 = .ok (.aload_n 0, 1) := by decide +kernel
theorem dX11_swap_83 : decode cX11_swap 83 = .ok (.iload_n 1, 1) := by decide +kernel
theorem dX11_swap_84 : decode cX11_swap 84 = .ok (.iload_n 2, 1) := by decide +kernel
theorem dX11_swap_85 : decode cX11_swap 85 = .ok (.invokevirtual 72, 3) := by decide +kernel
theorem dX11_swap_88 : decode cX11_swap 88 = .ok (.aload_n 0, 1) := by decide +kernel
theorem dX11_swap_89 : decode cX11_swap 89 = .ok (.iload_n 3, 1) := by decide +kernel
theorem dX11_swap_90 : decode cX11_swap 90 = .ok (.iload 4, 2) := by decide +kernel
theorem dX11_swap_92 : decode cX11_swap 92 = .ok (.invokevirtual 72, 3) := by decide +kernel
theorem dX11_swap_95 : decode cX11_swap 95 = .ok (.invokestatic 63, 3) := by decide +kernel
theorem dX11_swap_98 : decode cX11_swap 98 = .ok (.invokestatic 63, 3) := by decide +kernel
theorem dX11_swap_101 : decode cX11_swap 101 = .ok (.istore 6, 2) := by decide +kernel
theorem dX11_swap_103 : decode cX11_swap 103 = .ok (.aload_n 0, 1) := by decide +kernel
theorem dX11_swap_104 : decode cX11_swap 104 = .ok (.iload_n 1, 1) := by decide +kernel
theorem dX11_swap_105 : decode cX11_swap 105 = .ok (.iload_n 2, 1) := by decide +kernel
theorem dX11_swap_106 : decode cX11_swap 106 = .ok (.iload 6, 2) := by decide +kernel
theorem dX11_swap_108 : decode cX11_swap 108 = .ok (.ineg, 1) := by decide +kernel
theorem dX11_swap_109 : decode cX11_swap 109 = .ok (.invokevirtual 82, 3) := by decide +kernel
theorem dX11_swap_112 : decode cX11_swap 112 = .ok (.aload_n 0, 1) := by decide +kernel
theorem dX11_swap_113 : decode cX11_swap 113 = .ok (.iload_n 1, 1) := by decide +kernel
theorem dX11_swap_114 : decode cX11_swap 114 = .ok (.iload 4, 2) := by decide +kernel
theorem dX11_swap_116 : decode cX11_swap 116 = .ok (.iload 6, 2) := by decide +kernel
theorem dX11_swap_118 : decode cX11_swap 118 = .ok (.invokevirtual 82, 3) := by decide +kernel
theorem dX11_swap_121 : decode cX11_swap 121 = .ok (.aload_n 0, 1) := by decide +kernel
theorem dX11_swap_122 : decode cX11_swap 122 = .ok (.iload_n 3, 1) := by decide +kernel
theorem dX11_swap_123 : decode cX11_swap 123 = .ok (.iload 4, 2) := by decide +kernel
theorem dX11_swap_125 : decode cX11_swap 125 = .ok (.iload 6, 2) := by decide +kernel
theorem dX11_swap_127 : decode cX11_swap 127 = .ok (.ineg, 1) := by decide +kernel
theorem dX11_swap_128 : decode cX11_swap 128 = .ok (.invokevirtual 82, 3) := by decide +kernel
theorem dX11_swap_131 : decode cX11_swap 131 = .ok (.aload_n 0, 1) := by decide +kernel
theorem dX11_swap_132 : decode cX11_swap 132 = .ok (.iload_n 3, 1) := by decide +kernel
theorem dX11_swap_133 : decode cX11_swap 133 = .ok (.iload_n 2, 1) := by decide +kernel
theorem dX11_swap_134 : decode cX11_swap 134 = .ok (.iload 6, 2) := by decide +kernel
theorem dX11_swap_136 : decode cX11_swap 136 = .ok (.invokevirtual 82, 3) := by decide +kernel
theorem dX11_swap_139 : decode cX11_swap 139 = .ok (.iload 6, 2) := by decide +kernel
theorem dX11_swap_141 : decode cX11_swap 141 = .ok (.ireturn, 1) := by decide +kernel
theorem dX11_drinkers_0 : decode cX11_drinkers 0 = .ok (.iconst 0, 1) := by decide +kernel
theorem dX11_drinkers_1 : decode cX11_drinkers 1 = .ok (.istore_n 2, 1) := by decide +kernel
theorem dX11_drinkers_2 : decode cX11_drinkers 2 = .ok (.iconst 0, 1) := by decide +kernel
theorem dX11_drinkers_3 : decode cX11_drinkers 3 = .ok (.istore_n 3, 1) := by decide +kernel
theorem dX11_drinkers_4 : decode cX11_drinkers 4 = .ok (.iload_n 3, 1) := by decide +kernel
theorem dX11_drinkers_5 : decode cX11_drinkers 5 = .ok (.aload_n 0, 1) := by decide +kernel
theorem dX11_drinkers_6 : decode cX11_drinkers 6 = .ok (.invokevirtual 60, 3) := by decide +kernel
theorem dX11_drinkers_9 : decode cX11_drinkers 9 = .ok (.if_icmp .ge 30, 3) := by decide +kernel
theorem dX11_drinkers_12 : decode cX11_drinkers 12 = .ok (.iload_n 2, 1) := by decide +kernel
theorem dX11_drinkers_13 : decode cX11_drinkers 13 = .ok (.aload_n 0, 1) := by decide +kernel
theorem dX11_drinkers_14 : decode cX11_drinkers 14 = .ok (.iload_n 3, 1) := by decide +kernel
theorem dX11_drinkers_15 : decode cX11_drinkers 15 = .ok (.iconst 4, 1) := by decide +kernel
theorem dX11_drinkers_16 : decode cX11_drinkers 16 = .ok (.iload_n 1, 1) := by decide +kernel
theorem dX11_drinkers_17 : decode cX11_drinkers 17 = .ok (.iadd, 1) := by decide +kernel
theorem dX11_drinkers_18 : decode cX11_drinkers 18 = .ok (.invokevirtual 151, 3) := by decide +kernel
theorem dX11_drinkers_21 : decode cX11_drinkers 21 = .ok (.ifCond .le 9, 3) := by decide +kernel
theorem dX11_drinkers_24 : decode cX11_drinkers 24 = .ok (.iconst 1, 1) := by decide +kernel
theorem dX11_drinkers_25 : decode cX11_drinkers 25 = .ok (.iload_n 3, 1) := by decide +kernel
theorem dX11_drinkers_26 : decode cX11_drinkers 26 = .ok (.ishl, 1) := by decide +kernel
theorem dX11_drinkers_27 : decode cX11_drinkers 27 = .ok (.goto 4, 3) := by decide +kernel
theorem dX11_drinkers_30 : decode cX11_drinkers 30 = .ok (.iconst 0, 1) := by decide +kernel
theorem dX11_drinkers_31 : decode cX11_drinkers 31 = .ok (.ior, 1) := by decide +kernel
theorem dX11_drinkers_32 : decode cX11_drinkers 32 = .ok (.istore_n 2, 1) := by decide +kernel
theorem dX11_drinkers_33 : decode cX11_drinkers 33 = .ok (.iinc 3 1, 3) := by decide +kernel
theorem dX11_drinkers_36 : decode cX11_drinkers 36 = .ok (.goto (-32), 3) := by decide +kernel
theorem dX11_drinkers_39 : decode cX11_drinkers 39 = .ok (.iload_n 2, 1) := by decide +kernel
theorem dX11_drinkers_40 : decode cX11_drinkers 40 = .ok (.ireturn, 1) := by decide +kernel
theorem dX11_foul_0 : decode cX11_foul 0 = .ok (.aload_n 0, 1) := by decide +kernel
theorem dX11_foul_1 : decode cX11_foul 1 = .ok (.iconst 0, 1) := by decide +kernel
theorem dX11_foul_2 : decode cX11_foul 2 = .ok (.putfield 3, 3) := by decide +kernel
theorem dX11_foul_5 : decode cX11_foul 5 = .ok (.iload_n 1, 1) := by decide +kernel
theorem dX11_foul_6 : decode cX11_foul 6 = .ok (.iconst 1, 1) := by decide +kernel
theorem dX11_foul_7 : decode cX11_foul 7 = .ok (.aload_n 0, 1) := by decide +kernel
theorem dX11_foul_8 : decode cX11_foul 8 = .ok (.invokevirtual 60, 3) := by decide +kernel
theorem dX11_foul_11 : decode cX11_foul 11 = .ok (.ishl, 1) := by decide +kernel
theorem dX11_foul_12 : decode cX11_foul 12 = .ok (.iconst 1, 1) := by decide +kernel
theorem dX11_foul_13 : decode cX11_foul 13 = .ok (.isub, 1) := by decide +kernel
theorem dX11_foul_14 : decode cX11_foul 14 = .ok (.iand, 1) := by decide +kernel
theorem dX11_foul_15 : decode cX11_foul 15 = .ok (.istore_n 2, 1) := by decide +kernel
theorem dX11_foul_16 : decode cX11_foul 16 = .ok (.iconst 0, 1) := by decide +kernel
theorem dX11_foul_17 : decode cX11_foul 17 = .ok (.istore_n 3, 1) := by decide +kernel
theorem dX11_foul_18 : decode cX11_foul 18 = .ok (.iconst 0, 1) := by decide +kernel
theorem dX11_foul_19 : decode cX11_foul 19 = .ok (.istore 4, 2) := by decide +kernel
theorem dX11_foul_21 : decode cX11_foul 21 = .ok (.iload 4, 2) := by decide +kernel
theorem dX11_foul_23 : decode cX11_foul 23 = .ok (.bipush 30, 2) := by decide +kernel
theorem dX11_foul_25 : decode cX11_foul 25 = .ok (.if_icmp .ge 39, 3) := by decide +kernel
theorem dX11_foul_28 : decode cX11_foul 28 = .ok (.iload_n 3, 1) := by decide +kernel
theorem dX11_foul_29 : decode cX11_foul 29 = .ok (.aload_n 0, 1) := by decide +kernel
theorem dX11_foul_30 : decode cX11_foul 30 = .ok (.iload 4, 2) := by decide +kernel
theorem dX11_foul_32 : decode cX11_foul 32 = .ok (.invokevirtual 344, 3) := by decide +kernel
theorem dX11_foul_35 : decode cX11_foul 35 = .ok (.ifCond .eq 20, 3) := by decide +kernel
theorem dX11_foul_38 : decode cX11_foul 38 = .ok (.aload_n 0, 1) := by decide +kernel
theorem dX11_foul_39 : decode cX11_foul 39 = .ok (.iload 4, 2) := by decide +kernel
theorem dX11_foul_41 : decode cX11_foul 41 = .ok (.invokevirtual 344, 3) := by decide +kernel
theorem dX11_foul_44 : decode cX11_foul 44 = .ok (.iload_n 2, 1) := by decide +kernel
theorem dX11_foul_45 : decode cX11_foul 45 = .ok (.if_icmp .ne 10, 3) := by decide +kernel
theorem dX11_foul_48 : decode cX11_foul 48 = .ok (.iconst 1, 1) := by decide +kernel
theorem dX11_foul_49 : decode cX11_foul 49 = .ok (.iload 4, 2) := by decide +kernel
theorem dX11_foul_51 : decode cX11_foul 51 = .ok (.ishl, 1) := by decide +kernel
theorem dX11_foul_52 : decode cX11_foul 52 = .ok (.goto 4, 3) := by decide +kernel
theorem dX11_foul_55 : decode cX11_foul 55 = .ok (.iconst 0, 1) := by decide +kernel
theorem dX11_foul_56 : decode cX11_foul 56 = .ok (.ior, 1) := by decide +kernel
theorem dX11_foul_57 : decode cX11_foul 57 = .ok (.istore_n 3, 1) := by decide +kernel
theorem dX11_foul_58 : decode cX11_foul 58 = .ok (.iinc 4 1, 3) := by decide +kernel
theorem dX11_foul_61 : decode cX11_foul 61 = .ok (.goto (-40), 3) := by decide +kernel
theorem dX11_foul_64 : decode cX11_foul 64 = .ok (.iload_n 3, 1) := by decide +kernel
theorem dX11_foul_65 : decode cX11_foul 65 = .ok (.ireturn, 1) := by decide +kernel
theorem dX11_isBlamed_0 : decode cX11_isBlamed 0 = .ok (.aload_n 0, 1) := by decide +kernel
theorem dX11_isBlamed_1 : decode cX11_isBlamed 1 = .ok (.iload_n 2, 1) := by decide +kernel
theorem dX11_isBlamed_2 : decode cX11_isBlamed 2 = .ok (.invokevirtual 344, 3) := by decide +kernel
theorem dX11_isBlamed_5 : decode cX11_isBlamed 5 = .ok (.iload_n 3, 1) := by decide +kernel
theorem dX11_isBlamed_6 : decode cX11_isBlamed 6 = .ok (.ifCond .ge 7, 3) := by decide +kernel
theorem dX11_isBlamed_9 : decode cX11_isBlamed 9 = .ok (.iconst 0, 1) := by decide +kernel
theorem dX11_isBlamed_10 : decode cX11_isBlamed 10 = .ok (.goto 8, 3) := by decide +kernel
theorem dX11_isBlamed_13 : decode cX11_isBlamed 13 = .ok (.aload_n 0, 1) := by decide +kernel
theorem dX11_isBlamed_14 : decode cX11_isBlamed 14 = .ok (.iload_n 3, 1) := by decide +kernel
theorem dX11_isBlamed_15 : decode cX11_isBlamed 15 = .ok (.invokevirtual 344, 3) := by decide +kernel
theorem dX11_isBlamed_18 : decode cX11_isBlamed 18 = .ok (.ior, 1) := by decide +kernel
theorem dX11_isBlamed_19 : decode cX11_isBlamed 19 = .ok (.iload 4, 2) := by decide +kernel
theorem dX11_isBlamed_21 : decode cX11_isBlamed 21 = .ok (.ifCond .ge 7, 3) := by decide +kernel
theorem dX11_isBlamed_24 : decode cX11_isBlamed 24 = .ok (.iconst 0, 1) := by decide +kernel
theorem dX11_isBlamed_25 : decode cX11_isBlamed 25 = .ok (.goto 9, 3) := by decide +kernel
theorem dX11_isBlamed_28 : decode cX11_isBlamed 28 = .ok (.aload_n 0, 1) := by decide +kernel
theorem dX11_isBlamed_29 : decode cX11_isBlamed 29 = .ok (.iload 4, 2) := by decide +kernel
theorem dX11_isBlamed_31 : decode cX11_isBlamed 31 = .ok (.invokevirtual 344, 3) := by decide +kernel
theorem dX11_isBlamed_34 : decode cX11_isBlamed 34 = .ok (.ior, 1) := by decide +kernel
theorem dX11_isBlamed_35 : decode cX11_isBlamed 35 = .ok (.istore 5, 2) := by decide +kernel
theorem dX11_isBlamed_37 : decode cX11_isBlamed 37 = .ok (.iload 5, 2) := by decide +kernel
theorem dX11_isBlamed_39 : decode cX11_isBlamed 39 = .ok (.iload_n 1, 1) := by decide +kernel
theorem dX11_isBlamed_40 : decode cX11_isBlamed 40 = .ok (.if_icmp .ne 7, 3) := by decide +kernel
theorem dX11_isBlamed_43 : decode cX11_isBlamed 43 = .ok (.iconst 1, 1) := by decide +kernel
theorem dX11_isBlamed_44 : decode cX11_isBlamed 44 = .ok (.goto 4, 3) := by decide +kernel
theorem dX11_isBlamed_47 : decode cX11_isBlamed 47 = .ok (.iconst 0, 1) := by decide +kernel
theorem dX11_isBlamed_48 : decode cX11_isBlamed 48 = .ok (.ireturn, 1) := by decide +kernel
theorem dX11_fewest_0 : decode cX11_fewest 0 = .ok (.aload_n 0, 1) := by decide +kernel
theorem dX11_fewest_1 : decode cX11_fewest 1 = .ok (.iconst 0, 1) := by decide +kernel
theorem dX11_fewest_2 : decode cX11_fewest 2 = .ok (.putfield 3, 3) := by decide +kernel
theorem dX11_fewest_5 : decode cX11_fewest 5 = .ok (.iload_n 1, 1) := by decide +kernel
theorem dX11_fewest_6 : decode cX11_fewest 6 = .ok (.iconst 1, 1) := by decide +kernel
theorem dX11_fewest_7 : decode cX11_fewest 7 = .ok (.aload_n 0, 1) := by decide +kernel
theorem dX11_fewest_8 : decode cX11_fewest 8 = .ok (.invokevirtual 60, 3) := by decide +kernel
theorem dX11_fewest_11 : decode cX11_fewest 11 = .ok (.ishl, 1) := by decide +kernel
theorem dX11_fewest_12 : decode cX11_fewest 12 = .ok (.iconst 1, 1) := by decide +kernel
theorem dX11_fewest_13 : decode cX11_fewest 13 = .ok (.isub, 1) := by decide +kernel
theorem dX11_fewest_14 : decode cX11_fewest 14 = .ok (.iand, 1) := by decide +kernel
theorem dX11_fewest_15 : decode cX11_fewest 15 = .ok (.istore_n 2, 1) := by decide +kernel
theorem dX11_fewest_16 : decode cX11_fewest 16 = .ok (.iload_n 2, 1) := by decide +kernel
theorem dX11_fewest_17 : decode cX11_fewest 17 = .ok (.ifCond .ne 5, 3) := by decide +kernel
theorem dX11_fewest_20 : decode cX11_fewest 20 = .ok (.iconst 0, 1) := by decide +kernel
theorem dX11_fewest_21 : decode cX11_fewest 21 = .ok (.ireturn, 1) := by decide +kernel
theorem dX11_fewest_22 : decode cX11_fewest 22 = .ok (.iconst 0, 1) := by decide +kernel
theorem dX11_fewest_23 : decode cX11_fewest 23 = .ok (.istore_n 3, 1) := by decide +kernel
theorem dX11_fewest_24 : decode cX11_fewest 24 = .ok (.iload_n 3, 1) := by decide +kernel
theorem dX11_fewest_25 : decode cX11_fewest 25 = .ok (.bipush 30, 2) := by decide +kernel
theorem dX11_fewest_27 : decode cX11_fewest 27 = .ok (.if_icmp .ge 24, 3) := by decide +kernel
theorem dX11_fewest_30 : decode cX11_fewest 30 = .ok (.aload_n 0, 1) := by decide +kernel
theorem dX11_fewest_31 : decode cX11_fewest 31 = .ok (.iload_n 2, 1) := by decide +kernel
theorem dX11_fewest_32 : decode cX11_fewest 32 = .ok (.iload_n 3, 1) := by decide +kernel
theorem dX11_fewest_33 : decode cX11_fewest 33 = .ok (.iconst (-1), 1) := by decide +kernel
theorem dX11_fewest_34 : decode cX11_fewest 34 = .ok (.iconst (-1), 1) := by decide +kernel
theorem dX11_fewest_35 : decode cX11_fewest 35 = .ok (.invokevirtual 347, 3) := by decide +kernel
theorem dX11_fewest_38 : decode cX11_fewest 38 = .ok (.ifCond .eq 7, 3) := by decide +kernel
theorem dX11_fewest_41 : decode cX11_fewest 41 = .ok (.iconst 1, 1) := by decide +kernel
theorem dX11_fewest_42 : decode cX11_fewest 42 = .ok (.iload_n 3, 1) := by decide +kernel
theorem dX11_fewest_43 : decode cX11_fewest 43 = .ok (.ishl, 1) := by decide +kernel
theorem dX11_fewest_44 : decode cX11_fewest 44 = .ok (.ireturn, 1) := by decide +kernel
theorem dX11_fewest_45 : decode cX11_fewest 45 = .ok (.iinc 3 1, 3) := by decide +kernel
theorem dX11_fewest_48 : decode cX11_fewest 48 = .ok (.goto (-24), 3) := by decide +kernel
theorem dX11_fewest_51 : decode cX11_fewest 51 = .ok (.iconst 1, 1) := by decide +kernel
theorem dX11_fewest_52 : decode cX11_fewest 52 = .ok (.istore_n 3, 1) := by decide +kernel
theorem dX11_fewest_53 : decode cX11_fewest 53 = .ok (.iload_n 3, 1) := by decide +kernel
theorem dX11_fewest_54 : decode cX11_fewest 54 = .ok (.bipush 30, 2) := by decide +kernel
theorem dX11_fewest_56 : decode cX11_fewest 56 = .ok (.if_icmp .ge 45, 3) := by decide +kernel
theorem dX11_fewest_59 : decode cX11_fewest 59 = .ok (.iconst 0, 1) := by decide +kernel
theorem dX11_fewest_60 : decode cX11_fewest 60 = .ok (.istore 4, 2) := by decide +kernel
theorem dX11_fewest_62 : decode cX11_fewest 62 = .ok (.iload 4, 2) := by decide +kernel
theorem dX11_fewest_64 : decode cX11_fewest 64 = .ok (.iload_n 3, 1) := by decide +kernel
theorem dX11_fewest_65 : decode cX11_fewest 65 = .ok (.if_icmp .ge 30, 3) := by decide +kernel
theorem dX11_fewest_68 : decode cX11_fewest 68 = .ok (.aload_n 0, 1) := by decide +kernel
theorem dX11_fewest_69 : decode cX11_fewest 69 = .ok (.iload_n 2, 1) := by decide +kernel
theorem dX11_fewest_70 : decode cX11_fewest 70 = .ok (.iload_n 3, 1) := by decide +kernel
theorem dX11_fewest_71 : decode cX11_fewest 71 = .ok (.iload 4, 2) := by decide +kernel
theorem dX11_fewest_73 : decode cX11_fewest 73 = .ok (.iconst (-1), 1) := by decide +kernel
theorem dX11_fewest_74 : decode cX11_fewest 74 = .ok (.invokevirtual 347, 3) := by decide +kernel
theorem dX11_fewest_77 : decode cX11_fewest 77 = .ok (.ifCond .eq 12, 3) := by decide +kernel
theorem dX11_fewest_80 : decode cX11_fewest 80 = .ok (.iconst 1, 1) := by decide +kernel
theorem dX11_fewest_81 : decode cX11_fewest 81 = .ok (.iload_n 3, 1) := by decide +kernel
theorem dX11_fewest_82 : decode cX11_fewest 82 = .ok (.ishl, 1) := by decide +kernel
theorem dX11_fewest_83 : decode cX11_fewest 83 = .ok (.iconst 1, 1) := by decide +kernel
theorem dX11_fewest_84 : decode cX11_fewest 84 = .ok (.iload 4, 2) := by decide +kernel
theorem dX11_fewest_86 : decode cX11_fewest 86 = .ok (.ishl, 1) := by decide +kernel
theorem dX11_fewest_87 : decode cX11_fewest 87 = .ok (.ior, 1) := by decide +kernel
theorem dX11_fewest_88 : decode cX11_fewest 88 = .ok (.ireturn, 1) := by decide +kernel
theorem dX11_fewest_89 : decode cX11_fewest 89 = .ok (.iinc 4 1, 3) := by decide +kernel
theorem dX11_fewest_92 : decode cX11_fewest 92 = .ok (.goto (-30), 3) := by decide +kernel
theorem dX11_fewest_95 : decode cX11_fewest 95 = .ok (.iinc 3 1, 3) := by decide +kernel
theorem dX11_fewest_98 : decode cX11_fewest 98 = .ok (.goto (-45), 3) := by decide +kernel
theorem dX11_fewest_101 : decode cX11_fewest 101 = .ok (.iconst 2, 1) := by decide +kernel
theorem dX11_fewest_102 : decode cX11_fewest 102 = .ok (.istore_n 3, 1) := by decide +kernel
theorem dX11_fewest_103 : decode cX11_fewest 103 = .ok (.iload_n 3, 1) := by decide +kernel
theorem dX11_fewest_104 : decode cX11_fewest 104 = .ok (.bipush 30, 2) := by decide +kernel
theorem dX11_fewest_106 : decode cX11_fewest 106 = .ok (.if_icmp .ge 67, 3) := by decide +kernel
theorem dX11_fewest_109 : decode cX11_fewest 109 = .ok (.iconst 1, 1) := by decide +kernel
theorem dX11_fewest_110 : decode cX11_fewest 110 = .ok (.istore 4, 2) := by decide +kernel
theorem dX11_fewest_112 : decode cX11_fewest 112 = .ok (.iload 4, 2) := by decide +kernel
theorem dX11_fewest_114 : decode cX11_fewest 114 = .ok (.iload_n 3, 1) := by decide +kernel
theorem dX11_fewest_115 : decode cX11_fewest 115 = .ok (.if_icmp .ge 52, 3) := by decide +kernel
theorem dX11_fewest_118 : decode cX11_fewest 118 = .ok (.iconst 0, 1) := by decide +kernel
theorem dX11_fewest_119 : decode cX11_fewest 119 = .ok (.istore 5, 2) := by decide +kernel
theorem dX11_fewest_121 : decode cX11_fewest 121 = .ok (.iload 5, 2) := by decide +kernel
theorem dX11_fewest_123 : decode cX11_fewest 123 = .ok (.iload 4, 2) := by decide +kernel
theorem dX11_fewest_125 : decode cX11_fewest 125 = .ok (.if_icmp .ge 36, 3) := by decide +kernel
theorem dX11_fewest_128 : decode cX11_fewest 128 = .ok (.aload_n 0, 1) := by decide +kernel
theorem dX11_fewest_129 : decode cX11_fewest 129 = .ok (.iload_n 2, 1) := by decide +kernel
theorem dX11_fewest_130 : decode cX11_fewest 130 = .ok (.iload_n 3, 1) := by decide +kernel
theorem dX11_fewest_131 : decode cX11_fewest 131 = .ok (.iload 4, 2) := by decide +kernel
theorem dX11_fewest_133 : decode cX11_fewest 133 = .ok (.iload 5, 2) := by decide +kernel
theorem dX11_fewest_135 : decode cX11_fewest 135 = .ok (.invokevirtual 347, 3) := by decide +kernel
theorem dX11_fewest_138 : decode cX11_fewest 138 = .ok (.ifCond .eq 17, 3) := by decide +kernel
theorem dX11_fewest_141 : decode cX11_fewest 141 = .ok (.iconst 1, 1) := by decide +kernel
theorem dX11_fewest_142 : decode cX11_fewest 142 = .ok (.iload_n 3, 1) := by decide +kernel
theorem dX11_fewest_143 : decode cX11_fewest 143 = .ok (.ishl, 1) := by decide +kernel
theorem dX11_fewest_144 : decode cX11_fewest 144 = .ok (.iconst 1, 1) := by decide +kernel
theorem dX11_fewest_145 : decode cX11_fewest 145 = .ok (.iload 4, 2) := by decide +kernel
theorem dX11_fewest_147 : decode cX11_fewest 147 = .ok (.ishl, 1) := by decide +kernel
theorem dX11_fewest_148 : decode cX11_fewest 148 = .ok (.ior, 1) := by decide +kernel
theorem dX11_fewest_149 : decode cX11_fewest 149 = .ok (.iconst 1, 1) := by decide +kernel
theorem dX11_fewest_150 : decode cX11_fewest 150 = .ok (.iload 5, 2) := by decide +kernel
theorem dX11_fewest_152 : decode cX11_fewest 152 = .ok (.ishl, 1) := by decide +kernel
theorem dX11_fewest_153 : decode cX11_fewest 153 = .ok (.ior, 1) := by decide +kernel
theorem dX11_fewest_154 : decode cX11_fewest 154 = .ok (.ireturn, 1) := by decide +kernel
theorem dX11_fewest_155 : decode cX11_fewest 155 = .ok (.iinc 5 1, 3) := by decide +kernel
theorem dX11_fewest_158 : decode cX11_fewest 158 = .ok (.goto (-37), 3) := by decide +kernel
theorem dX11_fewest_161 : decode cX11_fewest 161 = .ok (.iinc 4 1, 3) := by decide +kernel
theorem dX11_fewest_164 : decode cX11_fewest 164 = .ok (.goto (-52), 3) := by decide +kernel
theorem dX11_fewest_167 : decode cX11_fewest 167 = .ok (.iinc 3 1, 3) := by decide +kernel
theorem dX11_fewest_170 : decode cX11_fewest 170 = .ok (.goto (-67), 3) := by decide +kernel
theorem dX11_fewest_173 : decode cX11_fewest 173 = .ok (.iconst (-1), 1) := by decide +kernel
theorem dX11_fewest_174 : decode cX11_fewest 174 = .ok (.ireturn, 1) := by decide +kernel
theorem dX11_look_0 : decode cX11_look 0 = .ok (.aload_n 0, 1) := by decide +kernel
theorem dX11_look_1 : decode cX11_look 1 = .ok (.invokevirtual 254, 3) := by decide +kernel
theorem dX11_look_4 : decode cX11_look 4 = .ok (.aload_n 0, 1) := by decide +kernel
theorem dX11_look_5 : decode cX11_look 5 = .ok (.aload_n 0, 1) := by decide +kernel
theorem dX11_look_6 : decode cX11_look 6 = .ok (.getfield 92, 3) := by decide +kernel
theorem dX11_look_9 : decode cX11_look 9 = .ok (.aload_n 0, 1) := by decide +kernel
theorem dX11_look_10 : decode cX11_look 10 = .ok (.invokevirtual 52, 3) := by decide +kernel
theorem dX11_look_13 : decode cX11_look 13 = .ok (.if_icmp .eq 7, 3) := by decide +kernel
theorem dX11_look_16 : decode cX11_look 16 = .ok (.iconst 1, 1) := by decide +kernel
theorem dX11_look_17 : decode cX11_look 17 = .ok (.goto 4, 3) := by decide +kernel
theorem dX11_look_20 : decode cX11_look 20 = .ok (.iconst 0, 1) := by decide +kernel
theorem dX11_look_21 : decode cX11_look 21 = .ok (.iconst 1, 1) := by decide +kernel
theorem dX11_look_22 : decode cX11_look 22 = .ok (.invokevirtual 265, 3) := by decide +kernel
theorem dX11_look_25 : decode cX11_look 25 = .ok (.ifCond .eq 5, 3) := by decide +kernel
theorem dX11_look_28 : decode cX11_look 28 = .ok (.iconst 0, 1) := by decide +kernel
theorem dX11_look_29 : decode cX11_look 29 = .ok (.ireturn, 1) := by decide +kernel
theorem dX11_look_30 : decode cX11_look 30 = .ok (.iconst (-1), 1) := by decide +kernel
theorem dX11_look_31 : decode cX11_look 31 = .ok (.istore_n 1, 1) := by decide +kernel
theorem dX11_look_32 : decode cX11_look 32 = .ok (.iconst (-1), 1) := by decide +kernel
theorem dX11_look_33 : decode cX11_look 33 = .ok (.istore_n 2, 1) := by decide +kernel
theorem dX11_look_34 : decode cX11_look 34 = .ok (.iconst 0, 1) := by decide +kernel
theorem dX11_look_35 : decode cX11_look 35 = .ok (.istore_n 3, 1) := by decide +kernel
theorem dX11_look_36 : decode cX11_look 36 = .ok (.iconst 0, 1) := by decide +kernel
theorem dX11_look_37 : decode cX11_look 37 = .ok (.istore 4, 2) := by decide +kernel
theorem dX11_look_39 : decode cX11_look 39 = .ok (.iconst 1, 1) := by decide +kernel
theorem dX11_look_40 : decode cX11_look 40 = .ok (.istore 5, 2) := by decide +kernel
theorem dX11_look_42 : decode cX11_look 42 = .ok (.iconst 0, 1) := by decide +kernel
theorem dX11_look_43 : decode cX11_look 43 = .ok (.istore 6, 2) := by decide +kernel
theorem dX11_look_45 : decode cX11_look 45 = .ok (.iload 6, 2) := by decide +kernel
theorem dX11_look_47 : decode cX11_look 47 = .ok (.aload_n 0, 1) := by decide +kernel
theorem dX11_look_48 : decode cX11_look 48 = .ok (.invokevirtual 52, 3) := by decide +kernel
theorem dX11_look_51 : decode cX11_look 51 = .ok (.if_icmp .ge 114, 3) := by decide +kernel
theorem dX11_look_54 : decode cX11_look 54 = .ok (.aload_n 0, 1) := by decide +kernel
theorem dX11_look_55 : decode cX11_look 55 = .ok (.getfield 29, 3) := by decide +kernel
theorem dX11_look_58 : decode cX11_look 58 = .ok (.iload 6, 2) := by decide +kernel
theorem dX11_look_60 : decode cX11_look 60 = .ok (.baload, 1) := by decide +kernel
theorem dX11_look_61 : decode cX11_look 61 = .ok (.sipush 255, 3) := by decide +kernel
theorem dX11_look_64 : decode cX11_look 64 = .ok (.iand, 1) := by decide +kernel
theorem dX11_look_65 : decode cX11_look 65 = .ok (.aload_n 0, 1) := by decide +kernel
theorem dX11_look_66 : decode cX11_look 66 = .ok (.iload 6, 2) := by decide +kernel
theorem dX11_look_68 : decode cX11_look 68 = .ok (.invokevirtual 75, 3) := by decide +kernel
theorem dX11_look_71 : decode cX11_look 71 = .ok (.isub, 1) := by decide +kernel
theorem dX11_look_72 : decode cX11_look 72 = .ok (.aload_n 0, 1) := by decide +kernel
theorem dX11_look_73 : decode cX11_look 73 = .ok (.iload 6, 2) := by decide +kernel
theorem dX11_look_75 : decode cX11_look 75 = .ok (.iconst 1, 1) := by decide +kernel
theorem dX11_look_76 : decode cX11_look 76 = .ok (.invokevirtual 69, 3) := by decide +kernel
theorem dX11_look_79 : decode cX11_look 79 = .ok (.iconst 3, 1) := by decide +kernel
theorem dX11_look_80 : decode cX11_look 80 = .ok (.if_icmp .ne 16, 3) := by decide +kernel
theorem dX11_look_83 : decode cX11_look 83 = .ok (.aload_n 0, 1) := by decide +kernel
theorem dX11_look_84 : decode cX11_look 84 = .ok (.iload 6, 2) := by decide +kernel
theorem dX11_look_86 : decode cX11_look 86 = .ok (.invokevirtual 75, 3) := by decide +kernel
theorem dX11_look_89 : decode cX11_look 89 = .ok (.ifCond .le 7, 3) := by decide +kernel
theorem dX11_look_92 : decode cX11_look 92 = .ok (.iconst 1, 1) := by decide +kernel
theorem dX11_look_93 : decode cX11_look 93 = .ok (.goto 4, 3) := by decide +kernel
theorem dX11_look_96 : decode cX11_look 96 = .ok (.iconst 0, 1) := by decide +kernel
theorem dX11_look_97 : decode cX11_look 97 = .ok (.iadd, 1) := by decide +kernel
theorem dX11_look_98 : decode cX11_look 98 = .ok (.istore 7, 2) := by decide +kernel
theorem dX11_look_100 : decode cX11_look 100 = .ok (.iload 7, 2) := by decide +kernel
theorem dX11_look_102 : decode cX11_look 102 = .ok (.ifCond .ge 29, 3) := by decide +kernel
theorem dX11_look_105 : decode cX11_look 105 = .ok (.iload 5, 2) := by decide +kernel
theorem dX11_look_107 : decode cX11_look 107 = .ok (.ifCond .eq 11, 3) := by decide +kernel
theorem dX11_look_110 : decode cX11_look 110 = .ok (.iload_n 1, 1) := by decide +kernel
theorem dX11_look_111 : decode cX11_look 111 = .ok (.ifCond .ge 7, 3) := by decide +kernel
theorem dX11_look_114 : decode cX11_look 114 = .ok (.iconst 1, 1) := by decide +kernel
theorem dX11_look_115 : decode cX11_look 115 = .ok (.goto 4, 3) := by decide +kernel
theorem dX11_look_118 : decode cX11_look 118 = .ok (.iconst 0, 1) := by decide +kernel
theorem dX11_look_119 : decode cX11_look 119 = .ok (.istore 5, 2) := by decide +kernel
theorem dX11_look_121 : decode cX11_look 121 = .ok (.iload 6, 2) := by decide +kernel
theorem dX11_look_123 : decode cX11_look 123 = .ok (.istore_n 1, 1) := by decide +kernel
theorem dX11_look_124 : decode cX11_look 124 = .ok (.iload 7, 2) := by decide +kernel
theorem dX11_look_126 : decode cX11_look 126 = .ok (.ineg, 1) := by decide +kernel
theorem dX11_look_127 : decode cX11_look 127 = .ok (.istore_n 3, 1) := by decide +kernel
theorem dX11_look_128 : decode cX11_look 128 = .ok (.goto 31, 3) := by decide +kernel
theorem dX11_look_131 : decode cX11_look 131 = .ok (.iload 7, 2) := by decide +kernel
theorem dX11_look_133 : decode cX11_look 133 = .ok (.ifCond .le 26, 3) := by decide +kernel
theorem dX11_look_136 : decode cX11_look 136 = .ok (.iload 5, 2) := by decide +kernel
theorem dX11_look_138 : decode cX11_look 138 = .ok (.ifCond .eq 11, 3) := by decide +kernel
theorem dX11_look_141 : decode cX11_look 141 = .ok (.iload_n 2, 1) := by decide +kernel
theorem dX11_look_142 : decode cX11_look 142 = .ok (.ifCond .ge 7, 3) := by decide +kernel
theorem dX11_look_145 : decode cX11_look 145 = .ok (.iconst 1, 1) := by decide +kernel
theorem dX11_look_146 : decode cX11_look 146 = .ok (.goto 4, 3) := by decide +kernel
theorem dX11_look_149 : decode cX11_look 149 = .ok (.iconst 0, 1) := by decide +kernel
theorem dX11_look_150 : decode cX11_look 150 = .ok (.istore 5, 2) := by decide +kernel
theorem dX11_look_152 : decode cX11_look 152 = .ok (.iload 6, 2) := by decide +kernel
theorem dX11_look_154 : decode cX11_look 154 = .ok (.istore_n 2, 1) := by decide +kernel
theorem dX11_look_155 : decode cX11_look 155 = .ok (.iload 7, 2) := by decide +kernel
theorem dX11_look_157 : decode cX11_look 157 = .ok (.istore 4, 2) := by decide +kernel
theorem dX11_look_159 : decode cX11_look 159 = .ok (.iinc 6 1, 3) := by decide +kernel
theorem dX11_look_162 : decode cX11_look 162 = .ok (.goto (-117), 3) := by decide +kernel
theorem dX11_look_165 : decode cX11_look 165 = .ok (.iload 5, 2) := by decide +kernel
theorem dX11_look_167 : decode cX11_look 167 = .ok (.ifCond .eq 26, 3) := by decide +kernel
theorem dX11_look_170 : decode cX11_look 170 = .ok (.iload_n 1, 1) := by decide +kernel
theorem dX11_look_171 : decode cX11_look 171 = .ok (.ifCond .lt 22, 3) := by decide +kernel
theorem dX11_look_174 : decode cX11_look 174 = .ok (.iload_n 2, 1) := by decide +kernel
theorem dX11_look_175 : decode cX11_look 175 = .ok (.ifCond .lt 18, 3) := by decide +kernel
theorem dX11_look_178 : decode cX11_look 178 = .ok (.iload_n 3, 1) := by decide +kernel
theorem dX11_look_179 : decode cX11_look 179 = .ok (.iload 4, 2) := by decide +kernel
theorem dX11_look_181 : decode cX11_look 181 = .ok (.if_icmp .ne 12, 3) := by decide +kernel
theorem dX11_look_184 : decode cX11_look 184 = .ok (.bipush 8, 2) := by decide +kernel
theorem dX11_look_186 : decode cX11_look 186 = .ok (.iload_n 1, 1) := by decide +kernel
theorem dX11_look_187 : decode cX11_look 187 = .ok (.imul, 1) := by decide +kernel
theorem dX11_look_188 : decode cX11_look 188 = .ok (.iload_n 2, 1) := by decide +kernel
theorem dX11_look_189 : decode cX11_look 189 = .ok (.iadd, 1) := by decide +kernel
theorem dX11_look_190 : decode cX11_look 190 = .ok (.goto 4, 3) := by decide +kernel
theorem dX11_look_193 : decode cX11_look 193 = .ok (.iconst (-1), 1) := by decide +kernel
theorem dX11_look_194 : decode cX11_look 194 = .ok (.ireturn, 1) := by decide +kernel
theorem dX11_site_0 : decode cX11_site 0 = .ok (.aload_n 0, 1) := by decide +kernel
theorem dX11_site_1 : decode cX11_site 1 = .ok (.iconst 0, 1) := by decide +kernel
theorem dX11_site_2 : decode cX11_site 2 = .ok (.putfield 3, 3) := by decide +kernel
theorem dX11_site_5 : decode cX11_site 5 = .ok (.aload_n 0, 1) := by decide +kernel
theorem dX11_site_6 : decode cX11_site 6 = .ok (.iload_n 1, 1) := by decide +kernel
theorem dX11_site_7 : decode cX11_site 7 = .ok (.iconst 1, 1) := by decide +kernel
theorem dX11_site_8 : decode cX11_site 8 = .ok (.sipush 999, 3) := by decide +kernel
theorem dX11_site_11 : decode cX11_site 11 = .ok (.invokestatic 56, 3) := by decide +kernel
theorem dX11_site_14 : decode cX11_site 14 = .ok (.ifCond .ne 7, 3) := by decide +kernel
theorem dX11_site_17 : decode cX11_site 17 = .ok (.iconst 1, 1) := by decide +kernel
theorem dX11_site_18 : decode cX11_site 18 = .ok (.goto 4, 3) := by decide +kernel
theorem dX11_site_21 : decode cX11_site 21 = .ok (.iconst 0, 1) := by decide +kernel
theorem dX11_site_22 : decode cX11_site 22 = .ok (.iconst 1, 1) := by decide +kernel
theorem dX11_site_23 : decode cX11_site 23 = .ok (.invokevirtual 265, 3) := by decide +kernel
theorem dX11_site_26 : decode cX11_site 26 = .ok (.ifCond .eq 5, 3) := by decide +kernel
theorem dX11_site_29 : decode cX11_site 29 = .ok (.iconst 0, 1) := by decide +kernel
theorem dX11_site_30 : decode cX11_site 30 = .ok (.ireturn, 1) := by decide +kernel
theorem dX11_site_31 : decode cX11_site 31 = .ok (.aload_n 0, 1) := by decide +kernel
theorem dX11_site_32 : decode cX11_site 32 = .ok (.invokevirtual 52, 3) := by decide +kernel
theorem dX11_site_35 : decode cX11_site 35 = .ok (.istore_n 2, 1) := by decide +kernel
theorem dX11_site_36 : decode cX11_site 36 = .ok (.iload_n 2, 1) := by decide +kernel
theorem dX11_site_37 : decode cX11_site 37 = .ok (.bipush 8, 2) := by decide +kernel
theorem dX11_site_39 : decode cX11_site 39 = .ok (.if_icmp .ne 5, 3) := by decide +kernel
theorem dX11_site_42 : decode cX11_site 42 = .ok (.iconst (-1), 1) := by decide +kernel
theorem dX11_site_43 : decode cX11_site 43 = .ok (.ireturn, 1) := by decide +kernel
theorem dX11_site_44 : decode cX11_site 44 = .ok (.aload_n 0, 1) := by decide +kernel
theorem dX11_site_45 : decode cX11_site 45 = .ok (.invokevirtual 332, 3) := by decide +kernel
theorem dX11_site_48 : decode cX11_site 48 = .ok (.iconst (-1), 1) := by decide +kernel
theorem dX11_site_49 : decode cX11_site 49 = .ok (.istore_n 3, 1) := by decide +kernel
theorem dX11_site_50 : decode cX11_site 50 = .ok (.iconst 0, 1) := by decide +kernel
theorem dX11_site_51 : decode cX11_site 51 = .ok (.istore 4, 2) := by decide +kernel
theorem dX11_site_53 : decode cX11_site 53 = .ok (.iconst 0, 1) := by decide +kernel
theorem dX11_site_54 : decode cX11_site 54 = .ok (.istore 5, 2) := by decide +kernel
theorem dX11_site_56 : decode cX11_site 56 = .ok (.iload 5, 2) := by decide +kernel
theorem dX11_site_58 : decode cX11_site 58 = .ok (.iload_n 2, 1) := by decide +kernel
theorem dX11_site_59 : decode cX11_site 59 = .ok (.if_icmp .ge 131, 3) := by decide +kernel
theorem dX11_site_62 : decode cX11_site 62 = .ok (.iconst 0, 1) := by decide +kernel
theorem dX11_site_63 : decode cX11_site 63 = .ok (.istore 6, 2) := by decide +kernel
theorem dX11_site_65 : decode cX11_site 65 = .ok (.iload 6, 2) := by decide +kernel
theorem dX11_site_67 : decode cX11_site 67 = .ok (.bipush 35, 2) := by decide +kernel
theorem dX11_site_69 : decode cX11_site 69 = .ok (.if_icmp .ge 17, 3) := by decide +kernel
theorem dX11_site_72 : decode cX11_site 72 = .ok (.aload_n 0, 1) := by decide +kernel
theorem dX11_site_73 : decode cX11_site 73 = .ok (.iload_n 2, 1) := by decide +kernel
theorem dX11_site_74 : decode cX11_site 74 = .ok (.iload 6, 2) := by decide +kernel
theorem dX11_site_76 : decode cX11_site 76 = .ok (.iconst 0, 1) := by decide +kernel
theorem dX11_site_77 : decode cX11_site 77 = .ok (.invokevirtual 124, 3) := by decide +kernel
theorem dX11_site_80 : decode cX11_site 80 = .ok (.iinc 6 1, 3) := by decide +kernel
theorem dX11_site_83 : decode cX11_site 83 = .ok (.goto (-18), 3) := by decide +kernel
theorem dX11_site_86 : decode cX11_site 86 = .ok (.aload_n 0, 1) := by decide +kernel
theorem dX11_site_87 : decode cX11_site 87 = .ok (.iload_n 2, 1) := by decide +kernel
theorem dX11_site_88 : decode cX11_site 88 = .ok (.iconst 0, 1) := by decide +kernel
theorem dX11_site_89 : decode cX11_site 89 = .ok (.iload_n 1, 1) := by decide +kernel
theorem dX11_site_90 : decode cX11_site 90 = .ok (.invokevirtual 124, 3) := by decide +kernel
theorem dX11_site_93 : decode cX11_site 93 = .ok (.aload_n 0, 1) := by decide +kernel
theorem dX11_site_94 : decode cX11_site 94 = .ok (.iload_n 2, 1) := by decide +kernel
theorem dX11_site_95 : decode cX11_site 95 = .ok (.iconst 4, 1) := by decide +kernel
theorem dX11_site_96 : decode cX11_site 96 = .ok (.iconst (-1), 1) := by decide +kernel
theorem dX11_site_97 : decode cX11_site 97 = .ok (.invokevirtual 124, 3) := by decide +kernel
theorem dX11_site_100 : decode cX11_site 100 = .ok (.aload_n 0, 1) := by decide +kernel
theorem dX11_site_101 : decode cX11_site 101 = .ok (.iload 5, 2) := by decide +kernel
theorem dX11_site_103 : decode cX11_site 103 = .ok (.iconst 4, 1) := by decide +kernel
theorem dX11_site_104 : decode cX11_site 104 = .ok (.iload_n 2, 1) := by decide +kernel
theorem dX11_site_105 : decode cX11_site 105 = .ok (.invokevirtual 124, 3) := by decide +kernel
theorem dX11_site_108 : decode cX11_site 108 = .ok (.aload_n 0, 1) := by decide +kernel
theorem dX11_site_109 : decode cX11_site 109 = .ok (.getfield 13, 3) := by decide +kernel
theorem dX11_site_112 : decode cX11_site 112 = .ok (.iconst 0, 1) := by decide +kernel
theorem dX11_site_113 : decode cX11_site 113 = .ok (.dup2, 1) := by decide +kernel
theorem dX11_site_114 : decode cX11_site 114 = .ok (.iaload, 1) := by decide +kernel
theorem dX11_site_115 : decode cX11_site 115 = .ok (.iconst 1, 1) := by decide +kernel
theorem dX11_site_116 : decode cX11_site 116 = .ok (.iadd, 1) := by decide +kernel
theorem dX11_site_117 : decode cX11_site 117 = .ok (.iastore, 1) := by decide +kernel
theorem dX11_site_118 : decode cX11_site 118 = .ok (.aload_n 0, 1) := by decide +kernel
theorem dX11_site_119 : decode cX11_site 119 = .ok (.getfield 13, 3) := by decide +kernel
theorem dX11_site_122 : decode cX11_site 122 = .ok (.bipush 6, 2) := by decide +kernel
theorem dX11_site_124 : decode cX11_site 124 = .ok (.iaload, 1) := by decide +kernel
theorem dX11_site_125 : decode cX11_site 125 = .ok (.istore 6, 2) := by decide +kernel
theorem dX11_site_127 : decode cX11_site 127 = .ok (.iconst 0, 1) := by decide +kernel
theorem dX11_site_128 : decode cX11_site 128 = .ok (.istore 7, 2) := by decide +kernel
theorem dX11_site_130 : decode cX11_site 130 = .ok (.iload 7, 2) := by decide +kernel
theorem dX11_site_132 : decode cX11_site 132 = .ok (.bipush 12, 2) := by decide +kernel
theorem dX11_site_134 : decode cX11_site 134 = .ok (.if_icmp .ge 13, 3) := by decide +kernel
theorem dX11_site_137 : decode cX11_site 137 = .ok (.aload_n 0, 1) := by decide +kernel
theorem dX11_site_138 : decode cX11_site 138 = .ok (.invokevirtual 312, 3) := by decide +kernel
theorem dX11_site_141 : decode cX11_site 141 = .ok (.iinc 7 1, 3) := by decide +kernel
theorem dX11_site_144 : decode cX11_site 144 = .ok (.goto (-14), 3) := by decide +kernel
theorem dX11_site_147 : decode cX11_site 147 = .ok (.aload_n 0, 1) := by decide +kernel
theorem dX11_site_148 : decode cX11_site 148 = .ok (.getfield 13, 3) := by decide +kernel
theorem dX11_site_151 : decode cX11_site 151 = .ok (.bipush 6, 2) := by decide +kernel
theorem dX11_site_153 : decode cX11_site 153 = .ok (.iaload, 1) := by decide +kernel
theorem dX11_site_154 : decode cX11_site 154 = .ok (.iload 6, 2) := by decide +kernel
theorem dX11_site_156 : decode cX11_site 156 = .ok (.isub, 1) := by decide +kernel
theorem dX11_site_157 : decode cX11_site 157 = .ok (.istore 7, 2) := by decide +kernel
theorem dX11_site_159 : decode cX11_site 159 = .ok (.aload_n 0, 1) := by decide +kernel
theorem dX11_site_160 : decode cX11_site 160 = .ok (.invokevirtual 335, 3) := by decide +kernel
theorem dX11_site_163 : decode cX11_site 163 = .ok (.iload_n 3, 1) := by decide +kernel
theorem dX11_site_164 : decode cX11_site 164 = .ok (.ifCond .lt 13, 3) := by decide +kernel
theorem dX11_site_167 : decode cX11_site 167 = .ok (.iload 7, 2) := by decide +kernel
theorem dX11_site_169 : decode cX11_site 169 = .ok (.iload 4, 2) := by decide +kernel
theorem dX11_site_171 : decode cX11_site 171 = .ok (.if_icmp .lt 6, 3) := by decide +kernel
theorem dX11_site_174 : decode cX11_site 174 = .ok (.goto 10, 3) := by decide +kernel
theorem dX11_site_177 : decode cX11_site 177 = .ok (.iload 5, 2) := by decide +kernel
theorem dX11_site_179 : decode cX11_site 179 = .ok (.istore_n 3, 1) := by decide +kernel
theorem dX11_site_180 : decode cX11_site 180 = .ok (.iload 7, 2) := by decide +kernel
theorem dX11_site_182 : decode cX11_site 182 = .ok (.istore 4, 2) := by decide +kernel
theorem dX11_site_184 : decode cX11_site 184 = .ok (.iinc 5 1, 3) := by decide +kernel
theorem dX11_site_187 : decode cX11_site 187 = .ok (.goto (-131), 3) := by decide +kernel
theorem dX11_site_190 : decode cX11_site 190 = .ok (.iload_n 3, 1) := by decide +kernel
theorem dX11_site_191 : decode cX11_site 191 = .ok (.ireturn, 1) := by decide +kernel
theorem dX11_owed_0 : decode cX11_owed 0 = .ok (.aload_n 0, 1) := by decide +kernel
theorem dX11_owed_1 : decode cX11_owed 1 = .ok (.iconst 0, 1) := by decide +kernel
theorem dX11_owed_2 : decode cX11_owed 2 = .ok (.putfield 3, 3) := by decide +kernel
theorem dX11_owed_5 : decode cX11_owed 5 = .ok (.aload_n 0, 1) := by decide +kernel
theorem dX11_owed_6 : decode cX11_owed 6 = .ok (.iload_n 1, 1) := by decide +kernel
theorem dX11_owed_7 : decode cX11_owed 7 = .ok (.invokestatic 290, 3) := by decide +kernel
theorem dX11_owed_10 : decode cX11_owed 10 = .ok (.iconst 1, 1) := by decide +kernel
theorem dX11_owed_11 : decode cX11_owed 11 = .ok (.invokevirtual 265, 3) := by decide +kernel
theorem dX11_owed_14 : decode cX11_owed 14 = .ok (.ifCond .ne 27, 3) := by decide +kernel
theorem dX11_owed_17 : decode cX11_owed 17 = .ok (.aload_n 0, 1) := by decide +kernel
theorem dX11_owed_18 : decode cX11_owed 18 = .ok (.iload_n 2, 1) := by decide +kernel
theorem dX11_owed_19 : decode cX11_owed 19 = .ok (.iconst 0, 1) := by decide +kernel
theorem dX11_owed_20 : decode cX11_owed 20 = .ok (.sipush 999, 3) := by decide +kernel
theorem dX11_owed_23 : decode cX11_owed 23 = .ok (.invokestatic 56, 3) := by decide +kernel
theorem dX11_owed_26 : decode cX11_owed 26 = .ok (.ifCond .ne 7, 3) := by decide +kernel
theorem dX11_owed_29 : decode cX11_owed 29 = .ok (.iconst 1, 1) := by decide +kernel
theorem dX11_owed_30 : decode cX11_owed 30 = .ok (.goto 4, 3) := by decide +kernel
theorem dX11_owed_33 : decode cX11_owed 33 = .ok (.iconst 0, 1) := by decide +kernel
theorem dX11_owed_34 : decode cX11_owed 34 = .ok (.iconst 2, 1) := by decide +kernel
theorem dX11_owed_35 : decode cX11_owed 35 = .ok (.invokevirtual 265, 3) := by decide +kernel
theorem dX11_owed_38 : decode cX11_owed 38 = .ok (.ifCond .eq 5, 3) := by decide +kernel
theorem dX11_owed_41 : decode cX11_owed 41 = .ok (.iconst 0, 1) := by decide +kernel
theorem dX11_owed_42 : decode cX11_owed 42 = .ok (.ireturn, 1) := by decide +kernel
theorem dX11_owed_43 : decode cX11_owed 43 = .ok (.iconst (-1), 1) := by decide +kernel
theorem dX11_owed_44 : decode cX11_owed 44 = .ok (.istore_n 3, 1) := by decide +kernel
theorem dX11_owed_45 : decode cX11_owed 45 = .ok (.iconst 0, 1) := by decide +kernel
theorem dX11_owed_46 : decode cX11_owed 46 = .ok (.istore 4, 2) := by decide +kernel
theorem dX11_owed_48 : decode cX11_owed 48 = .ok (.iload 4, 2) := by decide +kernel
theorem dX11_owed_50 : decode cX11_owed 50 = .ok (.iconst 1, 1) := by decide +kernel
theorem dX11_owed_51 : decode cX11_owed 51 = .ok (.aload_n 0, 1) := by decide +kernel
theorem dX11_owed_52 : decode cX11_owed 52 = .ok (.invokevirtual 52, 3) := by decide +kernel
theorem dX11_owed_55 : decode cX11_owed 55 = .ok (.ishl, 1) := by decide +kernel
theorem dX11_owed_56 : decode cX11_owed 56 = .ok (.if_icmp .ge 82, 3) := by decide +kernel
theorem dX11_owed_59 : decode cX11_owed 59 = .ok (.iconst 0, 1) := by decide +kernel
theorem dX11_owed_60 : decode cX11_owed 60 = .ok (.istore 5, 2) := by decide +kernel
theorem dX11_owed_62 : decode cX11_owed 62 = .ok (.iconst 0, 1) := by decide +kernel
theorem dX11_owed_63 : decode cX11_owed 63 = .ok (.istore 6, 2) := by decide +kernel
theorem dX11_owed_65 : decode cX11_owed 65 = .ok (.iload 6, 2) := by decide +kernel
theorem dX11_owed_67 : decode cX11_owed 67 = .ok (.aload_n 0, 1) := by decide +kernel
theorem dX11_owed_68 : decode cX11_owed 68 = .ok (.invokevirtual 52, 3) := by decide +kernel
theorem dX11_owed_71 : decode cX11_owed 71 = .ok (.if_icmp .ge 36, 3) := by decide +kernel
theorem dX11_owed_74 : decode cX11_owed 74 = .ok (.iload 5, 2) := by decide +kernel
theorem dX11_owed_76 : decode cX11_owed 76 = .ok (.iload 4, 2) := by decide +kernel
theorem dX11_owed_78 : decode cX11_owed 78 = .ok (.iload 6, 2) := by decide +kernel
theorem dX11_owed_80 : decode cX11_owed 80 = .ok (.ishr, 1) := by decide +kernel
theorem dX11_owed_81 : decode cX11_owed 81 = .ok (.iconst 1, 1) := by decide +kernel
theorem dX11_owed_82 : decode cX11_owed 82 = .ok (.iand, 1) := by decide +kernel
theorem dX11_owed_83 : decode cX11_owed 83 = .ok (.iconst 1, 1) := by decide +kernel
theorem dX11_owed_84 : decode cX11_owed 84 = .ok (.if_icmp .ne 13, 3) := by decide +kernel
theorem dX11_owed_87 : decode cX11_owed 87 = .ok (.aload_n 0, 1) := by decide +kernel
theorem dX11_owed_88 : decode cX11_owed 88 = .ok (.iload 6, 2) := by decide +kernel
theorem dX11_owed_90 : decode cX11_owed 90 = .ok (.iload_n 1, 1) := by decide +kernel
theorem dX11_owed_91 : decode cX11_owed 91 = .ok (.invokevirtual 72, 3) := by decide +kernel
theorem dX11_owed_94 : decode cX11_owed 94 = .ok (.goto 4, 3) := by decide +kernel
theorem dX11_owed_97 : decode cX11_owed 97 = .ok (.iconst 0, 1) := by decide +kernel
theorem dX11_owed_98 : decode cX11_owed 98 = .ok (.iadd, 1) := by decide +kernel
theorem dX11_owed_99 : decode cX11_owed 99 = .ok (.istore 5, 2) := by decide +kernel
theorem dX11_owed_101 : decode cX11_owed 101 = .ok (.iinc 6 1, 3) := by decide +kernel
theorem dX11_owed_104 : decode cX11_owed 104 = .ok (.goto (-39), 3) := by decide +kernel
theorem dX11_owed_107 : decode cX11_owed 107 = .ok (.iload 5, 2) := by decide +kernel
theorem dX11_owed_109 : decode cX11_owed 109 = .ok (.iload_n 2, 1) := by decide +kernel
theorem dX11_owed_110 : decode cX11_owed 110 = .ok (.if_icmp .lt 22, 3) := by decide +kernel
theorem dX11_owed_113 : decode cX11_owed 113 = .ok (.iload_n 3, 1) := by decide +kernel
theorem dX11_owed_114 : decode cX11_owed 114 = .ok (.ifCond .lt 15, 3) := by decide +kernel
theorem dX11_owed_117 : decode cX11_owed 117 = .ok (.iload 4, 2) := by decide +kernel
theorem dX11_owed_119 : decode cX11_owed 119 = .ok (.invokestatic 351, 3) := by decide +kernel
theorem dX11_owed_122 : decode cX11_owed 122 = .ok (.iload_n 3, 1) := by decide +kernel
theorem dX11_owed_123 : decode cX11_owed 123 = .ok (.invokestatic 351, 3) := by decide +kernel
theorem dX11_owed_126 : decode cX11_owed 126 = .ok (.if_icmp .ge 6, 3) := by decide +kernel
theorem dX11_owed_129 : decode cX11_owed 129 = .ok (.iload 4, 2) := by decide +kernel
theorem dX11_owed_131 : decode cX11_owed 131 = .ok (.istore_n 3, 1) := by decide +kernel
theorem dX11_owed_132 : decode cX11_owed 132 = .ok (.iinc 4 1, 3) := by decide +kernel
theorem dX11_owed_135 : decode cX11_owed 135 = .ok (.goto (-87), 3) := by decide +kernel
theorem dX11_owed_138 : decode cX11_owed 138 = .ok (.iload_n 3, 1) := by decide +kernel
theorem dX11_owed_139 : decode cX11_owed 139 = .ok (.ireturn, 1) := by decide +kernel
theorem dX11_ofDebt_0 : decode cX11_ofDebt 0 = .ok (.aload_n 0, 1) := by decide +kernel
theorem dX11_ofDebt_1 : decode cX11_ofDebt 1 = .ok (.getfield 13, 3) := by decide +kernel
theorem dX11_ofDebt_4 : decode cX11_ofDebt 4 = .ok (.bipush 11, 2) := by decide +kernel
theorem dX11_ofDebt_6 : decode cX11_ofDebt 6 = .ok (.iconst 3, 1) := by decide +kernel
theorem dX11_ofDebt_7 : decode cX11_ofDebt 7 = .ok (.iload_n 1, 1) := by decide +kernel
theorem dX11_ofDebt_8 : decode cX11_ofDebt 8 = .ok (.imul, 1) := by decide +kernel
theorem dX11_ofDebt_9 : decode cX11_ofDebt 9 = .ok (.iadd, 1) := by decide +kernel
theorem dX11_ofDebt_10 : decode cX11_ofDebt 10 = .ok (.iload_n 2, 1) := by decide +kernel
theorem dX11_ofDebt_11 : decode cX11_ofDebt 11 = .ok (.iadd, 1) := by decide +kernel
theorem dX11_ofDebt_12 : decode cX11_ofDebt 12 = .ok (.iaload, 1) := by decide +kernel
theorem dX11_ofDebt_13 : decode cX11_ofDebt 13 = .ok (.ireturn, 1) := by decide +kernel
theorem dX11_noDebt_0 : decode cX11_noDebt 0 = .ok (.iload_n 1, 1) := by decide +kernel
theorem dX11_noDebt_1 : decode cX11_noDebt 1 = .ok (.iconst 0, 1) := by decide +kernel
theorem dX11_noDebt_2 : decode cX11_noDebt 2 = .ok (.aload_n 0, 1) := by decide +kernel
theorem dX11_noDebt_3 : decode cX11_noDebt 3 = .ok (.getfield 13, 3) := by decide +kernel
theorem dX11_noDebt_6 : decode cX11_noDebt 6 = .ok (.bipush 10, 2) := by decide +kernel
theorem dX11_noDebt_8 : decode cX11_noDebt 8 = .ok (.iaload, 1) := by decide +kernel
theorem dX11_noDebt_9 : decode cX11_noDebt 9 = .ok (.iconst 1, 1) := by decide +kernel
theorem dX11_noDebt_10 : decode cX11_noDebt 10 = .ok (.isub, 1) := by decide +kernel
theorem dX11_noDebt_11 : decode cX11_noDebt 11 = .ok (.invokestatic 56, 3) := by decide +kernel
theorem dX11_noDebt_14 : decode cX11_noDebt 14 = .ok (.ifCond .ne 7, 3) := by decide +kernel
theorem dX11_noDebt_17 : decode cX11_noDebt 17 = .ok (.iconst 1, 1) := by decide +kernel
theorem dX11_noDebt_18 : decode cX11_noDebt 18 = .ok (.goto 4, 3) := by decide +kernel
theorem dX11_noDebt_21 : decode cX11_noDebt 21 = .ok (.iconst 0, 1) := by decide +kernel
theorem dX11_noDebt_22 : decode cX11_noDebt 22 = .ok (.ireturn, 1) := by decide +kernel
theorem dX11_owe_0 : decode cX11_owe 0 = .ok (.aload_n 0, 1) := by decide +kernel
theorem dX11_owe_1 : decode cX11_owe 1 = .ok (.iconst 0, 1) := by decide +kernel
theorem dX11_owe_2 : decode cX11_owe 2 = .ok (.putfield 3, 3) := by decide +kernel
theorem dX11_owe_5 : decode cX11_owe 5 = .ok (.aload_n 0, 1) := by decide +kernel
theorem dX11_owe_6 : decode cX11_owe 6 = .ok (.aload_n 0, 1) := by decide +kernel
theorem dX11_owe_7 : decode cX11_owe 7 = .ok (.iload_n 1, 1) := by decide +kernel
theorem dX11_owe_8 : decode cX11_owe 8 = .ok (.invokevirtual 293, 3) := by decide +kernel
theorem dX11_owe_11 : decode cX11_owe 11 = .ok (.ifCond .ne 10, 3) := by decide +kernel
theorem dX11_owe_14 : decode cX11_owe 14 = .ok (.iload_n 2, 1) := by decide +kernel
theorem dX11_owe_15 : decode cX11_owe 15 = .ok (.invokestatic 290, 3) := by decide +kernel
theorem dX11_owe_18 : decode cX11_owe 18 = .ok (.ifCond .eq 7, 3) := by decide +kernel
theorem dX11_owe_21 : decode cX11_owe 21 = .ok (.iconst 1, 1) := by decide +kernel
theorem dX11_owe_22 : decode cX11_owe 22 = .ok (.goto 4, 3) := by decide +kernel
theorem dX11_owe_25 : decode cX11_owe 25 = .ok (.iconst 0, 1) := by decide +kernel
theorem dX11_owe_26 : decode cX11_owe 26 = .ok (.iconst 1, 1) := by decide +kernel
theorem dX11_owe_27 : decode cX11_owe 27 = .ok (.invokevirtual 265, 3) := by decide +kernel
theorem dX11_owe_30 : decode cX11_owe 30 = .ok (.ifCond .ne 52, 3) := by decide +kernel
theorem dX11_owe_33 : decode cX11_owe 33 = .ok (.aload_n 0, 1) := by decide +kernel
theorem dX11_owe_34 : decode cX11_owe 34 = .ok (.iload_n 3, 1) := by decide +kernel
theorem dX11_owe_35 : decode cX11_owe 35 = .ok (.iconst 1, 1) := by decide +kernel
theorem dX11_owe_36 : decode cX11_owe 36 = .ok (.sipush 999, 3) := by decide +kernel
theorem dX11_owe_39 : decode cX11_owe 39 = .ok (.invokestatic 56, 3) := by decide +kernel
theorem dX11_owe_42 : decode cX11_owe 42 = .ok (.ifCond .ne 7, 3) := by decide +kernel
theorem dX11_owe_45 : decode cX11_owe 45 = .ok (.iconst 1, 1) := by decide +kernel
theorem dX11_owe_46 : decode cX11_owe 46 = .ok (.goto 4, 3) := by decide +kernel
theorem dX11_owe_49 : decode cX11_owe 49 = .ok (.iconst 0, 1) := by decide +kernel
theorem dX11_owe_50 : decode cX11_owe 50 = .ok (.iconst 2, 1) := by decide +kernel
theorem dX11_owe_51 : decode cX11_owe 51 = .ok (.invokevirtual 265, 3) := by decide +kernel
theorem dX11_owe_54 : decode cX11_owe 54 = .ok (.ifCond .ne 28, 3) := by decide +kernel
theorem dX11_owe_57 : decode cX11_owe 57 = .ok (.aload_n 0, 1) := by decide +kernel
theorem dX11_owe_58 : decode cX11_owe 58 = .ok (.aload_n 0, 1) := by decide +kernel
theorem dX11_owe_59 : decode cX11_owe 59 = .ok (.getfield 13, 3) := by decide +kernel
theorem dX11_owe_62 : decode cX11_owe 62 = .ok (.bipush 10, 2) := by decide +kernel
theorem dX11_owe_64 : decode cX11_owe 64 = .ok (.iaload, 1) := by decide +kernel
theorem dX11_owe_65 : decode cX11_owe 65 = .ok (.bipush 8, 2) := by decide +kernel
theorem dX11_owe_67 : decode cX11_owe 67 = .ok (.if_icmp .ne 7, 3) := by decide +kernel
theorem dX11_owe_70 : decode cX11_owe 70 = .ok (.iconst 1, 1) := by decide +kernel
theorem dX11_owe_71 : decode cX11_owe 71 = .ok (.goto 4, 3) := by decide +kernel
theorem dX11_owe_74 : decode cX11_owe 74 = .ok (.iconst 0, 1) := by decide +kernel
theorem dX11_owe_75 : decode cX11_owe 75 = .ok (.iconst 3, 1) := by decide +kernel
theorem dX11_owe_76 : decode cX11_owe 76 = .ok (.invokevirtual 265, 3) := by decide +kernel
theorem dX11_owe_79 : decode cX11_owe 79 = .ok (.ifCond .eq 5, 3) := by decide +kernel
theorem dX11_owe_82 : decode cX11_owe 82 = .ok (.iconst 0, 1) := by decide +kernel
theorem dX11_owe_83 : decode cX11_owe 83 = .ok (.ireturn, 1) := by decide +kernel
theorem dX11_owe_84 : decode cX11_owe 84 = .ok (.bipush 11, 2) := by decide +kernel
theorem dX11_owe_86 : decode cX11_owe 86 = .ok (.iconst 3, 1) := by decide +kernel
theorem dX11_owe_87 : decode cX11_owe 87 = .ok (.aload_n 0, 1) := by decide +kernel
theorem dX11_owe_88 : decode cX11_owe 88 = .ok (.getfield 13, 3) := by decide +kernel
theorem dX11_owe_91 : decode cX11_owe 91 = .ok (.bipush 10, 2) := by decide +kernel
theorem dX11_owe_93 : decode cX11_owe 93 = .ok (.iaload, 1) := by decide +kernel
theorem dX11_owe_94 : decode cX11_owe 94 = .ok (.imul, 1) := by decide +kernel
theorem dX11_owe_95 : decode cX11_owe 95 = .ok (.iadd, 1) := by decide +kernel
theorem dX11_owe_96 : decode cX11_owe 96 = .ok (.istore 4, 2) := by decide +kernel
theorem dX11_owe_98 : decode cX11_owe 98 = .ok (.aload_n 0, 1) := by decide +kernel
theorem dX11_owe_99 : decode cX11_owe 99 = .ok (.getfield 13, 3) := by decide +kernel
theorem dX11_owe_102 : decode cX11_owe 102 = .ok (.iload 4, 2) := by decide +kernel
theorem dX11_owe_104 : decode cX11_owe 104 = .ok (.iload_n 1, 1) := by decide +kernel
theorem dX11_owe_105 : decode cX11_owe 105 = .ok (.iastore, 1) := by decide +kernel
theorem dX11_owe_106 : decode cX11_owe 106 = .ok (.aload_n 0, 1) := by decide +kernel
theorem dX11_owe_107 : decode cX11_owe 107 = .ok (.getfield 13, 3) := by decide +kernel
theorem dX11_owe_110 : decode cX11_owe 110 = .ok (.iload 4, 2) := by decide +kernel
theorem dX11_owe_112 : decode cX11_owe 112 = .ok (.iconst 1, 1) := by decide +kernel
theorem dX11_owe_113 : decode cX11_owe 113 = .ok (.iadd, 1) := by decide +kernel
theorem dX11_owe_114 : decode cX11_owe 114 = .ok (.iload_n 2, 1) := by decide +kernel
theorem dX11_owe_115 : decode cX11_owe 115 = .ok (.iastore, 1) := by decide +kernel
theorem dX11_owe_116 : decode cX11_owe 116 = .ok (.aload_n 0, 1) := by decide +kernel
theorem dX11_owe_117 : decode cX11_owe 117 = .ok (.getfield 13, 3) := by decide +kernel
theorem dX11_owe_120 : decode cX11_owe 120 = .ok (.iload 4, 2) := by decide +kernel
theorem dX11_owe_122 : decode cX11_owe 122 = .ok (.iconst 2, 1) := by decide +kernel
theorem dX11_owe_123 : decode cX11_owe 123 = .ok (.iadd, 1) := by decide +kernel
theorem dX11_owe_124 : decode cX11_owe 124 = .ok (.iload_n 3, 1) := by decide +kernel
theorem dX11_owe_125 : decode cX11_owe 125 = .ok (.iastore, 1) := by decide +kernel
theorem dX11_owe_126 : decode cX11_owe 126 = .ok (.aload_n 0, 1) := by decide +kernel
theorem dX11_owe_127 : decode cX11_owe 127 = .ok (.getfield 13, 3) := by decide +kernel
theorem dX11_owe_130 : decode cX11_owe 130 = .ok (.bipush 10, 2) := by decide +kernel
theorem dX11_owe_132 : decode cX11_owe 132 = .ok (.dup2, 1) := by decide +kernel
theorem dX11_owe_133 : decode cX11_owe 133 = .ok (.iaload, 1) := by decide +kernel
theorem dX11_owe_134 : decode cX11_owe 134 = .ok (.iconst 1, 1) := by decide +kernel
theorem dX11_owe_135 : decode cX11_owe 135 = .ok (.iadd, 1) := by decide +kernel
theorem dX11_owe_136 : decode cX11_owe 136 = .ok (.iastore, 1) := by decide +kernel
theorem dX11_owe_137 : decode cX11_owe 137 = .ok (.aload_n 0, 1) := by decide +kernel
theorem dX11_owe_138 : decode cX11_owe 138 = .ok (.getfield 13, 3) := by decide +kernel
theorem dX11_owe_141 : decode cX11_owe 141 = .ok (.bipush 10, 2) := by decide +kernel
theorem dX11_owe_143 : decode cX11_owe 143 = .ok (.iaload, 1) := by decide +kernel
theorem dX11_owe_144 : decode cX11_owe 144 = .ok (.iconst 1, 1) := by decide +kernel
theorem dX11_owe_145 : decode cX11_owe 145 = .ok (.isub, 1) := by decide +kernel
theorem dX11_owe_146 : decode cX11_owe 146 = .ok (.ireturn, 1) := by decide +kernel
theorem dX11_debt_0 : decode cX11_debt 0 = .ok (.aload_n 0, 1) := by decide +kernel
theorem dX11_debt_1 : decode cX11_debt 1 = .ok (.iconst 0, 1) := by decide +kernel
theorem dX11_debt_2 : decode cX11_debt 2 = .ok (.putfield 3, 3) := by decide +kernel
theorem dX11_debt_5 : decode cX11_debt 5 = .ok (.aload_n 0, 1) := by decide +kernel
theorem dX11_debt_6 : decode cX11_debt 6 = .ok (.aload_n 0, 1) := by decide +kernel
theorem dX11_debt_7 : decode cX11_debt 7 = .ok (.iload_n 1, 1) := by decide +kernel
theorem dX11_debt_8 : decode cX11_debt 8 = .ok (.invokevirtual 356, 3) := by decide +kernel
theorem dX11_debt_11 : decode cX11_debt 11 = .ok (.iconst 1, 1) := by decide +kernel
theorem dX11_debt_12 : decode cX11_debt 12 = .ok (.invokevirtual 265, 3) := by decide +kernel
theorem dX11_debt_15 : decode cX11_debt 15 = .ok (.ifCond .eq 7, 3) := by decide +kernel
theorem dX11_debt_18 : decode cX11_debt 18 = .ok (.iconst 0, 1) := by decide +kernel
theorem dX11_debt_19 : decode cX11_debt 19 = .ok (.goto 9, 3) := by decide +kernel
theorem dX11_debt_22 : decode cX11_debt 22 = .ok (.aload_n 0, 1) := by decide +kernel
theorem dX11_debt_23 : decode cX11_debt 23 = .ok (.iload_n 1, 1) := by decide +kernel
theorem dX11_debt_24 : decode cX11_debt 24 = .ok (.iconst 2, 1) := by decide +kernel
theorem dX11_debt_25 : decode cX11_debt 25 = .ok (.invokevirtual 359, 3) := by decide +kernel
theorem dX11_debt_28 : decode cX11_debt 28 = .ok (.ireturn, 1) := by decide +kernel
theorem dX11_settle_0 : decode cX11_settle 0 = .ok (.aload_n 0, 1) := by decide +kernel
theorem dX11_settle_1 : decode cX11_settle 1 = .ok (.iconst 0, 1) := by decide +kernel
theorem dX11_settle_2 : decode cX11_settle 2 = .ok (.putfield 3, 3) := by decide +kernel
theorem dX11_settle_5 : decode cX11_settle 5 = .ok (.aload_n 0, 1) := by decide +kernel
theorem dX11_settle_6 : decode cX11_settle 6 = .ok (.aload_n 0, 1) := by decide +kernel
theorem dX11_settle_7 : decode cX11_settle 7 = .ok (.iload_n 1, 1) := by decide +kernel
theorem dX11_settle_8 : decode cX11_settle 8 = .ok (.invokevirtual 356, 3) := by decide +kernel
theorem dX11_settle_11 : decode cX11_settle 11 = .ok (.iconst 1, 1) := by decide +kernel
theorem dX11_settle_12 : decode cX11_settle 12 = .ok (.invokevirtual 265, 3) := by decide +kernel
theorem dX11_settle_15 : decode cX11_settle 15 = .ok (.ifCond .eq 5, 3) := by decide +kernel
theorem dX11_settle_18 : decode cX11_settle 18 = .ok (.iconst 0, 1) := by decide +kernel
theorem dX11_settle_19 : decode cX11_settle 19 = .ok (.ireturn, 1) := by decide +kernel
theorem dX11_settle_20 : decode cX11_settle 20 = .ok (.aload_n 0, 1) := by decide +kernel
theorem dX11_settle_21 : decode cX11_settle 21 = .ok (.aload_n 0, 1) := by decide +kernel
theorem dX11_settle_22 : decode cX11_settle 22 = .ok (.iload_n 1, 1) := by decide +kernel
theorem dX11_settle_23 : decode cX11_settle 23 = .ok (.iconst 0, 1) := by decide +kernel
theorem dX11_settle_24 : decode cX11_settle 24 = .ok (.invokevirtual 359, 3) := by decide +kernel
theorem dX11_settle_27 : decode cX11_settle 27 = .ok (.iconst 1, 1) := by decide +kernel
theorem dX11_settle_28 : decode cX11_settle 28 = .ok (.invokevirtual 151, 3) := by decide +kernel
theorem dX11_settle_31 : decode cX11_settle 31 = .ok (.istore_n 2, 1) := by decide +kernel
theorem dX11_settle_32 : decode cX11_settle 32 = .ok (.aload_n 0, 1) := by decide +kernel
theorem dX11_settle_33 : decode cX11_settle 33 = .ok (.iload_n 1, 1) := by decide +kernel
theorem dX11_settle_34 : decode cX11_settle 34 = .ok (.iconst 1, 1) := by decide +kernel
theorem dX11_settle_35 : decode cX11_settle 35 = .ok (.invokevirtual 359, 3) := by decide +kernel
theorem dX11_settle_38 : decode cX11_settle 38 = .ok (.istore_n 3, 1) := by decide +kernel
theorem dX11_settle_39 : decode cX11_settle 39 = .ok (.iconst 0, 1) := by decide +kernel
theorem dX11_settle_40 : decode cX11_settle 40 = .ok (.istore 4, 2) := by decide +kernel
theorem dX11_settle_42 : decode cX11_settle 42 = .ok (.iconst 0, 1) := by decide +kernel
theorem dX11_settle_43 : decode cX11_settle 43 = .ok (.istore 5, 2) := by decide +kernel
theorem dX11_settle_45 : decode cX11_settle 45 = .ok (.iload 5, 2) := by decide +kernel
theorem dX11_settle_47 : decode cX11_settle 47 = .ok (.aload_n 0, 1) := by decide +kernel
theorem dX11_settle_48 : decode cX11_settle 48 = .ok (.invokevirtual 52, 3) := by decide +kernel
theorem dX11_settle_51 : decode cX11_settle 51 = .ok (.if_icmp .ge 79, 3) := by decide +kernel
theorem dX11_settle_54 : decode cX11_settle 54 = .ok (.iload 5, 2) := by decide +kernel
theorem dX11_settle_56 : decode cX11_settle 56 = .ok (.iload_n 2, 1) := by decide +kernel
theorem dX11_settle_57 : decode cX11_settle 57 = .ok (.if_icmp .ne 6, 3) := by decide +kernel
theorem dX11_settle_60 : decode cX11_settle 60 = .ok (.goto 64, 3) := by decide +kernel
theorem dX11_settle_63 : decode cX11_settle 63 = .ok (.aload_n 0, 1) := by decide +kernel
theorem dX11_settle_64 : decode cX11_settle 64 = .ok (.iload 5, 2) := by decide +kernel
theorem dX11_settle_66 : decode cX11_settle 66 = .ok (.iload_n 3, 1) := by decide +kernel
theorem dX11_settle_67 : decode cX11_settle 67 = .ok (.invokevirtual 72, 3) := by decide +kernel
theorem dX11_settle_70 : decode cX11_settle 70 = .ok (.aload_n 0, 1) := by decide +kernel
theorem dX11_settle_71 : decode cX11_settle 71 = .ok (.iload_n 1, 1) := by decide +kernel
theorem dX11_settle_72 : decode cX11_settle 72 = .ok (.iconst 2, 1) := by decide +kernel
theorem dX11_settle_73 : decode cX11_settle 73 = .ok (.invokevirtual 359, 3) := by decide +kernel
theorem dX11_settle_76 : decode cX11_settle 76 = .ok (.iload 4, 2) := by decide +kernel
theorem dX11_settle_78 : decode cX11_settle 78 = .ok (.isub, 1) := by decide +kernel
theorem dX11_settle_79 : decode cX11_settle 79 = .ok (.invokestatic 63, 3) := by decide +kernel
theorem dX11_settle_82 : decode cX11_settle 82 = .ok (.aload_n 0, 1) := by decide +kernel
theorem dX11_settle_83 : decode cX11_settle 83 = .ok (.iload_n 2, 1) := by decide +kernel
theorem dX11_settle_84 : decode cX11_settle 84 = .ok (.iconst 0, 1) := by decide +kernel
theorem dX11_settle_85 : decode cX11_settle 85 = .ok (.invokevirtual 69, 3) := by decide +kernel
theorem dX11_settle_88 : decode cX11_settle 88 = .ok (.aload_n 0, 1) := by decide +kernel
theorem dX11_settle_89 : decode cX11_settle 89 = .ok (.iload_n 2, 1) := by decide +kernel
theorem dX11_settle_90 : decode cX11_settle 90 = .ok (.invokevirtual 75, 3) := by decide +kernel
theorem dX11_settle_93 : decode cX11_settle 93 = .ok (.isub, 1) := by decide +kernel
theorem dX11_settle_94 : decode cX11_settle 94 = .ok (.invokestatic 63, 3) := by decide +kernel
theorem dX11_settle_97 : decode cX11_settle 97 = .ok (.istore 6, 2) := by decide +kernel
theorem dX11_settle_99 : decode cX11_settle 99 = .ok (.aload_n 0, 1) := by decide +kernel
theorem dX11_settle_100 : decode cX11_settle 100 = .ok (.iload 5, 2) := by decide +kernel
theorem dX11_settle_102 : decode cX11_settle 102 = .ok (.iload_n 3, 1) := by decide +kernel
theorem dX11_settle_103 : decode cX11_settle 103 = .ok (.iload 6, 2) := by decide +kernel
theorem dX11_settle_105 : decode cX11_settle 105 = .ok (.ineg, 1) := by decide +kernel
theorem dX11_settle_106 : decode cX11_settle 106 = .ok (.invokevirtual 82, 3) := by decide +kernel
theorem dX11_settle_109 : decode cX11_settle 109 = .ok (.aload_n 0, 1) := by decide +kernel
theorem dX11_settle_110 : decode cX11_settle 110 = .ok (.iload_n 2, 1) := by decide +kernel
theorem dX11_settle_111 : decode cX11_settle 111 = .ok (.iload_n 3, 1) := by decide +kernel
theorem dX11_settle_112 : decode cX11_settle 112 = .ok (.iload 6, 2) := by decide +kernel
theorem dX11_settle_114 : decode cX11_settle 114 = .ok (.invokevirtual 82, 3) := by decide +kernel
theorem dX11_settle_117 : decode cX11_settle 117 = .ok (.iload 4, 2) := by decide +kernel
theorem dX11_settle_119 : decode cX11_settle 119 = .ok (.iload 6, 2) := by decide +kernel
theorem dX11_settle_121 : decode cX11_settle 121 = .ok (.iadd, 1) := by decide +kernel
theorem dX11_settle_122 : decode cX11_settle 122 = .ok (.istore 4, 2) := by decide +kernel
theorem dX11_settle_124 : decode cX11_settle 124 = .ok (.iinc 5 1, 3) := by decide +kernel
theorem dX11_settle_127 : decode cX11_settle 127 = .ok (.goto (-82), 3) := by decide +kernel
theorem dX11_settle_130 : decode cX11_settle 130 = .ok (.aload_n 0, 1) := by decide +kernel
theorem dX11_settle_131 : decode cX11_settle 131 = .ok (.getfield 13, 3) := by decide +kernel
theorem dX11_settle_134 : decode cX11_settle 134 = .ok (.bipush 11, 2) := by decide +kernel
theorem dX11_settle_136 : decode cX11_settle 136 = .ok (.iconst 3, 1) := by decide +kernel
theorem dX11_settle_137 : decode cX11_settle 137 = .ok (.iload_n 1, 1) := by decide +kernel
theorem dX11_settle_138 : decode cX11_settle 138 = .ok (.imul, 1) := by decide +kernel
theorem dX11_settle_139 : decode cX11_settle 139 = .ok (.iadd, 1) := by decide +kernel
theorem dX11_settle_140 : decode cX11_settle 140 = .ok (.iconst 2, 1) := by decide +kernel
theorem dX11_settle_141 : decode cX11_settle 141 = .ok (.iadd, 1) := by decide +kernel
theorem dX11_settle_142 : decode cX11_settle 142 = .ok (.dup2, 1) := by decide +kernel
theorem dX11_settle_143 : decode cX11_settle 143 = .ok (.iaload, 1) := by decide +kernel
theorem dX11_settle_144 : decode cX11_settle 144 = .ok (.iload 4, 2) := by decide +kernel
theorem dX11_settle_146 : decode cX11_settle 146 = .ok (.isub, 1) := by decide +kernel
theorem dX11_settle_147 : decode cX11_settle 147 = .ok (.iastore, 1) := by decide +kernel
theorem dX11_settle_148 : decode cX11_settle 148 = .ok (.iload 4, 2) := by decide +kernel
theorem dX11_settle_150 : decode cX11_settle 150 = .ok (.ireturn, 1) := by decide +kernel
theorem dX11_mix_0 : decode cX11_mix 0 = .ok (.aload_n 0, 1) := by decide +kernel
theorem dX11_mix_1 : decode cX11_mix 1 = .ok (.iconst 0, 1) := by decide +kernel
theorem dX11_mix_2 : decode cX11_mix 2 = .ok (.putfield 3, 3) := by decide +kernel
theorem dX11_mix_5 : decode cX11_mix 5 = .ok (.aload_n 0, 1) := by decide +kernel
theorem dX11_mix_6 : decode cX11_mix 6 = .ok (.aload_n 0, 1) := by decide +kernel
theorem dX11_mix_7 : decode cX11_mix 7 = .ok (.iload_n 1, 1) := by decide +kernel
theorem dX11_mix_8 : decode cX11_mix 8 = .ok (.invokevirtual 284, 3) := by decide +kernel
theorem dX11_mix_11 : decode cX11_mix 11 = .ok (.ifCond .ne 11, 3) := by decide +kernel
theorem dX11_mix_14 : decode cX11_mix 14 = .ok (.aload_n 0, 1) := by decide +kernel
theorem dX11_mix_15 : decode cX11_mix 15 = .ok (.iload_n 2, 1) := by decide +kernel
theorem dX11_mix_16 : decode cX11_mix 16 = .ok (.invokevirtual 284, 3) := by decide +kernel
theorem dX11_mix_19 : decode cX11_mix 19 = .ok (.ifCond .eq 7, 3) := by decide +kernel
theorem dX11_mix_22 : decode cX11_mix 22 = .ok (.iconst 1, 1) := by decide +kernel
theorem dX11_mix_23 : decode cX11_mix 23 = .ok (.goto 4, 3) := by decide +kernel
theorem dX11_mix_26 : decode cX11_mix 26 = .ok (.iconst 0, 1) := by decide +kernel
theorem dX11_mix_27 : decode cX11_mix 27 = .ok (.iconst 1, 1) := by decide +kernel
theorem dX11_mix_28 : decode cX11_mix 28 = .ok (.invokevirtual 265, 3) := by decide +kernel
theorem dX11_mix_31 : decode cX11_mix 31 = .ok (.ifCond .ne 25, 3) := by decide +kernel
theorem dX11_mix_34 : decode cX11_mix 34 = .ok (.aload_n 0, 1) := by decide +kernel
theorem dX11_mix_35 : decode cX11_mix 35 = .ok (.iload_n 1, 1) := by decide +kernel
theorem dX11_mix_36 : decode cX11_mix 36 = .ok (.iload_n 2, 1) := by decide +kernel
theorem dX11_mix_37 : decode cX11_mix 37 = .ok (.if_icmp .eq 7, 3) := by decide +kernel
theorem dX11_mix_40 : decode cX11_mix 40 = .ok (.iload_n 3, 1) := by decide +kernel
theorem dX11_mix_41 : decode cX11_mix 41 = .ok (.ifCond .ge 7, 3) := by decide +kernel
theorem dX11_mix_44 : decode cX11_mix 44 = .ok (.iconst 1, 1) := by decide +kernel
theorem dX11_mix_45 : decode cX11_mix 45 = .ok (.goto 4, 3) := by decide +kernel
theorem dX11_mix_48 : decode cX11_mix 48 = .ok (.iconst 0, 1) := by decide +kernel
theorem dX11_mix_49 : decode cX11_mix 49 = .ok (.iconst 2, 1) := by decide +kernel
theorem dX11_mix_50 : decode cX11_mix 50 = .ok (.invokevirtual 265, 3) := by decide +kernel
theorem dX11_mix_53 : decode cX11_mix 53 = .ok (.ifCond .eq 5, 3) := by decide +kernel
theorem dX11_mix_56 : decode cX11_mix 56 = .ok (.iconst 0, 1) := by decide +kernel
theorem dX11_mix_57 : decode cX11_mix 57 = .ok (.ireturn, 1) := by decide +kernel
theorem dX11_mix_58 : decode cX11_mix 58 = .ok (.iconst 0, 1) := by decide +kernel
theorem dX11_mix_59 : decode cX11_mix 59 = .ok (.istore 4, 2) := by decide +kernel
theorem dX11_mix_61 : decode cX11_mix 61 = .ok (.iload 4, 2) := by decide +kernel
theorem dX11_mix_63 : decode cX11_mix 63 = .ok (.iload_n 3, 1) := by decide +kernel
theorem dX11_mix_64 : decode cX11_mix 64 = .ok (.if_icmp .ge 37, 3) := by decide +kernel
theorem dX11_mix_67 : decode cX11_mix 67 = .ok (.aload_n 0, 1) := by decide +kernel
theorem dX11_mix_68 : decode cX11_mix 68 = .ok (.iload_n 1, 1) := by decide +kernel
theorem dX11_mix_69 : decode cX11_mix 69 = .ok (.invokevirtual 75, 3) := by decide +kernel
theorem dX11_mix_72 : decode cX11_mix 72 = .ok (.ifCond .le 29, 3) := by decide +kernel
theorem dX11_mix_75 : decode cX11_mix 75 = .ok (.aload_n 0, 1) := by decide +kernel
theorem dX11_mix_76 : decode cX11_mix 76 = .ok (.iload_n 2, 1) := by decide +kernel
theorem dX11_mix_77 : decode cX11_mix 77 = .ok (.invokevirtual 75, 3) := by decide +kernel
theorem dX11_mix_80 : decode cX11_mix 80 = .ok (.aload_n 0, 1) := by decide +kernel
theorem dX11_mix_81 : decode cX11_mix 81 = .ok (.iload_n 2, 1) := by decide +kernel
theorem dX11_mix_82 : decode cX11_mix 82 = .ok (.iconst 0, 1) := by decide +kernel
theorem dX11_mix_83 : decode cX11_mix 83 = .ok (.invokevirtual 69, 3) := by decide +kernel
theorem dX11_mix_86 : decode cX11_mix 86 = .ok (.if_icmp .ge 15, 3) := by decide +kernel
theorem dX11_mix_89 : decode cX11_mix 89 = .ok (.aload_n 0, 1) := by decide +kernel
theorem dX11_mix_90 : decode cX11_mix 90 = .ok (.iload_n 1, 1) := by decide +kernel
theorem dX11_mix_91 : decode cX11_mix 91 = .ok (.iload_n 2, 1) := by decide +kernel
theorem dX11_mix_92 : decode cX11_mix 92 = .ok (.invokevirtual 305, 3) := by decide +kernel
theorem dX11_mix_95 : decode cX11_mix 95 = .ok (.iinc 4 1, 3) := by decide +kernel
theorem dX11_mix_98 : decode cX11_mix 98 = .ok (.goto (-37), 3) := by decide +kernel
theorem dX11_mix_101 : decode cX11_mix 101 = .ok (.iload 4, 2) := by decide +kernel
theorem dX11_mix_103 : decode cX11_mix 103 = .ok (.ireturn, 1) := by decide +kernel
theorem dX11_orders_0 : decode cX11_orders 0 = .ok (.iload_n 1, 1) := by decide +kernel
theorem dX11_orders_1 : decode cX11_orders 1 = .ok (.istore_n 3, 1) := by decide +kernel
theorem dX11_orders_2 : decode cX11_orders 2 = .ok (.iconst 0, 1) := by decide +kernel
theorem dX11_orders_3 : decode cX11_orders 3 = .ok (.istore 4, 2) := by decide +kernel
theorem dX11_orders_5 : decode cX11_orders 5 = .ok (.iload_n 2, 1) := by decide +kernel
theorem dX11_orders_6 : decode cX11_orders 6 = .ok (.iconst 1, 1) := by decide +kernel
theorem dX11_orders_7 : decode cX11_orders 7 = .ok (.isub, 1) := by decide +kernel
theorem dX11_orders_8 : decode cX11_orders 8 = .ok (.istore 5, 2) := by decide +kernel
theorem dX11_orders_10 : decode cX11_orders 10 = .ok (.iload 5, 2) := by decide +kernel
theorem dX11_orders_12 : decode cX11_orders 12 = .ok (.ifCond .lt 37, 3) := by decide +kernel
theorem dX11_orders_15 : decode cX11_orders 15 = .ok (.aload_n 0, 1) := by decide +kernel
theorem dX11_orders_16 : decode cX11_orders 16 = .ok (.getfield 42, 3) := by decide +kernel
theorem dX11_orders_19 : decode cX11_orders 19 = .ok (.iload 5, 2) := by decide +kernel
theorem dX11_orders_21 : decode cX11_orders 21 = .ok (.iload_n 3, 1) := by decide +kernel
theorem dX11_orders_22 : decode cX11_orders 22 = .ok (.iload_n 2, 1) := by decide +kernel
theorem dX11_orders_23 : decode cX11_orders 23 = .ok (.irem, 1) := by decide +kernel
theorem dX11_orders_24 : decode cX11_orders 24 = .ok (.iastore, 1) := by decide +kernel
theorem dX11_orders_25 : decode cX11_orders 25 = .ok (.iload 4, 2) := by decide +kernel
theorem dX11_orders_27 : decode cX11_orders 27 = .ok (.iconst 1, 1) := by decide +kernel
theorem dX11_orders_28 : decode cX11_orders 28 = .ok (.aload_n 0, 1) := by decide +kernel
theorem dX11_orders_29 : decode cX11_orders 29 = .ok (.getfield 42, 3) := by decide +kernel
theorem dX11_orders_32 : decode cX11_orders 32 = .ok (.iload 5, 2) := by decide +kernel
theorem dX11_orders_34 : decode cX11_orders 34 = .ok (.iaload, 1) := by decide +kernel
theorem dX11_orders_35 : decode cX11_orders 35 = .ok (.ishl, 1) := by decide +kernel
theorem dX11_orders_36 : decode cX11_orders 36 = .ok (.ior, 1) := by decide +kernel
theorem dX11_orders_37 : decode cX11_orders 37 = .ok (.istore 4, 2) := by decide +kernel
theorem dX11_orders_39 : decode cX11_orders 39 = .ok (.iload_n 3, 1) := by decide +kernel
theorem dX11_orders_40 : decode cX11_orders 40 = .ok (.iload_n 2, 1) := by decide +kernel
theorem dX11_orders_41 : decode cX11_orders 41 = .ok (.idiv, 1) := by decide +kernel
theorem dX11_orders_42 : decode cX11_orders 42 = .ok (.istore_n 3, 1) := by decide +kernel
theorem dX11_orders_43 : decode cX11_orders 43 = .ok (.iinc 5 (-1), 3) := by decide +kernel
theorem dX11_orders_46 : decode cX11_orders 46 = .ok (.goto (-36), 3) := by decide +kernel
theorem dX11_orders_49 : decode cX11_orders 49 = .ok (.iload_n 2, 1) := by decide +kernel
theorem dX11_orders_50 : decode cX11_orders 50 = .ok (.istore 5, 2) := by decide +kernel
theorem dX11_orders_52 : decode cX11_orders 52 = .ok (.iload 5, 2) := by decide +kernel
theorem dX11_orders_54 : decode cX11_orders 54 = .ok (.aload_n 0, 1) := by decide +kernel
theorem dX11_orders_55 : decode cX11_orders 55 = .ok (.invokevirtual 60, 3) := by decide +kernel
theorem dX11_orders_58 : decode cX11_orders 58 = .ok (.if_icmp .ge 18, 3) := by decide +kernel
theorem dX11_orders_61 : decode cX11_orders 61 = .ok (.aload_n 0, 1) := by decide +kernel
theorem dX11_orders_62 : decode cX11_orders 62 = .ok (.getfield 42, 3) := by decide +kernel
theorem dX11_orders_65 : decode cX11_orders 65 = .ok (.iload 5, 2) := by decide +kernel
theorem dX11_orders_67 : decode cX11_orders 67 = .ok (.iload 5, 2) := by decide +kernel
theorem dX11_orders_69 : decode cX11_orders 69 = .ok (.iastore, 1) := by decide +kernel
theorem dX11_orders_70 : decode cX11_orders 70 = .ok (.iinc 5 1, 3) := by decide +kernel
theorem dX11_orders_73 : decode cX11_orders 73 = .ok (.goto (-21), 3) := by decide +kernel
theorem dX11_orders_76 : decode cX11_orders 76 = .ok (.iload 4, 2) := by decide +kernel
theorem dX11_orders_78 : decode cX11_orders 78 = .ok (.iconst 1, 1) := by decide +kernel
theorem dX11_orders_79 : decode cX11_orders 79 = .ok (.iload_n 2, 1) := by decide +kernel
theorem dX11_orders_80 : decode cX11_orders 80 = .ok (.ishl, 1) := by decide +kernel
theorem dX11_orders_81 : decode cX11_orders 81 = .ok (.iconst 1, 1) := by decide +kernel
theorem dX11_orders_82 : decode cX11_orders 82 = .ok (.isub, 1) := by decide +kernel
theorem dX11_orders_83 : decode cX11_orders 83 = .ok (.if_icmp .ne 7, 3) := by decide +kernel
theorem dX11_orders_86 : decode cX11_orders 86 = .ok (.iconst 1, 1) := by decide +kernel
theorem dX11_orders_87 : decode cX11_orders 87 = .ok (.goto 4, 3) := by decide +kernel
theorem dX11_orders_90 : decode cX11_orders 90 = .ok (.iconst 0, 1) := by decide +kernel
theorem dX11_orders_91 : decode cX11_orders 91 = .ok (.ireturn, 1) := by decide +kernel
theorem dX11_order_0 : decode cX11_order 0 = .ok (.aload_n 0, 1) := by decide +kernel
theorem dX11_order_1 : decode cX11_order 1 = .ok (.iconst 0, 1) := by decide +kernel
theorem dX11_order_2 : decode cX11_order 2 = .ok (.putfield 3, 3) := by decide +kernel
theorem dX11_order_5 : decode cX11_order 5 = .ok (.iconst 5, 1) := by decide +kernel
theorem dX11_order_6 : decode cX11_order 6 = .ok (.aload_n 0, 1) := by decide +kernel
theorem dX11_order_7 : decode cX11_order 7 = .ok (.invokevirtual 60, 3) := by decide +kernel
theorem dX11_order_10 : decode cX11_order 10 = .ok (.invokestatic 63, 3) := by decide +kernel
theorem dX11_order_13 : decode cX11_order 13 = .ok (.istore_n 2, 1) := by decide +kernel
theorem dX11_order_14 : decode cX11_order 14 = .ok (.iload_n 2, 1) := by decide +kernel
theorem dX11_order_15 : decode cX11_order 15 = .ok (.ifCond .ne 5, 3) := by decide +kernel
theorem dX11_order_18 : decode cX11_order 18 = .ok (.iconst 0, 1) := by decide +kernel
theorem dX11_order_19 : decode cX11_order 19 = .ok (.ireturn, 1) := by decide +kernel
theorem dX11_order_20 : decode cX11_order 20 = .ok (.iconst 1, 1) := by decide +kernel
theorem dX11_order_21 : decode cX11_order 21 = .ok (.istore_n 3, 1) := by decide +kernel
theorem dX11_order_22 : decode cX11_order 22 = .ok (.iconst 0, 1) := by decide +kernel
theorem dX11_order_23 : decode cX11_order 23 = .ok (.istore 4, 2) := by decide +kernel
theorem dX11_order_25 : decode cX11_order 25 = .ok (.iload 4, 2) := by decide +kernel
theorem dX11_order_27 : decode cX11_order 27 = .ok (.iload_n 2, 1) := by decide +kernel
theorem dX11_order_28 : decode cX11_order 28 = .ok (.if_icmp .ge 13, 3) := by decide +kernel
theorem dX11_order_31 : decode cX11_order 31 = .ok (.iload_n 3, 1) := by decide +kernel
theorem dX11_order_32 : decode cX11_order 32 = .ok (.iload_n 2, 1) := by decide +kernel
theorem dX11_order_33 : decode cX11_order 33 = .ok (.imul, 1) := by decide +kernel
theorem dX11_order_34 : decode cX11_order 34 = .ok (.istore_n 3, 1) := by decide +kernel
theorem dX11_order_35 : decode cX11_order 35 = .ok (.iinc 4 1, 3) := by decide +kernel
theorem dX11_order_38 : decode cX11_order 38 = .ok (.goto (-13), 3) := by decide +kernel
theorem dX11_order_41 : decode cX11_order 41 = .ok (.aload_n 0, 1) := by decide +kernel
theorem dX11_order_42 : decode cX11_order 42 = .ok (.invokevirtual 332, 3) := by decide +kernel
theorem dX11_order_45 : decode cX11_order 45 = .ok (.iconst (-1), 1) := by decide +kernel
theorem dX11_order_46 : decode cX11_order 46 = .ok (.istore 4, 2) := by decide +kernel
theorem dX11_order_48 : decode cX11_order 48 = .ok (.iconst 0, 1) := by decide +kernel
theorem dX11_order_49 : decode cX11_order 49 = .ok (.istore 5, 2) := by decide +kernel
theorem dX11_order_51 : decode cX11_order 51 = .ok (.iconst 0, 1) := by decide +kernel
theorem dX11_order_52 : decode cX11_order 52 = .ok (.istore 6, 2) := by decide +kernel
theorem dX11_order_54 : decode cX11_order 54 = .ok (.iload 6, 2) := by decide +kernel
theorem dX11_order_56 : decode cX11_order 56 = .ok (.iload_n 3, 1) := by decide +kernel
theorem dX11_order_57 : decode cX11_order 57 = .ok (.if_icmp .ge 119, 3) := by decide +kernel
theorem dX11_order_60 : decode cX11_order 60 = .ok (.aload_n 0, 1) := by decide +kernel
theorem dX11_order_61 : decode cX11_order 61 = .ok (.iload 6, 2) := by decide +kernel
theorem dX11_order_63 : decode cX11_order 63 = .ok (.iload_n 2, 1) := by decide +kernel
theorem dX11_order_64 : decode cX11_order 64 = .ok (.invokevirtual 362, 3) := by decide +kernel
theorem dX11_order_67 : decode cX11_order 67 = .ok (.ifCond .ne 6, 3) := by decide +kernel
theorem dX11_order_70 : decode cX11_order 70 = .ok (.goto 100, 3) := by decide +kernel
theorem dX11_order_73 : decode cX11_order 73 = .ok (.aload_n 0, 1) := by decide +kernel
theorem dX11_order_74 : decode cX11_order 74 = .ok (.invokevirtual 312, 3) := by decide +kernel
theorem dX11_order_77 : decode cX11_order 77 = .ok (.iconst 0, 1) := by decide +kernel
theorem dX11_order_78 : decode cX11_order 78 = .ok (.istore 7, 2) := by decide +kernel
theorem dX11_order_80 : decode cX11_order 80 = .ok (.iconst 0, 1) := by decide +kernel
theorem dX11_order_81 : decode cX11_order 81 = .ok (.istore 8, 2) := by decide +kernel
theorem dX11_order_83 : decode cX11_order 83 = .ok (.iload 8, 2) := by decide +kernel
theorem dX11_order_85 : decode cX11_order 85 = .ok (.aload_n 0, 1) := by decide +kernel
theorem dX11_order_86 : decode cX11_order 86 = .ok (.invokevirtual 60, 3) := by decide +kernel
theorem dX11_order_89 : decode cX11_order 89 = .ok (.if_icmp .ge 25, 3) := by decide +kernel
theorem dX11_order_92 : decode cX11_order 92 = .ok (.iload 7, 2) := by decide +kernel
theorem dX11_order_94 : decode cX11_order 94 = .ok (.aload_n 0, 1) := by decide +kernel
theorem dX11_order_95 : decode cX11_order 95 = .ok (.aload_n 0, 1) := by decide +kernel
theorem dX11_order_96 : decode cX11_order 96 = .ok (.getfield 42, 3) := by decide +kernel
theorem dX11_order_99 : decode cX11_order 99 = .ok (.iload 8, 2) := by decide +kernel
theorem dX11_order_101 : decode cX11_order 101 = .ok (.iaload, 1) := by decide +kernel
theorem dX11_order_102 : decode cX11_order 102 = .ok (.invokevirtual 318, 3) := by decide +kernel
theorem dX11_order_105 : decode cX11_order 105 = .ok (.iadd, 1) := by decide +kernel
theorem dX11_order_106 : decode cX11_order 106 = .ok (.istore 7, 2) := by decide +kernel
theorem dX11_order_108 : decode cX11_order 108 = .ok (.iinc 8 1, 3) := by decide +kernel
theorem dX11_order_111 : decode cX11_order 111 = .ok (.goto (-28), 3) := by decide +kernel
theorem dX11_order_114 : decode cX11_order 114 = .ok (.aload_n 0, 1) := by decide +kernel
theorem dX11_order_115 : decode cX11_order 115 = .ok (.invokevirtual 335, 3) := by decide +kernel
theorem dX11_order_118 : decode cX11_order 118 = .ok (.iload 4, 2) := by decide +kernel
theorem dX11_order_120 : decode cX11_order 120 = .ok (.ifCond .lt 13, 3) := by decide +kernel
theorem dX11_order_123 : decode cX11_order 123 = .ok (.iload 7, 2) := by decide +kernel
theorem dX11_order_125 : decode cX11_order 125 = .ok (.iload 5, 2) := by decide +kernel
theorem dX11_order_127 : decode cX11_order 127 = .ok (.if_icmp .lt 6, 3) := by decide +kernel
theorem dX11_order_130 : decode cX11_order 130 = .ok (.goto 40, 3) := by decide +kernel
theorem dX11_order_133 : decode cX11_order 133 = .ok (.iload 7, 2) := by decide +kernel
theorem dX11_order_135 : decode cX11_order 135 = .ok (.istore 5, 2) := by decide +kernel
theorem dX11_order_137 : decode cX11_order 137 = .ok (.iconst 0, 1) := by decide +kernel
theorem dX11_order_138 : decode cX11_order 138 = .ok (.istore 4, 2) := by decide +kernel
theorem dX11_order_140 : decode cX11_order 140 = .ok (.iconst 0, 1) := by decide +kernel
theorem dX11_order_141 : decode cX11_order 141 = .ok (.istore 8, 2) := by decide +kernel
theorem dX11_order_143 : decode cX11_order 143 = .ok (.iload 8, 2) := by decide +kernel
theorem dX11_order_145 : decode cX11_order 145 = .ok (.iload_n 2, 1) := by decide +kernel
theorem dX11_order_146 : decode cX11_order 146 = .ok (.if_icmp .ge 24, 3) := by decide +kernel
theorem dX11_order_149 : decode cX11_order 149 = .ok (.bipush 8, 2) := by decide +kernel
theorem dX11_order_151 : decode cX11_order 151 = .ok (.iload 4, 2) := by decide +kernel
theorem dX11_order_153 : decode cX11_order 153 = .ok (.imul, 1) := by decide +kernel
theorem dX11_order_154 : decode cX11_order 154 = .ok (.aload_n 0, 1) := by decide +kernel
theorem dX11_order_155 : decode cX11_order 155 = .ok (.getfield 42, 3) := by decide +kernel
theorem dX11_order_158 : decode cX11_order 158 = .ok (.iload 8, 2) := by decide +kernel
theorem dX11_order_160 : decode cX11_order 160 = .ok (.iaload, 1) := by decide +kernel
theorem dX11_order_161 : decode cX11_order 161 = .ok (.iadd, 1) := by decide +kernel
theorem dX11_order_162 : decode cX11_order 162 = .ok (.istore 4, 2) := by decide +kernel
theorem dX11_order_164 : decode cX11_order 164 = .ok (.iinc 8 1, 3) := by decide +kernel
theorem dX11_order_167 : decode cX11_order 167 = .ok (.goto (-24), 3) := by decide +kernel
theorem dX11_order_170 : decode cX11_order 170 = .ok (.iinc 6 1, 3) := by decide +kernel
theorem dX11_order_173 : decode cX11_order 173 = .ok (.goto (-119), 3) := by decide +kernel
theorem dX11_order_176 : decode cX11_order 176 = .ok (.iload_n 1, 1) := by decide +kernel
theorem dX11_order_177 : decode cX11_order 177 = .ok (.ifCond .eq 8, 3) := by decide +kernel
theorem dX11_order_180 : decode cX11_order 180 = .ok (.iload 4, 2) := by decide +kernel
theorem dX11_order_182 : decode cX11_order 182 = .ok (.goto 5, 3) := by decide +kernel
theorem dX11_order_185 : decode cX11_order 185 = .ok (.iload 5, 2) := by decide +kernel
theorem dX11_order_187 : decode cX11_order 187 = .ok (.ireturn, 1) := by decide +kernel
theorem dX11_enough_0 : decode cX11_enough 0 = .ok (.aload_n 0, 1) := by decide +kernel
theorem dX11_enough_1 : decode cX11_enough 1 = .ok (.iconst 0, 1) := by decide +kernel
theorem dX11_enough_2 : decode cX11_enough 2 = .ok (.putfield 3, 3) := by decide +kernel
theorem dX11_enough_5 : decode cX11_enough 5 = .ok (.aload_n 0, 1) := by decide +kernel
theorem dX11_enough_6 : decode cX11_enough 6 = .ok (.iload_n 1, 1) := by decide +kernel
theorem dX11_enough_7 : decode cX11_enough 7 = .ok (.iconst 1, 1) := by decide +kernel
theorem dX11_enough_8 : decode cX11_enough 8 = .ok (.bipush 60, 2) := by decide +kernel
theorem dX11_enough_10 : decode cX11_enough 10 = .ok (.invokestatic 56, 3) := by decide +kernel
theorem dX11_enough_13 : decode cX11_enough 13 = .ok (.ifCond .eq 13, 3) := by decide +kernel
theorem dX11_enough_16 : decode cX11_enough 16 = .ok (.iload_n 2, 1) := by decide +kernel
theorem dX11_enough_17 : decode cX11_enough 17 = .ok (.iconst 1, 1) := by decide +kernel
theorem dX11_enough_18 : decode cX11_enough 18 = .ok (.bipush 24, 2) := by decide +kernel
theorem dX11_enough_20 : decode cX11_enough 20 = .ok (.invokestatic 56, 3) := by decide +kernel
theorem dX11_enough_23 : decode cX11_enough 23 = .ok (.ifCond .ne 7, 3) := by decide +kernel
theorem dX11_enough_26 : decode cX11_enough 26 = .ok (.iconst 1, 1) := by decide +kernel
theorem dX11_enough_27 : decode cX11_enough 27 = .ok (.goto 4, 3) := by decide +kernel
theorem dX11_enough_30 : decode cX11_enough 30 = .ok (.iconst 0, 1) := by decide +kernel
theorem dX11_enough_31 : decode cX11_enough 31 = .ok (.iconst 1, 1) := by decide +kernel
theorem dX11_enough_32 : decode cX11_enough 32 = .ok (.invokevirtual 265, 3) := by decide +kernel
theorem dX11_enough_35 : decode cX11_enough 35 = .ok (.ifCond .eq 5, 3) := by decide +kernel
theorem dX11_enough_38 : decode cX11_enough 38 = .ok (.iconst 0, 1) := by decide +kernel
theorem dX11_enough_39 : decode cX11_enough 39 = .ok (.ireturn, 1) := by decide +kernel
theorem dX11_enough_40 : decode cX11_enough 40 = .ok (.aload_n 0, 1) := by decide +kernel
theorem dX11_enough_41 : decode cX11_enough 41 = .ok (.invokevirtual 332, 3) := by decide +kernel
theorem dX11_enough_44 : decode cX11_enough 44 = .ok (.iconst 0, 1) := by decide +kernel
theorem dX11_enough_45 : decode cX11_enough 45 = .ok (.istore_n 3, 1) := by decide +kernel
theorem dX11_enough_46 : decode cX11_enough 46 = .ok (.iconst 1, 1) := by decide +kernel
