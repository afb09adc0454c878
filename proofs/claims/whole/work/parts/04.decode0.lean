theorem dX0_init_0 : decode cX0_init 0 = .ok (.aload_n 0, 1) := by decide +kernel
theorem dX0_init_1 : decode cX0_init 1 = .ok (.invokespecial 3, 3) := by decide +kernel
theorem dX0_init_4 : decode cX0_init 4 = .ok (.aload_n 0, 1) := by decide +kernel
theorem dX0_init_5 : decode cX0_init 5 = .ok (.bipush 30, 2) := by decide +kernel
theorem dX0_init_7 : decode cX0_init 7 = .ok (.newarray .int, 2) := by decide +kernel
theorem dX0_init_9 : decode cX0_init 9 = .ok (.putfield 9, 3) := by decide +kernel
theorem dX0_init_12 : decode cX0_init 12 = .ok (.return_, 1) := by decide +kernel
theorem dX0_begin_0 : decode cX0_begin 0 = .ok (.aload_n 0, 1) := by decide +kernel
theorem dX0_begin_1 : decode cX0_begin 1 = .ok (.iload_n 1, 1) := by decide +kernel
theorem dX0_begin_2 : decode cX0_begin 2 = .ok (.putfield 15, 3) := by decide +kernel
theorem dX0_begin_5 : decode cX0_begin 5 = .ok (.aload_n 0, 1) := by decide +kernel
theorem dX0_begin_6 : decode cX0_begin 6 = .ok (.iload_n 2, 1) := by decide +kernel
theorem dX0_begin_7 : decode cX0_begin 7 = .ok (.putfield 19, 3) := by decide +kernel
theorem dX0_begin_10 : decode cX0_begin 10 = .ok (.aload_n 0, 1) := by decide +kernel
theorem dX0_begin_11 : decode cX0_begin 11 = .ok (.iconst 0, 1) := by decide +kernel
theorem dX0_begin_12 : decode cX0_begin 12 = .ok (.putfield 22, 3) := by decide +kernel
theorem dX0_begin_15 : decode cX0_begin 15 = .ok (.aload_n 0, 1) := by decide +kernel
theorem dX0_begin_16 : decode cX0_begin 16 = .ok (.iconst 0, 1) := by decide +kernel
theorem dX0_begin_17 : decode cX0_begin 17 = .ok (.putfield 26, 3) := by decide +kernel
theorem dX0_begin_20 : decode cX0_begin 20 = .ok (.aload_n 0, 1) := by decide +kernel
theorem dX0_begin_21 : decode cX0_begin 21 = .ok (.iconst (-1), 1) := by decide +kernel
theorem dX0_begin_22 : decode cX0_begin 22 = .ok (.putfield 29, 3) := by decide +kernel
theorem dX0_begin_25 : decode cX0_begin 25 = .ok (.aload_n 0, 1) := by decide +kernel
theorem dX0_begin_26 : decode cX0_begin 26 = .ok (.iconst 0, 1) := by decide +kernel
theorem dX0_begin_27 : decode cX0_begin 27 = .ok (.putfield 32, 3) := by decide +kernel
theorem dX0_begin_30 : decode cX0_begin 30 = .ok (.aload_n 0, 1) := by decide +kernel
theorem dX0_begin_31 : decode cX0_begin 31 = .ok (.getfield 9, 3) := by decide +kernel
theorem dX0_begin_34 : decode cX0_begin 34 = .ok (.iconst 0, 1) := by decide +kernel
theorem dX0_begin_35 : decode cX0_begin 35 = .ok (.invokestatic 35, 3) := by decide +kernel
theorem dX0_begin_38 : decode cX0_begin 38 = .ok (.return_, 1) := by decide +kernel
theorem dX0_copyFrom_0 : decode cX0_copyFrom 0 = .ok (.aload_n 0, 1) := by decide +kernel
theorem dX0_copyFrom_1 : decode cX0_copyFrom 1 = .ok (.aload_n 1, 1) := by decide +kernel
theorem dX0_copyFrom_2 : decode cX0_copyFrom 2 = .ok (.getfield 15, 3) := by decide +kernel
theorem dX0_copyFrom_5 : decode cX0_copyFrom 5 = .ok (.putfield 15, 3) := by decide +kernel
theorem dX0_copyFrom_8 : decode cX0_copyFrom 8 = .ok (.aload_n 0, 1) := by decide +kernel
theorem dX0_copyFrom_9 : decode cX0_copyFrom 9 = .ok (.aload_n 1, 1) := by decide +kernel
theorem dX0_copyFrom_10 : decode cX0_copyFrom 10 = .ok (.getfield 19, 3) := by decide +kernel
theorem dX0_copyFrom_13 : decode cX0_copyFrom 13 = .ok (.putfield 19, 3) := by decide +kernel
theorem dX0_copyFrom_16 : decode cX0_copyFrom 16 = .ok (.aload_n 0, 1) := by decide +kernel
theorem dX0_copyFrom_17 : decode cX0_copyFrom 17 = .ok (.aload_n 1, 1) := by decide +kernel
theorem dX0_copyFrom_18 : decode cX0_copyFrom 18 = .ok (.getfield 22, 3) := by decide +kernel
theorem dX0_copyFrom_21 : decode cX0_copyFrom 21 = .ok (.putfield 22, 3) := by decide +kernel
theorem dX0_copyFrom_24 : decode cX0_copyFrom 24 = .ok (.aload_n 0, 1) := by decide +kernel
theorem dX0_copyFrom_25 : decode cX0_copyFrom 25 = .ok (.aload_n 1, 1) := by decide +kernel
theorem dX0_copyFrom_26 : decode cX0_copyFrom 26 = .ok (.getfield 26, 3) := by decide +kernel
theorem dX0_copyFrom_29 : decode cX0_copyFrom 29 = .ok (.putfield 26, 3) := by decide +kernel
theorem dX0_copyFrom_32 : decode cX0_copyFrom 32 = .ok (.aload_n 0, 1) := by decide +kernel
theorem dX0_copyFrom_33 : decode cX0_copyFrom 33 = .ok (.aload_n 1, 1) := by decide +kernel
theorem dX0_copyFrom_34 : decode cX0_copyFrom 34 = .ok (.getfield 29, 3) := by decide +kernel
theorem dX0_copyFrom_37 : decode cX0_copyFrom 37 = .ok (.putfield 29, 3) := by decide +kernel
theorem dX0_copyFrom_40 : decode cX0_copyFrom 40 = .ok (.aload_n 0, 1) := by decide +kernel
theorem dX0_copyFrom_41 : decode cX0_copyFrom 41 = .ok (.aload_n 1, 1) := by decide +kernel
theorem dX0_copyFrom_42 : decode cX0_copyFrom 42 = .ok (.getfield 32, 3) := by decide +kernel
theorem dX0_copyFrom_45 : decode cX0_copyFrom 45 = .ok (.putfield 32, 3) := by decide +kernel
theorem dX0_copyFrom_48 : decode cX0_copyFrom 48 = .ok (.aload_n 1, 1) := by decide +kernel
theorem dX0_copyFrom_49 : decode cX0_copyFrom 49 = .ok (.getfield 9, 3) := by decide +kernel
theorem dX0_copyFrom_52 : decode cX0_copyFrom 52 = .ok (.iconst 0, 1) := by decide +kernel
theorem dX0_copyFrom_53 : decode cX0_copyFrom 53 = .ok (.aload_n 0, 1) := by decide +kernel
theorem dX0_copyFrom_54 : decode cX0_copyFrom 54 = .ok (.getfield 9, 3) := by decide +kernel
theorem dX0_copyFrom_57 : decode cX0_copyFrom 57 = .ok (.iconst 0, 1) := by decide +kernel
theorem dX0_copyFrom_58 : decode cX0_copyFrom 58 = .ok (.bipush 30, 2) := by decide +kernel
theorem dX0_copyFrom_60 : decode cX0_copyFrom 60 = .ok (.invokestatic 41, 3) := by decide +kernel
theorem dX0_copyFrom_63 : decode cX0_copyFrom 63 = .ok (.return_, 1) := by decide +kernel
theorem dX0_free_0 : decode cX0_free 0 = .ok (.iconst 0, 1) := by decide +kernel
theorem dX0_free_1 : decode cX0_free 1 = .ok (.aload_n 0, 1) := by decide +kernel
theorem dX0_free_2 : decode cX0_free 2 = .ok (.getfield 15, 3) := by decide +kernel
theorem dX0_free_5 : decode cX0_free 5 = .ok (.aload_n 0, 1) := by decide +kernel
theorem dX0_free_6 : decode cX0_free 6 = .ok (.getfield 32, 3) := by decide +kernel
theorem dX0_free_9 : decode cX0_free 9 = .ok (.isub, 1) := by decide +kernel
theorem dX0_free_10 : decode cX0_free 10 = .ok (.invokestatic 47, 3) := by decide +kernel
theorem dX0_free_13 : decode cX0_free 13 = .ok (.ireturn, 1) := by decide +kernel
theorem dX0_put_0 : decode cX0_put 0 = .ok (.iload_n 1, 1) := by decide +kernel
theorem dX0_put_1 : decode cX0_put 1 = .ok (.ifCond .lt 29, 3) := by decide +kernel
theorem dX0_put_4 : decode cX0_put 4 = .ok (.iload_n 1, 1) := by decide +kernel
theorem dX0_put_5 : decode cX0_put 5 = .ok (.bipush 30, 2) := by decide +kernel
theorem dX0_put_7 : decode cX0_put 7 = .ok (.if_icmp .ge 23, 3) := by decide +kernel
theorem dX0_put_10 : decode cX0_put 10 = .ok (.aload_n 0, 1) := by decide +kernel
theorem dX0_put_11 : decode cX0_put 11 = .ok (.getfield 9, 3) := by decide +kernel
theorem dX0_put_14 : decode cX0_put 14 = .ok (.iload_n 1, 1) := by decide +kernel
theorem dX0_put_15 : decode cX0_put 15 = .ok (.dup2, 1) := by decide +kernel
theorem dX0_put_16 : decode cX0_put 16 = .ok (.iaload, 1) := by decide +kernel
theorem dX0_put_17 : decode cX0_put 17 = .ok (.iload_n 2, 1) := by decide +kernel
theorem dX0_put_18 : decode cX0_put 18 = .ok (.iadd, 1) := by decide +kernel
theorem dX0_put_19 : decode cX0_put 19 = .ok (.iastore, 1) := by decide +kernel
theorem dX0_put_20 : decode cX0_put 20 = .ok (.aload_n 0, 1) := by decide +kernel
theorem dX0_put_21 : decode cX0_put 21 = .ok (.dup, 1) := by decide +kernel
theorem dX0_put_22 : decode cX0_put 22 = .ok (.getfield 32, 3) := by decide +kernel
theorem dX0_put_25 : decode cX0_put 25 = .ok (.iload_n 2, 1) := by decide +kernel
theorem dX0_put_26 : decode cX0_put 26 = .ok (.iadd, 1) := by decide +kernel
theorem dX0_put_27 : decode cX0_put 27 = .ok (.putfield 32, 3) := by decide +kernel
theorem dX0_put_30 : decode cX0_put 30 = .ok (.return_, 1) := by decide +kernel
theorem dX0_take_0 : decode cX0_take 0 = .ok (.aload_n 0, 1) := by decide +kernel
theorem dX0_take_1 : decode cX0_take 1 = .ok (.iload_n 1, 1) := by decide +kernel
theorem dX0_take_2 : decode cX0_take 2 = .ok (.iload_n 2, 1) := by decide +kernel
theorem dX0_take_3 : decode cX0_take 3 = .ok (.ineg, 1) := by decide +kernel
theorem dX0_take_4 : decode cX0_take 4 = .ok (.invokevirtual 53, 3) := by decide +kernel
theorem dX0_take_7 : decode cX0_take 7 = .ok (.return_, 1) := by decide +kernel
theorem dX0_giveMost_0 : decode cX0_giveMost 0 = .ok (.aload_n 0, 1) := by decide +kernel
theorem dX0_giveMost_1 : decode cX0_giveMost 1 = .ok (.iload_n 2, 1) := by decide +kernel
theorem dX0_giveMost_2 : decode cX0_giveMost 2 = .ok (.invokevirtual 57, 3) := by decide +kernel
theorem dX0_giveMost_5 : decode cX0_giveMost 5 = .ok (.istore_n 3, 1) := by decide +kernel
theorem dX0_giveMost_6 : decode cX0_giveMost 6 = .ok (.iload_n 2, 1) := by decide +kernel
theorem dX0_giveMost_7 : decode cX0_giveMost 7 = .ok (.aload_n 0, 1) := by decide +kernel
theorem dX0_giveMost_8 : decode cX0_giveMost 8 = .ok (.iload_n 3, 1) := by decide +kernel
theorem dX0_giveMost_9 : decode cX0_giveMost 9 = .ok (.invokevirtual 61, 3) := by decide +kernel
theorem dX0_giveMost_12 : decode cX0_giveMost 12 = .ok (.isub, 1) := by decide +kernel
theorem dX0_giveMost_13 : decode cX0_giveMost 13 = .ok (.istore 4, 2) := by decide +kernel
theorem dX0_giveMost_15 : decode cX0_giveMost 15 = .ok (.bipush 29, 2) := by decide +kernel
theorem dX0_giveMost_17 : decode cX0_giveMost 17 = .ok (.istore 5, 2) := by decide +kernel
theorem dX0_giveMost_19 : decode cX0_giveMost 19 = .ok (.iload 5, 2) := by decide +kernel
theorem dX0_giveMost_21 : decode cX0_giveMost 21 = .ok (.ifCond .lt 66, 3) := by decide +kernel
theorem dX0_giveMost_24 : decode cX0_giveMost 24 = .ok (.iconst 0, 1) := by decide +kernel
theorem dX0_giveMost_25 : decode cX0_giveMost 25 = .ok (.aload_n 0, 1) := by decide +kernel
theorem dX0_giveMost_26 : decode cX0_giveMost 26 = .ok (.getfield 9, 3) := by decide +kernel
theorem dX0_giveMost_29 : decode cX0_giveMost 29 = .ok (.iload 5, 2) := by decide +kernel
theorem dX0_giveMost_31 : decode cX0_giveMost 31 = .ok (.iaload, 1) := by decide +kernel
theorem dX0_giveMost_32 : decode cX0_giveMost 32 = .ok (.iload_n 3, 1) := by decide +kernel
theorem dX0_giveMost_33 : decode cX0_giveMost 33 = .ok (.isub, 1) := by decide +kernel
theorem dX0_giveMost_34 : decode cX0_giveMost 34 = .ok (.invokestatic 47, 3) := by decide +kernel
theorem dX0_giveMost_37 : decode cX0_giveMost 37 = .ok (.istore 6, 2) := by decide +kernel
theorem dX0_giveMost_39 : decode cX0_giveMost 39 = .ok (.iload 4, 2) := by decide +kernel
theorem dX0_giveMost_41 : decode cX0_giveMost 41 = .ok (.ifCond .le 20, 3) := by decide +kernel
theorem dX0_giveMost_44 : decode cX0_giveMost 44 = .ok (.aload_n 0, 1) := by decide +kernel
theorem dX0_giveMost_45 : decode cX0_giveMost 45 = .ok (.getfield 9, 3) := by decide +kernel
theorem dX0_giveMost_48 : decode cX0_giveMost 48 = .ok (.iload 5, 2) := by decide +kernel
theorem dX0_giveMost_50 : decode cX0_giveMost 50 = .ok (.iaload, 1) := by decide +kernel
theorem dX0_giveMost_51 : decode cX0_giveMost 51 = .ok (.iload_n 3, 1) := by decide +kernel
theorem dX0_giveMost_52 : decode cX0_giveMost 52 = .ok (.if_icmp .lt 9, 3) := by decide +kernel
theorem dX0_giveMost_55 : decode cX0_giveMost 55 = .ok (.iinc 6 1, 3) := by decide +kernel
theorem dX0_giveMost_58 : decode cX0_giveMost 58 = .ok (.iinc 4 (-1), 3) := by decide +kernel
theorem dX0_giveMost_61 : decode cX0_giveMost 61 = .ok (.aload_n 0, 1) := by decide +kernel
theorem dX0_giveMost_62 : decode cX0_giveMost 62 = .ok (.iload 5, 2) := by decide +kernel
theorem dX0_giveMost_64 : decode cX0_giveMost 64 = .ok (.iload 6, 2) := by decide +kernel
theorem dX0_giveMost_66 : decode cX0_giveMost 66 = .ok (.invokevirtual 64, 3) := by decide +kernel
theorem dX0_giveMost_69 : decode cX0_giveMost 69 = .ok (.aload_n 1, 1) := by decide +kernel
theorem dX0_giveMost_70 : decode cX0_giveMost 70 = .ok (.ifnull 11, 3) := by decide +kernel
theorem dX0_giveMost_73 : decode cX0_giveMost 73 = .ok (.aload_n 1, 1) := by decide +kernel
theorem dX0_giveMost_74 : decode cX0_giveMost 74 = .ok (.iload 5, 2) := by decide +kernel
theorem dX0_giveMost_76 : decode cX0_giveMost 76 = .ok (.iload 6, 2) := by decide +kernel
theorem dX0_giveMost_78 : decode cX0_giveMost 78 = .ok (.invokevirtual 53, 3) := by decide +kernel
theorem dX0_giveMost_81 : decode cX0_giveMost 81 = .ok (.iinc 5 (-1), 3) := by decide +kernel
theorem dX0_giveMost_84 : decode cX0_giveMost 84 = .ok (.goto (-65), 3) := by decide +kernel
theorem dX0_giveMost_87 : decode cX0_giveMost 87 = .ok (.return_, 1) := by decide +kernel
theorem dX0_levelFor_0 : decode cX0_levelFor 0 = .ok (.iconst 0, 1) := by decide +kernel
theorem dX0_levelFor_1 : decode cX0_levelFor 1 = .ok (.istore_n 2, 1) := by decide +kernel
theorem dX0_levelFor_2 : decode cX0_levelFor 2 = .ok (.iconst 0, 1) := by decide +kernel
theorem dX0_levelFor_3 : decode cX0_levelFor 3 = .ok (.istore_n 3, 1) := by decide +kernel
theorem dX0_levelFor_4 : decode cX0_levelFor 4 = .ok (.iload_n 3, 1) := by decide +kernel
theorem dX0_levelFor_5 : decode cX0_levelFor 5 = .ok (.bipush 30, 2) := by decide +kernel
theorem dX0_levelFor_7 : decode cX0_levelFor 7 = .ok (.if_icmp .ge 20, 3) := by decide +kernel
theorem dX0_levelFor_10 : decode cX0_levelFor 10 = .ok (.iload_n 2, 1) := by decide +kernel
theorem dX0_levelFor_11 : decode cX0_levelFor 11 = .ok (.aload_n 0, 1) := by decide +kernel
theorem dX0_levelFor_12 : decode cX0_levelFor 12 = .ok (.getfield 9, 3) := by decide +kernel
theorem dX0_levelFor_15 : decode cX0_levelFor 15 = .ok (.iload_n 3, 1) := by decide +kernel
theorem dX0_levelFor_16 : decode cX0_levelFor 16 = .ok (.iaload, 1) := by decide +kernel
theorem dX0_levelFor_17 : decode cX0_levelFor 17 = .ok (.invokestatic 47, 3) := by decide +kernel
theorem dX0_levelFor_20 : decode cX0_levelFor 20 = .ok (.istore_n 2, 1) := by decide +kernel
theorem dX0_levelFor_21 : decode cX0_levelFor 21 = .ok (.iinc 3 1, 3) := by decide +kernel
theorem dX0_levelFor_24 : decode cX0_levelFor 24 = .ok (.goto (-20), 3) := by decide +kernel
theorem dX0_levelFor_27 : decode cX0_levelFor 27 = .ok (.iconst 0, 1) := by decide +kernel
theorem dX0_levelFor_28 : decode cX0_levelFor 28 = .ok (.iload_n 2, 1) := by decide +kernel
theorem dX0_levelFor_29 : decode cX0_levelFor 29 = .ok (.iload_n 1, 1) := by decide +kernel
theorem dX0_levelFor_30 : decode cX0_levelFor 30 = .ok (.isub, 1) := by decide +kernel
theorem dX0_levelFor_31 : decode cX0_levelFor 31 = .ok (.invokestatic 47, 3) := by decide +kernel
theorem dX0_levelFor_34 : decode cX0_levelFor 34 = .ok (.istore_n 3, 1) := by decide +kernel
theorem dX0_levelFor_35 : decode cX0_levelFor 35 = .ok (.iconst 0, 1) := by decide +kernel
theorem dX0_levelFor_36 : decode cX0_levelFor 36 = .ok (.istore 4, 2) := by decide +kernel
theorem dX0_levelFor_38 : decode cX0_levelFor 38 = .ok (.iload 4, 2) := by decide +kernel
theorem dX0_levelFor_40 : decode cX0_levelFor 40 = .ok (.sipush 999, 3) := by decide +kernel
theorem dX0_levelFor_43 : decode cX0_levelFor 43 = .ok (.if_icmp .ge 42, 3) := by decide +kernel
theorem dX0_levelFor_46 : decode cX0_levelFor 46 = .ok (.iload_n 3, 1) := by decide +kernel
theorem dX0_levelFor_47 : decode cX0_levelFor 47 = .ok (.iload_n 2, 1) := by decide +kernel
theorem dX0_levelFor_48 : decode cX0_levelFor 48 = .ok (.if_icmp .ge 37, 3) := by decide +kernel
theorem dX0_levelFor_51 : decode cX0_levelFor 51 = .ok (.iload_n 3, 1) := by decide +kernel
theorem dX0_levelFor_52 : decode cX0_levelFor 52 = .ok (.iload_n 2, 1) := by decide +kernel
theorem dX0_levelFor_53 : decode cX0_levelFor 53 = .ok (.iadd, 1) := by decide +kernel
theorem dX0_levelFor_54 : decode cX0_levelFor 54 = .ok (.iconst 2, 1) := by decide +kernel
theorem dX0_levelFor_55 : decode cX0_levelFor 55 = .ok (.idiv, 1) := by decide +kernel
theorem dX0_levelFor_56 : decode cX0_levelFor 56 = .ok (.istore 5, 2) := by decide +kernel
theorem dX0_levelFor_58 : decode cX0_levelFor 58 = .ok (.aload_n 0, 1) := by decide +kernel
theorem dX0_levelFor_59 : decode cX0_levelFor 59 = .ok (.iload 5, 2) := by decide +kernel
theorem dX0_levelFor_61 : decode cX0_levelFor 61 = .ok (.invokevirtual 61, 3) := by decide +kernel
theorem dX0_levelFor_64 : decode cX0_levelFor 64 = .ok (.iload_n 1, 1) := by decide +kernel
theorem dX0_levelFor_65 : decode cX0_levelFor 65 = .ok (.if_icmp .gt 9, 3) := by decide +kernel
theorem dX0_levelFor_68 : decode cX0_levelFor 68 = .ok (.iload 5, 2) := by decide +kernel
theorem dX0_levelFor_70 : decode cX0_levelFor 70 = .ok (.istore_n 2, 1) := by decide +kernel
theorem dX0_levelFor_71 : decode cX0_levelFor 71 = .ok (.goto 8, 3) := by decide +kernel
theorem dX0_levelFor_74 : decode cX0_levelFor 74 = .ok (.iload 5, 2) := by decide +kernel
theorem dX0_levelFor_76 : decode cX0_levelFor 76 = .ok (.iconst 1, 1) := by decide +kernel
theorem dX0_levelFor_77 : decode cX0_levelFor 77 = .ok (.iadd, 1) := by decide +kernel
theorem dX0_levelFor_78 : decode cX0_levelFor 78 = .ok (.istore_n 3, 1) := by decide +kernel
theorem dX0_levelFor_79 : decode cX0_levelFor 79 = .ok (.iinc 4 1, 3) := by decide +kernel
theorem dX0_levelFor_82 : decode cX0_levelFor 82 = .ok (.goto (-44), 3) := by decide +kernel
theorem dX0_levelFor_85 : decode cX0_levelFor 85 = .ok (.iload_n 2, 1) := by decide +kernel
theorem dX0_levelFor_86 : decode cX0_levelFor 86 = .ok (.ireturn, 1) := by decide +kernel
theorem dX0_measuresAbove_0 : decode cX0_measuresAbove 0 = .ok (.iconst 0, 1) := by decide +kernel
theorem dX0_measuresAbove_1 : decode cX0_measuresAbove 1 = .ok (.istore_n 2, 1) := by decide +kernel
theorem dX0_measuresAbove_2 : decode cX0_measuresAbove 2 = .ok (.iconst 0, 1) := by decide +kernel
theorem dX0_measuresAbove_3 : decode cX0_measuresAbove 3 = .ok (.istore_n 3, 1) := by decide +kernel
theorem dX0_measuresAbove_4 : decode cX0_measuresAbove 4 = .ok (.iload_n 3, 1) := by decide +kernel
theorem dX0_measuresAbove_5 : decode cX0_measuresAbove 5 = .ok (.bipush 30, 2) := by decide +kernel
theorem dX0_measuresAbove_7 : decode cX0_measuresAbove 7 = .ok (.if_icmp .ge 30, 3) := by decide +kernel
theorem dX0_measuresAbove_10 : decode cX0_measuresAbove 10 = .ok (.aload_n 0, 1) := by decide +kernel
theorem dX0_measuresAbove_11 : decode cX0_measuresAbove 11 = .ok (.getfield 9, 3) := by decide +kernel
theorem dX0_measuresAbove_14 : decode cX0_measuresAbove 14 = .ok (.iload_n 3, 1) := by decide +kernel
theorem dX0_measuresAbove_15 : decode cX0_measuresAbove 15 = .ok (.iaload, 1) := by decide +kernel
theorem dX0_measuresAbove_16 : decode cX0_measuresAbove 16 = .ok (.iload_n 1, 1) := by decide +kernel
theorem dX0_measuresAbove_17 : decode cX0_measuresAbove 17 = .ok (.if_icmp .le 14, 3) := by decide +kernel
theorem dX0_measuresAbove_20 : decode cX0_measuresAbove 20 = .ok (.iload_n 2, 1) := by decide +kernel
theorem dX0_measuresAbove_21 : decode cX0_measuresAbove 21 = .ok (.aload_n 0, 1) := by decide +kernel
theorem dX0_measuresAbove_22 : decode cX0_measuresAbove 22 = .ok (.getfield 9, 3) := by decide +kernel
theorem dX0_measuresAbove_25 : decode cX0_measuresAbove 25 = .ok (.iload_n 3, 1) := by decide +kernel
theorem dX0_measuresAbove_26 : decode cX0_measuresAbove 26 = .ok (.iaload, 1) := by decide +kernel
theorem dX0_measuresAbove_27 : decode cX0_measuresAbove 27 = .ok (.iload_n 1, 1) := by decide +kernel
theorem dX0_measuresAbove_28 : decode cX0_measuresAbove 28 = .ok (.isub, 1) := by decide +kernel
theorem dX0_measuresAbove_29 : decode cX0_measuresAbove 29 = .ok (.iadd, 1) := by decide +kernel
theorem dX0_measuresAbove_30 : decode cX0_measuresAbove 30 = .ok (.istore_n 2, 1) := by decide +kernel
theorem dX0_measuresAbove_31 : decode cX0_measuresAbove 31 = .ok (.iinc 3 1, 3) := by decide +kernel
theorem dX0_measuresAbove_34 : decode cX0_measuresAbove 34 = .ok (.goto (-30), 3) := by decide +kernel
theorem dX0_measuresAbove_37 : decode cX0_measuresAbove 37 = .ok (.iload_n 2, 1) := by decide +kernel
theorem dX0_measuresAbove_38 : decode cX0_measuresAbove 38 = .ok (.ireturn, 1) := by decide +kernel
theorem dX1_init_0 : decode cX1_init 0 = .ok (.aload_n 0, 1) := by decide +kernel
theorem dX1_init_1 : decode cX1_init 1 = .ok (.invokespecial 1, 3) := by decide +kernel
theorem dX1_init_4 : decode cX1_init 4 = .ok (.return_, 1) := by decide +kernel
theorem dX1_copyFrom_0 : decode cX1_copyFrom 0 = .ok (.aload_n 0, 1) := by decide +kernel
theorem dX1_copyFrom_1 : decode cX1_copyFrom 1 = .ok (.aload_n 1, 1) := by decide +kernel
theorem dX1_copyFrom_2 : decode cX1_copyFrom 2 = .ok (.getfield 7, 3) := by decide +kernel
theorem dX1_copyFrom_5 : decode cX1_copyFrom 5 = .ok (.putfield 7, 3) := by decide +kernel
theorem dX1_copyFrom_8 : decode cX1_copyFrom 8 = .ok (.aload_n 0, 1) := by decide +kernel
theorem dX1_copyFrom_9 : decode cX1_copyFrom 9 = .ok (.aload_n 1, 1) := by decide +kernel
theorem dX1_copyFrom_10 : decode cX1_copyFrom 10 = .ok (.getfield 13, 3) := by decide +kernel
theorem dX1_copyFrom_13 : decode cX1_copyFrom 13 = .ok (.putfield 13, 3) := by decide +kernel
theorem dX1_copyFrom_16 : decode cX1_copyFrom 16 = .ok (.aload_n 0, 1) := by decide +kernel
theorem dX1_copyFrom_17 : decode cX1_copyFrom 17 = .ok (.aload_n 1, 1) := by decide +kernel
theorem dX1_copyFrom_18 : decode cX1_copyFrom 18 = .ok (.getfield 16, 3) := by decide +kernel
theorem dX1_copyFrom_21 : decode cX1_copyFrom 21 = .ok (.putfield 16, 3) := by decide +kernel
theorem dX1_copyFrom_24 : decode cX1_copyFrom 24 = .ok (.return_, 1) := by decide +kernel
theorem dX2_init_0 : decode cX2_init 0 = .ok (.aload_n 0, 1) := by decide +kernel
theorem dX2_init_1 : decode cX2_init 1 = .ok (.invokespecial 3, 3) := by decide +kernel
theorem dX2_init_4 : decode cX2_init 4 = .ok (.aload_n 0, 1) := by decide +kernel
theorem dX2_init_5 : decode cX2_init 5 = .ok (.bipush 30, 2) := by decide +kernel
theorem dX2_init_7 : decode cX2_init 7 = .ok (.newarray .int, 2) := by decide +kernel
theorem dX2_init_9 : decode cX2_init 9 = .ok (.putfield 9, 3) := by decide +kernel
theorem dX2_init_12 : decode cX2_init 12 = .ok (.return_, 1) := by decide +kernel
theorem dX2_begin_0 : decode cX2_begin 0 = .ok (.aload_n 0, 1) := by decide +kernel
theorem dX2_begin_1 : decode cX2_begin 1 = .ok (.iload_n 1, 1) := by decide +kernel
theorem dX2_begin_2 : decode cX2_begin 2 = .ok (.putfield 15, 3) := by decide +kernel
theorem dX2_begin_5 : decode cX2_begin 5 = .ok (.aload_n 0, 1) := by decide +kernel
theorem dX2_begin_6 : decode cX2_begin 6 = .ok (.iload_n 2, 1) := by decide +kernel
theorem dX2_begin_7 : decode cX2_begin 7 = .ok (.putfield 19, 3) := by decide +kernel
theorem dX2_begin_10 : decode cX2_begin 10 = .ok (.aload_n 0, 1) := by decide +kernel
theorem dX2_begin_11 : decode cX2_begin 11 = .ok (.iload_n 3, 1) := by decide +kernel
theorem dX2_begin_12 : decode cX2_begin 12 = .ok (.putfield 22, 3) := by decide +kernel
theorem dX2_begin_15 : decode cX2_begin 15 = .ok (.aload_n 0, 1) := by decide +kernel
theorem dX2_begin_16 : decode cX2_begin 16 = .ok (.iconst 0, 1) := by decide +kernel
theorem dX2_begin_17 : decode cX2_begin 17 = .ok (.putfield 25, 3) := by decide +kernel
theorem dX2_begin_20 : decode cX2_begin 20 = .ok (.aload_n 0, 1) := by decide +kernel
theorem dX2_begin_21 : decode cX2_begin 21 = .ok (.iconst 0, 1) := by decide +kernel
theorem dX2_begin_22 : decode cX2_begin 22 = .ok (.putfield 28, 3) := by decide +kernel
theorem dX2_begin_25 : decode cX2_begin 25 = .ok (.aload_n 0, 1) := by decide +kernel
theorem dX2_begin_26 : decode cX2_begin 26 = .ok (.getfield 9, 3) := by decide +kernel
theorem dX2_begin_29 : decode cX2_begin 29 = .ok (.iconst 0, 1) := by decide +kernel
theorem dX2_begin_30 : decode cX2_begin 30 = .ok (.invokestatic 31, 3) := by decide +kernel
theorem dX2_begin_33 : decode cX2_begin 33 = .ok (.return_, 1) := by decide +kernel
theorem dX2_copyFrom_0 : decode cX2_copyFrom 0 = .ok (.aload_n 0, 1) := by decide +kernel
theorem dX2_copyFrom_1 : decode cX2_copyFrom 1 = .ok (.aload_n 1, 1) := by decide +kernel
theorem dX2_copyFrom_2 : decode cX2_copyFrom 2 = .ok (.getfield 15, 3) := by decide +kernel
theorem dX2_copyFrom_5 : decode cX2_copyFrom 5 = .ok (.putfield 15, 3) := by decide +kernel
theorem dX2_copyFrom_8 : decode cX2_copyFrom 8 = .ok (.aload_n 0, 1) := by decide +kernel
theorem dX2_copyFrom_9 : decode cX2_copyFrom 9 = .ok (.aload_n 1, 1) := by decide +kernel
theorem dX2_copyFrom_10 : decode cX2_copyFrom 10 = .ok (.getfield 19, 3) := by decide +kernel
theorem dX2_copyFrom_13 : decode cX2_copyFrom 13 = .ok (.putfield 19, 3) := by decide +kernel
theorem dX2_copyFrom_16 : decode cX2_copyFrom 16 = .ok (.aload_n 0, 1) := by decide +kernel
theorem dX2_copyFrom_17 : decode cX2_copyFrom 17 = .ok (.aload_n 1, 1) := by decide +kernel
theorem dX2_copyFrom_18 : decode cX2_copyFrom 18 = .ok (.getfield 22, 3) := by decide +kernel
theorem dX2_copyFrom_21 : decode cX2_copyFrom 21 = .ok (.putfield 22, 3) := by decide +kernel
theorem dX2_copyFrom_24 : decode cX2_copyFrom 24 = .ok (.aload_n 0, 1) := by decide +kernel
theorem dX2_copyFrom_25 : decode cX2_copyFrom 25 = .ok (.aload_n 1, 1) := by decide +kernel
theorem dX2_copyFrom_26 : decode cX2_copyFrom 26 = .ok (.getfield 25, 3) := by decide +kernel
theorem dX2_copyFrom_29 : decode cX2_copyFrom 29 = .ok (.putfield 25, 3) := by decide +kernel
theorem dX2_copyFrom_32 : decode cX2_copyFrom 32 = .ok (.aload_n 0, 1) := by decide +kernel
theorem dX2_copyFrom_33 : decode cX2_copyFrom 33 = .ok (.aload_n 1, 1) := by decide +kernel
theorem dX2_copyFrom_34 : decode cX2_copyFrom 34 = .ok (.getfield 28, 3) := by decide +kernel
theorem dX2_copyFrom_37 : decode cX2_copyFrom 37 = .ok (.putfield 28, 3) := by decide +kernel
theorem dX2_copyFrom_40 : decode cX2_copyFrom 40 = .ok (.aload_n 1, 1) := by decide +kernel
theorem dX2_copyFrom_41 : decode cX2_copyFrom 41 = .ok (.getfield 9, 3) := by decide +kernel
theorem dX2_copyFrom_44 : decode cX2_copyFrom 44 = .ok (.iconst 0, 1) := by decide +kernel
theorem dX2_copyFrom_45 : decode cX2_copyFrom 45 = .ok (.aload_n 0, 1) := by decide +kernel
theorem dX2_copyFrom_46 : decode cX2_copyFrom 46 = .ok (.getfield 9, 3) := by decide +kernel
theorem dX2_copyFrom_49 : decode cX2_copyFrom 49 = .ok (.iconst 0, 1) := by decide +kernel
theorem dX2_copyFrom_50 : decode cX2_copyFrom 50 = .ok (.bipush 30, 2) := by decide +kernel
theorem dX2_copyFrom_52 : decode cX2_copyFrom 52 = .ok (.invokestatic 37, 3) := by decide +kernel
theorem dX2_copyFrom_55 : decode cX2_copyFrom 55 = .ok (.return_, 1) := by decide +kernel
theorem dX2_drink_0 : decode cX2_drink 0 = .ok (.iload_n 1, 1) := by decide +kernel
theorem dX2_drink_1 : decode cX2_drink 1 = .ok (.ifCond .lt 19, 3) := by decide +kernel
theorem dX2_drink_4 : decode cX2_drink 4 = .ok (.iload_n 1, 1) := by decide +kernel
theorem dX2_drink_5 : decode cX2_drink 5 = .ok (.bipush 30, 2) := by decide +kernel
theorem dX2_drink_7 : decode cX2_drink 7 = .ok (.if_icmp .ge 13, 3) := by decide +kernel
theorem dX2_drink_10 : decode cX2_drink 10 = .ok (.aload_n 0, 1) := by decide +kernel
theorem dX2_drink_11 : decode cX2_drink 11 = .ok (.getfield 9, 3) := by decide +kernel
theorem dX2_drink_14 : decode cX2_drink 14 = .ok (.iload_n 1, 1) := by decide +kernel
theorem dX2_drink_15 : decode cX2_drink 15 = .ok (.dup2, 1) := by decide +kernel
theorem dX2_drink_16 : decode cX2_drink 16 = .ok (.iaload, 1) := by decide +kernel
theorem dX2_drink_17 : decode cX2_drink 17 = .ok (.iload_n 2, 1) := by decide +kernel
theorem dX2_drink_18 : decode cX2_drink 18 = .ok (.iadd, 1) := by decide +kernel
theorem dX2_drink_19 : decode cX2_drink 19 = .ok (.iastore, 1) := by decide +kernel
theorem dX2_drink_20 : decode cX2_drink 20 = .ok (.return_, 1) := by decide +kernel
theorem dX2_allDrunk_0 : decode cX2_allDrunk 0 = .ok (.iconst 0, 1) := by decide +kernel
theorem dX2_allDrunk_1 : decode cX2_allDrunk 1 = .ok (.istore_n 1, 1) := by decide +kernel
theorem dX2_allDrunk_2 : decode cX2_allDrunk 2 = .ok (.iconst 0, 1) := by decide +kernel
theorem dX2_allDrunk_3 : decode cX2_allDrunk 3 = .ok (.istore_n 2, 1) := by decide +kernel
theorem dX2_allDrunk_4 : decode cX2_allDrunk 4 = .ok (.iload_n 2, 1) := by decide +kernel
theorem dX2_allDrunk_5 : decode cX2_allDrunk 5 = .ok (.bipush 30, 2) := by decide +kernel
theorem dX2_allDrunk_7 : decode cX2_allDrunk 7 = .ok (.if_icmp .ge 18, 3) := by decide +kernel
theorem dX2_allDrunk_10 : decode cX2_allDrunk 10 = .ok (.iload_n 1, 1) := by decide +kernel
theorem dX2_allDrunk_11 : decode cX2_allDrunk 11 = .ok (.aload_n 0, 1) := by decide +kernel
theorem dX2_allDrunk_12 : decode cX2_allDrunk 12 = .ok (.getfield 9, 3) := by decide +kernel
theorem dX2_allDrunk_15 : decode cX2_allDrunk 15 = .ok (.iload_n 2, 1) := by decide +kernel
theorem dX2_allDrunk_16 : decode cX2_allDrunk 16 = .ok (.iaload, 1) := by decide +kernel
theorem dX2_allDrunk_17 : decode cX2_allDrunk 17 = .ok (.iadd, 1) := by decide +kernel
theorem dX2_allDrunk_18 : decode cX2_allDrunk 18 = .ok (.istore_n 1, 1) := by decide +kernel
theorem dX2_allDrunk_19 : decode cX2_allDrunk 19 = .ok (.iinc 2 1, 3) := by decide +kernel
theorem dX2_allDrunk_22 : decode cX2_allDrunk 22 = .ok (.goto (-18), 3) := by decide +kernel
theorem dX2_allDrunk_25 : decode cX2_allDrunk 25 = .ok (.iload_n 1, 1) := by decide +kernel
theorem dX2_allDrunk_26 : decode cX2_allDrunk 26 = .ok (.ireturn, 1) := by decide +kernel
theorem dX3_init_0 : decode cX3_init 0 = .ok (.aload_n 0, 1) := by decide +kernel
theorem dX3_init_1 : decode cX3_init 1 = .ok (.invokespecial 3, 3) := by decide +kernel
theorem dX3_init_4 : decode cX3_init 4 = .ok (.aload_n 0, 1) := by decide +kernel
theorem dX3_init_5 : decode cX3_init 5 = .ok (.bipush 8, 2) := by decide +kernel
theorem dX3_init_7 : decode cX3_init 7 = .ok (.anewarray 9, 3) := by decide +kernel
theorem dX3_init_10 : decode cX3_init 10 = .ok (.putfield 11, 3) := by decide +kernel
theorem dX3_init_13 : decode cX3_init 13 = .ok (.aload_n 0, 1) := by decide +kernel
theorem dX3_init_14 : decode cX3_init 14 = .ok (.bipush 8, 2) := by decide +kernel
theorem dX3_init_16 : decode cX3_init 16 = .ok (.anewarray 17, 3) := by decide +kernel
theorem dX3_init_19 : decode cX3_init 19 = .ok (.putfield 19, 3) := by decide +kernel
theorem dX3_init_22 : decode cX3_init 22 = .ok (.aload_n 0, 1) := by decide +kernel
theorem dX3_init_23 : decode cX3_init 23 = .ok (.bipush 8, 2) := by decide +kernel
theorem dX3_init_25 : decode cX3_init 25 = .ok (.anewarray 23, 3) := by decide +kernel
theorem dX3_init_28 : decode cX3_init 28 = .ok (.putfield 25, 3) := by decide +kernel
theorem dX3_init_31 : decode cX3_init 31 = .ok (.aload_n 0, 1) := by decide +kernel
theorem dX3_init_32 : decode cX3_init 32 = .ok (.bipush 30, 2) := by decide +kernel
theorem dX3_init_34 : decode cX3_init 34 = .ok (.newarray .int, 2) := by decide +kernel
theorem dX3_init_36 : decode cX3_init 36 = .ok (.putfield 29, 3) := by decide +kernel
theorem dX3_init_39 : decode cX3_init 39 = .ok (.aload_n 0, 1) := by decide +kernel
theorem dX3_init_40 : decode cX3_init 40 = .ok (.bipush 30, 2) := by decide +kernel
theorem dX3_init_42 : decode cX3_init 42 = .ok (.newarray .int, 2) := by decide +kernel
theorem dX3_init_44 : decode cX3_init 44 = .ok (.putfield 33, 3) := by decide +kernel
theorem dX3_init_47 : decode cX3_init 47 = .ok (.aload_n 0, 1) := by decide +kernel
theorem dX3_init_48 : decode cX3_init 48 = .ok (.iconst 1, 1) := by decide +kernel
theorem dX3_init_49 : decode cX3_init 49 = .ok (.putfield 36, 3) := by decide +kernel
theorem dX3_init_52 : decode cX3_init 52 = .ok (.iconst 0, 1) := by decide +kernel
theorem dX3_init_53 : decode cX3_init 53 = .ok (.istore_n 1, 1) := by decide +kernel
theorem dX3_init_54 : decode cX3_init 54 = .ok (.iload_n 1, 1) := by decide +kernel
theorem dX3_init_55 : decode cX3_init 55 = .ok (.bipush 8, 2) := by decide +kernel
theorem dX3_init_57 : decode cX3_init 57 = .ok (.if_icmp .ge 22, 3) := by decide +kernel
theorem dX3_init_60 : decode cX3_init 60 = .ok (.aload_n 0, 1) := by decide +kernel
theorem dX3_init_61 : decode cX3_init 61 = .ok (.getfield 11, 3) := by decide +kernel
theorem dX3_init_64 : decode cX3_init 64 = .ok (.iload_n 1, 1) := by decide +kernel
theorem dX3_init_65 : decode cX3_init 65 = .ok (.new 9, 3) := by decide +kernel
theorem dX3_init_68 : decode cX3_init 68 = .ok (.dup, 1) := by decide +kernel
theorem dX3_init_69 : decode cX3_init 69 = .ok (.invokespecial 40, 3) := by decide +kernel
theorem dX3_init_72 : decode cX3_init 72 = .ok (.aastore, 1) := by decide +kernel
theorem dX3_init_73 : decode cX3_init 73 = .ok (.iinc 1 1, 3) := by decide +kernel
theorem dX3_init_76 : decode cX3_init 76 = .ok (.goto (-22), 3) := by decide +kernel
theorem dX3_init_79 : decode cX3_init 79 = .ok (.iconst 0, 1) := by decide +kernel
theorem dX3_init_80 : decode cX3_init 80 = .ok (.istore_n 1, 1) := by decide +kernel
theorem dX3_init_81 : decode cX3_init 81 = .ok (.iload_n 1, 1) := by decide +kernel
theorem dX3_init_82 : decode cX3_init 82 = .ok (.bipush 8, 2) := by decide +kernel
theorem dX3_init_84 : decode cX3_init 84 = .ok (.if_icmp .ge 22, 3) := by decide +kernel
theorem dX3_init_87 : decode cX3_init 87 = .ok (.aload_n 0, 1) := by decide +kernel
theorem dX3_init_88 : decode cX3_init 88 = .ok (.getfield 19, 3) := by decide +kernel
theorem dX3_init_91 : decode cX3_init 91 = .ok (.iload_n 1, 1) := by decide +kernel
theorem dX3_init_92 : decode cX3_init 92 = .ok (.new 17, 3) := by decide +kernel
theorem dX3_init_95 : decode cX3_init 95 = .ok (.dup, 1) := by decide +kernel
theorem dX3_init_96 : decode cX3_init 96 = .ok (.invokespecial 41, 3) := by decide +kernel
theorem dX3_init_99 : decode cX3_init 99 = .ok (.aastore, 1) := by decide +kernel
theorem dX3_init_100 : decode cX3_init 100 = .ok (.iinc 1 1, 3) := by decide +kernel
theorem dX3_init_103 : decode cX3_init 103 = .ok (.goto (-22), 3) := by decide +kernel
theorem dX3_init_106 : decode cX3_init 106 = .ok (.iconst 0, 1) := by decide +kernel
theorem dX3_init_107 : decode cX3_init 107 = .ok (.istore_n 1, 1) := by decide +kernel
theorem dX3_init_108 : decode cX3_init 108 = .ok (.iload_n 1, 1) := by decide +kernel
theorem dX3_init_109 : decode cX3_init 109 = .ok (.bipush 8, 2) := by decide +kernel
theorem dX3_init_111 : decode cX3_init 111 = .ok (.if_icmp .ge 22, 3) := by decide +kernel
theorem dX3_init_114 : decode cX3_init 114 = .ok (.aload_n 0, 1) := by decide +kernel
theorem dX3_init_115 : decode cX3_init 115 = .ok (.getfield 25, 3) := by decide +kernel
theorem dX3_init_118 : decode cX3_init 118 = .ok (.iload_n 1, 1) := by decide +kernel
theorem dX3_init_119 : decode cX3_init 119 = .ok (.new 23, 3) := by decide +kernel
theorem dX3_init_122 : decode cX3_init 122 = .ok (.dup, 1) := by decide +kernel
theorem dX3_init_123 : decode cX3_init 123 = .ok (.invokespecial 42, 3) := by decide +kernel
theorem dX3_init_126 : decode cX3_init 126 = .ok (.aastore, 1) := by decide +kernel
theorem dX3_init_127 : decode cX3_init 127 = .ok (.iinc 1 1, 3) := by decide +kernel
theorem dX3_init_130 : decode cX3_init 130 = .ok (.goto (-22), 3) := by decide +kernel
theorem dX3_init_133 : decode cX3_init 133 = .ok (.return_, 1) := by decide +kernel
theorem dX3_copyFrom_0 : decode cX3_copyFrom 0 = .ok (.aload_n 0, 1) := by decide +kernel
theorem dX3_copyFrom_1 : decode cX3_copyFrom 1 = .ok (.aload_n 1, 1) := by decide +kernel
theorem dX3_copyFrom_2 : decode cX3_copyFrom 2 = .ok (.getfield 43, 3) := by decide +kernel
theorem dX3_copyFrom_5 : decode cX3_copyFrom 5 = .ok (.putfield 43, 3) := by decide +kernel
theorem dX3_copyFrom_8 : decode cX3_copyFrom 8 = .ok (.aload_n 0, 1) := by decide +kernel
theorem dX3_copyFrom_9 : decode cX3_copyFrom 9 = .ok (.aload_n 1, 1) := by decide +kernel
theorem dX3_copyFrom_10 : decode cX3_copyFrom 10 = .ok (.getfield 46, 3) := by decide +kernel
theorem dX3_copyFrom_13 : decode cX3_copyFrom 13 = .ok (.putfield 46, 3) := by decide +kernel
theorem dX3_copyFrom_16 : decode cX3_copyFrom 16 = .ok (.aload_n 0, 1) := by decide +kernel
theorem dX3_copyFrom_17 : decode cX3_copyFrom 17 = .ok (.aload_n 1, 1) := by decide +kernel
theorem dX3_copyFrom_18 : decode cX3_copyFrom 18 = .ok (.getfield 49, 3) := by decide +kernel
theorem dX3_copyFrom_21 : decode cX3_copyFrom 21 = .ok (.putfield 49, 3) := by decide +kernel
theorem dX3_copyFrom_24 : decode cX3_copyFrom 24 = .ok (.iconst 0, 1) := by decide +kernel
theorem dX3_copyFrom_25 : decode cX3_copyFrom 25 = .ok (.istore_n 2, 1) := by decide +kernel
theorem dX3_copyFrom_26 : decode cX3_copyFrom 26 = .ok (.iload_n 2, 1) := by decide +kernel
theorem dX3_copyFrom_27 : decode cX3_copyFrom 27 = .ok (.aload_n 0, 1) := by decide +kernel
theorem dX3_copyFrom_28 : decode cX3_copyFrom 28 = .ok (.getfield 43, 3) := by decide +kernel
theorem dX3_copyFrom_31 : decode cX3_copyFrom 31 = .ok (.if_icmp .ge 24, 3) := by decide +kernel
theorem dX3_copyFrom_34 : decode cX3_copyFrom 34 = .ok (.aload_n 0, 1) := by decide +kernel
theorem dX3_copyFrom_35 : decode cX3_copyFrom 35 = .ok (.getfield 11, 3) := by decide +kernel
theorem dX3_copyFrom_38 : decode cX3_copyFrom 38 = .ok (.iload_n 2, 1) := by decide +kernel
theorem dX3_copyFrom_39 : decode cX3_copyFrom 39 = .ok (.aaload, 1) := by decide +kernel
theorem dX3_copyFrom_40 : decode cX3_copyFrom 40 = .ok (.aload_n 1, 1) := by decide +kernel
theorem dX3_copyFrom_41 : decode cX3_copyFrom 41 = .ok (.getfield 11, 3) := by decide +kernel
theorem dX3_copyFrom_44 : decode cX3_copyFrom 44 = .ok (.iload_n 2, 1) := by decide +kernel
theorem dX3_copyFrom_45 : decode cX3_copyFrom 45 = .ok (.aaload, 1) := by decide +kernel
theorem dX3_copyFrom_46 : decode cX3_copyFrom 46 = .ok (.invokevirtual 52, 3) := by decide +kernel
theorem dX3_copyFrom_49 : decode cX3_copyFrom 49 = .ok (.iinc 2 1, 3) := by decide +kernel
theorem dX3_copyFrom_52 : decode cX3_copyFrom 52 = .ok (.goto (-26), 3) := by decide +kernel
theorem dX3_copyFrom_55 : decode cX3_copyFrom 55 = .ok (.iconst 0, 1) := by decide +kernel
theorem dX3_copyFrom_56 : decode cX3_copyFrom 56 = .ok (.istore_n 2, 1) := by decide +kernel
theorem dX3_copyFrom_57 : decode cX3_copyFrom 57 = .ok (.iload_n 2, 1) := by decide +kernel
theorem dX3_copyFrom_58 : decode cX3_copyFrom 58 = .ok (.aload_n 0, 1) := by decide +kernel
theorem dX3_copyFrom_59 : decode cX3_copyFrom 59 = .ok (.getfield 46, 3) := by decide +kernel
theorem dX3_copyFrom_62 : decode cX3_copyFrom 62 = .ok (.if_icmp .ge 24, 3) := by decide +kernel
theorem dX3_copyFrom_65 : decode cX3_copyFrom 65 = .ok (.aload_n 0, 1) := by decide +kernel
theorem dX3_copyFrom_66 : decode cX3_copyFrom 66 = .ok (.getfield 19, 3) := by decide +kernel
theorem dX3_copyFrom_69 : decode cX3_copyFrom 69 = .ok (.iload_n 2, 1) := by decide +kernel
theorem dX3_copyFrom_70 : decode cX3_copyFrom 70 = .ok (.aaload, 1) := by decide +kernel
theorem dX3_copyFrom_71 : decode cX3_copyFrom 71 = .ok (.aload_n 1, 1) := by decide +kernel
theorem dX3_copyFrom_72 : decode cX3_copyFrom 72 = .ok (.getfield 19, 3) := by decide +kernel
theorem dX3_copyFrom_75 : decode cX3_copyFrom 75 = .ok (.iload_n 2, 1) := by decide +kernel
theorem dX3_copyFrom_76 : decode cX3_copyFrom 76 = .ok (.aaload, 1) := by decide +kernel
theorem dX3_copyFrom_77 : decode cX3_copyFrom 77 = .ok (.invokevirtual 56, 3) := by decide +kernel
theorem dX3_copyFrom_80 : decode cX3_copyFrom 80 = .ok (.iinc 2 1, 3) := by decide +kernel
theorem dX3_copyFrom_83 : decode cX3_copyFrom 83 = .ok (.goto (-26), 3) := by decide +kernel
theorem dX3_copyFrom_86 : decode cX3_copyFrom 86 = .ok (.iconst 0, 1) := by decide +kernel
theorem dX3_copyFrom_87 : decode cX3_copyFrom 87 = .ok (.istore_n 2, 1) := by decide +kernel
theorem dX3_copyFrom_88 : decode cX3_copyFrom 88 = .ok (.iload_n 2, 1) := by decide +kernel
theorem dX3_copyFrom_89 : decode cX3_copyFrom 89 = .ok (.aload_n 0, 1) := by decide +kernel
theorem dX3_copyFrom_90 : decode cX3_copyFrom 90 = .ok (.getfield 49, 3) := by decide +kernel
theorem dX3_copyFrom_93 : decode cX3_copyFrom 93 = .ok (.if_icmp .ge 24, 3) := by decide +kernel
theorem dX3_copyFrom_96 : decode cX3_copyFrom 96 = .ok (.aload_n 0, 1) := by decide +kernel
theorem dX3_copyFrom_97 : decode cX3_copyFrom 97 = .ok (.getfield 25, 3) := by decide +kernel
theorem dX3_copyFrom_100 : decode cX3_copyFrom 100 = .ok (.iload_n 2, 1) := by decide +kernel
theorem dX3_copyFrom_101 : decode cX3_copyFrom 101 = .ok (.aaload, 1) := by decide +kernel
theorem dX3_copyFrom_102 : decode cX3_copyFrom 102 = .ok (.aload_n 1, 1) := by decide +kernel
theorem dX3_copyFrom_103 : decode cX3_copyFrom 103 = .ok (.getfield 25, 3) := by decide +kernel
theorem dX3_copyFrom_106 : decode cX3_copyFrom 106 = .ok (.iload_n 2, 1) := by decide +kernel
theorem dX3_copyFrom_107 : decode cX3_copyFrom 107 = .ok (.aaload, 1) := by decide +kernel
theorem dX3_copyFrom_108 : decode cX3_copyFrom 108 = .ok (.invokevirtual 59, 3) := by decide +kernel
theorem dX3_copyFrom_111 : decode cX3_copyFrom 111 = .ok (.iinc 2 1, 3) := by decide +kernel
theorem dX3_copyFrom_114 : decode cX3_copyFrom 114 = .ok (.goto (-26), 3) := by decide +kernel
theorem dX3_copyFrom_117 : decode cX3_copyFrom 117 = .ok (.aload_n 1, 1) := by decide +kernel
theorem dX3_copyFrom_118 : decode cX3_copyFrom 118 = .ok (.getfield 29, 3) := by decide +kernel
theorem dX3_copyFrom_121 : decode cX3_copyFrom 121 = .ok (.iconst 0, 1) := by decide +kernel
theorem dX3_copyFrom_122 : decode cX3_copyFrom 122 = .ok (.aload_n 0, 1) := by decide +kernel
theorem dX3_copyFrom_123 : decode cX3_copyFrom 123 = .ok (.getfield 29, 3) := by decide +kernel
theorem dX3_copyFrom_126 : decode cX3_copyFrom 126 = .ok (.iconst 0, 1) := by decide +kernel
theorem dX3_copyFrom_127 : decode cX3_copyFrom 127 = .ok (.bipush 30, 2) := by decide +kernel
theorem dX3_copyFrom_129 : decode cX3_copyFrom 129 = .ok (.invokestatic 62, 3) := by decide +kernel
theorem dX3_copyFrom_132 : decode cX3_copyFrom 132 = .ok (.aload_n 0, 1) := by decide +kernel
theorem dX3_copyFrom_133 : decode cX3_copyFrom 133 = .ok (.aload_n 1, 1) := by decide +kernel
theorem dX3_copyFrom_134 : decode cX3_copyFrom 134 = .ok (.getfield 68, 3) := by decide +kernel
theorem dX3_copyFrom_137 : decode cX3_copyFrom 137 = .ok (.putfield 68, 3) := by decide +kernel
theorem dX3_copyFrom_140 : decode cX3_copyFrom 140 = .ok (.aload_n 0, 1) := by decide +kernel
theorem dX3_copyFrom_141 : decode cX3_copyFrom 141 = .ok (.aload_n 1, 1) := by decide +kernel
theorem dX3_copyFrom_142 : decode cX3_copyFrom 142 = .ok (.getfield 72, 3) := by decide +kernel
theorem dX3_copyFrom_145 : decode cX3_copyFrom 145 = .ok (.putfield 72, 3) := by decide +kernel
theorem dX3_copyFrom_148 : decode cX3_copyFrom 148 = .ok (.aload_n 0, 1) := by decide +kernel
theorem dX3_copyFrom_149 : decode cX3_copyFrom 149 = .ok (.aload_n 1, 1) := by decide +kernel
theorem dX3_copyFrom_150 : decode cX3_copyFrom 150 = .ok (.getfield 75, 3) := by decide +kernel
theorem dX3_copyFrom_153 : decode cX3_copyFrom 153 = .ok (.putfield 75, 3) := by decide +kernel
theorem dX3_copyFrom_156 : decode cX3_copyFrom 156 = .ok (.aload_n 0, 1) := by decide +kernel
theorem dX3_copyFrom_157 : decode cX3_copyFrom 157 = .ok (.aload_n 1, 1) := by decide +kernel
theorem dX3_copyFrom_158 : decode cX3_copyFrom 158 = .ok (.getfield 36, 3) := by decide +kernel
theorem dX3_copyFrom_161 : decode cX3_copyFrom 161 = .ok (.putfield 36, 3) := by decide +kernel
theorem dX3_copyFrom_164 : decode cX3_copyFrom 164 = .ok (.aload_n 0, 1) := by decide +kernel
theorem dX3_copyFrom_165 : decode cX3_copyFrom 165 = .ok (.aload_n 1, 1) := by decide +kernel
theorem dX3_copyFrom_166 : decode cX3_copyFrom 166 = .ok (.getfield 78, 3) := by decide +kernel
theorem dX3_copyFrom_169 : decode cX3_copyFrom 169 = .ok (.putfield 78, 3) := by decide +kernel
theorem dX3_copyFrom_172 : decode cX3_copyFrom 172 = .ok (.aload_n 0, 1) := by decide +kernel
theorem dX3_copyFrom_173 : decode cX3_copyFrom 173 = .ok (.aload_n 1, 1) := by decide +kernel
theorem dX3_copyFrom_174 : decode cX3_copyFrom 174 = .ok (.getfield 81, 3) := by decide +kernel
theorem dX3_copyFrom_177 : decode cX3_copyFrom 177 = .ok (.putfield 81, 3) := by decide +kernel
theorem dX3_copyFrom_180 : decode cX3_copyFrom 180 = .ok (.aload_n 0, 1) := by decide +kernel
theorem dX3_copyFrom_181 : decode cX3_copyFrom 181 = .ok (.aload_n 1, 1) := by decide +kernel
theorem dX3_copyFrom_182 : decode cX3_copyFrom 182 = .ok (.getfield 84, 3) := by decide +kernel
theorem dX3_copyFrom_185 : decode cX3_copyFrom 185 = .ok (.putfield 84, 3) := by decide +kernel
theorem dX3_copyFrom_188 : decode cX3_copyFrom 188 = .ok (.aload_n 0, 1) := by decide +kernel
theorem dX3_copyFrom_189 : decode cX3_copyFrom 189 = .ok (.aload_n 1, 1) := by decide +kernel
theorem dX3_copyFrom_190 : decode cX3_copyFrom 190 = .ok (.getfield 87, 3) := by decide +kernel
theorem dX3_copyFrom_193 : decode cX3_copyFrom 193 = .ok (.putfield 87, 3) := by decide +kernel
theorem dX3_copyFrom_196 : decode cX3_copyFrom 196 = .ok (.return_, 1) := by decide +kernel
theorem dX3_hasCistern_0 : decode cX3_hasCistern 0 = .ok (.iload_n 1, 1) := by decide +kernel
theorem dX3_hasCistern_1 : decode cX3_hasCistern 1 = .ok (.ifCond .lt 24, 3) := by decide +kernel
theorem dX3_hasCistern_4 : decode cX3_hasCistern 4 = .ok (.iload_n 1, 1) := by decide +kernel
theorem dX3_hasCistern_5 : decode cX3_hasCistern 5 = .ok (.aload_n 0, 1) := by decide +kernel
theorem dX3_hasCistern_6 : decode cX3_hasCistern 6 = .ok (.getfield 43, 3) := by decide +kernel
theorem dX3_hasCistern_9 : decode cX3_hasCistern 9 = .ok (.if_icmp .ge 16, 3) := by decide +kernel
theorem dX3_hasCistern_12 : decode cX3_hasCistern 12 = .ok (.aload_n 0, 1) := by decide +kernel
theorem dX3_hasCistern_13 : decode cX3_hasCistern 13 = .ok (.getfield 43, 3) := by decide +kernel
theorem dX3_hasCistern_16 : decode cX3_hasCistern 16 = .ok (.bipush 8, 2) := by decide +kernel
theorem dX3_hasCistern_18 : decode cX3_hasCistern 18 = .ok (.if_icmp .gt 7, 3) := by decide +kernel
theorem dX3_hasCistern_21 : decode cX3_hasCistern 21 = .ok (.iconst 1, 1) := by decide +kernel
theorem dX3_hasCistern_22 : decode cX3_hasCistern 22 = .ok (.goto 4, 3) := by decide +kernel
theorem dX3_hasCistern_25 : decode cX3_hasCistern 25 = .ok (.iconst 0, 1) := by decide +kernel
theorem dX3_hasCistern_26 : decode cX3_hasCistern 26 = .ok (.ireturn, 1) := by decide +kernel
theorem dX3_hasHouse_0 : decode cX3_hasHouse 0 = .ok (.iload_n 1, 1) := by decide +kernel
theorem dX3_hasHouse_1 : decode cX3_hasHouse 1 = .ok (.ifCond .lt 24, 3) := by decide +kernel
theorem dX3_hasHouse_4 : decode cX3_hasHouse 4 = .ok (.iload_n 1, 1) := by decide +kernel
theorem dX3_hasHouse_5 : decode cX3_hasHouse 5 = .ok (.aload_n 0, 1) := by decide +kernel
theorem dX3_hasHouse_6 : decode cX3_hasHouse 6 = .ok (.getfield 46, 3) := by decide +kernel
theorem dX3_hasHouse_9 : decode cX3_hasHouse 9 = .ok (.if_icmp .ge 16, 3) := by decide +kernel
theorem dX3_hasHouse_12 : decode cX3_hasHouse 12 = .ok (.aload_n 0, 1) := by decide +kernel
theorem dX3_hasHouse_13 : decode cX3_hasHouse 13 = .ok (.getfield 46, 3) := by decide +kernel
theorem dX3_hasHouse_16 : decode cX3_hasHouse 16 = .ok (.bipush 8, 2) := by decide +kernel
theorem dX3_hasHouse_18 : decode cX3_hasHouse 18 = .ok (.if_icmp .gt 7, 3) := by decide +kernel
theorem dX3_hasHouse_21 : decode cX3_hasHouse 21 = .ok (.iconst 1, 1) := by decide +kernel
theorem dX3_hasHouse_22 : decode cX3_hasHouse 22 = .ok (.goto 4, 3) := by decide +kernel
theorem dX3_hasHouse_25 : decode cX3_hasHouse 25 = .ok (.iconst 0, 1) := by decide +kernel
theorem dX3_hasHouse_26 : decode cX3_hasHouse 26 = .ok (.ireturn, 1) := by decide +kernel
theorem dX3_addCistern_0 : decode cX3_addCistern 0 = .ok (.aload_n 0, 1) := by decide +kernel
theorem dX3_addCistern_1 : decode cX3_addCistern 1 = .ok (.getfield 43, 3) := by decide +kernel
theorem dX3_addCistern_4 : decode cX3_addCistern 4 = .ok (.bipush 8, 2) := by decide +kernel
theorem dX3_addCistern_6 : decode cX3_addCistern 6 = .ok (.if_icmp .ge 27, 3) := by decide +kernel
theorem dX3_addCistern_9 : decode cX3_addCistern 9 = .ok (.aload_n 0, 1) := by decide +kernel
theorem dX3_addCistern_10 : decode cX3_addCistern 10 = .ok (.getfield 11, 3) := by decide +kernel
theorem dX3_addCistern_13 : decode cX3_addCistern 13 = .ok (.aload_n 0, 1) := by decide +kernel
theorem dX3_addCistern_14 : decode cX3_addCistern 14 = .ok (.getfield 43, 3) := by decide +kernel
theorem dX3_addCistern_17 : decode cX3_addCistern 17 = .ok (.aaload, 1) := by decide +kernel
theorem dX3_addCistern_18 : decode cX3_addCistern 18 = .ok (.iload_n 1, 1) := by decide +kernel
theorem dX3_addCistern_19 : decode cX3_addCistern 19 = .ok (.iload_n 2, 1) := by decide +kernel
theorem dX3_addCistern_20 : decode cX3_addCistern 20 = .ok (.invokevirtual 90, 3) := by decide +kernel
theorem dX3_addCistern_23 : decode cX3_addCistern 23 = .ok (.aload_n 0, 1) := by decide +kernel
theorem dX3_addCistern_24 : decode cX3_addCistern 24 = .ok (.dup, 1) := by decide +kernel
theorem dX3_addCistern_25 : decode cX3_addCistern 25 = .ok (.getfield 43, 3) := by decide +kernel
theorem dX3_addCistern_28 : decode cX3_addCistern 28 = .ok (.iconst 1, 1) := by decide +kernel
theorem dX3_addCistern_29 : decode cX3_addCistern 29 = .ok (.iadd, 1) := by decide +kernel
theorem dX3_addCistern_30 : decode cX3_addCistern 30 = .ok (.putfield 43, 3) := by decide +kernel
theorem dX3_addCistern_33 : decode cX3_addCistern 33 = .ok (.return_, 1) := by decide +kernel
theorem dX3_addHouse_0 : decode cX3_addHouse 0 = .ok (.aload_n 0, 1) := by decide +kernel
theorem dX3_addHouse_1 : decode cX3_addHouse 1 = .ok (.getfield 46, 3) := by decide +kernel
theorem dX3_addHouse_4 : decode cX3_addHouse 4 = .ok (.bipush 8, 2) := by decide +kernel
theorem dX3_addHouse_6 : decode cX3_addHouse 6 = .ok (.if_icmp .ge 28, 3) := by decide +kernel
theorem dX3_addHouse_9 : decode cX3_addHouse 9 = .ok (.aload_n 0, 1) := by decide +kernel
theorem dX3_addHouse_10 : decode cX3_addHouse 10 = .ok (.getfield 19, 3) := by decide +kernel
theorem dX3_addHouse_13 : decode cX3_addHouse 13 = .ok (.aload_n 0, 1) := by decide +kernel
theorem dX3_addHouse_14 : decode cX3_addHouse 14 = .ok (.getfield 46, 3) := by decide +kernel
theorem dX3_addHouse_17 : decode cX3_addHouse 17 = .ok (.aaload, 1) := by decide +kernel
theorem dX3_addHouse_18 : decode cX3_addHouse 18 = .ok (.iload_n 1, 1) := by decide +kernel
theorem dX3_addHouse_19 : decode cX3_addHouse 19 = .ok (.iload_n 2, 1) := by decide +kernel
theorem dX3_addHouse_20 : decode cX3_addHouse 20 = .ok (.iload_n 3, 1) := by decide +kernel
theorem dX3_addHouse_21 : decode cX3_addHouse 21 = .ok (.invokevirtual 94, 3) := by decide +kernel
theorem dX3_addHouse_24 : decode cX3_addHouse 24 = .ok (.aload_n 0, 1) := by decide +kernel
theorem dX3_addHouse_25 : decode cX3_addHouse 25 = .ok (.dup, 1) := by decide +kernel
theorem dX3_addHouse_26 : decode cX3_addHouse 26 = .ok (.getfield 46, 3) := by decide +kernel
theorem dX3_addHouse_29 : decode cX3_addHouse 29 = .ok (.iconst 1, 1) := by decide +kernel
theorem dX3_addHouse_30 : decode cX3_addHouse 30 = .ok (.iadd, 1) := by decide +kernel
theorem dX3_addHouse_31 : decode cX3_addHouse 31 = .ok (.putfield 46, 3) := by decide +kernel
theorem dX3_addHouse_34 : decode cX3_addHouse 34 = .ok (.return_, 1) := by decide +kernel
theorem dX3_addDebt_0 : decode cX3_addDebt 0 = .ok (.aload_n 0, 1) := by decide +kernel
theorem dX3_addDebt_1 : decode cX3_addDebt 1 = .ok (.getfield 49, 3) := by decide +kernel
theorem dX3_addDebt_4 : decode cX3_addDebt 4 = .ok (.bipush 8, 2) := by decide +kernel
theorem dX3_addDebt_6 : decode cX3_addDebt 6 = .ok (.if_icmp .lt 5, 3) := by decide +kernel
theorem dX3_addDebt_9 : decode cX3_addDebt 9 = .ok (.iconst (-1), 1) := by decide +kernel
theorem dX3_addDebt_10 : decode cX3_addDebt 10 = .ok (.ireturn, 1) := by decide +kernel
theorem dX3_addDebt_11 : decode cX3_addDebt 11 = .ok (.aload_n 0, 1) := by decide +kernel
theorem dX3_addDebt_12 : decode cX3_addDebt 12 = .ok (.getfield 25, 3) := by decide +kernel
theorem dX3_addDebt_15 : decode cX3_addDebt 15 = .ok (.aload_n 0, 1) := by decide +kernel
theorem dX3_addDebt_16 : decode cX3_addDebt 16 = .ok (.getfield 49, 3) := by decide +kernel
theorem dX3_addDebt_19 : decode cX3_addDebt 19 = .ok (.aaload, 1) := by decide +kernel
theorem dX3_addDebt_20 : decode cX3_addDebt 20 = .ok (.astore 4, 2) := by decide +kernel
theorem dX3_addDebt_22 : decode cX3_addDebt 22 = .ok (.aload 4, 2) := by decide +kernel
theorem dX3_addDebt_24 : decode cX3_addDebt 24 = .ok (.iload_n 1, 1) := by decide +kernel
theorem dX3_addDebt_25 : decode cX3_addDebt 25 = .ok (.putfield 97, 3) := by decide +kernel
theorem dX3_addDebt_28 : decode cX3_addDebt 28 = .ok (.aload 4, 2) := by decide +kernel
theorem dX3_addDebt_30 : decode cX3_addDebt 30 = .ok (.iload_n 2, 1) := by decide +kernel
theorem dX3_addDebt_31 : decode cX3_addDebt 31 = .ok (.putfield 100, 3) := by decide +kernel
theorem dX3_addDebt_34 : decode cX3_addDebt 34 = .ok (.aload 4, 2) := by decide +kernel
theorem dX3_addDebt_36 : decode cX3_addDebt 36 = .ok (.iload_n 3, 1) := by decide +kernel
theorem dX3_addDebt_37 : decode cX3_addDebt 37 = .ok (.putfield 103, 3) := by decide +kernel
theorem dX3_addDebt_40 : decode cX3_addDebt 40 = .ok (.aload_n 0, 1) := by decide +kernel
theorem dX3_addDebt_41 : decode cX3_addDebt 41 = .ok (.dup, 1) := by decide +kernel
theorem dX3_addDebt_42 : decode cX3_addDebt 42 = .ok (.getfield 49, 3) := by decide +kernel
theorem dX3_addDebt_45 : decode cX3_addDebt 45 = .ok (.iconst 1, 1) := by decide +kernel
theorem dX3_addDebt_46 : decode cX3_addDebt 46 = .ok (.iadd, 1) := by decide +kernel
theorem dX3_addDebt_47 : decode cX3_addDebt 47 = .ok (.putfield 49, 3) := by decide +kernel
theorem dX3_addDebt_50 : decode cX3_addDebt 50 = .ok (.aload_n 0, 1) := by decide +kernel
theorem dX3_addDebt_51 : decode cX3_addDebt 51 = .ok (.getfield 49, 3) := by decide +kernel
theorem dX3_addDebt_54 : decode cX3_addDebt 54 = .ok (.iconst 1, 1) := by decide +kernel
theorem dX3_addDebt_55 : decode cX3_addDebt 55 = .ok (.isub, 1) := by decide +kernel
theorem dX3_addDebt_56 : decode cX3_addDebt 56 = .ok (.ireturn, 1) := by decide +kernel
theorem dX3_pour_0 : decode cX3_pour 0 = .ok (.aload_n 0, 1) := by decide +kernel
theorem dX3_pour_1 : decode cX3_pour 1 = .ok (.dup, 1) := by decide +kernel
theorem dX3_pour_2 : decode cX3_pour 2 = .ok (.getfield 84, 3) := by decide +kernel
theorem dX3_pour_5 : decode cX3_pour 5 = .ok (.iload_n 1, 1) := by decide +kernel
theorem dX3_pour_6 : decode cX3_pour 6 = .ok (.iadd, 1) := by decide +kernel
theorem dX3_pour_7 : decode cX3_pour 7 = .ok (.putfield 84, 3) := by decide +kernel
theorem dX3_pour_10 : decode cX3_pour 10 = .ok (.aload_n 0, 1) := by decide +kernel
theorem dX3_pour_11 : decode cX3_pour 11 = .ok (.iload_n 3, 1) := by decide +kernel
theorem dX3_pour_12 : decode cX3_pour 12 = .ok (.invokevirtual 106, 3) := by decide +kernel
theorem dX3_pour_15 : decode cX3_pour 15 = .ok (.ifCond .eq 19, 3) := by decide +kernel
theorem dX3_pour_18 : decode cX3_pour 18 = .ok (.iload_n 1, 1) := by decide +kernel
theorem dX3_pour_19 : decode cX3_pour 19 = .ok (.aload_n 0, 1) := by decide +kernel
theorem dX3_pour_20 : decode cX3_pour 20 = .ok (.getfield 11, 3) := by decide +kernel
theorem dX3_pour_23 : decode cX3_pour 23 = .ok (.iload_n 3, 1) := by decide +kernel
theorem dX3_pour_24 : decode cX3_pour 24 = .ok (.aaload, 1) := by decide +kernel
theorem dX3_pour_25 : decode cX3_pour 25 = .ok (.invokevirtual 110, 3) := by decide +kernel
theorem dX3_pour_28 : decode cX3_pour 28 = .ok (.invokestatic 114, 3) := by decide +kernel
theorem dX3_pour_31 : decode cX3_pour 31 = .ok (.goto 4, 3) := by decide +kernel
theorem dX3_pour_34 : decode cX3_pour 34 = .ok (.iconst 0, 1) := by decide +kernel
theorem dX3_pour_35 : decode cX3_pour 35 = .ok (.istore 4, 2) := by decide +kernel
theorem dX3_pour_37 : decode cX3_pour 37 = .ok (.iload 4, 2) := by decide +kernel
theorem dX3_pour_39 : decode cX3_pour 39 = .ok (.ifCond .le 15, 3) := by decide +kernel
theorem dX3_pour_42 : decode cX3_pour 42 = .ok (.aload_n 0, 1) := by decide +kernel
theorem dX3_pour_43 : decode cX3_pour 43 = .ok (.getfield 11, 3) := by decide +kernel
theorem dX3_pour_46 : decode cX3_pour 46 = .ok (.iload_n 3, 1) := by decide +kernel
theorem dX3_pour_47 : decode cX3_pour 47 = .ok (.aaload, 1) := by decide +kernel
theorem dX3_pour_48 : decode cX3_pour 48 = .ok (.iload_n 2, 1) := by decide +kernel
theorem dX3_pour_49 : decode cX3_pour 49 = .ok (.iload 4, 2) := by decide +kernel
theorem dX3_pour_51 : decode cX3_pour 51 = .ok (.invokevirtual 120, 3) := by decide +kernel
theorem dX3_pour_54 : decode cX3_pour 54 = .ok (.aload_n 0, 1) := by decide +kernel
theorem dX3_pour_55 : decode cX3_pour 55 = .ok (.dup, 1) := by decide +kernel
theorem dX3_pour_56 : decode cX3_pour 56 = .ok (.getfield 81, 3) := by decide +kernel
theorem dX3_pour_59 : decode cX3_pour 59 = .ok (.iload_n 1, 1) := by decide +kernel
theorem dX3_pour_60 : decode cX3_pour 60 = .ok (.iload 4, 2) := by decide +kernel
theorem dX3_pour_62 : decode cX3_pour 62 = .ok (.isub, 1) := by decide +kernel
theorem dX3_pour_63 : decode cX3_pour 63 = .ok (.iadd, 1) := by decide +kernel
theorem dX3_pour_64 : decode cX3_pour 64 = .ok (.putfield 81, 3) := by decide +kernel
theorem dX3_pour_67 : decode cX3_pour 67 = .ok (.return_, 1) := by decide +kernel
theorem dX3_setSalt_0 : decode cX3_setSalt 0 = .ok (.iload_n 1, 1) := by decide +kernel
theorem dX3_setSalt_1 : decode cX3_setSalt 1 = .ok (.ifCond .lt 16, 3) := by decide +kernel
theorem dX3_setSalt_4 : decode cX3_setSalt 4 = .ok (.iload_n 1, 1) := by decide +kernel
theorem dX3_setSalt_5 : decode cX3_setSalt 5 = .ok (.bipush 30, 2) := by decide +kernel
theorem dX3_setSalt_7 : decode cX3_setSalt 7 = .ok (.if_icmp .ge 10, 3) := by decide +kernel
theorem dX3_setSalt_10 : decode cX3_setSalt 10 = .ok (.aload_n 0, 1) := by decide +kernel
theorem dX3_setSalt_11 : decode cX3_setSalt 11 = .ok (.getfield 29, 3) := by decide +kernel
theorem dX3_setSalt_14 : decode cX3_setSalt 14 = .ok (.iload_n 1, 1) := by decide +kernel
theorem dX3_setSalt_15 : decode cX3_setSalt 15 = .ok (.iload_n 2, 1) := by decide +kernel
theorem dX3_setSalt_16 : decode cX3_setSalt 16 = .ok (.iastore, 1) := by decide +kernel
theorem dX3_setSalt_17 : decode cX3_setSalt 17 = .ok (.return_, 1) := by decide +kernel
theorem dX3_setLeak_0 : decode cX3_setLeak 0 = .ok (.aload_n 0, 1) := by decide +kernel
theorem dX3_setLeak_1 : decode cX3_setLeak 1 = .ok (.iload_n 1, 1) := by decide +kernel
theorem dX3_setLeak_2 : decode cX3_setLeak 2 = .ok (.invokevirtual 106, 3) := by decide +kernel
theorem dX3_setLeak_5 : decode cX3_setLeak 5 = .ok (.ifCond .eq 23, 3) := by decide +kernel
theorem dX3_setLeak_8 : decode cX3_setLeak 8 = .ok (.aload_n 0, 1) := by decide +kernel
theorem dX3_setLeak_9 : decode cX3_setLeak 9 = .ok (.getfield 11, 3) := by decide +kernel
theorem dX3_setLeak_12 : decode cX3_setLeak 12 = .ok (.iload_n 1, 1) := by decide +kernel
theorem dX3_setLeak_13 : decode cX3_setLeak 13 = .ok (.aaload, 1) := by decide +kernel
theorem dX3_setLeak_14 : decode cX3_setLeak 14 = .ok (.iload_n 3, 1) := by decide +kernel
theorem dX3_setLeak_15 : decode cX3_setLeak 15 = .ok (.putfield 123, 3) := by decide +kernel
theorem dX3_setLeak_18 : decode cX3_setLeak 18 = .ok (.aload_n 0, 1) := by decide +kernel
theorem dX3_setLeak_19 : decode cX3_setLeak 19 = .ok (.getfield 11, 3) := by decide +kernel
theorem dX3_setLeak_22 : decode cX3_setLeak 22 = .ok (.iload_n 1, 1) := by decide +kernel
theorem dX3_setLeak_23 : decode cX3_setLeak 23 = .ok (.aaload, 1) := by decide +kernel
theorem dX3_setLeak_24 : decode cX3_setLeak 24 = .ok (.iload_n 2, 1) := by decide +kernel
theorem dX3_setLeak_25 : decode cX3_setLeak 25 = .ok (.putfield 126, 3) := by decide +kernel
theorem dX3_setLeak_28 : decode cX3_setLeak 28 = .ok (.return_, 1) := by decide +kernel
theorem dX3_setSealed_0 : decode cX3_setSealed 0 = .ok (.aload_n 0, 1) := by decide +kernel
theorem dX3_setSealed_1 : decode cX3_setSealed 1 = .ok (.iload_n 1, 1) := by decide +kernel
theorem dX3_setSealed_2 : decode cX3_setSealed 2 = .ok (.invokevirtual 106, 3) := by decide +kernel
theorem dX3_setSealed_5 : decode cX3_setSealed 5 = .ok (.ifCond .eq 13, 3) := by decide +kernel
theorem dX3_setSealed_8 : decode cX3_setSealed 8 = .ok (.aload_n 0, 1) := by decide +kernel
theorem dX3_setSealed_9 : decode cX3_setSealed 9 = .ok (.getfield 11, 3) := by decide +kernel
theorem dX3_setSealed_12 : decode cX3_setSealed 12 = .ok (.iload_n 1, 1) := by decide +kernel
theorem dX3_setSealed_13 : decode cX3_setSealed 13 = .ok (.aaload, 1) := by decide +kernel
theorem dX3_setSealed_14 : decode cX3_setSealed 14 = .ok (.iload_n 2, 1) := by decide +kernel
theorem dX3_setSealed_15 : decode cX3_setSealed 15 = .ok (.putfield 129, 3) := by decide +kernel
theorem dX3_setSealed_18 : decode cX3_setSealed 18 = .ok (.return_, 1) := by decide +kernel
theorem dX3_yearNow_0 : decode cX3_yearNow 0 = .ok (.bipush 29, 2) := by decide +kernel
theorem dX3_yearNow_2 : decode cX3_yearNow 2 = .ok (.aload_n 0, 1) := by decide +kernel
theorem dX3_yearNow_3 : decode cX3_yearNow 3 = .ok (.getfield 75, 3) := by decide +kernel
theorem dX3_yearNow_6 : decode cX3_yearNow 6 = .ok (.bipush 12, 2) := by decide +kernel
theorem dX3_yearNow_8 : decode cX3_yearNow 8 = .ok (.idiv, 1) := by decide +kernel
theorem dX3_yearNow_9 : decode cX3_yearNow 9 = .ok (.invokestatic 114, 3) := by decide +kernel
theorem dX3_yearNow_12 : decode cX3_yearNow 12 = .ok (.ireturn, 1) := by decide +kernel
theorem dX3_draw_0 : decode cX3_draw 0 = .ok (.aload_n 0, 1) := by decide +kernel
theorem dX3_draw_1 : decode cX3_draw 1 = .ok (.ldc 133, 2) := by decide +kernel
theorem dX3_draw_3 : decode cX3_draw 3 = .ok (.aload_n 0, 1) := by decide +kernel
theorem dX3_draw_4 : decode cX3_draw 4 = .ok (.getfield 36, 3) := by decide +kernel
theorem dX3_draw_7 : decode cX3_draw 7 = .ok (.imul, 1) := by decide +kernel
theorem dX3_draw_8 : decode cX3_draw 8 = .ok (.sipush 12345, 3) := by decide +kernel
theorem dX3_draw_11 : decode cX3_draw 11 = .ok (.iadd, 1) := by decide +kernel
theorem dX3_draw_12 : decode cX3_draw 12 = .ok (.putfield 36, 3) := by decide +kernel
theorem dX3_draw_15 : decode cX3_draw 15 = .ok (.aload_n 0, 1) := by decide +kernel
theorem dX3_draw_16 : decode cX3_draw 16 = .ok (.getfield 36, 3) := by decide +kernel
theorem dX3_draw_19 : decode cX3_draw 19 = .ok (.bipush 16, 2) := by decide +kernel
theorem dX3_draw_21 : decode cX3_draw 21 = .ok (.ishr, 1) := by decide +kernel
theorem dX3_draw_22 : decode cX3_draw 22 = .ok (.sipush 32767, 3) := by decide +kernel
theorem dX3_draw_25 : decode cX3_draw 25 = .ok (.iand, 1) := by decide +kernel
theorem dX3_draw_26 : decode cX3_draw 26 = .ok (.ireturn, 1) := by decide +kernel
theorem dX3_passMonth_0 : decode cX3_passMonth 0 = .ok (.aload_n 0, 1) := by decide +kernel
theorem dX3_passMonth_1 : decode cX3_passMonth 1 = .ok (.invokevirtual 134, 3) := by decide +kernel
theorem dX3_passMonth_4 : decode cX3_passMonth 4 = .ok (.iconst 0, 1) := by decide +kernel
theorem dX3_passMonth_5 : decode cX3_passMonth 5 = .ok (.istore_n 1, 1) := by decide +kernel
theorem dX3_passMonth_6 : decode cX3_passMonth 6 = .ok (.iconst 0, 1) := by decide +kernel
theorem dX3_passMonth_7 : decode cX3_passMonth 7 = .ok (.istore_n 2, 1) := by decide +kernel
theorem dX3_passMonth_8 : decode cX3_passMonth 8 = .ok (.iload_n 2, 1) := by decide +kernel
theorem dX3_passMonth_9 : decode cX3_passMonth 9 = .ok (.aload_n 0, 1) := by decide +kernel
theorem dX3_passMonth_10 : decode cX3_passMonth 10 = .ok (.getfield 46, 3) := by decide +kernel
theorem dX3_passMonth_13 : decode cX3_passMonth 13 = .ok (.if_icmp .ge 22, 3) := by decide +kernel
theorem dX3_passMonth_16 : decode cX3_passMonth 16 = .ok (.iload_n 1, 1) := by decide +kernel
theorem dX3_passMonth_17 : decode cX3_passMonth 17 = .ok (.aload_n 0, 1) := by decide +kernel
theorem dX3_passMonth_18 : decode cX3_passMonth 18 = .ok (.aload_n 0, 1) := by decide +kernel
theorem dX3_passMonth_19 : decode cX3_passMonth 19 = .ok (.getfield 19, 3) := by decide +kernel
theorem dX3_passMonth_22 : decode cX3_passMonth 22 = .ok (.iload_n 2, 1) := by decide +kernel
theorem dX3_passMonth_23 : decode cX3_passMonth 23 = .ok (.aaload, 1) := by decide +kernel
theorem dX3_passMonth_24 : decode cX3_passMonth 24 = .ok (.invokevirtual 137, 3) := by decide +kernel
theorem dX3_passMonth_27 : decode cX3_passMonth 27 = .ok (.iadd, 1) := by decide +kernel
theorem dX3_passMonth_28 : decode cX3_passMonth 28 = .ok (.istore_n 1, 1) := by decide +kernel
theorem dX3_passMonth_29 : decode cX3_passMonth 29 = .ok (.iinc 2 1, 3) := by decide +kernel
theorem dX3_passMonth_32 : decode cX3_passMonth 32 = .ok (.goto (-24), 3) := by decide +kernel
theorem dX3_passMonth_35 : decode cX3_passMonth 35 = .ok (.aload_n 0, 1) := by decide +kernel
theorem dX3_passMonth_36 : decode cX3_passMonth 36 = .ok (.dup, 1) := by decide +kernel
theorem dX3_passMonth_37 : decode cX3_passMonth 37 = .ok (.getfield 75, 3) := by decide +kernel
theorem dX3_passMonth_40 : decode cX3_passMonth 40 = .ok (.iconst 1, 1) := by decide +kernel
theorem dX3_passMonth_41 : decode cX3_passMonth 41 = .ok (.iadd, 1) := by decide +kernel
theorem dX3_passMonth_42 : decode cX3_passMonth 42 = .ok (.putfield 75, 3) := by decide +kernel
theorem dX3_passMonth_45 : decode cX3_passMonth 45 = .ok (.aload_n 0, 1) := by decide +kernel
theorem dX3_passMonth_46 : decode cX3_passMonth 46 = .ok (.getfield 75, 3) := by decide +kernel
theorem dX3_passMonth_49 : decode cX3_passMonth 49 = .ok (.bipush 12, 2) := by decide +kernel
theorem dX3_passMonth_51 : decode cX3_passMonth 51 = .ok (.irem, 1) := by decide +kernel
theorem dX3_passMonth_52 : decode cX3_passMonth 52 = .ok (.ifCond .ne 7, 3) := by decide +kernel
theorem dX3_passMonth_55 : decode cX3_passMonth 55 = .ok (.aload_n 0, 1) := by decide +kernel
theorem dX3_passMonth_56 : decode cX3_passMonth 56 = .ok (.invokevirtual 141, 3) := by decide +kernel
theorem dX3_passMonth_59 : decode cX3_passMonth 59 = .ok (.iload_n 1, 1) := by decide +kernel
theorem dX3_passMonth_60 : decode cX3_passMonth 60 = .ok (.ireturn, 1) := by decide +kernel
theorem dX3_passQuietMonths_0 : decode cX3_passQuietMonths 0 = .ok (.iconst 0, 1) := by decide +kernel
theorem dX3_passQuietMonths_1 : decode cX3_passQuietMonths 1 = .ok (.istore_n 2, 1) := by decide +kernel
theorem dX3_passQuietMonths_2 : decode cX3_passQuietMonths 2 = .ok (.iload_n 2, 1) := by decide +kernel
theorem dX3_passQuietMonths_3 : decode cX3_passQuietMonths 3 = .ok (.iload_n 1, 1) := by decide +kernel
theorem dX3_passQuietMonths_4 : decode cX3_passQuietMonths 4 = .ok (.if_icmp .ge 18, 3) := by decide +kernel
theorem dX3_passQuietMonths_7 : decode cX3_passQuietMonths 7 = .ok (.aload_n 0, 1) := by decide +kernel
theorem dX3_passQuietMonths_8 : decode cX3_passQuietMonths 8 = .ok (.invokevirtual 144, 3) := by decide +kernel
theorem dX3_passQuietMonths_11 : decode cX3_passQuietMonths 11 = .ok (.ifCond .le 5, 3) := by decide +kernel
theorem dX3_passQuietMonths_14 : decode cX3_passQuietMonths 14 = .ok (.iload_n 2, 1) := by decide +kernel
theorem dX3_passQuietMonths_15 : decode cX3_passQuietMonths 15 = .ok (.ireturn, 1) := by decide +kernel
theorem dX3_passQuietMonths_16 : decode cX3_passQuietMonths 16 = .ok (.iinc 2 1, 3) := by decide +kernel
theorem dX3_passQuietMonths_19 : decode cX3_passQuietMonths 19 = .ok (.goto (-17), 3) := by decide +kernel
theorem dX3_passQuietMonths_22 : decode cX3_passQuietMonths 22 = .ok (.iload_n 1, 1) := by decide +kernel
theorem dX3_passQuietMonths_23 : decode cX3_passQuietMonths 23 = .ok (.ireturn, 1) := by decide +kernel
theorem dX3_firstThirsty_0 : decode cX3_firstThirsty 0 = .ok (.iconst 0, 1) := by decide +kernel
theorem dX3_firstThirsty_1 : decode cX3_firstThirsty 1 = .ok (.istore_n 1, 1) := by decide +kernel
theorem dX3_firstThirsty_2 : decode cX3_firstThirsty 2 = .ok (.iload_n 1, 1) := by decide +kernel
theorem dX3_firstThirsty_3 : decode cX3_firstThirsty 3 = .ok (.aload_n 0, 1) := by decide +kernel
theorem dX3_firstThirsty_4 : decode cX3_firstThirsty 4 = .ok (.getfield 46, 3) := by decide +kernel
theorem dX3_firstThirsty_7 : decode cX3_firstThirsty 7 = .ok (.if_icmp .ge 23, 3) := by decide +kernel
theorem dX3_firstThirsty_10 : decode cX3_firstThirsty 10 = .ok (.aload_n 0, 1) := by decide +kernel
theorem dX3_firstThirsty_11 : decode cX3_firstThirsty 11 = .ok (.getfield 19, 3) := by decide +kernel
theorem dX3_firstThirsty_14 : decode cX3_firstThirsty 14 = .ok (.iload_n 1, 1) := by decide +kernel
theorem dX3_firstThirsty_15 : decode cX3_firstThirsty 15 = .ok (.aaload, 1) := by decide +kernel
theorem dX3_firstThirsty_16 : decode cX3_firstThirsty 16 = .ok (.getfield 147, 3) := by decide +kernel
theorem dX3_firstThirsty_19 : decode cX3_firstThirsty 19 = .ok (.ifCond .le 5, 3) := by decide +kernel
theorem dX3_firstThirsty_22 : decode cX3_firstThirsty 22 = .ok (.iload_n 1, 1) := by decide +kernel
theorem dX3_firstThirsty_23 : decode cX3_firstThirsty 23 = .ok (.ireturn, 1) := by decide +kernel
theorem dX3_firstThirsty_24 : decode cX3_firstThirsty 24 = .ok (.iinc 1 1, 3) := by decide +kernel
theorem dX3_firstThirsty_27 : decode cX3_firstThirsty 27 = .ok (.goto (-25), 3) := by decide +kernel
theorem dX3_firstThirsty_30 : decode cX3_firstThirsty 30 = .ok (.iconst (-1), 1) := by decide +kernel
theorem dX3_firstThirsty_31 : decode cX3_firstThirsty 31 = .ok (.ireturn, 1) := by decide +kernel
theorem dX3_freeze_0 : decode cX3_freeze 0 = .ok (.aload_n 0, 1) := by decide +kernel
theorem dX3_freeze_1 : decode cX3_freeze 1 = .ok (.invokevirtual 150, 3) := by decide +kernel
theorem dX3_freeze_4 : decode cX3_freeze 4 = .ok (.bipush 100, 2) := by decide +kernel
theorem dX3_freeze_6 : decode cX3_freeze 6 = .ok (.irem, 1) := by decide +kernel
theorem dX3_freeze_7 : decode cX3_freeze 7 = .ok (.bipush 20, 2) := by decide +kernel
theorem dX3_freeze_9 : decode cX3_freeze 9 = .ok (.if_icmp .lt 4, 3) := by decide +kernel
theorem dX3_freeze_12 : decode cX3_freeze 12 = .ok (.return_, 1) := by decide +kernel
theorem dX3_freeze_13 : decode cX3_freeze 13 = .ok (.iconst 0, 1) := by decide +kernel
theorem dX3_freeze_14 : decode cX3_freeze 14 = .ok (.istore_n 1, 1) := by decide +kernel
theorem dX3_freeze_15 : decode cX3_freeze 15 = .ok (.iload_n 1, 1) := by decide +kernel
theorem dX3_freeze_16 : decode cX3_freeze 16 = .ok (.aload_n 0, 1) := by decide +kernel
theorem dX3_freeze_17 : decode cX3_freeze 17 = .ok (.getfield 43, 3) := by decide +kernel
theorem dX3_freeze_20 : decode cX3_freeze 20 = .ok (.if_icmp .ge 32, 3) := by decide +kernel
theorem dX3_freeze_23 : decode cX3_freeze 23 = .ok (.aload_n 0, 1) := by decide +kernel
theorem dX3_freeze_24 : decode cX3_freeze 24 = .ok (.getfield 11, 3) := by decide +kernel
theorem dX3_freeze_27 : decode cX3_freeze 27 = .ok (.iload_n 1, 1) := by decide +kernel
theorem dX3_freeze_28 : decode cX3_freeze 28 = .ok (.aaload, 1) := by decide +kernel
theorem dX3_freeze_29 : decode cX3_freeze 29 = .ok (.getfield 129, 3) := by decide +kernel
theorem dX3_freeze_32 : decode cX3_freeze 32 = .ok (.ifCond .eq 14, 3) := by decide +kernel
theorem dX3_freeze_35 : decode cX3_freeze 35 = .ok (.aload_n 0, 1) := by decide +kernel
theorem dX3_freeze_36 : decode cX3_freeze 36 = .ok (.getfield 11, 3) := by decide +kernel
theorem dX3_freeze_39 : decode cX3_freeze 39 = .ok (.iload_n 1, 1) := by decide +kernel
theorem dX3_freeze_40 : decode cX3_freeze 40 = .ok (.aaload, 1) := by decide +kernel
theorem dX3_freeze_41 : decode cX3_freeze 41 = .ok (.iconst 0, 1) := by decide +kernel
theorem dX3_freeze_42 : decode cX3_freeze 42 = .ok (.putfield 129, 3) := by decide +kernel
theorem dX3_freeze_45 : decode cX3_freeze 45 = .ok (.return_, 1) := by decide +kernel
theorem dX3_freeze_46 : decode cX3_freeze 46 = .ok (.iinc 1 1, 3) := by decide +kernel
theorem dX3_freeze_49 : decode cX3_freeze 49 = .ok (.goto (-34), 3) := by decide +kernel
theorem dX3_freeze_52 : decode cX3_freeze 52 = .ok (.return_, 1) := by decide +kernel
theorem dX3_leakAll_0 : decode cX3_leakAll 0 = .ok (.iconst 0, 1) := by decide +kernel
theorem dX3_leakAll_1 : decode cX3_leakAll 1 = .ok (.istore_n 1, 1) := by decide +kernel
theorem dX3_leakAll_2 : decode cX3_leakAll 2 = .ok (.iload_n 1, 1) := by decide +kernel
theorem dX3_leakAll_3 : decode cX3_leakAll 3 = .ok (.aload_n 0, 1) := by decide +kernel
theorem dX3_leakAll_4 : decode cX3_leakAll 4 = .ok (.getfield 43, 3) := by decide +kernel
theorem dX3_leakAll_7 : decode cX3_leakAll 7 = .ok (.if_icmp .ge 64, 3) := by decide +kernel
theorem dX3_leakAll_10 : decode cX3_leakAll 10 = .ok (.aload_n 0, 1) := by decide +kernel
theorem dX3_leakAll_11 : decode cX3_leakAll 11 = .ok (.getfield 11, 3) := by decide +kernel
theorem dX3_leakAll_14 : decode cX3_leakAll 14 = .ok (.iload_n 1, 1) := by decide +kernel
theorem dX3_leakAll_15 : decode cX3_leakAll 15 = .ok (.aaload, 1) := by decide +kernel
theorem dX3_leakAll_16 : decode cX3_leakAll 16 = .ok (.astore_n 2, 1) := by decide +kernel
theorem dX3_leakAll_17 : decode cX3_leakAll 17 = .ok (.aload_n 2, 1) := by decide +kernel
theorem dX3_leakAll_18 : decode cX3_leakAll 18 = .ok (.getfield 153, 3) := by decide +kernel
theorem dX3_leakAll_21 : decode cX3_leakAll 21 = .ok (.iconst 3, 1) := by decide +kernel
theorem dX3_leakAll_22 : decode cX3_leakAll 22 = .ok (.if_icmp .ne 10, 3) := by decide +kernel
theorem dX3_leakAll_25 : decode cX3_leakAll 25 = .ok (.aload_n 0, 1) := by decide +kernel
theorem dX3_leakAll_26 : decode cX3_leakAll 26 = .ok (.aload_n 2, 1) := by decide +kernel
theorem dX3_leakAll_27 : decode cX3_leakAll 27 = .ok (.aconst_null, 1) := by decide +kernel
theorem dX3_leakAll_28 : decode cX3_leakAll 28 = .ok (.iconst 1, 1) := by decide +kernel
theorem dX3_leakAll_29 : decode cX3_leakAll 29 = .ok (.invokevirtual 156, 3) := by decide +kernel
theorem dX3_leakAll_32 : decode cX3_leakAll 32 = .ok (.aload_n 0, 1) := by decide +kernel
theorem dX3_leakAll_33 : decode cX3_leakAll 33 = .ok (.aload_n 2, 1) := by decide +kernel
theorem dX3_leakAll_34 : decode cX3_leakAll 34 = .ok (.aload_n 0, 1) := by decide +kernel
theorem dX3_leakAll_35 : decode cX3_leakAll 35 = .ok (.aload_n 2, 1) := by decide +kernel
theorem dX3_leakAll_36 : decode cX3_leakAll 36 = .ok (.getfield 126, 3) := by decide +kernel
theorem dX3_leakAll_39 : decode cX3_leakAll 39 = .ok (.invokevirtual 106, 3) := by decide +kernel
theorem dX3_leakAll_42 : decode cX3_leakAll 42 = .ok (.ifCond .eq 15, 3) := by decide +kernel
theorem dX3_leakAll_45 : decode cX3_leakAll 45 = .ok (.aload_n 0, 1) := by decide +kernel
theorem dX3_leakAll_46 : decode cX3_leakAll 46 = .ok (.getfield 11, 3) := by decide +kernel
theorem dX3_leakAll_49 : decode cX3_leakAll 49 = .ok (.aload_n 2, 1) := by decide +kernel
theorem dX3_leakAll_50 : decode cX3_leakAll 50 = .ok (.getfield 126, 3) := by decide +kernel
theorem dX3_leakAll_53 : decode cX3_leakAll 53 = .ok (.aaload, 1) := by decide +kernel
theorem dX3_leakAll_54 : decode cX3_leakAll 54 = .ok (.goto 4, 3) := by decide +kernel
theorem dX3_leakAll_57 : decode cX3_leakAll 57 = .ok (.aconst_null, 1) := by decide +kernel
theorem dX3_leakAll_58 : decode cX3_leakAll 58 = .ok (.aload_n 2, 1) := by decide +kernel
theorem dX3_leakAll_59 : decode cX3_leakAll 59 = .ok (.getfield 123, 3) := by decide +kernel
theorem dX3_leakAll_62 : decode cX3_leakAll 62 = .ok (.invokevirtual 156, 3) := by decide +kernel
theorem dX3_leakAll_65 : decode cX3_leakAll 65 = .ok (.iinc 1 1, 3) := by decide +kernel
theorem dX3_leakAll_68 : decode cX3_leakAll 68 = .ok (.goto (-66), 3) := by decide +kernel
theorem dX3_leakAll_71 : decode cX3_leakAll 71 = .ok (.return_, 1) := by decide +kernel
theorem dX3_moveMost_0 : decode cX3_moveMost 0 = .ok (.iload_n 3, 1) := by decide +kernel
theorem dX3_moveMost_1 : decode cX3_moveMost 1 = .ok (.aload_n 1, 1) := by decide +kernel
theorem dX3_moveMost_2 : decode cX3_moveMost 2 = .ok (.getfield 160, 3) := by decide +kernel
theorem dX3_moveMost_5 : decode cX3_moveMost 5 = .ok (.invokestatic 114, 3) := by decide +kernel
theorem dX3_moveMost_8 : decode cX3_moveMost 8 = .ok (.istore 4, 2) := by decide +kernel
theorem dX3_moveMost_10 : decode cX3_moveMost 10 = .ok (.aload_n 2, 1) := by decide +kernel
theorem dX3_moveMost_11 : decode cX3_moveMost 11 = .ok (.ifnonnull 7, 3) := by decide +kernel
theorem dX3_moveMost_14 : decode cX3_moveMost 14 = .ok (.iconst 0, 1) := by decide +kernel
theorem dX3_moveMost_15 : decode cX3_moveMost 15 = .ok (.goto 12, 3) := by decide +kernel
theorem dX3_moveMost_18 : decode cX3_moveMost 18 = .ok (.iload 4, 2) := by decide +kernel
theorem dX3_moveMost_20 : decode cX3_moveMost 20 = .ok (.aload_n 2, 1) := by decide +kernel
theorem dX3_moveMost_21 : decode cX3_moveMost 21 = .ok (.invokevirtual 110, 3) := by decide +kernel
theorem dX3_moveMost_24 : decode cX3_moveMost 24 = .ok (.invokestatic 114, 3) := by decide +kernel
theorem dX3_moveMost_27 : decode cX3_moveMost 27 = .ok (.istore 5, 2) := by decide +kernel
theorem dX3_moveMost_29 : decode cX3_moveMost 29 = .ok (.iload 5, 2) := by decide +kernel
theorem dX3_moveMost_31 : decode cX3_moveMost 31 = .ok (.ifCond .le 10, 3) := by decide +kernel
theorem dX3_moveMost_34 : decode cX3_moveMost 34 = .ok (.aload_n 1, 1) := by decide +kernel
theorem dX3_moveMost_35 : decode cX3_moveMost 35 = .ok (.aload_n 2, 1) := by decide +kernel
theorem dX3_moveMost_36 : decode cX3_moveMost 36 = .ok (.iload 5, 2) := by decide +kernel
theorem dX3_moveMost_38 : decode cX3_moveMost 38 = .ok (.invokevirtual 163, 3) := by decide +kernel
theorem dX3_moveMost_41 : decode cX3_moveMost 41 = .ok (.iload 4, 2) := by decide +kernel
theorem dX3_moveMost_43 : decode cX3_moveMost 43 = .ok (.iload 5, 2) := by decide +kernel
theorem dX3_moveMost_45 : decode cX3_moveMost 45 = .ok (.if_icmp .le 27, 3) := by decide +kernel
theorem dX3_moveMost_48 : decode cX3_moveMost 48 = .ok (.aload_n 1, 1) := by decide +kernel
theorem dX3_moveMost_49 : decode cX3_moveMost 49 = .ok (.aconst_null, 1) := by decide +kernel
theorem dX3_moveMost_50 : decode cX3_moveMost 50 = .ok (.iload 4, 2) := by decide +kernel
theorem dX3_moveMost_52 : decode cX3_moveMost 52 = .ok (.iload 5, 2) := by decide +kernel
theorem dX3_moveMost_54 : decode cX3_moveMost 54 = .ok (.isub, 1) := by decide +kernel
theorem dX3_moveMost_55 : decode cX3_moveMost 55 = .ok (.invokevirtual 163, 3) := by decide +kernel
theorem dX3_moveMost_58 : decode cX3_moveMost 58 = .ok (.aload_n 0, 1) := by decide +kernel
theorem dX3_moveMost_59 : decode cX3_moveMost 59 = .ok (.dup, 1) := by decide +kernel
theorem dX3_moveMost_60 : decode cX3_moveMost 60 = .ok (.getfield 78, 3) := by decide +kernel
theorem dX3_moveMost_63 : decode cX3_moveMost 63 = .ok (.iload 4, 2) := by decide +kernel
theorem dX3_moveMost_65 : decode cX3_moveMost 65 = .ok (.iload 5, 2) := by decide +kernel
theorem dX3_moveMost_67 : decode cX3_moveMost 67 = .ok (.isub, 1) := by decide +kernel
theorem dX3_moveMost_68 : decode cX3_moveMost 68 = .ok (.iadd, 1) := by decide +kernel
theorem dX3_moveMost_69 : decode cX3_moveMost 69 = .ok (.putfield 78, 3) := by decide +kernel
theorem dX3_moveMost_72 : decode cX3_moveMost 72 = .ok (.return_, 1) := by decide +kernel
theorem dX3_drinkBy_0 : decode cX3_drinkBy 0 = .ok (.iconst 0, 1) := by decide +kernel
theorem dX3_drinkBy_1 : decode cX3_drinkBy 1 = .ok (.istore_n 2, 1) := by decide +kernel
theorem dX3_drinkBy_2 : decode cX3_drinkBy 2 = .ok (.iconst 0, 1) := by decide +kernel
theorem dX3_drinkBy_3 : decode cX3_drinkBy 3 = .ok (.istore_n 3, 1) := by decide +kernel
theorem dX3_drinkBy_4 : decode cX3_drinkBy 4 = .ok (.iload_n 3, 1) := by decide +kernel
theorem dX3_drinkBy_5 : decode cX3_drinkBy 5 = .ok (.aload_n 0, 1) := by decide +kernel
theorem dX3_drinkBy_6 : decode cX3_drinkBy 6 = .ok (.getfield 46, 3) := by decide +kernel
theorem dX3_drinkBy_9 : decode cX3_drinkBy 9 = .ok (.if_icmp .ge 40, 3) := by decide +kernel
theorem dX3_drinkBy_12 : decode cX3_drinkBy 12 = .ok (.iload_n 3, 1) := by decide +kernel
theorem dX3_drinkBy_13 : decode cX3_drinkBy 13 = .ok (.aload_n 1, 1) := by decide +kernel
theorem dX3_drinkBy_14 : decode cX3_drinkBy 14 = .ok (.arraylength, 1) := by decide +kernel
theorem dX3_drinkBy_15 : decode cX3_drinkBy 15 = .ok (.if_icmp .ge 34, 3) := by decide +kernel
theorem dX3_drinkBy_18 : decode cX3_drinkBy 18 = .ok (.aload_n 0, 1) := by decide +kernel
theorem dX3_drinkBy_19 : decode cX3_drinkBy 19 = .ok (.aload_n 1, 1) := by decide +kernel
theorem dX3_drinkBy_20 : decode cX3_drinkBy 20 = .ok (.iload_n 3, 1) := by decide +kernel
theorem dX3_drinkBy_21 : decode cX3_drinkBy 21 = .ok (.iaload, 1) := by decide +kernel
theorem dX3_drinkBy_22 : decode cX3_drinkBy 22 = .ok (.invokevirtual 167, 3) := by decide +kernel
theorem dX3_drinkBy_25 : decode cX3_drinkBy 25 = .ok (.ifCond .eq 18, 3) := by decide +kernel
theorem dX3_drinkBy_28 : decode cX3_drinkBy 28 = .ok (.iload_n 2, 1) := by decide +kernel
theorem dX3_drinkBy_29 : decode cX3_drinkBy 29 = .ok (.aload_n 0, 1) := by decide +kernel
theorem dX3_drinkBy_30 : decode cX3_drinkBy 30 = .ok (.aload_n 0, 1) := by decide +kernel
theorem dX3_drinkBy_31 : decode cX3_drinkBy 31 = .ok (.getfield 19, 3) := by decide +kernel
theorem dX3_drinkBy_34 : decode cX3_drinkBy 34 = .ok (.aload_n 1, 1) := by decide +kernel
theorem dX3_drinkBy_35 : decode cX3_drinkBy 35 = .ok (.iload_n 3, 1) := by decide +kernel
theorem dX3_drinkBy_36 : decode cX3_drinkBy 36 = .ok (.iaload, 1) := by decide +kernel
theorem dX3_drinkBy_37 : decode cX3_drinkBy 37 = .ok (.aaload, 1) := by decide +kernel
theorem dX3_drinkBy_38 : decode cX3_drinkBy 38 = .ok (.invokevirtual 137, 3) := by decide +kernel
theorem dX3_drinkBy_41 : decode cX3_drinkBy 41 = .ok (.iadd, 1) := by decide +kernel
theorem dX3_drinkBy_42 : decode cX3_drinkBy 42 = .ok (.istore_n 2, 1) := by decide +kernel
theorem dX3_drinkBy_43 : decode cX3_drinkBy 43 = .ok (.iinc 3 1, 3) := by decide +kernel
theorem dX3_drinkBy_46 : decode cX3_drinkBy 46 = .ok (.goto (-42), 3) := by decide +kernel
theorem dX3_drinkBy_49 : decode cX3_drinkBy 49 = .ok (.iload_n 2, 1) := by decide +kernel
theorem dX3_drinkBy_50 : decode cX3_drinkBy 50 = .ok (.ireturn, 1) := by decide +kernel
theorem dX3_lackOf_0 : decode cX3_lackOf 0 = .ok (.aload_n 1, 1) := by decide +kernel
theorem dX3_lackOf_1 : decode cX3_lackOf 1 = .ok (.getfield 170, 3) := by decide +kernel
theorem dX3_lackOf_4 : decode cX3_lackOf 4 = .ok (.istore_n 2, 1) := by decide +kernel
theorem dX3_lackOf_5 : decode cX3_lackOf 5 = .ok (.aload_n 0, 1) := by decide +kernel
theorem dX3_lackOf_6 : decode cX3_lackOf 6 = .ok (.aload_n 1, 1) := by decide +kernel
theorem dX3_lackOf_7 : decode cX3_lackOf 7 = .ok (.getfield 173, 3) := by decide +kernel
theorem dX3_lackOf_10 : decode cX3_lackOf 10 = .ok (.invokevirtual 106, 3) := by decide +kernel
theorem dX3_lackOf_13 : decode cX3_lackOf 13 = .ok (.ifCond .eq 174, 3) := by decide +kernel
theorem dX3_lackOf_16 : decode cX3_lackOf 16 = .ok (.aload_n 0, 1) := by decide +kernel
theorem dX3_lackOf_17 : decode cX3_lackOf 17 = .ok (.getfield 11, 3) := by decide +kernel
theorem dX3_lackOf_20 : decode cX3_lackOf 20 = .ok (.aload_n 1, 1) := by decide +kernel
theorem dX3_lackOf_21 : decode cX3_lackOf 21 = .ok (.getfield 173, 3) := by decide +kernel
theorem dX3_lackOf_24 : decode cX3_lackOf 24 = .ok (.aaload, 1) := by decide +kernel
theorem dX3_lackOf_25 : decode cX3_lackOf 25 = .ok (.astore_n 3, 1) := by decide +kernel
theorem dX3_lackOf_26 : decode cX3_lackOf 26 = .ok (.aload_n 0, 1) := by decide +kernel
theorem dX3_lackOf_27 : decode cX3_lackOf 27 = .ok (.getfield 68, 3) := by decide +kernel
theorem dX3_lackOf_30 : decode cX3_lackOf 30 = .ok (.ifnull 17, 3) := by decide +kernel
theorem dX3_lackOf_33 : decode cX3_lackOf 33 = .ok (.aload_n 0, 1) := by decide +kernel
theorem dX3_lackOf_34 : decode cX3_lackOf 34 = .ok (.getfield 68, 3) := by decide +kernel
theorem dX3_lackOf_37 : decode cX3_lackOf 37 = .ok (.getfield 176, 3) := by decide +kernel
theorem dX3_lackOf_40 : decode cX3_lackOf 40 = .ok (.ifCond .eq 7, 3) := by decide +kernel
theorem dX3_lackOf_43 : decode cX3_lackOf 43 = .ok (.iconst 1, 1) := by decide +kernel
theorem dX3_lackOf_44 : decode cX3_lackOf 44 = .ok (.goto 4, 3) := by decide +kernel
theorem dX3_lackOf_47 : decode cX3_lackOf 47 = .ok (.iconst 0, 1) := by decide +kernel
theorem dX3_lackOf_48 : decode cX3_lackOf 48 = .ok (.istore 4, 2) := by decide +kernel
theorem dX3_lackOf_50 : decode cX3_lackOf 50 = .ok (.aload_n 0, 1) := by decide +kernel
theorem dX3_lackOf_51 : decode cX3_lackOf 51 = .ok (.aload_n 3, 1) := by decide +kernel
theorem dX3_lackOf_52 : decode cX3_lackOf 52 = .ok (.invokevirtual 181, 3) := by decide +kernel
theorem dX3_lackOf_55 : decode cX3_lackOf 55 = .ok (.iconst 0, 1) := by decide +kernel
theorem dX3_lackOf_56 : decode cX3_lackOf 56 = .ok (.istore 5, 2) := by decide +kernel
theorem dX3_lackOf_58 : decode cX3_lackOf 58 = .ok (.iload 5, 2) := by decide +kernel
theorem dX3_lackOf_60 : decode cX3_lackOf 60 = .ok (.aload_n 1, 1) := by decide +kernel
theorem dX3_lackOf_61 : decode cX3_lackOf 61 = .ok (.getfield 170, 3) := by decide +kernel
theorem dX3_lackOf_64 : decode cX3_lackOf 64 = .ok (.if_icmp .ge 123, 3) := by decide +kernel
theorem dX3_lackOf_67 : decode cX3_lackOf 67 = .ok (.iload_n 2, 1) := by decide +kernel
theorem dX3_lackOf_68 : decode cX3_lackOf 68 = .ok (.ifCond .le 119, 3) := by decide +kernel
theorem dX3_lackOf_71 : decode cX3_lackOf 71 = .ok (.aload_n 0, 1) := by decide +kernel
theorem dX3_lackOf_72 : decode cX3_lackOf 72 = .ok (.invokevirtual 184, 3) := by decide +kernel
theorem dX3_lackOf_75 : decode cX3_lackOf 75 = .ok (.istore 6, 2) := by decide +kernel
theorem dX3_lackOf_77 : decode cX3_lackOf 77 = .ok (.iload 6, 2) := by decide +kernel
theorem dX3_lackOf_79 : decode cX3_lackOf 79 = .ok (.ifCond .lt 108, 3) := by decide +kernel
theorem dX3_lackOf_82 : decode cX3_lackOf 82 = .ok (.aload_n 0, 1) := by decide +kernel
theorem dX3_lackOf_83 : decode cX3_lackOf 83 = .ok (.getfield 29, 3) := by decide +kernel
theorem dX3_lackOf_86 : decode cX3_lackOf 86 = .ok (.iload 6, 2) := by decide +kernel
theorem dX3_lackOf_88 : decode cX3_lackOf 88 = .ok (.iaload, 1) := by decide +kernel
theorem dX3_lackOf_89 : decode cX3_lackOf 89 = .ok (.aload_n 1, 1) := by decide +kernel
theorem dX3_lackOf_90 : decode cX3_lackOf 90 = .ok (.getfield 187, 3) := by decide +kernel
theorem dX3_lackOf_93 : decode cX3_lackOf 93 = .ok (.if_icmp .le 6, 3) := by decide +kernel
theorem dX3_lackOf_96 : decode cX3_lackOf 96 = .ok (.goto 91, 3) := by decide +kernel
theorem dX3_lackOf_99 : decode cX3_lackOf 99 = .ok (.iload 4, 2) := by decide +kernel
theorem dX3_lackOf_101 : decode cX3_lackOf 101 = .ok (.ifCond .eq 7, 3) := by decide +kernel
theorem dX3_lackOf_104 : decode cX3_lackOf 104 = .ok (.iconst 1, 1) := by decide +kernel
theorem dX3_lackOf_105 : decode cX3_lackOf 105 = .ok (.goto 14, 3) := by decide +kernel
theorem dX3_lackOf_108 : decode cX3_lackOf 108 = .ok (.iload_n 2, 1) := by decide +kernel
theorem dX3_lackOf_109 : decode cX3_lackOf 109 = .ok (.aload_n 3, 1) := by decide +kernel
theorem dX3_lackOf_110 : decode cX3_lackOf 110 = .ok (.getfield 190, 3) := by decide +kernel
theorem dX3_lackOf_113 : decode cX3_lackOf 113 = .ok (.iload 6, 2) := by decide +kernel
theorem dX3_lackOf_115 : decode cX3_lackOf 115 = .ok (.iaload, 1) := by decide +kernel
theorem dX3_lackOf_116 : decode cX3_lackOf 116 = .ok (.invokestatic 114, 3) := by decide +kernel
theorem dX3_lackOf_119 : decode cX3_lackOf 119 = .ok (.istore 7, 2) := by decide +kernel
theorem dX3_lackOf_121 : decode cX3_lackOf 121 = .ok (.aload_n 3, 1) := by decide +kernel
theorem dX3_lackOf_122 : decode cX3_lackOf 122 = .ok (.iload 6, 2) := by decide +kernel
theorem dX3_lackOf_124 : decode cX3_lackOf 124 = .ok (.iload 7, 2) := by decide +kernel
theorem dX3_lackOf_126 : decode cX3_lackOf 126 = .ok (.invokevirtual 193, 3) := by decide +kernel
theorem dX3_lackOf_129 : decode cX3_lackOf 129 = .ok (.aload_n 1, 1) := by decide +kernel
theorem dX3_lackOf_130 : decode cX3_lackOf 130 = .ok (.iload 6, 2) := by decide +kernel
theorem dX3_lackOf_132 : decode cX3_lackOf 132 = .ok (.iload 7, 2) := by decide +kernel
theorem dX3_lackOf_134 : decode cX3_lackOf 134 = .ok (.invokevirtual 196, 3) := by decide +kernel
theorem dX3_lackOf_137 : decode cX3_lackOf 137 = .ok (.iload_n 2, 1) := by decide +kernel
theorem dX3_lackOf_138 : decode cX3_lackOf 138 = .ok (.iload 7, 2) := by decide +kernel
theorem dX3_lackOf_140 : decode cX3_lackOf 140 = .ok (.isub, 1) := by decide +kernel
theorem dX3_lackOf_141 : decode cX3_lackOf 141 = .ok (.istore_n 2, 1) := by decide +kernel
theorem dX3_lackOf_142 : decode cX3_lackOf 142 = .ok (.aload_n 0, 1) := by decide +kernel
theorem dX3_lackOf_143 : decode cX3_lackOf 143 = .ok (.getfield 33, 3) := by decide +kernel
theorem dX3_lackOf_146 : decode cX3_lackOf 146 = .ok (.iload 6, 2) := by decide +kernel
theorem dX3_lackOf_148 : decode cX3_lackOf 148 = .ok (.iload 4, 2) := by decide +kernel
theorem dX3_lackOf_150 : decode cX3_lackOf 150 = .ok (.ifCond .ne 13, 3) := by decide +kernel
theorem dX3_lackOf_153 : decode cX3_lackOf 153 = .ok (.aload_n 3, 1) := by decide +kernel
theorem dX3_lackOf_154 : decode cX3_lackOf 154 = .ok (.getfield 190, 3) := by decide +kernel
theorem dX3_lackOf_157 : decode cX3_lackOf 157 = .ok (.iload 6, 2) := by decide +kernel
theorem dX3_lackOf_159 : decode cX3_lackOf 159 = .ok (.iaload, 1) := by decide +kernel
theorem dX3_lackOf_160 : decode cX3_lackOf 160 = .ok (.ifCond .ne 13, 3) := by decide +kernel
theorem dX3_lackOf_163 : decode cX3_lackOf 163 = .ok (.aload_n 0, 1) := by decide +kernel
theorem dX3_lackOf_164 : decode cX3_lackOf 164 = .ok (.aload_n 3, 1) := by decide +kernel
theorem dX3_lackOf_165 : decode cX3_lackOf 165 = .ok (.iload 6, 2) := by decide +kernel
theorem dX3_lackOf_167 : decode cX3_lackOf 167 = .ok (.invokevirtual 199, 3) := by decide +kernel
theorem dX3_lackOf_170 : decode cX3_lackOf 170 = .ok (.goto 10, 3) := by decide +kernel
theorem dX3_lackOf_173 : decode cX3_lackOf 173 = .ok (.aload_n 0, 1) := by decide +kernel
theorem dX3_lackOf_174 : decode cX3_lackOf 174 = .ok (.getfield 33, 3) := by decide +kernel
theorem dX3_lackOf_177 : decode cX3_lackOf 177 = .ok (.iload 6, 2) := by decide +kernel
theorem dX3_lackOf_179 : decode cX3_lackOf 179 = .ok (.iaload, 1) := by decide +kernel
theorem dX3_lackOf_180 : decode cX3_lackOf 180 = .ok (.iastore, 1) := by decide +kernel
theorem dX3_lackOf_181 : decode cX3_lackOf 181 = .ok (.iinc 5 1, 3) := by decide +kernel
theorem dX3_lackOf_184 : decode cX3_lackOf 184 = .ok (.goto (-126), 3) := by decide +kernel
theorem dX3_lackOf_187 : decode cX3_lackOf 187 = .ok (.aload_n 1, 1) := by decide +kernel
theorem dX3_lackOf_188 : decode cX3_lackOf 188 = .ok (.iload_n 2, 1) := by decide +kernel
theorem dX3_lackOf_189 : decode cX3_lackOf 189 = .ok (.putfield 147, 3) := by decide +kernel
theorem dX3_lackOf_192 : decode cX3_lackOf 192 = .ok (.aload_n 1, 1) := by decide +kernel
theorem dX3_lackOf_193 : decode cX3_lackOf 193 = .ok (.dup, 1) := by decide +kernel
theorem dX3_lackOf_194 : decode cX3_lackOf 194 = .ok (.getfield 203, 3) := by decide +kernel
theorem dX3_lackOf_197 : decode cX3_lackOf 197 = .ok (.iload_n 2, 1) := by decide +kernel
theorem dX3_lackOf_198 : decode cX3_lackOf 198 = .ok (.iadd, 1) := by decide +kernel
theorem dX3_lackOf_199 : decode cX3_lackOf 199 = .ok (.putfield 203, 3) := by decide +kernel
theorem dX3_lackOf_202 : decode cX3_lackOf 202 = .ok (.iload_n 2, 1) := by decide +kernel
theorem dX3_lackOf_203 : decode cX3_lackOf 203 = .ok (.ireturn, 1) := by decide +kernel
theorem dX3_weighAll_0 : decode cX3_weighAll 0 = .ok (.iconst 0, 1) := by decide +kernel
theorem dX3_weighAll_1 : decode cX3_weighAll 1 = .ok (.istore_n 2, 1) := by decide +kernel
theorem dX3_weighAll_2 : decode cX3_weighAll 2 = .ok (.iload_n 2, 1) := by decide +kernel
theorem dX3_weighAll_3 : decode cX3_weighAll 3 = .ok (.bipush 30, 2) := by decide +kernel
theorem dX3_weighAll_5 : decode cX3_weighAll 5 = .ok (.if_icmp .ge 34, 3) := by decide +kernel
theorem dX3_weighAll_8 : decode cX3_weighAll 8 = .ok (.aload_n 0, 1) := by decide +kernel
theorem dX3_weighAll_9 : decode cX3_weighAll 9 = .ok (.getfield 33, 3) := by decide +kernel
theorem dX3_weighAll_12 : decode cX3_weighAll 12 = .ok (.iload_n 2, 1) := by decide +kernel
theorem dX3_weighAll_13 : decode cX3_weighAll 13 = .ok (.aload_n 1, 1) := by decide +kernel
theorem dX3_weighAll_14 : decode cX3_weighAll 14 = .ok (.getfield 190, 3) := by decide +kernel
theorem dX3_weighAll_17 : decode cX3_weighAll 17 = .ok (.iload_n 2, 1) := by decide +kernel
theorem dX3_weighAll_18 : decode cX3_weighAll 18 = .ok (.iaload, 1) := by decide +kernel
theorem dX3_weighAll_19 : decode cX3_weighAll 19 = .ok (.ifCond .le 12, 3) := by decide +kernel
theorem dX3_weighAll_22 : decode cX3_weighAll 22 = .ok (.aload_n 0, 1) := by decide +kernel
theorem dX3_weighAll_23 : decode cX3_weighAll 23 = .ok (.aload_n 1, 1) := by decide +kernel
theorem dX3_weighAll_24 : decode cX3_weighAll 24 = .ok (.iload_n 2, 1) := by decide +kernel
theorem dX3_weighAll_25 : decode cX3_weighAll 25 = .ok (.invokevirtual 199, 3) := by decide +kernel
theorem dX3_weighAll_28 : decode cX3_weighAll 28 = .ok (.goto 4, 3) := by decide +kernel
theorem dX3_weighAll_31 : decode cX3_weighAll 31 = .ok (.iconst (-1), 1) := by decide +kernel
theorem dX3_weighAll_32 : decode cX3_weighAll 32 = .ok (.iastore, 1) := by decide +kernel
theorem dX3_weighAll_33 : decode cX3_weighAll 33 = .ok (.iinc 2 1, 3) := by decide +kernel
theorem dX3_weighAll_36 : decode cX3_weighAll 36 = .ok (.goto (-34), 3) := by decide +kernel
theorem dX3_weighAll_39 : decode cX3_weighAll 39 = .ok (.return_, 1) := by decide +kernel
theorem dX3_firstOfPlaces_0 : decode cX3_firstOfPlaces 0 = .ok (.iconst (-1), 1) := by decide +kernel
theorem dX3_firstOfPlaces_1 : decode cX3_firstOfPlaces 1 = .ok (.istore_n 1, 1) := by decide +kernel
theorem dX3_firstOfPlaces_2 : decode cX3_firstOfPlaces 2 = .ok (.iconst 0, 1) := by decide +kernel
theorem dX3_firstOfPlaces_3 : decode cX3_firstOfPlaces 3 = .ok (.istore_n 2, 1) := by decide +kernel
theorem dX3_firstOfPlaces_4 : decode cX3_firstOfPlaces 4 = .ok (.iload_n 2, 1) := by decide +kernel
theorem dX3_firstOfPlaces_5 : decode cX3_firstOfPlaces 5 = .ok (.bipush 30, 2) := by decide +kernel
theorem dX3_firstOfPlaces_7 : decode cX3_firstOfPlaces 7 = .ok (.if_icmp .ge 41, 3) := by decide +kernel
theorem dX3_firstOfPlaces_10 : decode cX3_firstOfPlaces 10 = .ok (.aload_n 0, 1) := by decide +kernel
theorem dX3_firstOfPlaces_11 : decode cX3_firstOfPlaces 11 = .ok (.getfield 33, 3) := by decide +kernel
theorem dX3_firstOfPlaces_14 : decode cX3_firstOfPlaces 14 = .ok (.iload_n 2, 1) := by decide +kernel
theorem dX3_firstOfPlaces_15 : decode cX3_firstOfPlaces 15 = .ok (.iaload, 1) := by decide +kernel
theorem dX3_firstOfPlaces_16 : decode cX3_firstOfPlaces 16 = .ok (.iconst (-1), 1) := by decide +kernel
theorem dX3_firstOfPlaces_17 : decode cX3_firstOfPlaces 17 = .ok (.if_icmp .eq 25, 3) := by decide +kernel
theorem dX3_firstOfPlaces_20 : decode cX3_firstOfPlaces 20 = .ok (.iload_n 1, 1) := by decide +kernel
theorem dX3_firstOfPlaces_21 : decode cX3_firstOfPlaces 21 = .ok (.iconst (-1), 1) := by decide +kernel
theorem dX3_firstOfPlaces_22 : decode cX3_firstOfPlaces 22 = .ok (.if_icmp .eq 18, 3) := by decide +kernel
theorem dX3_firstOfPlaces_25 : decode cX3_firstOfPlaces 25 = .ok (.aload_n 0, 1) := by decide +kernel
theorem dX3_firstOfPlaces_26 : decode cX3_firstOfPlaces 26 = .ok (.getfield 33, 3) := by decide +kernel
theorem dX3_firstOfPlaces_29 : decode cX3_firstOfPlaces 29 = .ok (.iload_n 2, 1) := by decide +kernel
theorem dX3_firstOfPlaces_30 : decode cX3_firstOfPlaces 30 = .ok (.iaload, 1) := by decide +kernel
theorem dX3_firstOfPlaces_31 : decode cX3_firstOfPlaces 31 = .ok (.aload_n 0, 1) := by decide +kernel
theorem dX3_firstOfPlaces_32 : decode cX3_firstOfPlaces 32 = .ok (.getfield 33, 3) := by decide +kernel
theorem dX3_firstOfPlaces_35 : decode cX3_firstOfPlaces 35 = .ok (.iload_n 1, 1) := by decide +kernel
theorem dX3_firstOfPlaces_36 : decode cX3_firstOfPlaces 36 = .ok (.iaload, 1) := by decide +kernel
theorem dX3_firstOfPlaces_37 : decode cX3_firstOfPlaces 37 = .ok (.if_icmp .le 5, 3) := by decide +kernel
theorem dX3_firstOfPlaces_40 : decode cX3_firstOfPlaces 40 = .ok (.iload_n 2, 1) := by decide +kernel
theorem dX3_firstOfPlaces_41 : decode cX3_firstOfPlaces 41 = .ok (.istore_n 1, 1) := by decide +kernel
theorem dX3_firstOfPlaces_42 : decode cX3_firstOfPlaces 42 = .ok (.iinc 2 1, 3) := by decide +kernel
theorem dX3_firstOfPlaces_45 : decode cX3_firstOfPlaces 45 = .ok (.goto (-41), 3) := by decide +kernel
theorem dX3_firstOfPlaces_48 : decode cX3_firstOfPlaces 48 = .ok (.iload_n 1, 1) := by decide +kernel
theorem dX3_firstOfPlaces_49 : decode cX3_firstOfPlaces 49 = .ok (.ireturn, 1) := by decide +kernel
theorem dX3_firstYearIn_0 : decode cX3_firstYearIn 0 = .ok (.aload_n 0, 1) := by decide +kernel
theorem dX3_firstYearIn_1 : decode cX3_firstYearIn 1 = .ok (.aload_n 1, 1) := by decide +kernel
theorem dX3_firstYearIn_2 : decode cX3_firstYearIn 2 = .ok (.invokevirtual 181, 3) := by decide +kernel
theorem dX3_firstYearIn_5 : decode cX3_firstYearIn 5 = .ok (.aload_n 0, 1) := by decide +kernel
theorem dX3_firstYearIn_6 : decode cX3_firstYearIn 6 = .ok (.invokevirtual 184, 3) := by decide +kernel
theorem dX3_firstYearIn_9 : decode cX3_firstYearIn 9 = .ok (.ireturn, 1) := by decide +kernel
theorem dX3_placeIn_0 : decode cX3_placeIn 0 = .ok (.iload_n 2, 1) := by decide +kernel
theorem dX3_placeIn_1 : decode cX3_placeIn 1 = .ok (.ifCond .lt 18, 3) := by decide +kernel
theorem dX3_placeIn_4 : decode cX3_placeIn 4 = .ok (.iload_n 2, 1) := by decide +kernel
theorem dX3_placeIn_5 : decode cX3_placeIn 5 = .ok (.bipush 30, 2) := by decide +kernel
theorem dX3_placeIn_7 : decode cX3_placeIn 7 = .ok (.if_icmp .ge 12, 3) := by decide +kernel
theorem dX3_placeIn_10 : decode cX3_placeIn 10 = .ok (.aload_n 1, 1) := by decide +kernel
theorem dX3_placeIn_11 : decode cX3_placeIn 11 = .ok (.getfield 190, 3) := by decide +kernel
theorem dX3_placeIn_14 : decode cX3_placeIn 14 = .ok (.iload_n 2, 1) := by decide +kernel
theorem dX3_placeIn_15 : decode cX3_placeIn 15 = .ok (.iaload, 1) := by decide +kernel
theorem dX3_placeIn_16 : decode cX3_placeIn 16 = .ok (.ifCond .gt 5, 3) := by decide +kernel
theorem dX3_placeIn_19 : decode cX3_placeIn 19 = .ok (.iconst (-1), 1) := by decide +kernel
theorem dX3_placeIn_20 : decode cX3_placeIn 20 = .ok (.ireturn, 1) := by decide +kernel
theorem dX3_placeIn_21 : decode cX3_placeIn 21 = .ok (.iconst 0, 1) := by decide +kernel
theorem dX3_placeIn_22 : decode cX3_placeIn 22 = .ok (.aload_n 0, 1) := by decide +kernel
theorem dX3_placeIn_23 : decode cX3_placeIn 23 = .ok (.invokevirtual 206, 3) := by decide +kernel
theorem dX3_placeIn_26 : decode cX3_placeIn 26 = .ok (.iload_n 2, 1) := by decide +kernel
theorem dX3_placeIn_27 : decode cX3_placeIn 27 = .ok (.isub, 1) := by decide +kernel
theorem dX3_placeIn_28 : decode cX3_placeIn 28 = .ok (.invokestatic 209, 3) := by decide +kernel
theorem dX3_placeIn_31 : decode cX3_placeIn 31 = .ok (.istore_n 3, 1) := by decide +kernel
theorem dX3_placeIn_32 : decode cX3_placeIn 32 = .ok (.aload_n 0, 1) := by decide +kernel
theorem dX3_placeIn_33 : decode cX3_placeIn 33 = .ok (.getfield 68, 3) := by decide +kernel
theorem dX3_placeIn_36 : decode cX3_placeIn 36 = .ok (.ifnonnull 24, 3) := by decide +kernel
theorem dX3_placeIn_39 : decode cX3_placeIn 39 = .ok (.aload_n 1, 1) := by decide +kernel
theorem dX3_placeIn_40 : decode cX3_placeIn 40 = .ok (.getfield 153, 3) := by decide +kernel
theorem dX3_placeIn_43 : decode cX3_placeIn 43 = .ok (.iconst 1, 1) := by decide +kernel
theorem dX3_placeIn_44 : decode cX3_placeIn 44 = .ok (.if_icmp .eq 10, 3) := by decide +kernel
theorem dX3_placeIn_47 : decode cX3_placeIn 47 = .ok (.aload_n 1, 1) := by decide +kernel
theorem dX3_placeIn_48 : decode cX3_placeIn 48 = .ok (.getfield 129, 3) := by decide +kernel
theorem dX3_placeIn_51 : decode cX3_placeIn 51 = .ok (.ifCond .eq 7, 3) := by decide +kernel
theorem dX3_placeIn_54 : decode cX3_placeIn 54 = .ok (.iconst (-1), 1) := by decide +kernel
theorem dX3_placeIn_55 : decode cX3_placeIn 55 = .ok (.goto 4, 3) := by decide +kernel
theorem dX3_placeIn_58 : decode cX3_placeIn 58 = .ok (.iload_n 3, 1) := by decide +kernel
theorem dX3_placeIn_59 : decode cX3_placeIn 59 = .ok (.ireturn, 1) := by decide +kernel
theorem dX3_placeIn_60 : decode cX3_placeIn 60 = .ok (.aload_n 0, 1) := by decide +kernel
theorem dX3_placeIn_61 : decode cX3_placeIn 61 = .ok (.getfield 68, 3) := by decide +kernel
theorem dX3_placeIn_64 : decode cX3_placeIn 64 = .ok (.sipush 1000, 3) := by decide +kernel
theorem dX3_placeIn_67 : decode cX3_placeIn 67 = .ok (.iload_n 2, 1) := by decide +kernel
theorem dX3_placeIn_68 : decode cX3_placeIn 68 = .ok (.invokevirtual 212, 3) := by decide +kernel
theorem dX3_placeIn_71 : decode cX3_placeIn 71 = .ok (.aload_n 0, 1) := by decide +kernel
theorem dX3_placeIn_72 : decode cX3_placeIn 72 = .ok (.getfield 68, 3) := by decide +kernel
theorem dX3_placeIn_75 : decode cX3_placeIn 75 = .ok (.sipush 1001, 3) := by decide +kernel
theorem dX3_placeIn_78 : decode cX3_placeIn 78 = .ok (.iload_n 3, 1) := by decide +kernel
theorem dX3_placeIn_79 : decode cX3_placeIn 79 = .ok (.invokevirtual 212, 3) := by decide +kernel
theorem dX3_placeIn_82 : decode cX3_placeIn 82 = .ok (.aload_n 0, 1) := by decide +kernel
theorem dX3_placeIn_83 : decode cX3_placeIn 83 = .ok (.getfield 68, 3) := by decide +kernel
theorem dX3_placeIn_86 : decode cX3_placeIn 86 = .ok (.sipush 1002, 3) := by decide +kernel
theorem dX3_placeIn_89 : decode cX3_placeIn 89 = .ok (.aload_n 0, 1) := by decide +kernel
theorem dX3_placeIn_90 : decode cX3_placeIn 90 = .ok (.getfield 29, 3) := by decide +kernel
theorem dX3_placeIn_93 : decode cX3_placeIn 93 = .ok (.iload_n 2, 1) := by decide +kernel
theorem dX3_placeIn_94 : decode cX3_placeIn 94 = .ok (.iaload, 1) := by decide +kernel
theorem dX3_placeIn_95 : decode cX3_placeIn 95 = .ok (.invokevirtual 212, 3) := by decide +kernel
theorem dX3_placeIn_98 : decode cX3_placeIn 98 = .ok (.aload_n 0, 1) := by decide +kernel
theorem dX3_placeIn_99 : decode cX3_placeIn 99 = .ok (.getfield 68, 3) := by decide +kernel
theorem dX3_placeIn_102 : decode cX3_placeIn 102 = .ok (.sipush 1003, 3) := by decide +kernel
theorem dX3_placeIn_105 : decode cX3_placeIn 105 = .ok (.aload_n 0, 1) := by decide +kernel
theorem dX3_placeIn_106 : decode cX3_placeIn 106 = .ok (.getfield 75, 3) := by decide +kernel
theorem dX3_placeIn_109 : decode cX3_placeIn 109 = .ok (.bipush 12, 2) := by decide +kernel
theorem dX3_placeIn_111 : decode cX3_placeIn 111 = .ok (.irem, 1) := by decide +kernel
theorem dX3_placeIn_112 : decode cX3_placeIn 112 = .ok (.invokevirtual 212, 3) := by decide +kernel
theorem dX3_placeIn_115 : decode cX3_placeIn 115 = .ok (.aload_n 0, 1) := by decide +kernel
theorem dX3_placeIn_116 : decode cX3_placeIn 116 = .ok (.getfield 68, 3) := by decide +kernel
theorem dX3_placeIn_119 : decode cX3_placeIn 119 = .ok (.sipush 1004, 3) := by decide +kernel
theorem dX3_placeIn_122 : decode cX3_placeIn 122 = .ok (.aload_n 1, 1) := by decide +kernel
theorem dX3_placeIn_123 : decode cX3_placeIn 123 = .ok (.getfield 190, 3) := by decide +kernel
theorem dX3_placeIn_126 : decode cX3_placeIn 126 = .ok (.iload_n 2, 1) := by decide +kernel
theorem dX3_placeIn_127 : decode cX3_placeIn 127 = .ok (.iaload, 1) := by decide +kernel
theorem dX3_placeIn_128 : decode cX3_placeIn 128 = .ok (.invokevirtual 212, 3) := by decide +kernel
theorem dX3_placeIn_131 : decode cX3_placeIn 131 = .ok (.aload_n 0, 1) := by decide +kernel
theorem dX3_placeIn_132 : decode cX3_placeIn 132 = .ok (.getfield 68, 3) := by decide +kernel
theorem dX3_placeIn_135 : decode cX3_placeIn 135 = .ok (.sipush 1005, 3) := by decide +kernel
theorem dX3_placeIn_138 : decode cX3_placeIn 138 = .ok (.aload_n 1, 1) := by decide +kernel
theorem dX3_placeIn_139 : decode cX3_placeIn 139 = .ok (.getfield 153, 3) := by decide +kernel
theorem dX3_placeIn_142 : decode cX3_placeIn 142 = .ok (.iconst 1, 1) := by decide +kernel
theorem dX3_placeIn_143 : decode cX3_placeIn 143 = .ok (.if_icmp .ne 7, 3) := by decide +kernel
theorem dX3_placeIn_146 : decode cX3_placeIn 146 = .ok (.iconst 1, 1) := by decide +kernel
theorem dX3_placeIn_147 : decode cX3_placeIn 147 = .ok (.goto 4, 3) := by decide +kernel
theorem dX3_placeIn_150 : decode cX3_placeIn 150 = .ok (.iconst 0, 1) := by decide +kernel
theorem dX3_placeIn_151 : decode cX3_placeIn 151 = .ok (.invokevirtual 212, 3) := by decide +kernel
theorem dX3_placeIn_154 : decode cX3_placeIn 154 = .ok (.aload_n 0, 1) := by decide +kernel
theorem dX3_placeIn_155 : decode cX3_placeIn 155 = .ok (.getfield 68, 3) := by decide +kernel
theorem dX3_placeIn_158 : decode cX3_placeIn 158 = .ok (.sipush 1006, 3) := by decide +kernel
theorem dX3_placeIn_161 : decode cX3_placeIn 161 = .ok (.aload_n 1, 1) := by decide +kernel
theorem dX3_placeIn_162 : decode cX3_placeIn 162 = .ok (.getfield 153, 3) := by decide +kernel
theorem dX3_placeIn_165 : decode cX3_placeIn 165 = .ok (.iconst 2, 1) := by decide +kernel
theorem dX3_placeIn_166 : decode cX3_placeIn 166 = .ok (.if_icmp .ne 7, 3) := by decide +kernel
theorem dX3_placeIn_169 : decode cX3_placeIn 169 = .ok (.iconst 1, 1) := by decide +kernel
theorem dX3_placeIn_170 : decode cX3_placeIn 170 = .ok (.goto 4, 3) := by decide +kernel
theorem dX3_placeIn_173 : decode cX3_placeIn 173 = .ok (.iconst 0, 1) := by decide +kernel
theorem dX3_placeIn_174 : decode cX3_placeIn 174 = .ok (.invokevirtual 212, 3) := by decide +kernel
theorem dX3_placeIn_177 : decode cX3_placeIn 177 = .ok (.aload_n 0, 1) := by decide +kernel
theorem dX3_placeIn_178 : decode cX3_placeIn 178 = .ok (.getfield 68, 3) := by decide +kernel
theorem dX3_placeIn_181 : decode cX3_placeIn 181 = .ok (.sipush 1007, 3) := by decide +kernel
theorem dX3_placeIn_184 : decode cX3_placeIn 184 = .ok (.aload_n 1, 1) := by decide +kernel
theorem dX3_placeIn_185 : decode cX3_placeIn 185 = .ok (.getfield 153, 3) := by decide +kernel
theorem dX3_placeIn_188 : decode cX3_placeIn 188 = .ok (.iconst 3, 1) := by decide +kernel
theorem dX3_placeIn_189 : decode cX3_placeIn 189 = .ok (.if_icmp .ne 7, 3) := by decide +kernel
theorem dX3_placeIn_192 : decode cX3_placeIn 192 = .ok (.iconst 1, 1) := by decide +kernel
theorem dX3_placeIn_193 : decode cX3_placeIn 193 = .ok (.goto 4, 3) := by decide +kernel
theorem dX3_placeIn_196 : decode cX3_placeIn 196 = .ok (.iconst 0, 1) := by decide +kernel
theorem dX3_placeIn_197 : decode cX3_placeIn 197 = .ok (.invokevirtual 212, 3) := by decide +kernel
theorem dX3_placeIn_200 : decode cX3_placeIn 200 = .ok (.aload_n 0, 1) := by decide +kernel
theorem dX3_placeIn_201 : decode cX3_placeIn 201 = .ok (.getfield 68, 3) := by decide +kernel
theorem dX3_placeIn_204 : decode cX3_placeIn 204 = .ok (.sipush 1008, 3) := by decide +kernel
theorem dX3_placeIn_207 : decode cX3_placeIn 207 = .ok (.aload_n 1, 1) := by decide +kernel
theorem dX3_placeIn_208 : decode cX3_placeIn 208 = .ok (.getfield 129, 3) := by decide +kernel
theorem dX3_placeIn_211 : decode cX3_placeIn 211 = .ok (.ifCond .eq 7, 3) := by decide +kernel
theorem dX3_placeIn_214 : decode cX3_placeIn 214 = .ok (.iconst 1, 1) := by decide +kernel
theorem dX3_placeIn_215 : decode cX3_placeIn 215 = .ok (.goto 4, 3) := by decide +kernel
theorem dX3_placeIn_218 : decode cX3_placeIn 218 = .ok (.iconst 0, 1) := by decide +kernel
theorem dX3_placeIn_219 : decode cX3_placeIn 219 = .ok (.invokevirtual 212, 3) := by decide +kernel
theorem dX3_placeIn_222 : decode cX3_placeIn 222 = .ok (.aload_n 0, 1) := by decide +kernel
theorem dX3_placeIn_223 : decode cX3_placeIn 223 = .ok (.getfield 68, 3) := by decide +kernel
theorem dX3_placeIn_226 : decode cX3_placeIn 226 = .ok (.invokevirtual 215, 3) := by decide +kernel
theorem dX3_placeIn_229 : decode cX3_placeIn 229 = .ok (.ireturn, 1) := by decide +kernel
theorem dX3_isDrunkByLaw_0 : decode cX3_isDrunkByLaw 0 = .ok (.aload_n 0, 1) := by decide +kernel
theorem dX3_isDrunkByLaw_1 : decode cX3_isDrunkByLaw 1 = .ok (.iload_n 1, 1) := by decide +kernel
theorem dX3_isDrunkByLaw_2 : decode cX3_isDrunkByLaw 2 = .ok (.invokevirtual 167, 3) := by decide +kernel
theorem dX3_isDrunkByLaw_5 : decode cX3_isDrunkByLaw 5 = .ok (.ifCond .eq 29, 3) := by decide +kernel
theorem dX3_isDrunkByLaw_8 : decode cX3_isDrunkByLaw 8 = .ok (.iload_n 2, 1) := by decide +kernel
theorem dX3_isDrunkByLaw_9 : decode cX3_isDrunkByLaw 9 = .ok (.ifCond .lt 25, 3) := by decide +kernel
theorem dX3_isDrunkByLaw_12 : decode cX3_isDrunkByLaw 12 = .ok (.iload_n 2, 1) := by decide +kernel
theorem dX3_isDrunkByLaw_13 : decode cX3_isDrunkByLaw 13 = .ok (.bipush 30, 2) := by decide +kernel
theorem dX3_isDrunkByLaw_15 : decode cX3_isDrunkByLaw 15 = .ok (.if_icmp .ge 19, 3) := by decide +kernel
theorem dX3_isDrunkByLaw_18 : decode cX3_isDrunkByLaw 18 = .ok (.aload_n 0, 1) := by decide +kernel
theorem dX3_isDrunkByLaw_19 : decode cX3_isDrunkByLaw 19 = .ok (.aload_n 0, 1) := by decide +kernel
theorem dX3_isDrunkByLaw_20 : decode cX3_isDrunkByLaw 20 = .ok (.getfield 19, 3) := by decide +kernel
theorem dX3_isDrunkByLaw_23 : decode cX3_isDrunkByLaw 23 = .ok (.iload_n 1, 1) := by decide +kernel
theorem dX3_isDrunkByLaw_24 : decode cX3_isDrunkByLaw 24 = .ok (.aaload, 1) := by decide +kernel
theorem dX3_isDrunkByLaw_25 : decode cX3_isDrunkByLaw 25 = .ok (.getfield 173, 3) := by decide +kernel
theorem dX3_isDrunkByLaw_28 : decode cX3_isDrunkByLaw 28 = .ok (.invokevirtual 106, 3) := by decide +kernel
theorem dX3_isDrunkByLaw_31 : decode cX3_isDrunkByLaw 31 = .ok (.ifCond .ne 5, 3) := by decide +kernel
theorem dX3_isDrunkByLaw_34 : decode cX3_isDrunkByLaw 34 = .ok (.iconst 0, 1) := by decide +kernel
theorem dX3_isDrunkByLaw_35 : decode cX3_isDrunkByLaw 35 = .ok (.ireturn, 1) := by decide +kernel
theorem dX3_isDrunkByLaw_36 : decode cX3_isDrunkByLaw 36 = .ok (.aload_n 0, 1) := by decide +kernel
theorem dX3_isDrunkByLaw_37 : decode cX3_isDrunkByLaw 37 = .ok (.getfield 19, 3) := by decide +kernel
theorem dX3_isDrunkByLaw_40 : decode cX3_isDrunkByLaw 40 = .ok (.iload_n 1, 1) := by decide +kernel
theorem dX3_isDrunkByLaw_41 : decode cX3_isDrunkByLaw 41 = .ok (.aaload, 1) := by decide +kernel
theorem dX3_isDrunkByLaw_42 : decode cX3_isDrunkByLaw 42 = .ok (.astore_n 3, 1) := by decide +kernel
theorem dX3_isDrunkByLaw_43 : decode cX3_isDrunkByLaw 43 = .ok (.aload_n 0, 1) := by decide +kernel
theorem dX3_isDrunkByLaw_44 : decode cX3_isDrunkByLaw 44 = .ok (.getfield 11, 3) := by decide +kernel
theorem dX3_isDrunkByLaw_47 : decode cX3_isDrunkByLaw 47 = .ok (.aload_n 3, 1) := by decide +kernel
theorem dX3_isDrunkByLaw_48 : decode cX3_isDrunkByLaw 48 = .ok (.getfield 173, 3) := by decide +kernel
theorem dX3_isDrunkByLaw_51 : decode cX3_isDrunkByLaw 51 = .ok (.aaload, 1) := by decide +kernel
theorem dX3_isDrunkByLaw_52 : decode cX3_isDrunkByLaw 52 = .ok (.astore 4, 2) := by decide +kernel
theorem dX3_isDrunkByLaw_54 : decode cX3_isDrunkByLaw 54 = .ok (.aload_n 0, 1) := by decide +kernel
theorem dX3_isDrunkByLaw_55 : decode cX3_isDrunkByLaw 55 = .ok (.aload 4, 2) := by decide +kernel
theorem dX3_isDrunkByLaw_57 : decode cX3_isDrunkByLaw 57 = .ok (.invokevirtual 218, 3) := by decide +kernel
theorem dX3_isDrunkByLaw_60 : decode cX3_isDrunkByLaw 60 = .ok (.iload_n 2, 1) := by decide +kernel
theorem dX3_isDrunkByLaw_61 : decode cX3_isDrunkByLaw 61 = .ok (.if_icmp .ne 16, 3) := by decide +kernel
theorem dX3_isDrunkByLaw_64 : decode cX3_isDrunkByLaw 64 = .ok (.aload_n 0, 1) := by decide +kernel
theorem dX3_isDrunkByLaw_65 : decode cX3_isDrunkByLaw 65 = .ok (.getfield 29, 3) := by decide +kernel
theorem dX3_isDrunkByLaw_68 : decode cX3_isDrunkByLaw 68 = .ok (.iload_n 2, 1) := by decide +kernel
theorem dX3_isDrunkByLaw_69 : decode cX3_isDrunkByLaw 69 = .ok (.iaload, 1) := by decide +kernel
theorem dX3_isDrunkByLaw_70 : decode cX3_isDrunkByLaw 70 = .ok (.aload_n 3, 1) := by decide +kernel
theorem dX3_isDrunkByLaw_71 : decode cX3_isDrunkByLaw 71 = .ok (.getfield 187, 3) := by decide +kernel
theorem dX3_isDrunkByLaw_74 : decode cX3_isDrunkByLaw 74 = .ok (.if_icmp .le 5, 3) := by decide +kernel
theorem dX3_isDrunkByLaw_77 : decode cX3_isDrunkByLaw 77 = .ok (.iconst 0, 1) := by decide +kernel
theorem dX3_isDrunkByLaw_78 : decode cX3_isDrunkByLaw 78 = .ok (.ireturn, 1) := by decide +kernel
theorem dX3_isDrunkByLaw_79 : decode cX3_isDrunkByLaw 79 = .ok (.aload 4, 2) := by decide +kernel
theorem dX3_isDrunkByLaw_81 : decode cX3_isDrunkByLaw 81 = .ok (.iload_n 2, 1) := by decide +kernel
theorem dX3_isDrunkByLaw_82 : decode cX3_isDrunkByLaw 82 = .ok (.iconst 1, 1) := by decide +kernel
theorem dX3_isDrunkByLaw_83 : decode cX3_isDrunkByLaw 83 = .ok (.invokevirtual 193, 3) := by decide +kernel
theorem dX3_isDrunkByLaw_86 : decode cX3_isDrunkByLaw 86 = .ok (.iconst 1, 1) := by decide +kernel
theorem dX3_isDrunkByLaw_87 : decode cX3_isDrunkByLaw 87 = .ok (.ireturn, 1) := by decide +kernel
theorem dX3_takeOldest_0 : decode cX3_takeOldest 0 = .ok (.iload_n 2, 1) := by decide +kernel
theorem dX3_takeOldest_1 : decode cX3_takeOldest 1 = .ok (.aload_n 1, 1) := by decide +kernel
theorem dX3_takeOldest_2 : decode cX3_takeOldest 2 = .ok (.getfield 160, 3) := by decide +kernel
theorem dX3_takeOldest_5 : decode cX3_takeOldest 5 = .ok (.invokestatic 114, 3) := by decide +kernel
theorem dX3_takeOldest_8 : decode cX3_takeOldest 8 = .ok (.istore_n 3, 1) := by decide +kernel
theorem dX3_takeOldest_9 : decode cX3_takeOldest 9 = .ok (.iload_n 3, 1) := by decide +kernel
theorem dX3_takeOldest_10 : decode cX3_takeOldest 10 = .ok (.istore 4, 2) := by decide +kernel
theorem dX3_takeOldest_12 : decode cX3_takeOldest 12 = .ok (.iconst 0, 1) := by decide +kernel
theorem dX3_takeOldest_13 : decode cX3_takeOldest 13 = .ok (.istore 5, 2) := by decide +kernel
theorem dX3_takeOldest_15 : decode cX3_takeOldest 15 = .ok (.iload 5, 2) := by decide +kernel
theorem dX3_takeOldest_17 : decode cX3_takeOldest 17 = .ok (.bipush 30, 2) := by decide +kernel
theorem dX3_takeOldest_19 : decode cX3_takeOldest 19 = .ok (.if_icmp .ge 38, 3) := by decide +kernel
theorem dX3_takeOldest_22 : decode cX3_takeOldest 22 = .ok (.iload 4, 2) := by decide +kernel
theorem dX3_takeOldest_24 : decode cX3_takeOldest 24 = .ok (.aload_n 1, 1) := by decide +kernel
theorem dX3_takeOldest_25 : decode cX3_takeOldest 25 = .ok (.getfield 190, 3) := by decide +kernel
theorem dX3_takeOldest_28 : decode cX3_takeOldest 28 = .ok (.iload 5, 2) := by decide +kernel
theorem dX3_takeOldest_30 : decode cX3_takeOldest 30 = .ok (.iaload, 1) := by decide +kernel
theorem dX3_takeOldest_31 : decode cX3_takeOldest 31 = .ok (.invokestatic 114, 3) := by decide +kernel
theorem dX3_takeOldest_34 : decode cX3_takeOldest 34 = .ok (.istore 6, 2) := by decide +kernel
theorem dX3_takeOldest_36 : decode cX3_takeOldest 36 = .ok (.aload_n 1, 1) := by decide +kernel
theorem dX3_takeOldest_37 : decode cX3_takeOldest 37 = .ok (.iload 5, 2) := by decide +kernel
theorem dX3_takeOldest_39 : decode cX3_takeOldest 39 = .ok (.iload 6, 2) := by decide +kernel
theorem dX3_takeOldest_41 : decode cX3_takeOldest 41 = .ok (.invokevirtual 193, 3) := by decide +kernel
theorem dX3_takeOldest_44 : decode cX3_takeOldest 44 = .ok (.iload 4, 2) := by decide +kernel
theorem dX3_takeOldest_46 : decode cX3_takeOldest 46 = .ok (.iload 6, 2) := by decide +kernel
theorem dX3_takeOldest_48 : decode cX3_takeOldest 48 = .ok (.isub, 1) := by decide +kernel
theorem dX3_takeOldest_49 : decode cX3_takeOldest 49 = .ok (.istore 4, 2) := by decide +kernel
theorem dX3_takeOldest_51 : decode cX3_takeOldest 51 = .ok (.iinc 5 1, 3) := by decide +kernel
theorem dX3_takeOldest_54 : decode cX3_takeOldest 54 = .ok (.goto (-39), 3) := by decide +kernel
theorem dX3_takeOldest_57 : decode cX3_takeOldest 57 = .ok (.aload_n 0, 1) := by decide +kernel
theorem dX3_takeOldest_58 : decode cX3_takeOldest 58 = .ok (.dup, 1) := by decide +kernel
theorem dX3_takeOldest_59 : decode cX3_takeOldest 59 = .ok (.getfield 87, 3) := by decide +kernel
theorem dX3_takeOldest_62 : decode cX3_takeOldest 62 = .ok (.iload_n 3, 1) := by decide +kernel
theorem dX3_takeOldest_63 : decode cX3_takeOldest 63 = .ok (.iadd, 1) := by decide +kernel
theorem dX3_takeOldest_64 : decode cX3_takeOldest 64 = .ok (.putfield 87, 3) := by decide +kernel
theorem dX3_takeOldest_67 : decode cX3_takeOldest 67 = .ok (.iload_n 3, 1) := by decide +kernel
theorem dX3_takeOldest_68 : decode cX3_takeOldest 68 = .ok (.ireturn, 1) := by decide +kernel
theorem dX3_fillFirstEmpty_0 : decode cX3_fillFirstEmpty 0 = .ok (.aload_n 0, 1) := by decide +kernel
theorem dX3_fillFirstEmpty_1 : decode cX3_fillFirstEmpty 1 = .ok (.dup, 1) := by decide +kernel
theorem dX3_fillFirstEmpty_2 : decode cX3_fillFirstEmpty 2 = .ok (.getfield 84, 3) := by decide +kernel
theorem dX3_fillFirstEmpty_5 : decode cX3_fillFirstEmpty 5 = .ok (.iload_n 1, 1) := by decide +kernel
theorem dX3_fillFirstEmpty_6 : decode cX3_fillFirstEmpty 6 = .ok (.iadd, 1) := by decide +kernel
theorem dX3_fillFirstEmpty_7 : decode cX3_fillFirstEmpty 7 = .ok (.putfield 84, 3) := by decide +kernel
theorem dX3_fillFirstEmpty_10 : decode cX3_fillFirstEmpty 10 = .ok (.iconst 0, 1) := by decide +kernel
theorem dX3_fillFirstEmpty_11 : decode cX3_fillFirstEmpty 11 = .ok (.istore_n 2, 1) := by decide +kernel
theorem dX3_fillFirstEmpty_12 : decode cX3_fillFirstEmpty 12 = .ok (.iload_n 2, 1) := by decide +kernel
theorem dX3_fillFirstEmpty_13 : decode cX3_fillFirstEmpty 13 = .ok (.aload_n 0, 1) := by decide +kernel
theorem dX3_fillFirstEmpty_14 : decode cX3_fillFirstEmpty 14 = .ok (.getfield 43, 3) := by decide +kernel
theorem dX3_fillFirstEmpty_17 : decode cX3_fillFirstEmpty 17 = .ok (.if_icmp .ge 70, 3) := by decide +kernel
theorem dX3_fillFirstEmpty_20 : decode cX3_fillFirstEmpty 20 = .ok (.aload_n 0, 1) := by decide +kernel
theorem dX3_fillFirstEmpty_21 : decode cX3_fillFirstEmpty 21 = .ok (.getfield 11, 3) := by decide +kernel
theorem dX3_fillFirstEmpty_24 : decode cX3_fillFirstEmpty 24 = .ok (.iload_n 2, 1) := by decide +kernel
theorem dX3_fillFirstEmpty_25 : decode cX3_fillFirstEmpty 25 = .ok (.aaload, 1) := by decide +kernel
theorem dX3_fillFirstEmpty_26 : decode cX3_fillFirstEmpty 26 = .ok (.astore_n 3, 1) := by decide +kernel
theorem dX3_fillFirstEmpty_27 : decode cX3_fillFirstEmpty 27 = .ok (.aload_n 3, 1) := by decide +kernel
theorem dX3_fillFirstEmpty_28 : decode cX3_fillFirstEmpty 28 = .ok (.getfield 160, 3) := by decide +kernel
theorem dX3_fillFirstEmpty_31 : decode cX3_fillFirstEmpty 31 = .ok (.ifCond .ne 50, 3) := by decide +kernel
theorem dX3_fillFirstEmpty_34 : decode cX3_fillFirstEmpty 34 = .ok (.aload_n 3, 1) := by decide +kernel
theorem dX3_fillFirstEmpty_35 : decode cX3_fillFirstEmpty 35 = .ok (.getfield 129, 3) := by decide +kernel
theorem dX3_fillFirstEmpty_38 : decode cX3_fillFirstEmpty 38 = .ok (.ifCond .ne 43, 3) := by decide +kernel
theorem dX3_fillFirstEmpty_41 : decode cX3_fillFirstEmpty 41 = .ok (.iload_n 1, 1) := by decide +kernel
theorem dX3_fillFirstEmpty_42 : decode cX3_fillFirstEmpty 42 = .ok (.aload_n 3, 1) := by decide +kernel
theorem dX3_fillFirstEmpty_43 : decode cX3_fillFirstEmpty 43 = .ok (.invokevirtual 110, 3) := by decide +kernel
theorem dX3_fillFirstEmpty_46 : decode cX3_fillFirstEmpty 46 = .ok (.invokestatic 114, 3) := by decide +kernel
theorem dX3_fillFirstEmpty_49 : decode cX3_fillFirstEmpty 49 = .ok (.istore 4, 2) := by decide +kernel
theorem dX3_fillFirstEmpty_51 : decode cX3_fillFirstEmpty 51 = .ok (.aload_n 3, 1) := by decide +kernel
theorem dX3_fillFirstEmpty_52 : decode cX3_fillFirstEmpty 52 = .ok (.aload_n 0, 1) := by decide +kernel
theorem dX3_fillFirstEmpty_53 : decode cX3_fillFirstEmpty 53 = .ok (.invokevirtual 206, 3) := by decide +kernel
theorem dX3_fillFirstEmpty_56 : decode cX3_fillFirstEmpty 56 = .ok (.iload 4, 2) := by decide +kernel
theorem dX3_fillFirstEmpty_58 : decode cX3_fillFirstEmpty 58 = .ok (.invokevirtual 120, 3) := by decide +kernel
theorem dX3_fillFirstEmpty_61 : decode cX3_fillFirstEmpty 61 = .ok (.aload_n 0, 1) := by decide +kernel
theorem dX3_fillFirstEmpty_62 : decode cX3_fillFirstEmpty 62 = .ok (.dup, 1) := by decide +kernel
theorem dX3_fillFirstEmpty_63 : decode cX3_fillFirstEmpty 63 = .ok (.getfield 81, 3) := by decide +kernel
theorem dX3_fillFirstEmpty_66 : decode cX3_fillFirstEmpty 66 = .ok (.iload_n 1, 1) := by decide +kernel
theorem dX3_fillFirstEmpty_67 : decode cX3_fillFirstEmpty 67 = .ok (.iload 4, 2) := by decide +kernel
theorem dX3_fillFirstEmpty_69 : decode cX3_fillFirstEmpty 69 = .ok (.isub, 1) := by decide +kernel
theorem dX3_fillFirstEmpty_70 : decode cX3_fillFirstEmpty 70 = .ok (.iadd, 1) := by decide +kernel
theorem dX3_fillFirstEmpty_71 : decode cX3_fillFirstEmpty 71 = .ok (.putfield 81, 3) := by decide +kernel
theorem dX3_fillFirstEmpty_74 : decode cX3_fillFirstEmpty 74 = .ok (.aload_n 3, 1) := by decide +kernel
theorem dX3_fillFirstEmpty_75 : decode cX3_fillFirstEmpty 75 = .ok (.iconst 1, 1) := by decide +kernel
theorem dX3_fillFirstEmpty_76 : decode cX3_fillFirstEmpty 76 = .ok (.putfield 129, 3) := by decide +kernel
theorem dX3_fillFirstEmpty_79 : decode cX3_fillFirstEmpty 79 = .ok (.iload_n 2, 1) := by decide +kernel
theorem dX3_fillFirstEmpty_80 : decode cX3_fillFirstEmpty 80 = .ok (.ireturn, 1) := by decide +kernel
theorem dX3_fillFirstEmpty_81 : decode cX3_fillFirstEmpty 81 = .ok (.iinc 2 1, 3) := by decide +kernel
theorem dX3_fillFirstEmpty_84 : decode cX3_fillFirstEmpty 84 = .ok (.goto (-72), 3) := by decide +kernel
theorem dX3_fillFirstEmpty_87 : decode cX3_fillFirstEmpty 87 = .ok (.aload_n 0, 1) := by decide +kernel
theorem dX3_fillFirstEmpty_88 : decode cX3_fillFirstEmpty 88 = .ok (.dup, 1) := by decide +kernel
theorem dX3_fillFirstEmpty_89 : decode cX3_fillFirstEmpty 89 = .ok (.getfield 81, 3) := by decide +kernel
theorem dX3_fillFirstEmpty_92 : decode cX3_fillFirstEmpty 92 = .ok (.iload_n 1, 1) := by decide +kernel
theorem dX3_fillFirstEmpty_93 : decode cX3_fillFirstEmpty 93 = .ok (.iadd, 1) := by decide +kernel
theorem dX3_fillFirstEmpty_94 : decode cX3_fillFirstEmpty 94 = .ok (.putfield 81, 3) := by decide +kernel
theorem dX3_fillFirstEmpty_97 : decode cX3_fillFirstEmpty 97 = .ok (.iconst (-1), 1) := by decide +kernel
theorem dX3_fillFirstEmpty_98 : decode cX3_fillFirstEmpty 98 = .ok (.ireturn, 1) := by decide +kernel
theorem dX3_settled_0 : decode cX3_settled 0 = .ok (.aload_n 0, 1) := by decide +kernel
theorem dX3_settled_1 : decode cX3_settled 1 = .ok (.aload_n 1, 1) := by decide +kernel
theorem dX3_settled_2 : decode cX3_settled 2 = .ok (.getfield 97, 3) := by decide +kernel
theorem dX3_settled_5 : decode cX3_settled 5 = .ok (.invokevirtual 167, 3) := by decide +kernel
theorem dX3_settled_8 : decode cX3_settled 8 = .ok (.ifCond .eq 38, 3) := by decide +kernel
theorem dX3_settled_11 : decode cX3_settled 11 = .ok (.aload_n 0, 1) := by decide +kernel
theorem dX3_settled_12 : decode cX3_settled 12 = .ok (.aload_n 0, 1) := by decide +kernel
theorem dX3_settled_13 : decode cX3_settled 13 = .ok (.getfield 19, 3) := by decide +kernel
theorem dX3_settled_16 : decode cX3_settled 16 = .ok (.aload_n 1, 1) := by decide +kernel
theorem dX3_settled_17 : decode cX3_settled 17 = .ok (.getfield 97, 3) := by decide +kernel
theorem dX3_settled_20 : decode cX3_settled 20 = .ok (.aaload, 1) := by decide +kernel
theorem dX3_settled_21 : decode cX3_settled 21 = .ok (.getfield 173, 3) := by decide +kernel
theorem dX3_settled_24 : decode cX3_settled 24 = .ok (.invokevirtual 106, 3) := by decide +kernel
theorem dX3_settled_27 : decode cX3_settled 27 = .ok (.ifCond .eq 19, 3) := by decide +kernel
theorem dX3_settled_30 : decode cX3_settled 30 = .ok (.aload_n 1, 1) := by decide +kernel
theorem dX3_settled_31 : decode cX3_settled 31 = .ok (.getfield 100, 3) := by decide +kernel
theorem dX3_settled_34 : decode cX3_settled 34 = .ok (.ifCond .lt 12, 3) := by decide +kernel
theorem dX3_settled_37 : decode cX3_settled 37 = .ok (.aload_n 1, 1) := by decide +kernel
theorem dX3_settled_38 : decode cX3_settled 38 = .ok (.getfield 100, 3) := by decide +kernel
theorem dX3_settled_41 : decode cX3_settled 41 = .ok (.bipush 30, 2) := by decide +kernel
theorem dX3_settled_43 : decode cX3_settled 43 = .ok (.if_icmp .lt 5, 3) := by decide +kernel
theorem dX3_settled_46 : decode cX3_settled 46 = .ok (.iconst 0, 1) := by decide +kernel
theorem dX3_settled_47 : decode cX3_settled 47 = .ok (.ireturn, 1) := by decide +kernel
theorem dX3_settled_48 : decode cX3_settled 48 = .ok (.aload_n 0, 1) := by decide +kernel
theorem dX3_settled_49 : decode cX3_settled 49 = .ok (.getfield 19, 3) := by decide +kernel
theorem dX3_settled_52 : decode cX3_settled 52 = .ok (.aload_n 1, 1) := by decide +kernel
theorem dX3_settled_53 : decode cX3_settled 53 = .ok (.getfield 97, 3) := by decide +kernel
theorem dX3_settled_56 : decode cX3_settled 56 = .ok (.aaload, 1) := by decide +kernel
theorem dX3_settled_57 : decode cX3_settled 57 = .ok (.getfield 173, 3) := by decide +kernel
theorem dX3_settled_60 : decode cX3_settled 60 = .ok (.istore_n 2, 1) := by decide +kernel
theorem dX3_settled_61 : decode cX3_settled 61 = .ok (.aload_n 1, 1) := by decide +kernel
theorem dX3_settled_62 : decode cX3_settled 62 = .ok (.getfield 103, 3) := by decide +kernel
theorem dX3_settled_65 : decode cX3_settled 65 = .ok (.istore_n 3, 1) := by decide +kernel
theorem dX3_settled_66 : decode cX3_settled 66 = .ok (.iconst 0, 1) := by decide +kernel
theorem dX3_settled_67 : decode cX3_settled 67 = .ok (.istore 4, 2) := by decide +kernel
theorem dX3_settled_69 : decode cX3_settled 69 = .ok (.iload 4, 2) := by decide +kernel
theorem dX3_settled_71 : decode cX3_settled 71 = .ok (.aload_n 0, 1) := by decide +kernel
theorem dX3_settled_72 : decode cX3_settled 72 = .ok (.getfield 43, 3) := by decide +kernel
theorem dX3_settled_75 : decode cX3_settled 75 = .ok (.if_icmp .ge 101, 3) := by decide +kernel
theorem dX3_settled_78 : decode cX3_settled 78 = .ok (.iload 4, 2) := by decide +kernel
theorem dX3_settled_80 : decode cX3_settled 80 = .ok (.iload_n 2, 1) := by decide +kernel
theorem dX3_settled_81 : decode cX3_settled 81 = .ok (.if_icmp .ne 7, 3) := by decide +kernel
theorem dX3_settled_84 : decode cX3_settled 84 = .ok (.iconst 0, 1) := by decide +kernel
theorem dX3_settled_85 : decode cX3_settled 85 = .ok (.goto 18, 3) := by decide +kernel
theorem dX3_settled_88 : decode cX3_settled 88 = .ok (.aload_n 0, 1) := by decide +kernel
theorem dX3_settled_89 : decode cX3_settled 89 = .ok (.getfield 11, 3) := by decide +kernel
theorem dX3_settled_92 : decode cX3_settled 92 = .ok (.iload 4, 2) := by decide +kernel
theorem dX3_settled_94 : decode cX3_settled 94 = .ok (.aaload, 1) := by decide +kernel
theorem dX3_settled_95 : decode cX3_settled 95 = .ok (.getfield 190, 3) := by decide +kernel
theorem dX3_settled_98 : decode cX3_settled 98 = .ok (.aload_n 1, 1) := by decide +kernel
theorem dX3_settled_99 : decode cX3_settled 99 = .ok (.getfield 100, 3) := by decide +kernel
theorem dX3_settled_102 : decode cX3_settled 102 = .ok (.iaload, 1) := by decide +kernel
theorem dX3_settled_103 : decode cX3_settled 103 = .ok (.istore 5, 2) := by decide +kernel
theorem dX3_settled_105 : decode cX3_settled 105 = .ok (.aload_n 1, 1) := by decide +kernel
theorem dX3_settled_106 : decode cX3_settled 106 = .ok (.getfield 103, 3) := by decide +kernel
theorem dX3_settled_109 : decode cX3_settled 109 = .ok (.iload 5, 2) := by decide +kernel
theorem dX3_settled_111 : decode cX3_settled 111 = .ok (.aload_n 0, 1) := by decide +kernel
theorem dX3_settled_112 : decode cX3_settled 112 = .ok (.getfield 11, 3) := by decide +kernel
theorem dX3_settled_115 : decode cX3_settled 115 = .ok (.iload_n 2, 1) := by decide +kernel
theorem dX3_settled_116 : decode cX3_settled 116 = .ok (.aaload, 1) := by decide +kernel
theorem dX3_settled_117 : decode cX3_settled 117 = .ok (.invokevirtual 110, 3) := by decide +kernel
theorem dX3_settled_120 : decode cX3_settled 120 = .ok (.invokestatic 114, 3) := by decide +kernel
theorem dX3_settled_123 : decode cX3_settled 123 = .ok (.invokestatic 114, 3) := by decide +kernel
theorem dX3_settled_126 : decode cX3_settled 126 = .ok (.istore 6, 2) := by decide +kernel
theorem dX3_settled_128 : decode cX3_settled 128 = .ok (.aload_n 0, 1) := by decide +kernel
theorem dX3_settled_129 : decode cX3_settled 129 = .ok (.getfield 11, 3) := by decide +kernel
theorem dX3_settled_132 : decode cX3_settled 132 = .ok (.iload 4, 2) := by decide +kernel
theorem dX3_settled_134 : decode cX3_settled 134 = .ok (.aaload, 1) := by decide +kernel
theorem dX3_settled_135 : decode cX3_settled 135 = .ok (.aload_n 1, 1) := by decide +kernel
theorem dX3_settled_136 : decode cX3_settled 136 = .ok (.getfield 100, 3) := by decide +kernel
theorem dX3_settled_139 : decode cX3_settled 139 = .ok (.iload 6, 2) := by decide +kernel
theorem dX3_settled_141 : decode cX3_settled 141 = .ok (.invokevirtual 193, 3) := by decide +kernel
theorem dX3_settled_144 : decode cX3_settled 144 = .ok (.aload_n 0, 1) := by decide +kernel
theorem dX3_settled_145 : decode cX3_settled 145 = .ok (.getfield 11, 3) := by decide +kernel
theorem dX3_settled_148 : decode cX3_settled 148 = .ok (.iload_n 2, 1) := by decide +kernel
theorem dX3_settled_149 : decode cX3_settled 149 = .ok (.aaload, 1) := by decide +kernel
theorem dX3_settled_150 : decode cX3_settled 150 = .ok (.aload_n 1, 1) := by decide +kernel
theorem dX3_settled_151 : decode cX3_settled 151 = .ok (.getfield 100, 3) := by decide +kernel
theorem dX3_settled_154 : decode cX3_settled 154 = .ok (.iload 6, 2) := by decide +kernel
theorem dX3_settled_156 : decode cX3_settled 156 = .ok (.invokevirtual 120, 3) := by decide +kernel
theorem dX3_settled_159 : decode cX3_settled 159 = .ok (.aload_n 1, 1) := by decide +kernel
theorem dX3_settled_160 : decode cX3_settled 160 = .ok (.dup, 1) := by decide +kernel
theorem dX3_settled_161 : decode cX3_settled 161 = .ok (.getfield 103, 3) := by decide +kernel
theorem dX3_settled_164 : decode cX3_settled 164 = .ok (.iload 6, 2) := by decide +kernel
theorem dX3_settled_166 : decode cX3_settled 166 = .ok (.isub, 1) := by decide +kernel
theorem dX3_settled_167 : decode cX3_settled 167 = .ok (.putfield 103, 3) := by decide +kernel
theorem dX3_settled_170 : decode cX3_settled 170 = .ok (.iinc 4 1, 3) := by decide +kernel
theorem dX3_settled_173 : decode cX3_settled 173 = .ok (.goto (-104), 3) := by decide +kernel
theorem dX3_settled_176 : decode cX3_settled 176 = .ok (.iload_n 3, 1) := by decide +kernel
theorem dX3_settled_177 : decode cX3_settled 177 = .ok (.aload_n 1, 1) := by decide +kernel
theorem dX3_settled_178 : decode cX3_settled 178 = .ok (.getfield 103, 3) := by decide +kernel
theorem dX3_settled_181 : decode cX3_settled 181 = .ok (.isub, 1) := by decide +kernel
theorem dX3_settled_182 : decode cX3_settled 182 = .ok (.ireturn, 1) := by decide +kernel
theorem dX3_saltSum_0 : decode cX3_saltSum 0 = .ok (.iconst 0, 1) := by decide +kernel
theorem dX3_saltSum_1 : decode cX3_saltSum 1 = .ok (.istore_n 2, 1) := by decide +kernel
theorem dX3_saltSum_2 : decode cX3_saltSum 2 = .ok (.iconst 0, 1) := by decide +kernel
theorem dX3_saltSum_3 : decode cX3_saltSum 3 = .ok (.istore_n 3, 1) := by decide +kernel
theorem dX3_saltSum_4 : decode cX3_saltSum 4 = .ok (.iload_n 3, 1) := by decide +kernel
theorem dX3_saltSum_5 : decode cX3_saltSum 5 = .ok (.bipush 30, 2) := by decide +kernel
theorem dX3_saltSum_7 : decode cX3_saltSum 7 = .ok (.if_icmp .ge 25, 3) := by decide +kernel
theorem dX3_saltSum_10 : decode cX3_saltSum 10 = .ok (.iload_n 2, 1) := by decide +kernel
theorem dX3_saltSum_11 : decode cX3_saltSum 11 = .ok (.aload_n 1, 1) := by decide +kernel
theorem dX3_saltSum_12 : decode cX3_saltSum 12 = .ok (.getfield 190, 3) := by decide +kernel
theorem dX3_saltSum_15 : decode cX3_saltSum 15 = .ok (.iload_n 3, 1) := by decide +kernel
theorem dX3_saltSum_16 : decode cX3_saltSum 16 = .ok (.iaload, 1) := by decide +kernel
theorem dX3_saltSum_17 : decode cX3_saltSum 17 = .ok (.aload_n 0, 1) := by decide +kernel
theorem dX3_saltSum_18 : decode cX3_saltSum 18 = .ok (.getfield 29, 3) := by decide +kernel
theorem dX3_saltSum_21 : decode cX3_saltSum 21 = .ok (.iload_n 3, 1) := by decide +kernel
theorem dX3_saltSum_22 : decode cX3_saltSum 22 = .ok (.iaload, 1) := by decide +kernel
theorem dX3_saltSum_23 : decode cX3_saltSum 23 = .ok (.imul, 1) := by decide +kernel
theorem dX3_saltSum_24 : decode cX3_saltSum 24 = .ok (.iadd, 1) := by decide +kernel
theorem dX3_saltSum_25 : decode cX3_saltSum 25 = .ok (.istore_n 2, 1) := by decide +kernel
theorem dX3_saltSum_26 : decode cX3_saltSum 26 = .ok (.iinc 3 1, 3) := by decide +kernel
theorem dX3_saltSum_29 : decode cX3_saltSum 29 = .ok (.goto (-25), 3) := by decide +kernel
theorem dX3_saltSum_32 : decode cX3_saltSum 32 = .ok (.iload_n 2, 1) := by decide +kernel
theorem dX3_saltSum_33 : decode cX3_saltSum 33 = .ok (.ireturn, 1) := by decide +kernel
theorem dX3_saltOfMix_0 : decode cX3_saltOfMix 0 = .ok (.aload_n 1, 1) := by decide +kernel
theorem dX3_saltOfMix_1 : decode cX3_saltOfMix 1 = .ok (.getfield 160, 3) := by decide +kernel
theorem dX3_saltOfMix_4 : decode cX3_saltOfMix 4 = .ok (.ifCond .gt 7, 3) := by decide +kernel
theorem dX3_saltOfMix_7 : decode cX3_saltOfMix 7 = .ok (.iconst 0, 1) := by decide +kernel
theorem dX3_saltOfMix_8 : decode cX3_saltOfMix 8 = .ok (.goto 13, 3) := by decide +kernel
theorem dX3_saltOfMix_11 : decode cX3_saltOfMix 11 = .ok (.aload_n 0, 1) := by decide +kernel
theorem dX3_saltOfMix_12 : decode cX3_saltOfMix 12 = .ok (.aload_n 1, 1) := by decide +kernel
theorem dX3_saltOfMix_13 : decode cX3_saltOfMix 13 = .ok (.invokevirtual 222, 3) := by decide +kernel
theorem dX3_saltOfMix_16 : decode cX3_saltOfMix 16 = .ok (.aload_n 1, 1) := by decide +kernel
theorem dX3_saltOfMix_17 : decode cX3_saltOfMix 17 = .ok (.getfield 160, 3) := by decide +kernel
theorem dX3_saltOfMix_20 : decode cX3_saltOfMix 20 = .ok (.idiv, 1) := by decide +kernel
theorem dX3_saltOfMix_21 : decode cX3_saltOfMix 21 = .ok (.ireturn, 1) := by decide +kernel
theorem dX3_blended_0 : decode cX3_blended 0 = .ok (.aload_n 0, 1) := by decide +kernel
theorem dX3_blended_1 : decode cX3_blended 1 = .ok (.aload_n 1, 1) := by decide +kernel
theorem dX3_blended_2 : decode cX3_blended 2 = .ok (.invokevirtual 222, 3) := by decide +kernel
theorem dX3_blended_5 : decode cX3_blended 5 = .ok (.i2l, 1) := by decide +kernel
theorem dX3_blended_6 : decode cX3_blended 6 = .ok (.iload_n 3, 1) := by decide +kernel
theorem dX3_blended_7 : decode cX3_blended 7 = .ok (.i2l, 1) := by decide +kernel
theorem dX3_blended_8 : decode cX3_blended 8 = .ok (.aload_n 1, 1) := by decide +kernel
theorem dX3_blended_9 : decode cX3_blended 9 = .ok (.getfield 160, 3) := by decide +kernel
theorem dX3_blended_12 : decode cX3_blended 12 = .ok (.i2l, 1) := by decide +kernel
theorem dX3_blended_13 : decode cX3_blended 13 = .ok (.lmul, 1) := by decide +kernel
theorem dX3_blended_14 : decode cX3_blended 14 = .ok (.lsub, 1) := by decide +kernel
theorem dX3_blended_15 : decode cX3_blended 15 = .ok (.lstore 4, 2) := by decide +kernel
theorem dX3_blended_17 : decode cX3_blended 17 = .ok (.aload_n 0, 1) := by decide +kernel
theorem dX3_blended_18 : decode cX3_blended 18 = .ok (.aload_n 2, 1) := by decide +kernel
theorem dX3_blended_19 : decode cX3_blended 19 = .ok (.invokevirtual 222, 3) := by decide +kernel
theorem dX3_blended_22 : decode cX3_blended 22 = .ok (.i2l, 1) := by decide +kernel
theorem dX3_blended_23 : decode cX3_blended 23 = .ok (.iload_n 3, 1) := by decide +kernel
theorem dX3_blended_24 : decode cX3_blended 24 = .ok (.i2l, 1) := by decide +kernel
theorem dX3_blended_25 : decode cX3_blended 25 = .ok (.aload_n 2, 1) := by decide +kernel
theorem dX3_blended_26 : decode cX3_blended 26 = .ok (.getfield 160, 3) := by decide +kernel
theorem dX3_blended_29 : decode cX3_blended 29 = .ok (.i2l, 1) := by decide +kernel
theorem dX3_blended_30 : decode cX3_blended 30 = .ok (.lmul, 1) := by decide +kernel
theorem dX3_blended_31 : decode cX3_blended 31 = .ok (.lsub, 1) := by decide +kernel
theorem dX3_blended_32 : decode cX3_blended 32 = .ok (.lstore 6, 2) := by decide +kernel
theorem dX3_blended_34 : decode cX3_blended 34 = .ok (.iconst 1, 1) := by decide +kernel
theorem dX3_blended_35 : decode cX3_blended 35 = .ok (.aload_n 1, 1) := by decide +kernel
theorem dX3_blended_36 : decode cX3_blended 36 = .ok (.getfield 160, 3) := by decide +kernel
theorem dX3_blended_39 : decode cX3_blended 39 = .ok (.invokestatic 209, 3) := by decide +kernel
theorem dX3_blended_42 : decode cX3_blended 42 = .ok (.i2l, 1) := by decide +kernel
theorem dX3_blended_43 : decode cX3_blended 43 = .ok (.lstore 8, 2) := by decide +kernel
theorem dX3_blended_45 : decode cX3_blended 45 = .ok (.iconst 1, 1) := by decide +kernel
theorem dX3_blended_46 : decode cX3_blended 46 = .ok (.aload_n 2, 1) := by decide +kernel
theorem dX3_blended_47 : decode cX3_blended 47 = .ok (.getfield 160, 3) := by decide +kernel
theorem dX3_blended_50 : decode cX3_blended 50 = .ok (.invokestatic 209, 3) := by decide +kernel
theorem dX3_blended_53 : decode cX3_blended 53 = .ok (.i2l, 1) := by decide +kernel
theorem dX3_blended_54 : decode cX3_blended 54 = .ok (.lstore 10, 2) := by decide +kernel
theorem dX3_blended_56 : decode cX3_blended 56 = .ok (.iconst 0, 1) := by decide +kernel
theorem dX3_blended_57 : decode cX3_blended 57 = .ok (.istore 12, 2) := by decide +kernel
theorem dX3_blended_59 : decode cX3_blended 59 = .ok (.iconst 0, 1) := by decide +kernel
theorem dX3_blended_60 : decode cX3_blended 60 = .ok (.istore 13, 2) := by decide +kernel
theorem dX3_blended_62 : decode cX3_blended 62 = .ok (.iconst 0, 1) := by decide +kernel
theorem dX3_blended_63 : decode cX3_blended 63 = .ok (.istore 14, 2) := by decide +kernel
theorem dX3_blended_65 : decode cX3_blended 65 = .ok (.iload 14, 2) := by decide +kernel
theorem dX3_blended_67 : decode cX3_blended 67 = .ok (.aload_n 1, 1) := by decide +kernel
theorem dX3_blended_68 : decode cX3_blended 68 = .ok (.getfield 160, 3) := by decide +kernel
theorem dX3_blended_71 : decode cX3_blended 71 = .ok (.if_icmp .gt 79, 3) := by decide +kernel
theorem dX3_blended_74 : decode cX3_blended 74 = .ok (.iload 14, 2) := by decide +kernel
theorem dX3_blended_76 : decode cX3_blended 76 = .ok (.ineg, 1) := by decide +kernel
theorem dX3_blended_77 : decode cX3_blended 77 = .ok (.i2l, 1) := by decide +kernel
theorem dX3_blended_78 : decode cX3_blended 78 = .ok (.lload 4, 2) := by decide +kernel
theorem dX3_blended_80 : decode cX3_blended 80 = .ok (.lmul, 1) := by decide +kernel
theorem dX3_blended_81 : decode cX3_blended 81 = .ok (.lload 10, 2) := by decide +kernel
theorem dX3_blended_83 : decode cX3_blended 83 = .ok (.lmul, 1) := by decide +kernel
theorem dX3_blended_84 : decode cX3_blended 84 = .ok (.lstore 15, 2) := by decide +kernel
theorem dX3_blended_86 : decode cX3_blended 86 = .ok (.lload 15, 2) := by decide +kernel
theorem dX3_blended_88 : decode cX3_blended 88 = .ok (.lload 6, 2) := by decide +kernel
theorem dX3_blended_90 : decode cX3_blended 90 = .ok (.lload 8, 2) := by decide +kernel
theorem dX3_blended_92 : decode cX3_blended 92 = .ok (.lmul, 1) := by decide +kernel
theorem dX3_blended_93 : decode cX3_blended 93 = .ok (.aload_n 2, 1) := by decide +kernel
theorem dX3_blended_94 : decode cX3_blended 94 = .ok (.getfield 160, 3) := by decide +kernel
theorem dX3_blended_97 : decode cX3_blended 97 = .ok (.invokestatic 225, 3) := by decide +kernel
theorem dX3_blended_100 : decode cX3_blended 100 = .ok (.lstore 17, 2) := by decide +kernel
theorem dX3_blended_102 : decode cX3_blended 102 = .ok (.lload 17, 2) := by decide +kernel
theorem dX3_blended_104 : decode cX3_blended 104 = .ok (.ldc2_w 229, 3) := by decide +kernel
theorem dX3_blended_107 : decode cX3_blended 107 = .ok (.lcmp, 1) := by decide +kernel
theorem dX3_blended_108 : decode cX3_blended 108 = .ok (.ifCond .eq 36, 3) := by decide +kernel
theorem dX3_blended_111 : decode cX3_blended 111 = .ok (.iload 14, 2) := by decide +kernel
theorem dX3_blended_113 : decode cX3_blended 113 = .ok (.i2l, 1) := by decide +kernel
theorem dX3_blended_114 : decode cX3_blended 114 = .ok (.lload 17, 2) := by decide +kernel
theorem dX3_blended_116 : decode cX3_blended 116 = .ok (.ladd, 1) := by decide +kernel
theorem dX3_blended_117 : decode cX3_blended 117 = .ok (.iload 12, 2) := by decide +kernel
theorem dX3_blended_119 : decode cX3_blended 119 = .ok (.i2l, 1) := by decide +kernel
theorem dX3_blended_120 : decode cX3_blended 120 = .ok (.lcmp, 1) := by decide +kernel
theorem dX3_blended_121 : decode cX3_blended 121 = .ok (.ifCond .lt 23, 3) := by decide +kernel
theorem dX3_blended_124 : decode cX3_blended 124 = .ok (.iload 14, 2) := by decide +kernel
theorem dX3_blended_126 : decode cX3_blended 126 = .ok (.lload 17, 2) := by decide +kernel
theorem dX3_blended_128 : decode cX3_blended 128 = .ok (.l2i, 1) := by decide +kernel
theorem dX3_blended_129 : decode cX3_blended 129 = .ok (.iadd, 1) := by decide +kernel
theorem dX3_blended_130 : decode cX3_blended 130 = .ok (.istore 12, 2) := by decide +kernel
theorem dX3_blended_132 : decode cX3_blended 132 = .ok (.sipush 1000, 3) := by decide +kernel
theorem dX3_blended_135 : decode cX3_blended 135 = .ok (.iload 14, 2) := by decide +kernel
theorem dX3_blended_137 : decode cX3_blended 137 = .ok (.imul, 1) := by decide +kernel
theorem dX3_blended_138 : decode cX3_blended 138 = .ok (.lload 17, 2) := by decide +kernel
theorem dX3_blended_140 : decode cX3_blended 140 = .ok (.l2i, 1) := by decide +kernel
theorem dX3_blended_141 : decode cX3_blended 141 = .ok (.iadd, 1) := by decide +kernel
theorem dX3_blended_142 : decode cX3_blended 142 = .ok (.istore 13, 2) := by decide +kernel
theorem dX3_blended_144 : decode cX3_blended 144 = .ok (.iinc 14 1, 3) := by decide +kernel
theorem dX3_blended_147 : decode cX3_blended 147 = .ok (.goto (-82), 3) := by decide +kernel
theorem dX3_blended_150 : decode cX3_blended 150 = .ok (.iload 13, 2) := by decide +kernel
theorem dX3_blended_152 : decode cX3_blended 152 = .ok (.ireturn, 1) := by decide +kernel
theorem dX3_mostBeside_0 : decode cX3_mostBeside 0 = .ok (.lload_n 2, 1) := by decide +kernel
theorem dX3_mostBeside_1 : decode cX3_mostBeside 1 = .ok (.lconst 0, 1) := by decide +kernel
theorem dX3_mostBeside_2 : decode cX3_mostBeside 2 = .ok (.lcmp, 1) := by decide +kernel
theorem dX3_mostBeside_3 : decode cX3_mostBeside 3 = .ok (.ifCond .gt 23, 3) := by decide +kernel
theorem dX3_mostBeside_6 : decode cX3_mostBeside 6 = .ok (.iload 4, 2) := by decide +kernel
theorem dX3_mostBeside_8 : decode cX3_mostBeside 8 = .ok (.i2l, 1) := by decide +kernel
theorem dX3_mostBeside_9 : decode cX3_mostBeside 9 = .ok (.lload_n 2, 1) := by decide +kernel
theorem dX3_mostBeside_10 : decode cX3_mostBeside 10 = .ok (.lmul, 1) := by decide +kernel
theorem dX3_mostBeside_11 : decode cX3_mostBeside 11 = .ok (.lload_n 0, 1) := by decide +kernel
theorem dX3_mostBeside_12 : decode cX3_mostBeside 12 = .ok (.lcmp, 1) := by decide +kernel
theorem dX3_mostBeside_13 : decode cX3_mostBeside 13 = .ok (.ifCond .gt 9, 3) := by decide +kernel
theorem dX3_mostBeside_16 : decode cX3_mostBeside 16 = .ok (.iload 4, 2) := by decide +kernel
theorem dX3_mostBeside_18 : decode cX3_mostBeside 18 = .ok (.i2l, 1) := by decide +kernel
theorem dX3_mostBeside_19 : decode cX3_mostBeside 19 = .ok (.goto 6, 3) := by decide +kernel
theorem dX3_mostBeside_22 : decode cX3_mostBeside 22 = .ok (.ldc2_w 229, 3) := by decide +kernel
theorem dX3_mostBeside_25 : decode cX3_mostBeside 25 = .ok (.lreturn, 1) := by decide +kernel
theorem dX3_mostBeside_26 : decode cX3_mostBeside 26 = .ok (.lload_n 0, 1) := by decide +kernel
theorem dX3_mostBeside_27 : decode cX3_mostBeside 27 = .ok (.lconst 0, 1) := by decide +kernel
theorem dX3_mostBeside_28 : decode cX3_mostBeside 28 = .ok (.lcmp, 1) := by decide +kernel
theorem dX3_mostBeside_29 : decode cX3_mostBeside 29 = .ok (.ifCond .ge 9, 3) := by decide +kernel
theorem dX3_mostBeside_32 : decode cX3_mostBeside 32 = .ok (.ldc2_w 229, 3) := by decide +kernel
theorem dX3_mostBeside_35 : decode cX3_mostBeside 35 = .ok (.goto 12, 3) := by decide +kernel
theorem dX3_mostBeside_38 : decode cX3_mostBeside 38 = .ok (.iload 4, 2) := by decide +kernel
theorem dX3_mostBeside_40 : decode cX3_mostBeside 40 = .ok (.i2l, 1) := by decide +kernel
theorem dX3_mostBeside_41 : decode cX3_mostBeside 41 = .ok (.lload_n 0, 1) := by decide +kernel
theorem dX3_mostBeside_42 : decode cX3_mostBeside 42 = .ok (.lload_n 2, 1) := by decide +kernel
theorem dX3_mostBeside_43 : decode cX3_mostBeside 43 = .ok (.ldiv, 1) := by decide +kernel
theorem dX3_mostBeside_44 : decode cX3_mostBeside 44 = .ok (.invokestatic 231, 3) := by decide +kernel
theorem dX3_mostBeside_47 : decode cX3_mostBeside 47 = .ok (.lreturn, 1) := by decide +kernel
theorem dX3_houseBits_0 : decode cX3_houseBits 0 = .ok (.iconst 1, 1) := by decide +kernel
theorem dX3_houseBits_1 : decode cX3_houseBits 1 = .ok (.aload_n 0, 1) := by decide +kernel
theorem dX3_houseBits_2 : decode cX3_houseBits 2 = .ok (.getfield 46, 3) := by decide +kernel
theorem dX3_houseBits_5 : decode cX3_houseBits 5 = .ok (.ishl, 1) := by decide +kernel
theorem dX3_houseBits_6 : decode cX3_houseBits 6 = .ok (.iconst 1, 1) := by decide +kernel
theorem dX3_houseBits_7 : decode cX3_houseBits 7 = .ok (.isub, 1) := by decide +kernel
theorem dX3_houseBits_8 : decode cX3_houseBits 8 = .ok (.ireturn, 1) := by decide +kernel
theorem dX3_drinkersOf_0 : decode cX3_drinkersOf 0 = .ok (.iconst 0, 1) := by decide +kernel
theorem dX3_drinkersOf_1 : decode cX3_drinkersOf 1 = .ok (.istore_n 2, 1) := by decide +kernel
theorem dX3_drinkersOf_2 : decode cX3_drinkersOf 2 = .ok (.iconst 0, 1) := by decide +kernel
theorem dX3_drinkersOf_3 : decode cX3_drinkersOf 3 = .ok (.istore_n 3, 1) := by decide +kernel
theorem dX3_drinkersOf_4 : decode cX3_drinkersOf 4 = .ok (.iload_n 3, 1) := by decide +kernel
theorem dX3_drinkersOf_5 : decode cX3_drinkersOf 5 = .ok (.aload_n 0, 1) := by decide +kernel
theorem dX3_drinkersOf_6 : decode cX3_drinkersOf 6 = .ok (.getfield 46, 3) := by decide +kernel
theorem dX3_drinkersOf_9 : decode cX3_drinkersOf 9 = .ok (.if_icmp .ge 39, 3) := by decide +kernel
theorem dX3_drinkersOf_12 : decode cX3_drinkersOf 12 = .ok (.iload_n 1, 1) := by decide +kernel
theorem dX3_drinkersOf_13 : decode cX3_drinkersOf 13 = .ok (.ifCond .lt 35, 3) := by decide +kernel
theorem dX3_drinkersOf_16 : decode cX3_drinkersOf 16 = .ok (.iload_n 1, 1) := by decide +kernel
theorem dX3_drinkersOf_17 : decode cX3_drinkersOf 17 = .ok (.bipush 30, 2) := by decide +kernel
theorem dX3_drinkersOf_19 : decode cX3_drinkersOf 19 = .ok (.if_icmp .ge 29, 3) := by decide +kernel
theorem dX3_drinkersOf_22 : decode cX3_drinkersOf 22 = .ok (.aload_n 0, 1) := by decide +kernel
theorem dX3_drinkersOf_23 : decode cX3_drinkersOf 23 = .ok (.getfield 19, 3) := by decide +kernel
theorem dX3_drinkersOf_26 : decode cX3_drinkersOf 26 = .ok (.iload_n 3, 1) := by decide +kernel
theorem dX3_drinkersOf_27 : decode cX3_drinkersOf 27 = .ok (.aaload, 1) := by decide +kernel
theorem dX3_drinkersOf_28 : decode cX3_drinkersOf 28 = .ok (.getfield 234, 3) := by decide +kernel
theorem dX3_drinkersOf_31 : decode cX3_drinkersOf 31 = .ok (.iload_n 1, 1) := by decide +kernel
theorem dX3_drinkersOf_32 : decode cX3_drinkersOf 32 = .ok (.iaload, 1) := by decide +kernel
theorem dX3_drinkersOf_33 : decode cX3_drinkersOf 33 = .ok (.ifCond .le 9, 3) := by decide +kernel
theorem dX3_drinkersOf_36 : decode cX3_drinkersOf 36 = .ok (.iload_n 2, 1) := by decide +kernel
theorem dX3_drinkersOf_37 : decode cX3_drinkersOf 37 = .ok (.iconst 1, 1) := by decide +kernel
theorem dX3_drinkersOf_38 : decode cX3_drinkersOf 38 = .ok (.iload_n 3, 1) := by decide +kernel
theorem dX3_drinkersOf_39 : decode cX3_drinkersOf 39 = .ok (.ishl, 1) := by decide +kernel
theorem dX3_drinkersOf_40 : decode cX3_drinkersOf 40 = .ok (.ior, 1) := by decide +kernel
theorem dX3_drinkersOf_41 : decode cX3_drinkersOf 41 = .ok (.istore_n 2, 1) := by decide +kernel
theorem dX3_drinkersOf_42 : decode cX3_drinkersOf 42 = .ok (.iinc 3 1, 3) := by decide +kernel
theorem dX3_drinkersOf_45 : decode cX3_drinkersOf 45 = .ok (.goto (-41), 3) := by decide +kernel
theorem dX3_drinkersOf_48 : decode cX3_drinkersOf 48 = .ok (.iload_n 2, 1) := by decide +kernel
theorem dX3_drinkersOf_49 : decode cX3_drinkersOf 49 = .ok (.ireturn, 1) := by decide +kernel
theorem dX3_measuresOf_0 : decode cX3_measuresOf 0 = .ok (.iconst 0, 1) := by decide +kernel
theorem dX3_measuresOf_1 : decode cX3_measuresOf 1 = .ok (.istore_n 3, 1) := by decide +kernel
theorem dX3_measuresOf_2 : decode cX3_measuresOf 2 = .ok (.iconst 0, 1) := by decide +kernel
theorem dX3_measuresOf_3 : decode cX3_measuresOf 3 = .ok (.istore 4, 2) := by decide +kernel
theorem dX3_measuresOf_5 : decode cX3_measuresOf 5 = .ok (.iload 4, 2) := by decide +kernel
theorem dX3_measuresOf_7 : decode cX3_measuresOf 7 = .ok (.aload_n 0, 1) := by decide +kernel
theorem dX3_measuresOf_8 : decode cX3_measuresOf 8 = .ok (.getfield 43, 3) := by decide +kernel
theorem dX3_measuresOf_11 : decode cX3_measuresOf 11 = .ok (.if_icmp .ge 44, 3) := by decide +kernel
theorem dX3_measuresOf_14 : decode cX3_measuresOf 14 = .ok (.iload_n 1, 1) := by decide +kernel
theorem dX3_measuresOf_15 : decode cX3_measuresOf 15 = .ok (.ifCond .lt 40, 3) := by decide +kernel
theorem dX3_measuresOf_18 : decode cX3_measuresOf 18 = .ok (.iload_n 1, 1) := by decide +kernel
theorem dX3_measuresOf_19 : decode cX3_measuresOf 19 = .ok (.bipush 30, 2) := by decide +kernel
theorem dX3_measuresOf_21 : decode cX3_measuresOf 21 = .ok (.if_icmp .ge 34, 3) := by decide +kernel
theorem dX3_measuresOf_24 : decode cX3_measuresOf 24 = .ok (.iload_n 2, 1) := by decide +kernel
theorem dX3_measuresOf_25 : decode cX3_measuresOf 25 = .ok (.iload 4, 2) := by decide +kernel
theorem dX3_measuresOf_27 : decode cX3_measuresOf 27 = .ok (.ishr, 1) := by decide +kernel
theorem dX3_measuresOf_28 : decode cX3_measuresOf 28 = .ok (.iconst 1, 1) := by decide +kernel
theorem dX3_measuresOf_29 : decode cX3_measuresOf 29 = .ok (.iand, 1) := by decide +kernel
theorem dX3_measuresOf_30 : decode cX3_measuresOf 30 = .ok (.iconst 1, 1) := by decide +kernel
theorem dX3_measuresOf_31 : decode cX3_measuresOf 31 = .ok (.if_icmp .ne 18, 3) := by decide +kernel
theorem dX3_measuresOf_34 : decode cX3_measuresOf 34 = .ok (.iload_n 3, 1) := by decide +kernel
theorem dX3_measuresOf_35 : decode cX3_measuresOf 35 = .ok (.aload_n 0, 1) := by decide +kernel
theorem dX3_measuresOf_36 : decode cX3_measuresOf 36 = .ok (.getfield 11, 3) := by decide +kernel
theorem dX3_measuresOf_39 : decode cX3_measuresOf 39 = .ok (.iload 4, 2) := by decide +kernel
theorem dX3_measuresOf_41 : decode cX3_measuresOf 41 = .ok (.aaload, 1) := by decide +kernel
theorem dX3_measuresOf_42 : decode cX3_measuresOf 42 = .ok (.getfield 190, 3) := by decide +kernel
theorem dX3_measuresOf_45 : decode cX3_measuresOf 45 = .ok (.iload_n 1, 1) := by decide +kernel
theorem dX3_measuresOf_46 : decode cX3_measuresOf 46 = .ok (.iaload, 1) := by decide +kernel
theorem dX3_measuresOf_47 : decode cX3_measuresOf 47 = .ok (.iadd, 1) := by decide +kernel
theorem dX3_measuresOf_48 : decode cX3_measuresOf 48 = .ok (.istore_n 3, 1) := by decide +kernel
theorem dX3_measuresOf_49 : decode cX3_measuresOf 49 = .ok (.iinc 4 1, 3) := by decide +kernel
theorem dX3_measuresOf_52 : decode cX3_measuresOf 52 = .ok (.goto (-47), 3) := by decide +kernel
theorem dX3_measuresOf_55 : decode cX3_measuresOf 55 = .ok (.iload_n 3, 1) := by decide +kernel
theorem dX3_measuresOf_56 : decode cX3_measuresOf 56 = .ok (.ireturn, 1) := by decide +kernel
theorem dX3_allMeasures_0 : decode cX3_allMeasures 0 = .ok (.iconst 0, 1) := by decide +kernel
theorem dX3_allMeasures_1 : decode cX3_allMeasures 1 = .ok (.istore_n 1, 1) := by decide +kernel
theorem dX3_allMeasures_2 : decode cX3_allMeasures 2 = .ok (.iconst 0, 1) := by decide +kernel
theorem dX3_allMeasures_3 : decode cX3_allMeasures 3 = .ok (.istore_n 2, 1) := by decide +kernel
theorem dX3_allMeasures_4 : decode cX3_allMeasures 4 = .ok (.iload_n 2, 1) := by decide +kernel
theorem dX3_allMeasures_5 : decode cX3_allMeasures 5 = .ok (.aload_n 0, 1) := by decide +kernel
theorem dX3_allMeasures_6 : decode cX3_allMeasures 6 = .ok (.getfield 43, 3) := by decide +kernel
theorem dX3_allMeasures_9 : decode cX3_allMeasures 9 = .ok (.if_icmp .ge 21, 3) := by decide +kernel
theorem dX3_allMeasures_12 : decode cX3_allMeasures 12 = .ok (.iload_n 1, 1) := by decide +kernel
theorem dX3_allMeasures_13 : decode cX3_allMeasures 13 = .ok (.aload_n 0, 1) := by decide +kernel
theorem dX3_allMeasures_14 : decode cX3_allMeasures 14 = .ok (.getfield 11, 3) := by decide +kernel
theorem dX3_allMeasures_17 : decode cX3_allMeasures 17 = .ok (.iload_n 2, 1) := by decide +kernel
theorem dX3_allMeasures_18 : decode cX3_allMeasures 18 = .ok (.aaload, 1) := by decide +kernel
theorem dX3_allMeasures_19 : decode cX3_allMeasures 19 = .ok (.getfield 160, 3) := by decide +kernel
theorem dX3_allMeasures_22 : decode cX3_allMeasures 22 = .ok (.iadd, 1) := by decide +kernel
theorem dX3_allMeasures_23 : decode cX3_allMeasures 23 = .ok (.istore_n 1, 1) := by decide +kernel
theorem dX3_allMeasures_24 : decode cX3_allMeasures 24 = .ok (.iinc 2 1, 3) := by decide +kernel
theorem dX3_allMeasures_27 : decode cX3_allMeasures 27 = .ok (.goto (-23), 3) := by decide +kernel
theorem dX3_allMeasures_30 : decode cX3_allMeasures 30 = .ok (.iload_n 1, 1) := by decide +kernel
theorem dX3_allMeasures_31 : decode cX3_allMeasures 31 = .ok (.ireturn, 1) := by decide +kernel
theorem dX3_allDrunk_0 : decode cX3_allDrunk 0 = .ok (.aload_n 0, 1) := by decide +kernel
theorem dX3_allDrunk_1 : decode cX3_allDrunk 1 = .ok (.getfield 87, 3) := by decide +kernel
theorem dX3_allDrunk_4 : decode cX3_allDrunk 4 = .ok (.istore_n 1, 1) := by decide +kernel
theorem dX3_allDrunk_5 : decode cX3_allDrunk 5 = .ok (.iconst 0, 1) := by decide +kernel
theorem dX3_allDrunk_6 : decode cX3_allDrunk 6 = .ok (.istore_n 2, 1) := by decide +kernel
theorem dX3_allDrunk_7 : decode cX3_allDrunk 7 = .ok (.iload_n 2, 1) := by decide +kernel
theorem dX3_allDrunk_8 : decode cX3_allDrunk 8 = .ok (.aload_n 0, 1) := by decide +kernel
theorem dX3_allDrunk_9 : decode cX3_allDrunk 9 = .ok (.getfield 46, 3) := by decide +kernel
theorem dX3_allDrunk_12 : decode cX3_allDrunk 12 = .ok (.if_icmp .ge 21, 3) := by decide +kernel
theorem dX3_allDrunk_15 : decode cX3_allDrunk 15 = .ok (.iload_n 1, 1) := by decide +kernel
theorem dX3_allDrunk_16 : decode cX3_allDrunk 16 = .ok (.aload_n 0, 1) := by decide +kernel
theorem dX3_allDrunk_17 : decode cX3_allDrunk 17 = .ok (.getfield 19, 3) := by decide +kernel
theorem dX3_allDrunk_20 : decode cX3_allDrunk 20 = .ok (.iload_n 2, 1) := by decide +kernel
theorem dX3_allDrunk_21 : decode cX3_allDrunk 21 = .ok (.aaload, 1) := by decide +kernel
theorem dX3_allDrunk_22 : decode cX3_allDrunk 22 = .ok (.invokevirtual 237, 3) := by decide +kernel
theorem dX3_allDrunk_25 : decode cX3_allDrunk 25 = .ok (.iadd, 1) := by decide +kernel
theorem dX3_allDrunk_26 : decode cX3_allDrunk 26 = .ok (.istore_n 1, 1) := by decide +kernel
theorem dX3_allDrunk_27 : decode cX3_allDrunk 27 = .ok (.iinc 2 1, 3) := by decide +kernel
theorem dX3_allDrunk_30 : decode cX3_allDrunk 30 = .ok (.goto (-23), 3) := by decide +kernel
theorem dX3_allDrunk_33 : decode cX3_allDrunk 33 = .ok (.iload_n 1, 1) := by decide +kernel
theorem dX3_allDrunk_34 : decode cX3_allDrunk 34 = .ok (.ireturn, 1) := by decide +kernel
theorem dX3_allThirst_0 : decode cX3_allThirst 0 = .ok (.iconst 0, 1) := by decide +kernel
theorem dX3_allThirst_1 : decode cX3_allThirst 1 = .ok (.istore_n 1, 1) := by decide +kernel
theorem dX3_allThirst_2 : decode cX3_allThirst 2 = .ok (.iconst 0, 1) := by decide +kernel
theorem dX3_allThirst_3 : decode cX3_allThirst 3 = .ok (.istore_n 2, 1) := by decide +kernel
theorem dX3_allThirst_4 : decode cX3_allThirst 4 = .ok (.iload_n 2, 1) := by decide +kernel
theorem dX3_allThirst_5 : decode cX3_allThirst 5 = .ok (.aload_n 0, 1) := by decide +kernel
theorem dX3_allThirst_6 : decode cX3_allThirst 6 = .ok (.getfield 46, 3) := by decide +kernel
theorem dX3_allThirst_9 : decode cX3_allThirst 9 = .ok (.if_icmp .ge 21, 3) := by decide +kernel
theorem dX3_allThirst_12 : decode cX3_allThirst 12 = .ok (.iload_n 1, 1) := by decide +kernel
theorem dX3_allThirst_13 : decode cX3_allThirst 13 = .ok (.aload_n 0, 1) := by decide +kernel
theorem dX3_allThirst_14 : decode cX3_allThirst 14 = .ok (.getfield 19, 3) := by decide +kernel
theorem dX3_allThirst_17 : decode cX3_allThirst 17 = .ok (.iload_n 2, 1) := by decide +kernel
theorem dX3_allThirst_18 : decode cX3_allThirst 18 = .ok (.aaload, 1) := by decide +kernel
theorem dX3_allThirst_19 : decode cX3_allThirst 19 = .ok (.getfield 203, 3) := by decide +kernel
theorem dX3_allThirst_22 : decode cX3_allThirst 22 = .ok (.iadd, 1) := by decide +kernel
theorem dX3_allThirst_23 : decode cX3_allThirst 23 = .ok (.istore_n 1, 1) := by decide +kernel
theorem dX3_allThirst_24 : decode cX3_allThirst 24 = .ok (.iinc 2 1, 3) := by decide +kernel
theorem dX3_allThirst_27 : decode cX3_allThirst 27 = .ok (.goto (-23), 3) := by decide +kernel
theorem dX3_allThirst_30 : decode cX3_allThirst 30 = .ok (.iload_n 1, 1) := by decide +kernel
theorem dX3_allThirst_31 : decode cX3_allThirst 31 = .ok (.ireturn, 1) := by decide +kernel
theorem dX4_init_0 : decode cX4_init 0 = .ok (.aload_n 0, 1) := by decide +kernel
theorem dX4_init_1 : decode cX4_init 1 = .ok (.aload_n 1, 1) := by decide +kernel
theorem dX4_init_2 : decode cX4_init 2 = .ok (.bipush 14, 2) := by decide +kernel
theorem dX4_init_4 : decode cX4_init 4 = .ok (.invokespecial 3, 3) := by decide +kernel
theorem dX4_init_7 : decode cX4_init 7 = .ok (.aload_n 0, 1) := by decide +kernel
theorem dX4_init_8 : decode cX4_init 8 = .ok (.bipush 14, 2) := by decide +kernel
theorem dX4_init_10 : decode cX4_init 10 = .ok (.newarray .int, 2) := by decide +kernel
theorem dX4_init_12 : decode cX4_init 12 = .ok (.putfield 9, 3) := by decide +kernel
theorem dX4_init_15 : decode cX4_init 15 = .ok (.aload_n 0, 1) := by decide +kernel
theorem dX4_init_16 : decode cX4_init 16 = .ok (.bipush 14, 2) := by decide +kernel
theorem dX4_init_18 : decode cX4_init 18 = .ok (.newarray .int, 2) := by decide +kernel
theorem dX4_init_20 : decode cX4_init 20 = .ok (.putfield 15, 3) := by decide +kernel
theorem dX4_init_23 : decode cX4_init 23 = .ok (.aload_n 0, 1) := by decide +kernel
theorem dX4_init_24 : decode cX4_init 24 = .ok (.bipush 14, 2) := by decide +kernel
theorem dX4_init_26 : decode cX4_init 26 = .ok (.newarray .int, 2) := by decide +kernel
theorem dX4_init_28 : decode cX4_init 28 = .ok (.putfield 18, 3) := by decide +kernel
theorem dX4_init_31 : decode cX4_init 31 = .ok (.aload_n 0, 1) := by decide +kernel
theorem dX4_init_32 : decode cX4_init 32 = .ok (.bipush 14, 2) := by decide +kernel
theorem dX4_init_34 : decode cX4_init 34 = .ok (.newarray .int, 2) := by decide +kernel
theorem dX4_init_36 : decode cX4_init 36 = .ok (.putfield 21, 3) := by decide +kernel
theorem dX4_init_39 : decode cX4_init 39 = .ok (.return_, 1) := by decide +kernel
theorem dX4_begin_0 : decode cX4_begin 0 = .ok (.aload_n 0, 1) := by decide +kernel
theorem dX4_begin_1 : decode cX4_begin 1 = .ok (.iload_n 1, 1) := by decide +kernel
theorem dX4_begin_2 : decode cX4_begin 2 = .ok (.putfield 24, 3) := by decide +kernel
theorem dX4_begin_5 : decode cX4_begin 5 = .ok (.aload_n 0, 1) := by decide +kernel
theorem dX4_begin_6 : decode cX4_begin 6 = .ok (.iload_n 2, 1) := by decide +kernel
theorem dX4_begin_7 : decode cX4_begin 7 = .ok (.putfield 28, 3) := by decide +kernel
theorem dX4_begin_10 : decode cX4_begin 10 = .ok (.aload_n 0, 1) := by decide +kernel
theorem dX4_begin_11 : decode cX4_begin 11 = .ok (.iconst 0, 1) := by decide +kernel
theorem dX4_begin_12 : decode cX4_begin 12 = .ok (.putfield 31, 3) := by decide +kernel
theorem dX4_begin_15 : decode cX4_begin 15 = .ok (.return_, 1) := by decide +kernel
theorem dX4_isLine_0 : decode cX4_isLine 0 = .ok (.aload_n 0, 1) := by decide +kernel
theorem dX4_isLine_1 : decode cX4_isLine 1 = .ok (.getfield 34, 3) := by decide +kernel
theorem dX4_isLine_4 : decode cX4_isLine 4 = .ok (.invokevirtual 38, 3) := by decide +kernel
theorem dX4_isLine_7 : decode cX4_isLine 7 = .ok (.istore_n 1, 1) := by decide +kernel
theorem dX4_isLine_8 : decode cX4_isLine 8 = .ok (.aload_n 0, 1) := by decide +kernel
theorem dX4_isLine_9 : decode cX4_isLine 9 = .ok (.iload_n 1, 1) := by decide +kernel
theorem dX4_isLine_10 : decode cX4_isLine 10 = .ok (.invokevirtual 44, 3) := by decide +kernel
theorem dX4_isLine_13 : decode cX4_isLine 13 = .ok (.ifCond .ne 11, 3) := by decide +kernel
theorem dX4_isLine_16 : decode cX4_isLine 16 = .ok (.aload_n 0, 1) := by decide +kernel
theorem dX4_isLine_17 : decode cX4_isLine 17 = .ok (.getfield 34, 3) := by decide +kernel
theorem dX4_isLine_20 : decode cX4_isLine 20 = .ok (.invokevirtual 48, 3) := by decide +kernel
theorem dX4_isLine_23 : decode cX4_isLine 23 = .ok (.ireturn, 1) := by decide +kernel
theorem dX4_isLine_24 : decode cX4_isLine 24 = .ok (.aload_n 0, 1) := by decide +kernel
theorem dX4_isLine_25 : decode cX4_isLine 25 = .ok (.getfield 34, 3) := by decide +kernel
theorem dX4_isLine_28 : decode cX4_isLine 28 = .ok (.invokevirtual 52, 3) := by decide +kernel
theorem dX4_isLine_31 : decode cX4_isLine 31 = .ok (.aload_n 0, 1) := by decide +kernel
theorem dX4_isLine_32 : decode cX4_isLine 32 = .ok (.iload_n 1, 1) := by decide +kernel
theorem dX4_isLine_33 : decode cX4_isLine 33 = .ok (.invokevirtual 56, 3) := by decide +kernel
theorem dX4_isLine_36 : decode cX4_isLine 36 = .ok (.ifCond .eq 12, 3) := by decide +kernel
theorem dX4_isLine_39 : decode cX4_isLine 39 = .ok (.aload_n 0, 1) := by decide +kernel
theorem dX4_isLine_40 : decode cX4_isLine 40 = .ok (.getfield 31, 3) := by decide +kernel
theorem dX4_isLine_43 : decode cX4_isLine 43 = .ok (.bipush 14, 2) := by decide +kernel
theorem dX4_isLine_45 : decode cX4_isLine 45 = .ok (.if_icmp .lt 5, 3) := by decide +kernel
theorem dX4_isLine_48 : decode cX4_isLine 48 = .ok (.iconst 0, 1) := by decide +kernel
theorem dX4_isLine_49 : decode cX4_isLine 49 = .ok (.ireturn, 1) := by decide +kernel
theorem dX4_isLine_50 : decode cX4_isLine 50 = .ok (.aload_n 0, 1) := by decide +kernel
theorem dX4_isLine_51 : decode cX4_isLine 51 = .ok (.getfield 9, 3) := by decide +kernel
theorem dX4_isLine_54 : decode cX4_isLine 54 = .ok (.aload_n 0, 1) := by decide +kernel
theorem dX4_isLine_55 : decode cX4_isLine 55 = .ok (.getfield 31, 3) := by decide +kernel
theorem dX4_isLine_58 : decode cX4_isLine 58 = .ok (.iload_n 1, 1) := by decide +kernel
theorem dX4_isLine_59 : decode cX4_isLine 59 = .ok (.iastore, 1) := by decide +kernel
theorem dX4_isLine_60 : decode cX4_isLine 60 = .ok (.aload_n 0, 1) := by decide +kernel
theorem dX4_isLine_61 : decode cX4_isLine 61 = .ok (.getfield 15, 3) := by decide +kernel
theorem dX4_isLine_64 : decode cX4_isLine 64 = .ok (.aload_n 0, 1) := by decide +kernel
theorem dX4_isLine_65 : decode cX4_isLine 65 = .ok (.getfield 31, 3) := by decide +kernel
theorem dX4_isLine_68 : decode cX4_isLine 68 = .ok (.aload_n 0, 1) := by decide +kernel
theorem dX4_isLine_69 : decode cX4_isLine 69 = .ok (.getfield 59, 3) := by decide +kernel
theorem dX4_isLine_72 : decode cX4_isLine 72 = .ok (.iastore, 1) := by decide +kernel
theorem dX4_isLine_73 : decode cX4_isLine 73 = .ok (.aload_n 0, 1) := by decide +kernel
theorem dX4_isLine_74 : decode cX4_isLine 74 = .ok (.getfield 18, 3) := by decide +kernel
theorem dX4_isLine_77 : decode cX4_isLine 77 = .ok (.aload_n 0, 1) := by decide +kernel
theorem dX4_isLine_78 : decode cX4_isLine 78 = .ok (.getfield 31, 3) := by decide +kernel
theorem dX4_isLine_81 : decode cX4_isLine 81 = .ok (.aload_n 0, 1) := by decide +kernel
theorem dX4_isLine_82 : decode cX4_isLine 82 = .ok (.getfield 62, 3) := by decide +kernel
theorem dX4_isLine_85 : decode cX4_isLine 85 = .ok (.iastore, 1) := by decide +kernel
theorem dX4_isLine_86 : decode cX4_isLine 86 = .ok (.aload_n 0, 1) := by decide +kernel
theorem dX4_isLine_87 : decode cX4_isLine 87 = .ok (.getfield 21, 3) := by decide +kernel
theorem dX4_isLine_90 : decode cX4_isLine 90 = .ok (.aload_n 0, 1) := by decide +kernel
theorem dX4_isLine_91 : decode cX4_isLine 91 = .ok (.getfield 31, 3) := by decide +kernel
theorem dX4_isLine_94 : decode cX4_isLine 94 = .ok (.aload_n 0, 1) := by decide +kernel
theorem dX4_isLine_95 : decode cX4_isLine 95 = .ok (.getfield 65, 3) := by decide +kernel
theorem dX4_isLine_98 : decode cX4_isLine 98 = .ok (.iastore, 1) := by decide +kernel
theorem dX4_isLine_99 : decode cX4_isLine 99 = .ok (.aload_n 0, 1) := by decide +kernel
theorem dX4_isLine_100 : decode cX4_isLine 100 = .ok (.dup, 1) := by decide +kernel
theorem dX4_isLine_101 : decode cX4_isLine 101 = .ok (.getfield 31, 3) := by decide +kernel
theorem dX4_isLine_104 : decode cX4_isLine 104 = .ok (.iconst 1, 1) := by decide +kernel
theorem dX4_isLine_105 : decode cX4_isLine 105 = .ok (.iadd, 1) := by decide +kernel
theorem dX4_isLine_106 : decode cX4_isLine 106 = .ok (.putfield 31, 3) := by decide +kernel
theorem dX4_isLine_109 : decode cX4_isLine 109 = .ok (.iconst 1, 1) := by decide +kernel
theorem dX4_isLine_110 : decode cX4_isLine 110 = .ok (.ireturn, 1) := by decide +kernel
theorem dX4_mayBegin_0 : decode cX4_mayBegin 0 = .ok (.iload_n 1, 1) := by decide +kernel
theorem dX4_mayBegin_1 : decode cX4_mayBegin 1 = .ok (.tableswitch 147 1002 1026 #[145, 147, 147, 147, 147, 147, 147, 147, 147, 147, 147, 147, 147, 115, 145, 147, 147, 130, 147, 147, 145, 147, 147, 145, 145], 115) := by decide +kernel
theorem dX4_mayBegin_116 : decode cX4_mayBegin 116 = .ok (.aload_n 0, 1) := by decide +kernel
theorem dX4_mayBegin_117 : decode cX4_mayBegin 117 = .ok (.getfield 24, 3) := by decide +kernel
theorem dX4_mayBegin_120 : decode cX4_mayBegin 120 = .ok (.bipush 8, 2) := by decide +kernel
theorem dX4_mayBegin_122 : decode cX4_mayBegin 122 = .ok (.if_icmp .ge 7, 3) := by decide +kernel
theorem dX4_mayBegin_125 : decode cX4_mayBegin 125 = .ok (.iconst 1, 1) := by decide +kernel
theorem dX4_mayBegin_126 : decode cX4_mayBegin 126 = .ok (.goto 4, 3) := by decide +kernel
theorem dX4_mayBegin_129 : decode cX4_mayBegin 129 = .ok (.iconst 0, 1) := by decide +kernel
theorem dX4_mayBegin_130 : decode cX4_mayBegin 130 = .ok (.ireturn, 1) := by decide +kernel
theorem dX4_mayBegin_131 : decode cX4_mayBegin 131 = .ok (.aload_n 0, 1) := by decide +kernel
theorem dX4_mayBegin_132 : decode cX4_mayBegin 132 = .ok (.getfield 28, 3) := by decide +kernel
theorem dX4_mayBegin_135 : decode cX4_mayBegin 135 = .ok (.bipush 8, 2) := by decide +kernel
theorem dX4_mayBegin_137 : decode cX4_mayBegin 137 = .ok (.if_icmp .ge 7, 3) := by decide +kernel
theorem dX4_mayBegin_140 : decode cX4_mayBegin 140 = .ok (.iconst 1, 1) := by decide +kernel
theorem dX4_mayBegin_141 : decode cX4_mayBegin 141 = .ok (.goto 4, 3) := by decide +kernel
theorem dX4_mayBegin_144 : decode cX4_mayBegin 144 = .ok (.iconst 0, 1) := by decide +kernel
theorem dX4_mayBegin_145 : decode cX4_mayBegin 145 = .ok (.ireturn, 1) := by decide +kernel
theorem dX4_mayBegin_146 : decode cX4_mayBegin 146 = .ok (.iconst 1, 1) := by decide +kernel
theorem dX4_mayBegin_147 : decode cX4_mayBegin 147 = .ok (.ireturn, 1) := by decide +kernel
theorem dX4_mayBegin_148 : decode cX4_mayBegin 148 = .ok (.iconst 0, 1) := by decide +kernel
theorem dX4_mayBegin_149 : decode cX4_mayBegin 149 = .ok (.ireturn, 1) := by decide +kernel
theorem dX4_isRest_0 : decode cX4_isRest 0 = .ok (.iload_n 1, 1) := by decide +kernel
theorem dX4_isRest_1 : decode cX4_isRest 1 = .ok (.lookupswitch 159 #[(1002, 128), (1015, 51), (1016, 61), (1019, 56), (1022, 154)], 51) := by decide +kernel
theorem dX4_isRest_52 : decode cX4_isRest 52 = .ok (.aload_n 0, 1) := by decide +kernel
theorem dX4_isRest_53 : decode cX4_isRest 53 = .ok (.invokevirtual 68, 3) := by decide +kernel
theorem dX4_isRest_56 : decode cX4_isRest 56 = .ok (.ireturn, 1) := by decide +kernel
theorem dX4_isRest_57 : decode cX4_isRest 57 = .ok (.aload_n 0, 1) := by decide +kernel
theorem dX4_isRest_58 : decode cX4_isRest 58 = .ok (.invokevirtual 71, 3) := by decide +kernel
theorem dX4_isRest_61 : decode cX4_isRest 61 = .ok (.ireturn, 1) := by decide +kernel
theorem dX4_isRest_62 : decode cX4_isRest 62 = .ok (.aload_n 0, 1) := by decide +kernel
theorem dX4_isRest_63 : decode cX4_isRest 63 = .ok (.iconst 0, 1) := by decide +kernel
theorem dX4_isRest_64 : decode cX4_isRest 64 = .ok (.sipush 999, 3) := by decide +kernel
theorem dX4_isRest_67 : decode cX4_isRest 67 = .ok (.invokevirtual 74, 3) := by decide +kernel
theorem dX4_isRest_70 : decode cX4_isRest 70 = .ok (.ifCond .eq 57, 3) := by decide +kernel
theorem dX4_isRest_73 : decode cX4_isRest 73 = .ok (.aload_n 0, 1) := by decide +kernel
theorem dX4_isRest_74 : decode cX4_isRest 74 = .ok (.getfield 34, 3) := by decide +kernel
theorem dX4_isRest_77 : decode cX4_isRest 77 = .ok (.sipush 1017, 3) := by decide +kernel
theorem dX4_isRest_80 : decode cX4_isRest 80 = .ok (.invokevirtual 78, 3) := by decide +kernel
theorem dX4_isRest_83 : decode cX4_isRest 83 = .ok (.ifCond .eq 44, 3) := by decide +kernel
theorem dX4_isRest_86 : decode cX4_isRest 86 = .ok (.aload_n 0, 1) := by decide +kernel
theorem dX4_isRest_87 : decode cX4_isRest 87 = .ok (.iconst 0, 1) := by decide +kernel
theorem dX4_isRest_88 : decode cX4_isRest 88 = .ok (.bipush 29, 2) := by decide +kernel
theorem dX4_isRest_90 : decode cX4_isRest 90 = .ok (.invokevirtual 81, 3) := by decide +kernel
theorem dX4_isRest_93 : decode cX4_isRest 93 = .ok (.ifCond .eq 34, 3) := by decide +kernel
theorem dX4_isRest_96 : decode cX4_isRest 96 = .ok (.aload_n 0, 1) := by decide +kernel
theorem dX4_isRest_97 : decode cX4_isRest 97 = .ok (.getfield 34, 3) := by decide +kernel
theorem dX4_isRest_100 : decode cX4_isRest 100 = .ok (.sipush 1018, 3) := by decide +kernel
theorem dX4_isRest_103 : decode cX4_isRest 103 = .ok (.invokevirtual 78, 3) := by decide +kernel
theorem dX4_isRest_106 : decode cX4_isRest 106 = .ok (.ifCond .eq 21, 3) := by decide +kernel
theorem dX4_isRest_109 : decode cX4_isRest 109 = .ok (.aload_n 0, 1) := by decide +kernel
theorem dX4_isRest_110 : decode cX4_isRest 110 = .ok (.iconst 0, 1) := by decide +kernel
theorem dX4_isRest_111 : decode cX4_isRest 111 = .ok (.aload_n 0, 1) := by decide +kernel
theorem dX4_isRest_112 : decode cX4_isRest 112 = .ok (.getfield 24, 3) := by decide +kernel
theorem dX4_isRest_115 : decode cX4_isRest 115 = .ok (.iconst 1, 1) := by decide +kernel
theorem dX4_isRest_116 : decode cX4_isRest 116 = .ok (.isub, 1) := by decide +kernel
theorem dX4_isRest_117 : decode cX4_isRest 117 = .ok (.invokevirtual 84, 3) := by decide +kernel
theorem dX4_isRest_120 : decode cX4_isRest 120 = .ok (.ifCond .eq 7, 3) := by decide +kernel
theorem dX4_isRest_123 : decode cX4_isRest 123 = .ok (.iconst 1, 1) := by decide +kernel
theorem dX4_isRest_124 : decode cX4_isRest 124 = .ok (.goto 4, 3) := by decide +kernel
theorem dX4_isRest_127 : decode cX4_isRest 127 = .ok (.iconst 0, 1) := by decide +kernel
theorem dX4_isRest_128 : decode cX4_isRest 128 = .ok (.ireturn, 1) := by decide +kernel
theorem dX4_isRest_129 : decode cX4_isRest 129 = .ok (.aload_n 0, 1) := by decide +kernel
theorem dX4_isRest_130 : decode cX4_isRest 130 = .ok (.iconst 0, 1) := by decide +kernel
theorem dX4_isRest_131 : decode cX4_isRest 131 = .ok (.bipush 29, 2) := by decide +kernel
theorem dX4_isRest_133 : decode cX4_isRest 133 = .ok (.invokevirtual 74, 3) := by decide +kernel
theorem dX4_isRest_136 : decode cX4_isRest 136 = .ok (.ifCond .eq 17, 3) := by decide +kernel
theorem dX4_isRest_139 : decode cX4_isRest 139 = .ok (.aload_n 0, 1) := by decide +kernel
theorem dX4_isRest_140 : decode cX4_isRest 140 = .ok (.iconst 0, 1) := by decide +kernel
theorem dX4_isRest_141 : decode cX4_isRest 141 = .ok (.bipush 99, 2) := by decide +kernel
theorem dX4_isRest_143 : decode cX4_isRest 143 = .ok (.invokevirtual 81, 3) := by decide +kernel
theorem dX4_isRest_146 : decode cX4_isRest 146 = .ok (.ifCond .eq 7, 3) := by decide +kernel
theorem dX4_isRest_149 : decode cX4_isRest 149 = .ok (.iconst 1, 1) := by decide +kernel
theorem dX4_isRest_150 : decode cX4_isRest 150 = .ok (.goto 4, 3) := by decide +kernel
theorem dX4_isRest_153 : decode cX4_isRest 153 = .ok (.iconst 0, 1) := by decide +kernel
theorem dX4_isRest_154 : decode cX4_isRest 154 = .ok (.ireturn, 1) := by decide +kernel
theorem dX4_isRest_155 : decode cX4_isRest 155 = .ok (.aload_n 0, 1) := by decide +kernel
theorem dX4_isRest_156 : decode cX4_isRest 156 = .ok (.invokevirtual 87, 3) := by decide +kernel
theorem dX4_isRest_159 : decode cX4_isRest 159 = .ok (.ireturn, 1) := by decide +kernel
theorem dX4_isRest_160 : decode cX4_isRest 160 = .ok (.aload_n 0, 1) := by decide +kernel
theorem dX4_isRest_161 : decode cX4_isRest 161 = .ok (.iconst 0, 1) := by decide +kernel
theorem dX4_isRest_162 : decode cX4_isRest 162 = .ok (.aload_n 0, 1) := by decide +kernel
theorem dX4_isRest_163 : decode cX4_isRest 163 = .ok (.getfield 24, 3) := by decide +kernel
theorem dX4_isRest_166 : decode cX4_isRest 166 = .ok (.iconst 1, 1) := by decide +kernel
theorem dX4_isRest_167 : decode cX4_isRest 167 = .ok (.isub, 1) := by decide +kernel
theorem dX4_isRest_168 : decode cX4_isRest 168 = .ok (.invokevirtual 74, 3) := by decide +kernel
theorem dX4_isRest_171 : decode cX4_isRest 171 = .ok (.ireturn, 1) := by decide +kernel
theorem dX4_isCistern_0 : decode cX4_isCistern 0 = .ok (.aload_n 0, 1) := by decide +kernel
theorem dX4_isCistern_1 : decode cX4_isCistern 1 = .ok (.iconst 1, 1) := by decide +kernel
theorem dX4_isCistern_2 : decode cX4_isCistern 2 = .ok (.sipush 999, 3) := by decide +kernel
theorem dX4_isCistern_5 : decode cX4_isCistern 5 = .ok (.invokevirtual 74, 3) := by decide +kernel
theorem dX4_isCistern_8 : decode cX4_isCistern 8 = .ok (.ifCond .ne 5, 3) := by decide +kernel
theorem dX4_isCistern_11 : decode cX4_isCistern 11 = .ok (.iconst 0, 1) := by decide +kernel
theorem dX4_isCistern_12 : decode cX4_isCistern 12 = .ok (.ireturn, 1) := by decide +kernel
theorem dX4_isCistern_13 : decode cX4_isCistern 13 = .ok (.aload_n 0, 1) := by decide +kernel
theorem dX4_isCistern_14 : decode cX4_isCistern 14 = .ok (.iconst 0, 1) := by decide +kernel
theorem dX4_isCistern_15 : decode cX4_isCistern 15 = .ok (.putfield 62, 3) := by decide +kernel
theorem dX4_isCistern_18 : decode cX4_isCistern 18 = .ok (.aload_n 0, 1) := by decide +kernel
theorem dX4_isCistern_19 : decode cX4_isCistern 19 = .ok (.getfield 34, 3) := by decide +kernel
theorem dX4_isCistern_22 : decode cX4_isCistern 22 = .ok (.sipush 1005, 3) := by decide +kernel
theorem dX4_isCistern_25 : decode cX4_isCistern 25 = .ok (.invokevirtual 90, 3) := by decide +kernel
theorem dX4_isCistern_28 : decode cX4_isCistern 28 = .ok (.ifCond .ne 29, 3) := by decide +kernel
theorem dX4_isCistern_31 : decode cX4_isCistern 31 = .ok (.aload_n 0, 1) := by decide +kernel
theorem dX4_isCistern_32 : decode cX4_isCistern 32 = .ok (.getfield 34, 3) := by decide +kernel
theorem dX4_isCistern_35 : decode cX4_isCistern 35 = .ok (.sipush 1006, 3) := by decide +kernel
theorem dX4_isCistern_38 : decode cX4_isCistern 38 = .ok (.invokevirtual 90, 3) := by decide +kernel
theorem dX4_isCistern_41 : decode cX4_isCistern 41 = .ok (.ifCond .ne 16, 3) := by decide +kernel
theorem dX4_isCistern_44 : decode cX4_isCistern 44 = .ok (.aload_n 0, 1) := by decide +kernel
theorem dX4_isCistern_45 : decode cX4_isCistern 45 = .ok (.getfield 34, 3) := by decide +kernel
theorem dX4_isCistern_48 : decode cX4_isCistern 48 = .ok (.sipush 1007, 3) := by decide +kernel
theorem dX4_isCistern_51 : decode cX4_isCistern 51 = .ok (.invokevirtual 90, 3) := by decide +kernel
theorem dX4_isCistern_54 : decode cX4_isCistern 54 = .ok (.ifCond .eq 49, 3) := by decide +kernel
theorem dX4_isCistern_57 : decode cX4_isCistern 57 = .ok (.aload_n 0, 1) := by decide +kernel
theorem dX4_isCistern_58 : decode cX4_isCistern 58 = .ok (.aload_n 0, 1) := by decide +kernel
theorem dX4_isCistern_59 : decode cX4_isCistern 59 = .ok (.getfield 34, 3) := by decide +kernel
theorem dX4_isCistern_62 : decode cX4_isCistern 62 = .ok (.sipush 1005, 3) := by decide +kernel
theorem dX4_isCistern_65 : decode cX4_isCistern 65 = .ok (.invokevirtual 90, 3) := by decide +kernel
theorem dX4_isCistern_68 : decode cX4_isCistern 68 = .ok (.ifCond .eq 7, 3) := by decide +kernel
theorem dX4_isCistern_71 : decode cX4_isCistern 71 = .ok (.iconst 1, 1) := by decide +kernel
theorem dX4_isCistern_72 : decode cX4_isCistern 72 = .ok (.goto 21, 3) := by decide +kernel
theorem dX4_isCistern_75 : decode cX4_isCistern 75 = .ok (.aload_n 0, 1) := by decide +kernel
theorem dX4_isCistern_76 : decode cX4_isCistern 76 = .ok (.getfield 34, 3) := by decide +kernel
theorem dX4_isCistern_79 : decode cX4_isCistern 79 = .ok (.sipush 1006, 3) := by decide +kernel
theorem dX4_isCistern_82 : decode cX4_isCistern 82 = .ok (.invokevirtual 90, 3) := by decide +kernel
theorem dX4_isCistern_85 : decode cX4_isCistern 85 = .ok (.ifCond .eq 7, 3) := by decide +kernel
theorem dX4_isCistern_88 : decode cX4_isCistern 88 = .ok (.iconst 2, 1) := by decide +kernel
theorem dX4_isCistern_89 : decode cX4_isCistern 89 = .ok (.goto 4, 3) := by decide +kernel
theorem dX4_isCistern_92 : decode cX4_isCistern 92 = .ok (.iconst 3, 1) := by decide +kernel
theorem dX4_isCistern_93 : decode cX4_isCistern 93 = .ok (.putfield 62, 3) := by decide +kernel
theorem dX4_isCistern_96 : decode cX4_isCistern 96 = .ok (.aload_n 0, 1) := by decide +kernel
theorem dX4_isCistern_97 : decode cX4_isCistern 97 = .ok (.getfield 34, 3) := by decide +kernel
theorem dX4_isCistern_100 : decode cX4_isCistern 100 = .ok (.invokevirtual 52, 3) := by decide +kernel
theorem dX4_isCistern_103 : decode cX4_isCistern 103 = .ok (.aload_n 0, 1) := by decide +kernel
theorem dX4_isCistern_104 : decode cX4_isCistern 104 = .ok (.dup, 1) := by decide +kernel
theorem dX4_isCistern_105 : decode cX4_isCistern 105 = .ok (.getfield 24, 3) := by decide +kernel
theorem dX4_isCistern_108 : decode cX4_isCistern 108 = .ok (.iconst 1, 1) := by decide +kernel
theorem dX4_isCistern_109 : decode cX4_isCistern 109 = .ok (.iadd, 1) := by decide +kernel
theorem dX4_isCistern_110 : decode cX4_isCistern 110 = .ok (.putfield 24, 3) := by decide +kernel
theorem dX4_isCistern_113 : decode cX4_isCistern 113 = .ok (.iconst 1, 1) := by decide +kernel
theorem dX4_isCistern_114 : decode cX4_isCistern 114 = .ok (.ireturn, 1) := by decide +kernel
theorem dX4_isHouse_0 : decode cX4_isHouse 0 = .ok (.aload_n 0, 1) := by decide +kernel
theorem dX4_isHouse_1 : decode cX4_isHouse 1 = .ok (.iconst 0, 1) := by decide +kernel
theorem dX4_isHouse_2 : decode cX4_isHouse 2 = .ok (.bipush 99, 2) := by decide +kernel
theorem dX4_isHouse_4 : decode cX4_isHouse 4 = .ok (.invokevirtual 74, 3) := by decide +kernel
theorem dX4_isHouse_7 : decode cX4_isHouse 7 = .ok (.ifCond .eq 30, 3) := by decide +kernel
theorem dX4_isHouse_10 : decode cX4_isHouse 10 = .ok (.aload_n 0, 1) := by decide +kernel
theorem dX4_isHouse_11 : decode cX4_isHouse 11 = .ok (.getfield 34, 3) := by decide +kernel
theorem dX4_isHouse_14 : decode cX4_isHouse 14 = .ok (.sipush 1020, 3) := by decide +kernel
theorem dX4_isHouse_17 : decode cX4_isHouse 17 = .ok (.invokevirtual 78, 3) := by decide +kernel
theorem dX4_isHouse_20 : decode cX4_isHouse 20 = .ok (.ifCond .eq 17, 3) := by decide +kernel
theorem dX4_isHouse_23 : decode cX4_isHouse 23 = .ok (.aload_n 0, 1) := by decide +kernel
theorem dX4_isHouse_24 : decode cX4_isHouse 24 = .ok (.iconst 0, 1) := by decide +kernel
theorem dX4_isHouse_25 : decode cX4_isHouse 25 = .ok (.aload_n 0, 1) := by decide +kernel
theorem dX4_isHouse_26 : decode cX4_isHouse 26 = .ok (.getfield 24, 3) := by decide +kernel
theorem dX4_isHouse_29 : decode cX4_isHouse 29 = .ok (.iconst 1, 1) := by decide +kernel
theorem dX4_isHouse_30 : decode cX4_isHouse 30 = .ok (.isub, 1) := by decide +kernel
theorem dX4_isHouse_31 : decode cX4_isHouse 31 = .ok (.invokevirtual 81, 3) := by decide +kernel
theorem dX4_isHouse_34 : decode cX4_isHouse 34 = .ok (.ifCond .ne 5, 3) := by decide +kernel
theorem dX4_isHouse_37 : decode cX4_isHouse 37 = .ok (.iconst 0, 1) := by decide +kernel
theorem dX4_isHouse_38 : decode cX4_isHouse 38 = .ok (.ireturn, 1) := by decide +kernel
theorem dX4_isHouse_39 : decode cX4_isHouse 39 = .ok (.aload_n 0, 1) := by decide +kernel
theorem dX4_isHouse_40 : decode cX4_isHouse 40 = .ok (.bipush 99, 2) := by decide +kernel
theorem dX4_isHouse_42 : decode cX4_isHouse 42 = .ok (.putfield 65, 3) := by decide +kernel
theorem dX4_isHouse_45 : decode cX4_isHouse 45 = .ok (.aload_n 0, 1) := by decide +kernel
theorem dX4_isHouse_46 : decode cX4_isHouse 46 = .ok (.dup, 1) := by decide +kernel
theorem dX4_isHouse_47 : decode cX4_isHouse 47 = .ok (.getfield 28, 3) := by decide +kernel
theorem dX4_isHouse_50 : decode cX4_isHouse 50 = .ok (.iconst 1, 1) := by decide +kernel
theorem dX4_isHouse_51 : decode cX4_isHouse 51 = .ok (.iadd, 1) := by decide +kernel
theorem dX4_isHouse_52 : decode cX4_isHouse 52 = .ok (.putfield 28, 3) := by decide +kernel
theorem dX4_isHouse_55 : decode cX4_isHouse 55 = .ok (.aload_n 0, 1) := by decide +kernel
theorem dX4_isHouse_56 : decode cX4_isHouse 56 = .ok (.getfield 34, 3) := by decide +kernel
theorem dX4_isHouse_59 : decode cX4_isHouse 59 = .ok (.sipush 1021, 3) := by decide +kernel
theorem dX4_isHouse_62 : decode cX4_isHouse 62 = .ok (.invokevirtual 90, 3) := by decide +kernel
theorem dX4_isHouse_65 : decode cX4_isHouse 65 = .ok (.ifCond .ne 5, 3) := by decide +kernel
theorem dX4_isHouse_68 : decode cX4_isHouse 68 = .ok (.iconst 1, 1) := by decide +kernel
theorem dX4_isHouse_69 : decode cX4_isHouse 69 = .ok (.ireturn, 1) := by decide +kernel
theorem dX4_isHouse_70 : decode cX4_isHouse 70 = .ok (.aload_n 0, 1) := by decide +kernel
theorem dX4_isHouse_71 : decode cX4_isHouse 71 = .ok (.getfield 34, 3) := by decide +kernel
theorem dX4_isHouse_74 : decode cX4_isHouse 74 = .ok (.invokevirtual 52, 3) := by decide +kernel
theorem dX4_isHouse_77 : decode cX4_isHouse 77 = .ok (.aload_n 0, 1) := by decide +kernel
theorem dX4_isHouse_78 : decode cX4_isHouse 78 = .ok (.iconst 0, 1) := by decide +kernel
theorem dX4_isHouse_79 : decode cX4_isHouse 79 = .ok (.bipush 99, 2) := by decide +kernel
theorem dX4_isHouse_81 : decode cX4_isHouse 81 = .ok (.invokevirtual 84, 3) := by decide +kernel
theorem dX4_isHouse_84 : decode cX4_isHouse 84 = .ok (.ireturn, 1) := by decide +kernel
theorem dX4_isLeak_0 : decode cX4_isLeak 0 = .ok (.aload_n 0, 1) := by decide +kernel
theorem dX4_isLeak_1 : decode cX4_isLeak 1 = .ok (.iconst 0, 1) := by decide +kernel
theorem dX4_isLeak_2 : decode cX4_isLeak 2 = .ok (.aload_n 0, 1) := by decide +kernel
theorem dX4_isLeak_3 : decode cX4_isLeak 3 = .ok (.getfield 24, 3) := by decide +kernel
theorem dX4_isLeak_6 : decode cX4_isLeak 6 = .ok (.iconst 1, 1) := by decide +kernel
theorem dX4_isLeak_7 : decode cX4_isLeak 7 = .ok (.isub, 1) := by decide +kernel
theorem dX4_isLeak_8 : decode cX4_isLeak 8 = .ok (.invokevirtual 74, 3) := by decide +kernel
theorem dX4_isLeak_11 : decode cX4_isLeak 11 = .ok (.ifCond .ne 5, 3) := by decide +kernel
theorem dX4_isLeak_14 : decode cX4_isLeak 14 = .ok (.iconst 0, 1) := by decide +kernel
theorem dX4_isLeak_15 : decode cX4_isLeak 15 = .ok (.ireturn, 1) := by decide +kernel
theorem dX4_isLeak_16 : decode cX4_isLeak 16 = .ok (.aload_n 0, 1) := by decide +kernel
theorem dX4_isLeak_17 : decode cX4_isLeak 17 = .ok (.getfield 34, 3) := by decide +kernel
theorem dX4_isLeak_20 : decode cX4_isLeak 20 = .ok (.sipush 1024, 3) := by decide +kernel
theorem dX4_isLeak_23 : decode cX4_isLeak 23 = .ok (.invokevirtual 90, 3) := by decide +kernel
theorem dX4_isLeak_26 : decode cX4_isLeak 26 = .ok (.ifCond .eq 23, 3) := by decide +kernel
theorem dX4_isLeak_29 : decode cX4_isLeak 29 = .ok (.aload_n 0, 1) := by decide +kernel
theorem dX4_isLeak_30 : decode cX4_isLeak 30 = .ok (.getfield 34, 3) := by decide +kernel
theorem dX4_isLeak_33 : decode cX4_isLeak 33 = .ok (.invokevirtual 52, 3) := by decide +kernel
theorem dX4_isLeak_36 : decode cX4_isLeak 36 = .ok (.aload_n 0, 1) := by decide +kernel
theorem dX4_isLeak_37 : decode cX4_isLeak 37 = .ok (.iconst (-1), 1) := by decide +kernel
theorem dX4_isLeak_38 : decode cX4_isLeak 38 = .ok (.putfield 62, 3) := by decide +kernel
theorem dX4_isLeak_41 : decode cX4_isLeak 41 = .ok (.aload_n 0, 1) := by decide +kernel
theorem dX4_isLeak_42 : decode cX4_isLeak 42 = .ok (.iconst 0, 1) := by decide +kernel
theorem dX4_isLeak_43 : decode cX4_isLeak 43 = .ok (.bipush 99, 2) := by decide +kernel
theorem dX4_isLeak_45 : decode cX4_isLeak 45 = .ok (.invokevirtual 84, 3) := by decide +kernel
theorem dX4_isLeak_48 : decode cX4_isLeak 48 = .ok (.ireturn, 1) := by decide +kernel
theorem dX4_isLeak_49 : decode cX4_isLeak 49 = .ok (.aload_n 0, 1) := by decide +kernel
theorem dX4_isLeak_50 : decode cX4_isLeak 50 = .ok (.getfield 34, 3) := by decide +kernel
theorem dX4_isLeak_53 : decode cX4_isLeak 53 = .ok (.sipush 1023, 3) := by decide +kernel
theorem dX4_isLeak_56 : decode cX4_isLeak 56 = .ok (.invokevirtual 78, 3) := by decide +kernel
theorem dX4_isLeak_59 : decode cX4_isLeak 59 = .ok (.ifCond .ne 5, 3) := by decide +kernel
theorem dX4_isLeak_62 : decode cX4_isLeak 62 = .ok (.iconst 0, 1) := by decide +kernel
theorem dX4_isLeak_63 : decode cX4_isLeak 63 = .ok (.ireturn, 1) := by decide +kernel
theorem dX4_isLeak_64 : decode cX4_isLeak 64 = .ok (.aload_n 0, 1) := by decide +kernel
theorem dX4_isLeak_65 : decode cX4_isLeak 65 = .ok (.getfield 34, 3) := by decide +kernel
theorem dX4_isLeak_68 : decode cX4_isLeak 68 = .ok (.aload_n 0, 1) := by decide +kernel
theorem dX4_isLeak_69 : decode cX4_isLeak 69 = .ok (.getfield 59, 3) := by decide +kernel
theorem dX4_isLeak_72 : decode cX4_isLeak 72 = .ok (.invokevirtual 90, 3) := by decide +kernel
theorem dX4_isLeak_75 : decode cX4_isLeak 75 = .ok (.ifCond .eq 11, 3) := by decide +kernel
theorem dX4_isLeak_78 : decode cX4_isLeak 78 = .ok (.aload_n 0, 1) := by decide +kernel
theorem dX4_isLeak_79 : decode cX4_isLeak 79 = .ok (.getfield 34, 3) := by decide +kernel
theorem dX4_isLeak_82 : decode cX4_isLeak 82 = .ok (.invokevirtual 48, 3) := by decide +kernel
theorem dX4_isLeak_85 : decode cX4_isLeak 85 = .ok (.ireturn, 1) := by decide +kernel
theorem dX4_isLeak_86 : decode cX4_isLeak 86 = .ok (.aload_n 0, 1) := by decide +kernel
theorem dX4_isLeak_87 : decode cX4_isLeak 87 = .ok (.iconst 0, 1) := by decide +kernel
theorem dX4_isLeak_88 : decode cX4_isLeak 88 = .ok (.aload_n 0, 1) := by decide +kernel
theorem dX4_isLeak_89 : decode cX4_isLeak 89 = .ok (.getfield 24, 3) := by decide +kernel
theorem dX4_isLeak_92 : decode cX4_isLeak 92 = .ok (.iconst 1, 1) := by decide +kernel
theorem dX4_isLeak_93 : decode cX4_isLeak 93 = .ok (.isub, 1) := by decide +kernel
theorem dX4_isLeak_94 : decode cX4_isLeak 94 = .ok (.invokevirtual 81, 3) := by decide +kernel
theorem dX4_isLeak_97 : decode cX4_isLeak 97 = .ok (.ifCond .eq 17, 3) := by decide +kernel
theorem dX4_isLeak_100 : decode cX4_isLeak 100 = .ok (.aload_n 0, 1) := by decide +kernel
theorem dX4_isLeak_101 : decode cX4_isLeak 101 = .ok (.iconst 0, 1) := by decide +kernel
theorem dX4_isLeak_102 : decode cX4_isLeak 102 = .ok (.bipush 99, 2) := by decide +kernel
theorem dX4_isLeak_104 : decode cX4_isLeak 104 = .ok (.invokevirtual 84, 3) := by decide +kernel
theorem dX4_isLeak_107 : decode cX4_isLeak 107 = .ok (.ifCond .eq 7, 3) := by decide +kernel
theorem dX4_isLeak_110 : decode cX4_isLeak 110 = .ok (.iconst 1, 1) := by decide +kernel
theorem dX4_isLeak_111 : decode cX4_isLeak 111 = .ok (.goto 4, 3) := by decide +kernel
theorem dX4_isLeak_114 : decode cX4_isLeak 114 = .ok (.iconst 0, 1) := by decide +kernel
theorem dX4_isLeak_115 : decode cX4_isLeak 115 = .ok (.ireturn, 1) := by decide +kernel
theorem dX4_isOne_0 : decode cX4_isOne 0 = .ok (.aload_n 0, 1) := by decide +kernel
theorem dX4_isOne_1 : decode cX4_isOne 1 = .ok (.aload_n 0, 1) := by decide +kernel
theorem dX4_isOne_2 : decode cX4_isOne 2 = .ok (.getfield 34, 3) := by decide +kernel
theorem dX4_isOne_5 : decode cX4_isOne 5 = .ok (.iload_n 1, 1) := by decide +kernel
theorem dX4_isOne_6 : decode cX4_isOne 6 = .ok (.iload_n 2, 1) := by decide +kernel
theorem dX4_isOne_7 : decode cX4_isOne 7 = .ok (.invokevirtual 93, 3) := by decide +kernel
theorem dX4_isOne_10 : decode cX4_isOne 10 = .ok (.putfield 59, 3) := by decide +kernel
theorem dX4_isOne_13 : decode cX4_isOne 13 = .ok (.aload_n 0, 1) := by decide +kernel
theorem dX4_isOne_14 : decode cX4_isOne 14 = .ok (.getfield 59, 3) := by decide +kernel
theorem dX4_isOne_17 : decode cX4_isOne 17 = .ok (.iconst (-1), 1) := by decide +kernel
theorem dX4_isOne_18 : decode cX4_isOne 18 = .ok (.if_icmp .eq 7, 3) := by decide +kernel
theorem dX4_isOne_21 : decode cX4_isOne 21 = .ok (.iconst 1, 1) := by decide +kernel
theorem dX4_isOne_22 : decode cX4_isOne 22 = .ok (.goto 4, 3) := by decide +kernel
theorem dX4_isOne_25 : decode cX4_isOne 25 = .ok (.iconst 0, 1) := by decide +kernel
theorem dX4_isOne_26 : decode cX4_isOne 26 = .ok (.ireturn, 1) := by decide +kernel
theorem dX4_isTwo_0 : decode cX4_isTwo 0 = .ok (.aload_n 0, 1) := by decide +kernel
theorem dX4_isTwo_1 : decode cX4_isTwo 1 = .ok (.aload_n 0, 1) := by decide +kernel
theorem dX4_isTwo_2 : decode cX4_isTwo 2 = .ok (.getfield 34, 3) := by decide +kernel
theorem dX4_isTwo_5 : decode cX4_isTwo 5 = .ok (.iload_n 1, 1) := by decide +kernel
theorem dX4_isTwo_6 : decode cX4_isTwo 6 = .ok (.iload_n 2, 1) := by decide +kernel
theorem dX4_isTwo_7 : decode cX4_isTwo 7 = .ok (.invokevirtual 93, 3) := by decide +kernel
theorem dX4_isTwo_10 : decode cX4_isTwo 10 = .ok (.putfield 62, 3) := by decide +kernel
theorem dX4_isTwo_13 : decode cX4_isTwo 13 = .ok (.aload_n 0, 1) := by decide +kernel
theorem dX4_isTwo_14 : decode cX4_isTwo 14 = .ok (.getfield 62, 3) := by decide +kernel
theorem dX4_isTwo_17 : decode cX4_isTwo 17 = .ok (.iconst (-1), 1) := by decide +kernel
theorem dX4_isTwo_18 : decode cX4_isTwo 18 = .ok (.if_icmp .eq 7, 3) := by decide +kernel
theorem dX4_isTwo_21 : decode cX4_isTwo 21 = .ok (.iconst 1, 1) := by decide +kernel
theorem dX4_isTwo_22 : decode cX4_isTwo 22 = .ok (.goto 4, 3) := by decide +kernel
theorem dX4_isTwo_25 : decode cX4_isTwo 25 = .ok (.iconst 0, 1) := by decide +kernel
theorem dX4_isTwo_26 : decode cX4_isTwo 26 = .ok (.ireturn, 1) := by decide +kernel
theorem dX4_isThree_0 : decode cX4_isThree 0 = .ok (.aload_n 0, 1) := by decide +kernel
theorem dX4_isThree_1 : decode cX4_isThree 1 = .ok (.aload_n 0, 1) := by decide +kernel
theorem dX4_isThree_2 : decode cX4_isThree 2 = .ok (.getfield 34, 3) := by decide +kernel
theorem dX4_isThree_5 : decode cX4_isThree 5 = .ok (.iload_n 1, 1) := by decide +kernel
theorem dX4_isThree_6 : decode cX4_isThree 6 = .ok (.iload_n 2, 1) := by decide +kernel
theorem dX4_isThree_7 : decode cX4_isThree 7 = .ok (.invokevirtual 93, 3) := by decide +kernel
theorem dX4_isThree_10 : decode cX4_isThree 10 = .ok (.putfield 65, 3) := by decide +kernel
theorem dX4_isThree_13 : decode cX4_isThree 13 = .ok (.aload_n 0, 1) := by decide +kernel
theorem dX4_isThree_14 : decode cX4_isThree 14 = .ok (.getfield 65, 3) := by decide +kernel
theorem dX4_isThree_17 : decode cX4_isThree 17 = .ok (.iconst (-1), 1) := by decide +kernel
theorem dX4_isThree_18 : decode cX4_isThree 18 = .ok (.if_icmp .eq 7, 3) := by decide +kernel
theorem dX4_isThree_21 : decode cX4_isThree 21 = .ok (.iconst 1, 1) := by decide +kernel
theorem dX4_isThree_22 : decode cX4_isThree 22 = .ok (.goto 4, 3) := by decide +kernel
theorem dX4_isThree_25 : decode cX4_isThree 25 = .ok (.iconst 0, 1) := by decide +kernel
theorem dX4_isThree_26 : decode cX4_isThree 26 = .ok (.ireturn, 1) := by decide +kernel
theorem dX4_tellTo_0 : decode cX4_tellTo 0 = .ok (.iconst 0, 1) := by decide +kernel
theorem dX4_tellTo_1 : decode cX4_tellTo 1 = .ok (.istore_n 2, 1) := by decide +kernel
theorem dX4_tellTo_2 : decode cX4_tellTo 2 = .ok (.iload_n 2, 1) := by decide +kernel
theorem dX4_tellTo_3 : decode cX4_tellTo 3 = .ok (.aload_n 0, 1) := by decide +kernel
theorem dX4_tellTo_4 : decode cX4_tellTo 4 = .ok (.getfield 31, 3) := by decide +kernel
theorem dX4_tellTo_7 : decode cX4_tellTo 7 = .ok (.if_icmp .ge 211, 3) := by decide +kernel
theorem dX4_tellTo_10 : decode cX4_tellTo 10 = .ok (.iload_n 2, 1) := by decide +kernel
theorem dX4_tellTo_11 : decode cX4_tellTo 11 = .ok (.bipush 14, 2) := by decide +kernel
theorem dX4_tellTo_13 : decode cX4_tellTo 13 = .ok (.if_icmp .ge 205, 3) := by decide +kernel
theorem dX4_tellTo_16 : decode cX4_tellTo 16 = .ok (.aload_n 0, 1) := by decide +kernel
theorem dX4_tellTo_17 : decode cX4_tellTo 17 = .ok (.getfield 9, 3) := by decide +kernel
theorem dX4_tellTo_20 : decode cX4_tellTo 20 = .ok (.iload_n 2, 1) := by decide +kernel
theorem dX4_tellTo_21 : decode cX4_tellTo 21 = .ok (.iaload, 1) := by decide +kernel
theorem dX4_tellTo_22 : decode cX4_tellTo 22 = .ok (.lookupswitch 163 #[(1002, 119), (1015, 50), (1016, 94), (1019, 69), (1022, 138)], 50) := by decide +kernel
theorem dX4_tellTo_72 : decode cX4_tellTo 72 = .ok (.aload_n 1, 1) := by decide +kernel
theorem dX4_tellTo_73 : decode cX4_tellTo 73 = .ok (.aload_n 0, 1) := by decide +kernel
theorem dX4_tellTo_74 : decode cX4_tellTo 74 = .ok (.getfield 15, 3) := by decide +kernel
theorem dX4_tellTo_77 : decode cX4_tellTo 77 = .ok (.iload_n 2, 1) := by decide +kernel
theorem dX4_tellTo_78 : decode cX4_tellTo 78 = .ok (.iaload, 1) := by decide +kernel
theorem dX4_tellTo_79 : decode cX4_tellTo 79 = .ok (.aload_n 0, 1) := by decide +kernel
theorem dX4_tellTo_80 : decode cX4_tellTo 80 = .ok (.getfield 18, 3) := by decide +kernel
theorem dX4_tellTo_83 : decode cX4_tellTo 83 = .ok (.iload_n 2, 1) := by decide +kernel
theorem dX4_tellTo_84 : decode cX4_tellTo 84 = .ok (.iaload, 1) := by decide +kernel
theorem dX4_tellTo_85 : decode cX4_tellTo 85 = .ok (.invokevirtual 97, 3) := by decide +kernel
theorem dX4_tellTo_88 : decode cX4_tellTo 88 = .ok (.goto 124, 3) := by decide +kernel
theorem dX4_tellTo_91 : decode cX4_tellTo 91 = .ok (.aload_n 1, 1) := by decide +kernel
theorem dX4_tellTo_92 : decode cX4_tellTo 92 = .ok (.aload_n 0, 1) := by decide +kernel
theorem dX4_tellTo_93 : decode cX4_tellTo 93 = .ok (.getfield 15, 3) := by decide +kernel
theorem dX4_tellTo_96 : decode cX4_tellTo 96 = .ok (.iload_n 2, 1) := by decide +kernel
theorem dX4_tellTo_97 : decode cX4_tellTo 97 = .ok (.iaload, 1) := by decide +kernel
theorem dX4_tellTo_98 : decode cX4_tellTo 98 = .ok (.aload_n 0, 1) := by decide +kernel
theorem dX4_tellTo_99 : decode cX4_tellTo 99 = .ok (.getfield 18, 3) := by decide +kernel
theorem dX4_tellTo_102 : decode cX4_tellTo 102 = .ok (.iload_n 2, 1) := by decide +kernel
theorem dX4_tellTo_103 : decode cX4_tellTo 103 = .ok (.iaload, 1) := by decide +kernel
theorem dX4_tellTo_104 : decode cX4_tellTo 104 = .ok (.aload_n 0, 1) := by decide +kernel
theorem dX4_tellTo_105 : decode cX4_tellTo 105 = .ok (.getfield 21, 3) := by decide +kernel
theorem dX4_tellTo_108 : decode cX4_tellTo 108 = .ok (.iload_n 2, 1) := by decide +kernel
theorem dX4_tellTo_109 : decode cX4_tellTo 109 = .ok (.iaload, 1) := by decide +kernel
theorem dX4_tellTo_110 : decode cX4_tellTo 110 = .ok (.invokevirtual 103, 3) := by decide +kernel
theorem dX4_tellTo_113 : decode cX4_tellTo 113 = .ok (.goto 99, 3) := by decide +kernel
theorem dX4_tellTo_116 : decode cX4_tellTo 116 = .ok (.aload_n 1, 1) := by decide +kernel
theorem dX4_tellTo_117 : decode cX4_tellTo 117 = .ok (.aload_n 0, 1) := by decide +kernel
theorem dX4_tellTo_118 : decode cX4_tellTo 118 = .ok (.getfield 15, 3) := by decide +kernel
theorem dX4_tellTo_121 : decode cX4_tellTo 121 = .ok (.iload_n 2, 1) := by decide +kernel
theorem dX4_tellTo_122 : decode cX4_tellTo 122 = .ok (.iaload, 1) := by decide +kernel
theorem dX4_tellTo_123 : decode cX4_tellTo 123 = .ok (.aload_n 0, 1) := by decide +kernel
theorem dX4_tellTo_124 : decode cX4_tellTo 124 = .ok (.getfield 18, 3) := by decide +kernel
theorem dX4_tellTo_127 : decode cX4_tellTo 127 = .ok (.iload_n 2, 1) := by decide +kernel
theorem dX4_tellTo_128 : decode cX4_tellTo 128 = .ok (.iaload, 1) := by decide +kernel
theorem dX4_tellTo_129 : decode cX4_tellTo 129 = .ok (.aload_n 0, 1) := by decide +kernel
theorem dX4_tellTo_130 : decode cX4_tellTo 130 = .ok (.getfield 21, 3) := by decide +kernel
theorem dX4_tellTo_133 : decode cX4_tellTo 133 = .ok (.iload_n 2, 1) := by decide +kernel
theorem dX4_tellTo_134 : decode cX4_tellTo 134 = .ok (.iaload, 1) := by decide +kernel
theorem dX4_tellTo_135 : decode cX4_tellTo 135 = .ok (.invokevirtual 107, 3) := by decide +kernel
theorem dX4_tellTo_138 : decode cX4_tellTo 138 = .ok (.goto 74, 3) := by decide +kernel
theorem dX4_tellTo_141 : decode cX4_tellTo 141 = .ok (.aload_n 1, 1) := by decide +kernel
theorem dX4_tellTo_142 : decode cX4_tellTo 142 = .ok (.aload_n 0, 1) := by decide +kernel
theorem dX4_tellTo_143 : decode cX4_tellTo 143 = .ok (.getfield 15, 3) := by decide +kernel
theorem dX4_tellTo_146 : decode cX4_tellTo 146 = .ok (.iload_n 2, 1) := by decide +kernel
theorem dX4_tellTo_147 : decode cX4_tellTo 147 = .ok (.iaload, 1) := by decide +kernel
theorem dX4_tellTo_148 : decode cX4_tellTo 148 = .ok (.aload_n 0, 1) := by decide +kernel
theorem dX4_tellTo_149 : decode cX4_tellTo 149 = .ok (.getfield 18, 3) := by decide +kernel
theorem dX4_tellTo_152 : decode cX4_tellTo 152 = .ok (.iload_n 2, 1) := by decide +kernel
theorem dX4_tellTo_153 : decode cX4_tellTo 153 = .ok (.iaload, 1) := by decide +kernel
theorem dX4_tellTo_154 : decode cX4_tellTo 154 = .ok (.invokevirtual 110, 3) := by decide +kernel
theorem dX4_tellTo_157 : decode cX4_tellTo 157 = .ok (.goto 55, 3) := by decide +kernel
theorem dX4_tellTo_160 : decode cX4_tellTo 160 = .ok (.aload_n 1, 1) := by decide +kernel
theorem dX4_tellTo_161 : decode cX4_tellTo 161 = .ok (.aload_n 0, 1) := by decide +kernel
theorem dX4_tellTo_162 : decode cX4_tellTo 162 = .ok (.getfield 15, 3) := by decide +kernel
theorem dX4_tellTo_165 : decode cX4_tellTo 165 = .ok (.iload_n 2, 1) := by decide +kernel
theorem dX4_tellTo_166 : decode cX4_tellTo 166 = .ok (.iaload, 1) := by decide +kernel
theorem dX4_tellTo_167 : decode cX4_tellTo 167 = .ok (.aload_n 0, 1) := by decide +kernel
theorem dX4_tellTo_168 : decode cX4_tellTo 168 = .ok (.getfield 18, 3) := by decide +kernel
theorem dX4_tellTo_171 : decode cX4_tellTo 171 = .ok (.iload_n 2, 1) := by decide +kernel
theorem dX4_tellTo_172 : decode cX4_tellTo 172 = .ok (.iaload, 1) := by decide +kernel
theorem dX4_tellTo_173 : decode cX4_tellTo 173 = .ok (.aload_n 0, 1) := by decide +kernel
theorem dX4_tellTo_174 : decode cX4_tellTo 174 = .ok (.getfield 21, 3) := by decide +kernel
theorem dX4_tellTo_177 : decode cX4_tellTo 177 = .ok (.iload_n 2, 1) := by decide +kernel
theorem dX4_tellTo_178 : decode cX4_tellTo 178 = .ok (.iaload, 1) := by decide +kernel
theorem dX4_tellTo_179 : decode cX4_tellTo 179 = .ok (.invokevirtual 113, 3) := by decide +kernel
theorem dX4_tellTo_182 : decode cX4_tellTo 182 = .ok (.goto 30, 3) := by decide +kernel
theorem dX4_tellTo_185 : decode cX4_tellTo 185 = .ok (.aload_n 1, 1) := by decide +kernel
theorem dX4_tellTo_186 : decode cX4_tellTo 186 = .ok (.aload_n 0, 1) := by decide +kernel
theorem dX4_tellTo_187 : decode cX4_tellTo 187 = .ok (.getfield 15, 3) := by decide +kernel
theorem dX4_tellTo_190 : decode cX4_tellTo 190 = .ok (.iload_n 2, 1) := by decide +kernel
theorem dX4_tellTo_191 : decode cX4_tellTo 191 = .ok (.iaload, 1) := by decide +kernel
theorem dX4_tellTo_192 : decode cX4_tellTo 192 = .ok (.aload_n 0, 1) := by decide +kernel
theorem dX4_tellTo_193 : decode cX4_tellTo 193 = .ok (.getfield 9, 3) := by decide +kernel
theorem dX4_tellTo_196 : decode cX4_tellTo 196 = .ok (.iload_n 2, 1) := by decide +kernel
theorem dX4_tellTo_197 : decode cX4_tellTo 197 = .ok (.iaload, 1) := by decide +kernel
theorem dX4_tellTo_198 : decode cX4_tellTo 198 = .ok (.sipush 1025, 3) := by decide +kernel
theorem dX4_tellTo_201 : decode cX4_tellTo 201 = .ok (.if_icmp .ne 7, 3) := by decide +kernel
theorem dX4_tellTo_204 : decode cX4_tellTo 204 = .ok (.iconst 1, 1) := by decide +kernel
theorem dX4_tellTo_205 : decode cX4_tellTo 205 = .ok (.goto 4, 3) := by decide +kernel
theorem dX4_tellTo_208 : decode cX4_tellTo 208 = .ok (.iconst 0, 1) := by decide +kernel
theorem dX4_tellTo_209 : decode cX4_tellTo 209 = .ok (.invokevirtual 116, 3) := by decide +kernel
theorem dX4_tellTo_212 : decode cX4_tellTo 212 = .ok (.iinc 2 1, 3) := by decide +kernel
theorem dX4_tellTo_215 : decode cX4_tellTo 215 = .ok (.goto (-213), 3) := by decide +kernel
theorem dX4_tellTo_218 : decode cX4_tellTo 218 = .ok (.return_, 1) := by decide +kernel
theorem dX5_init_0 : decode cX5_init 0 = .ok (.aload_n 0, 1) := by decide +kernel
theorem dX5_init_1 : decode cX5_init 1 = .ok (.invokespecial 3, 3) := by decide +kernel
theorem dX5_init_4 : decode cX5_init 4 = .ok (.aload_n 0, 1) := by decide +kernel
theorem dX5_init_5 : decode cX5_init 5 = .ok (.bipush 9, 2) := by decide +kernel
theorem dX5_init_7 : decode cX5_init 7 = .ok (.newarray .int, 2) := by decide +kernel
theorem dX5_init_9 : decode cX5_init 9 = .ok (.putfield 9, 3) := by decide +kernel
theorem dX5_init_12 : decode cX5_init 12 = .ok (.aload_n 0, 1) := by decide +kernel
theorem dX5_init_13 : decode cX5_init 13 = .ok (.bipush 32, 2) := by decide +kernel
theorem dX5_init_15 : decode cX5_init 15 = .ok (.newarray .int, 2) := by decide +kernel
theorem dX5_init_17 : decode cX5_init 17 = .ok (.putfield 15, 3) := by decide +kernel
theorem dX5_init_20 : decode cX5_init 20 = .ok (.aload_n 0, 1) := by decide +kernel
theorem dX5_init_21 : decode cX5_init 21 = .ok (.iload_n 1, 1) := by decide +kernel
theorem dX5_init_22 : decode cX5_init 22 = .ok (.putfield 18, 3) := by decide +kernel
theorem dX5_init_25 : decode cX5_init 25 = .ok (.aload_n 0, 1) := by decide +kernel
theorem dX5_init_26 : decode cX5_init 26 = .ok (.aload_n 2, 1) := by decide +kernel
theorem dX5_init_27 : decode cX5_init 27 = .ok (.putfield 22, 3) := by decide +kernel
theorem dX5_init_30 : decode cX5_init 30 = .ok (.aload_n 0, 1) := by decide +kernel
theorem dX5_init_31 : decode cX5_init 31 = .ok (.aload_n 3, 1) := by decide +kernel
theorem dX5_init_32 : decode cX5_init 32 = .ok (.putfield 25, 3) := by decide +kernel
theorem dX5_init_35 : decode cX5_init 35 = .ok (.aload_n 0, 1) := by decide +kernel
theorem dX5_init_36 : decode cX5_init 36 = .ok (.aload 4, 2) := by decide +kernel
theorem dX5_init_38 : decode cX5_init 38 = .ok (.putfield 28, 3) := by decide +kernel
theorem dX5_init_41 : decode cX5_init 41 = .ok (.iconst 0, 1) := by decide +kernel
theorem dX5_init_42 : decode cX5_init 42 = .ok (.istore 5, 2) := by decide +kernel
theorem dX5_init_44 : decode cX5_init 44 = .ok (.iconst 0, 1) := by decide +kernel
theorem dX5_init_45 : decode cX5_init 45 = .ok (.istore 6, 2) := by decide +kernel
theorem dX5_init_47 : decode cX5_init 47 = .ok (.iload 6, 2) := by decide +kernel
theorem dX5_init_49 : decode cX5_init 49 = .ok (.aload 4, 2) := by decide +kernel
theorem dX5_init_51 : decode cX5_init 51 = .ok (.arraylength, 1) := by decide +kernel
theorem dX5_init_52 : decode cX5_init 52 = .ok (.if_icmp .ge 30, 3) := by decide +kernel
theorem dX5_init_55 : decode cX5_init 55 = .ok (.iload 5, 2) := by decide +kernel
theorem dX5_init_57 : decode cX5_init 57 = .ok (.aload 4, 2) := by decide +kernel
theorem dX5_init_59 : decode cX5_init 59 = .ok (.iload 6, 2) := by decide +kernel
theorem dX5_init_61 : decode cX5_init 61 = .ok (.iaload, 1) := by decide +kernel
theorem dX5_init_62 : decode cX5_init 62 = .ok (.sipush 1004, 3) := by decide +kernel
theorem dX5_init_65 : decode cX5_init 65 = .ok (.if_icmp .ne 7, 3) := by decide +kernel
theorem dX5_init_68 : decode cX5_init 68 = .ok (.iconst 1, 1) := by decide +kernel
theorem dX5_init_69 : decode cX5_init 69 = .ok (.goto 4, 3) := by decide +kernel
theorem dX5_init_72 : decode cX5_init 72 = .ok (.iconst 0, 1) := by decide +kernel
theorem dX5_init_73 : decode cX5_init 73 = .ok (.ior, 1) := by decide +kernel
theorem dX5_init_74 : decode cX5_init 74 = .ok (.istore 5, 2) := by decide +kernel
theorem dX5_init_76 : decode cX5_init 76 = .ok (.iinc 6 1, 3) := by decide +kernel
theorem dX5_init_79 : decode cX5_init 79 = .ok (.goto (-32), 3) := by decide +kernel
theorem dX5_init_82 : decode cX5_init 82 = .ok (.aload_n 0, 1) := by decide +kernel
theorem dX5_init_83 : decode cX5_init 83 = .ok (.iload 5, 2) := by decide +kernel
theorem dX5_init_85 : decode cX5_init 85 = .ok (.putfield 31, 3) := by decide +kernel
theorem dX5_init_88 : decode cX5_init 88 = .ok (.return_, 1) := by decide +kernel
theorem dX5_setFact_0 : decode cX5_setFact 0 = .ok (.iload_n 1, 1) := by decide +kernel
theorem dX5_setFact_1 : decode cX5_setFact 1 = .ok (.sipush 1000, 3) := by decide +kernel
theorem dX5_setFact_4 : decode cX5_setFact 4 = .ok (.isub, 1) := by decide +kernel
theorem dX5_setFact_5 : decode cX5_setFact 5 = .ok (.istore_n 3, 1) := by decide +kernel
theorem dX5_setFact_6 : decode cX5_setFact 6 = .ok (.iload_n 3, 1) := by decide +kernel
theorem dX5_setFact_7 : decode cX5_setFact 7 = .ok (.ifCond .lt 19, 3) := by decide +kernel
theorem dX5_setFact_10 : decode cX5_setFact 10 = .ok (.iload_n 3, 1) := by decide +kernel
theorem dX5_setFact_11 : decode cX5_setFact 11 = .ok (.aload_n 0, 1) := by decide +kernel
theorem dX5_setFact_12 : decode cX5_setFact 12 = .ok (.getfield 9, 3) := by decide +kernel
theorem dX5_setFact_15 : decode cX5_setFact 15 = .ok (.arraylength, 1) := by decide +kernel
theorem dX5_setFact_16 : decode cX5_setFact 16 = .ok (.if_icmp .ge 10, 3) := by decide +kernel
theorem dX5_setFact_19 : decode cX5_setFact 19 = .ok (.aload_n 0, 1) := by decide +kernel
theorem dX5_setFact_20 : decode cX5_setFact 20 = .ok (.getfield 9, 3) := by decide +kernel
theorem dX5_setFact_23 : decode cX5_setFact 23 = .ok (.iload_n 3, 1) := by decide +kernel
theorem dX5_setFact_24 : decode cX5_setFact 24 = .ok (.iload_n 2, 1) := by decide +kernel
theorem dX5_setFact_25 : decode cX5_setFact 25 = .ok (.iastore, 1) := by decide +kernel
theorem dX5_setFact_26 : decode cX5_setFact 26 = .ok (.return_, 1) := by decide +kernel
theorem dX5_placeByFacts_0 : decode cX5_placeByFacts 0 = .ok (.iconst 0, 1) := by decide +kernel
theorem dX5_placeByFacts_1 : decode cX5_placeByFacts 1 = .ok (.istore_n 1, 1) := by decide +kernel
theorem dX5_placeByFacts_2 : decode cX5_placeByFacts 2 = .ok (.iconst 0, 1) := by decide +kernel
theorem dX5_placeByFacts_3 : decode cX5_placeByFacts 3 = .ok (.istore_n 2, 1) := by decide +kernel
theorem dX5_placeByFacts_4 : decode cX5_placeByFacts 4 = .ok (.iconst 0, 1) := by decide +kernel
theorem dX5_placeByFacts_5 : decode cX5_placeByFacts 5 = .ok (.istore_n 3, 1) := by decide +kernel
theorem dX5_placeByFacts_6 : decode cX5_placeByFacts 6 = .ok (.iload_n 3, 1) := by decide +kernel
theorem dX5_placeByFacts_7 : decode cX5_placeByFacts 7 = .ok (.aload_n 0, 1) := by decide +kernel
theorem dX5_placeByFacts_8 : decode cX5_placeByFacts 8 = .ok (.getfield 18, 3) := by decide +kernel
theorem dX5_placeByFacts_11 : decode cX5_placeByFacts 11 = .ok (.if_icmp .ge 69, 3) := by decide +kernel
theorem dX5_placeByFacts_14 : decode cX5_placeByFacts 14 = .ok (.iload_n 3, 1) := by decide +kernel
theorem dX5_placeByFacts_15 : decode cX5_placeByFacts 15 = .ok (.aload_n 0, 1) := by decide +kernel
theorem dX5_placeByFacts_16 : decode cX5_placeByFacts 16 = .ok (.getfield 25, 3) := by decide +kernel
theorem dX5_placeByFacts_19 : decode cX5_placeByFacts 19 = .ok (.arraylength, 1) := by decide +kernel
theorem dX5_placeByFacts_20 : decode cX5_placeByFacts 20 = .ok (.if_icmp .ge 60, 3) := by decide +kernel
theorem dX5_placeByFacts_23 : decode cX5_placeByFacts 23 = .ok (.iload_n 3, 1) := by decide +kernel
theorem dX5_placeByFacts_24 : decode cX5_placeByFacts 24 = .ok (.aload_n 0, 1) := by decide +kernel
theorem dX5_placeByFacts_25 : decode cX5_placeByFacts 25 = .ok (.getfield 22, 3) := by decide +kernel
theorem dX5_placeByFacts_28 : decode cX5_placeByFacts 28 = .ok (.arraylength, 1) := by decide +kernel
theorem dX5_placeByFacts_29 : decode cX5_placeByFacts 29 = .ok (.if_icmp .ge 51, 3) := by decide +kernel
theorem dX5_placeByFacts_32 : decode cX5_placeByFacts 32 = .ok (.aload_n 0, 1) := by decide +kernel
theorem dX5_placeByFacts_33 : decode cX5_placeByFacts 33 = .ok (.iload_n 2, 1) := by decide +kernel
theorem dX5_placeByFacts_34 : decode cX5_placeByFacts 34 = .ok (.aload_n 0, 1) := by decide +kernel
theorem dX5_placeByFacts_35 : decode cX5_placeByFacts 35 = .ok (.getfield 25, 3) := by decide +kernel
theorem dX5_placeByFacts_38 : decode cX5_placeByFacts 38 = .ok (.iload_n 3, 1) := by decide +kernel
theorem dX5_placeByFacts_39 : decode cX5_placeByFacts 39 = .ok (.iaload, 1) := by decide +kernel
theorem dX5_placeByFacts_40 : decode cX5_placeByFacts 40 = .ok (.invokevirtual 35, 3) := by decide +kernel
theorem dX5_placeByFacts_43 : decode cX5_placeByFacts 43 = .ok (.ifCond .eq 24, 3) := by decide +kernel
theorem dX5_placeByFacts_46 : decode cX5_placeByFacts 46 = .ok (.aload_n 0, 1) := by decide +kernel
theorem dX5_placeByFacts_47 : decode cX5_placeByFacts 47 = .ok (.getfield 22, 3) := by decide +kernel
theorem dX5_placeByFacts_50 : decode cX5_placeByFacts 50 = .ok (.iload_n 3, 1) := by decide +kernel
theorem dX5_placeByFacts_51 : decode cX5_placeByFacts 51 = .ok (.iaload, 1) := by decide +kernel
theorem dX5_placeByFacts_52 : decode cX5_placeByFacts 52 = .ok (.iconst (-1), 1) := by decide +kernel
theorem dX5_placeByFacts_53 : decode cX5_placeByFacts 53 = .ok (.if_icmp .ne 5, 3) := by decide +kernel
theorem dX5_placeByFacts_56 : decode cX5_placeByFacts 56 = .ok (.iconst (-1), 1) := by decide +kernel
theorem dX5_placeByFacts_57 : decode cX5_placeByFacts 57 = .ok (.ireturn, 1) := by decide +kernel
theorem dX5_placeByFacts_58 : decode cX5_placeByFacts 58 = .ok (.iload_n 1, 1) := by decide +kernel
theorem dX5_placeByFacts_59 : decode cX5_placeByFacts 59 = .ok (.aload_n 0, 1) := by decide +kernel
theorem dX5_placeByFacts_60 : decode cX5_placeByFacts 60 = .ok (.getfield 22, 3) := by decide +kernel
theorem dX5_placeByFacts_63 : decode cX5_placeByFacts 63 = .ok (.iload_n 3, 1) := by decide +kernel
theorem dX5_placeByFacts_64 : decode cX5_placeByFacts 64 = .ok (.iaload, 1) := by decide +kernel
theorem dX5_placeByFacts_65 : decode cX5_placeByFacts 65 = .ok (.iadd, 1) := by decide +kernel
theorem dX5_placeByFacts_66 : decode cX5_placeByFacts 66 = .ok (.istore_n 1, 1) := by decide +kernel
theorem dX5_placeByFacts_67 : decode cX5_placeByFacts 67 = .ok (.aload_n 0, 1) := by decide +kernel
theorem dX5_placeByFacts_68 : decode cX5_placeByFacts 68 = .ok (.getfield 25, 3) := by decide +kernel
theorem dX5_placeByFacts_71 : decode cX5_placeByFacts 71 = .ok (.iload_n 3, 1) := by decide +kernel
theorem dX5_placeByFacts_72 : decode cX5_placeByFacts 72 = .ok (.iaload, 1) := by decide +kernel
theorem dX5_placeByFacts_73 : decode cX5_placeByFacts 73 = .ok (.istore_n 2, 1) := by decide +kernel
theorem dX5_placeByFacts_74 : decode cX5_placeByFacts 74 = .ok (.iinc 3 1, 3) := by decide +kernel
theorem dX5_placeByFacts_77 : decode cX5_placeByFacts 77 = .ok (.goto (-71), 3) := by decide +kernel
theorem dX5_placeByFacts_80 : decode cX5_placeByFacts 80 = .ok (.iload_n 1, 1) := by decide +kernel
theorem dX5_placeByFacts_81 : decode cX5_placeByFacts 81 = .ok (.ireturn, 1) := by decide +kernel
theorem dX5_holds_0 : decode cX5_holds 0 = .ok (.iconst 0, 1) := by decide +kernel
theorem dX5_holds_1 : decode cX5_holds 1 = .ok (.istore_n 3, 1) := by decide +kernel
theorem dX5_holds_2 : decode cX5_holds 2 = .ok (.iload_n 1, 1) := by decide +kernel
theorem dX5_holds_3 : decode cX5_holds 3 = .ok (.istore 4, 2) := by decide +kernel
theorem dX5_holds_5 : decode cX5_holds 5 = .ok (.iload 4, 2) := by decide +kernel
theorem dX5_holds_7 : decode cX5_holds 7 = .ok (.ifCond .lt 294, 3) := by decide +kernel
theorem dX5_holds_10 : decode cX5_holds 10 = .ok (.iload 4, 2) := by decide +kernel
theorem dX5_holds_12 : decode cX5_holds 12 = .ok (.iload_n 2, 1) := by decide +kernel
theorem dX5_holds_13 : decode cX5_holds 13 = .ok (.if_icmp .ge 288, 3) := by decide +kernel
theorem dX5_holds_16 : decode cX5_holds 16 = .ok (.iload 4, 2) := by decide +kernel
theorem dX5_holds_18 : decode cX5_holds 18 = .ok (.aload_n 0, 1) := by decide +kernel
theorem dX5_holds_19 : decode cX5_holds 19 = .ok (.getfield 28, 3) := by decide +kernel
theorem dX5_holds_22 : decode cX5_holds 22 = .ok (.arraylength, 1) := by decide +kernel
theorem dX5_holds_23 : decode cX5_holds 23 = .ok (.if_icmp .ge 278, 3) := by decide +kernel
theorem dX5_holds_26 : decode cX5_holds 26 = .ok (.aload_n 0, 1) := by decide +kernel
theorem dX5_holds_27 : decode cX5_holds 27 = .ok (.getfield 28, 3) := by decide +kernel
theorem dX5_holds_30 : decode cX5_holds 30 = .ok (.iload 4, 2) := by decide +kernel
theorem dX5_holds_32 : decode cX5_holds 32 = .ok (.iaload, 1) := by decide +kernel
theorem dX5_holds_33 : decode cX5_holds 33 = .ok (.istore 5, 2) := by decide +kernel
theorem dX5_holds_35 : decode cX5_holds 35 = .ok (.iload 5, 2) := by decide +kernel
theorem dX5_holds_37 : decode cX5_holds 37 = .ok (.sipush 1000, 3) := by decide +kernel
theorem dX5_holds_40 : decode cX5_holds 40 = .ok (.isub, 1) := by decide +kernel
theorem dX5_holds_41 : decode cX5_holds 41 = .ok (.istore 6, 2) := by decide +kernel
theorem dX5_holds_43 : decode cX5_holds 43 = .ok (.iload 5, 2) := by decide +kernel
theorem dX5_holds_45 : decode cX5_holds 45 = .ok (.sipush 1008, 3) := by decide +kernel
theorem dX5_holds_48 : decode cX5_holds 48 = .ok (.if_icmp .gt 51, 3) := by decide +kernel
theorem dX5_holds_51 : decode cX5_holds 51 = .ok (.iload_n 3, 1) := by decide +kernel
theorem dX5_holds_52 : decode cX5_holds 52 = .ok (.aload_n 0, 1) := by decide +kernel
theorem dX5_holds_53 : decode cX5_holds 53 = .ok (.getfield 15, 3) := by decide +kernel
theorem dX5_holds_56 : decode cX5_holds 56 = .ok (.arraylength, 1) := by decide +kernel
theorem dX5_holds_57 : decode cX5_holds 57 = .ok (.if_icmp .ge 238, 3) := by decide +kernel
theorem dX5_holds_60 : decode cX5_holds 60 = .ok (.aload_n 0, 1) := by decide +kernel
theorem dX5_holds_61 : decode cX5_holds 61 = .ok (.getfield 15, 3) := by decide +kernel
theorem dX5_holds_64 : decode cX5_holds 64 = .ok (.iload_n 3, 1) := by decide +kernel
theorem dX5_holds_65 : decode cX5_holds 65 = .ok (.iload 6, 2) := by decide +kernel
theorem dX5_holds_67 : decode cX5_holds 67 = .ok (.ifCond .lt 23, 3) := by decide +kernel
theorem dX5_holds_70 : decode cX5_holds 70 = .ok (.iload 6, 2) := by decide +kernel
theorem dX5_holds_72 : decode cX5_holds 72 = .ok (.aload_n 0, 1) := by decide +kernel
theorem dX5_holds_73 : decode cX5_holds 73 = .ok (.getfield 9, 3) := by decide +kernel
theorem dX5_holds_76 : decode cX5_holds 76 = .ok (.arraylength, 1) := by decide +kernel
theorem dX5_holds_77 : decode cX5_holds 77 = .ok (.if_icmp .ge 13, 3) := by decide +kernel
theorem dX5_holds_80 : decode cX5_holds 80 = .ok (.aload_n 0, 1) := by decide +kernel
theorem dX5_holds_81 : decode cX5_holds 81 = .ok (.getfield 9, 3) := by decide +kernel
theorem dX5_holds_84 : decode cX5_holds 84 = .ok (.iload 6, 2) := by decide +kernel
theorem dX5_holds_86 : decode cX5_holds 86 = .ok (.iaload, 1) := by decide +kernel
theorem dX5_holds_87 : decode cX5_holds 87 = .ok (.goto 5, 3) := by decide +kernel
theorem dX5_holds_90 : decode cX5_holds 90 = .ok (.iload 5, 2) := by decide +kernel
theorem dX5_holds_92 : decode cX5_holds 92 = .ok (.iastore, 1) := by decide +kernel
theorem dX5_holds_93 : decode cX5_holds 93 = .ok (.iinc 3 1, 3) := by decide +kernel
theorem dX5_holds_96 : decode cX5_holds 96 = .ok (.goto 199, 3) := by decide +kernel
theorem dX5_holds_99 : decode cX5_holds 99 = .ok (.iload 5, 2) := by decide +kernel
theorem dX5_holds_101 : decode cX5_holds 101 = .ok (.sipush 1009, 3) := by decide +kernel
theorem dX5_holds_104 : decode cX5_holds 104 = .ok (.if_icmp .ne 28, 3) := by decide +kernel
theorem dX5_holds_107 : decode cX5_holds 107 = .ok (.iload_n 3, 1) := by decide +kernel
theorem dX5_holds_108 : decode cX5_holds 108 = .ok (.ifCond .le 187, 3) := by decide +kernel
theorem dX5_holds_111 : decode cX5_holds 111 = .ok (.aload_n 0, 1) := by decide +kernel
theorem dX5_holds_112 : decode cX5_holds 112 = .ok (.getfield 15, 3) := by decide +kernel
theorem dX5_holds_115 : decode cX5_holds 115 = .ok (.iload_n 3, 1) := by decide +kernel
theorem dX5_holds_116 : decode cX5_holds 116 = .ok (.iconst 1, 1) := by decide +kernel
theorem dX5_holds_117 : decode cX5_holds 117 = .ok (.isub, 1) := by decide +kernel
theorem dX5_holds_118 : decode cX5_holds 118 = .ok (.iconst 1, 1) := by decide +kernel
theorem dX5_holds_119 : decode cX5_holds 119 = .ok (.aload_n 0, 1) := by decide +kernel
theorem dX5_holds_120 : decode cX5_holds 120 = .ok (.getfield 15, 3) := by decide +kernel
theorem dX5_holds_123 : decode cX5_holds 123 = .ok (.iload_n 3, 1) := by decide +kernel
theorem dX5_holds_124 : decode cX5_holds 124 = .ok (.iconst 1, 1) := by decide +kernel
theorem dX5_holds_125 : decode cX5_holds 125 = .ok (.isub, 1) := by decide +kernel
theorem dX5_holds_126 : decode cX5_holds 126 = .ok (.iaload, 1) := by decide +kernel
theorem dX5_holds_127 : decode cX5_holds 127 = .ok (.isub, 1) := by decide +kernel
theorem dX5_holds_128 : decode cX5_holds 128 = .ok (.iastore, 1) := by decide +kernel
theorem dX5_holds_129 : decode cX5_holds 129 = .ok (.goto 166, 3) := by decide +kernel
theorem dX5_holds_132 : decode cX5_holds 132 = .ok (.iload_n 3, 1) := by decide +kernel
theorem dX5_holds_133 : decode cX5_holds 133 = .ok (.iconst 1, 1) := by decide +kernel
theorem dX5_holds_134 : decode cX5_holds 134 = .ok (.if_icmp .le 161, 3) := by decide +kernel
theorem dX5_holds_137 : decode cX5_holds 137 = .ok (.iinc 3 (-1), 3) := by decide +kernel
theorem dX5_holds_140 : decode cX5_holds 140 = .ok (.aload_n 0, 1) := by decide +kernel
theorem dX5_holds_141 : decode cX5_holds 141 = .ok (.getfield 15, 3) := by decide +kernel
theorem dX5_holds_144 : decode cX5_holds 144 = .ok (.iload_n 3, 1) := by decide +kernel
theorem dX5_holds_145 : decode cX5_holds 145 = .ok (.iconst 1, 1) := by decide +kernel
theorem dX5_holds_146 : decode cX5_holds 146 = .ok (.isub, 1) := by decide +kernel
theorem dX5_holds_147 : decode cX5_holds 147 = .ok (.iaload, 1) := by decide +kernel
theorem dX5_holds_148 : decode cX5_holds 148 = .ok (.istore 7, 2) := by decide +kernel
theorem dX5_holds_150 : decode cX5_holds 150 = .ok (.aload_n 0, 1) := by decide +kernel
theorem dX5_holds_151 : decode cX5_holds 151 = .ok (.getfield 15, 3) := by decide +kernel
theorem dX5_holds_154 : decode cX5_holds 154 = .ok (.iload_n 3, 1) := by decide +kernel
theorem dX5_holds_155 : decode cX5_holds 155 = .ok (.iaload, 1) := by decide +kernel
theorem dX5_holds_156 : decode cX5_holds 156 = .ok (.istore 8, 2) := by decide +kernel
theorem dX5_holds_158 : decode cX5_holds 158 = .ok (.iload 5, 2) := by decide +kernel
theorem dX5_holds_160 : decode cX5_holds 160 = .ok (.lookupswitch 122 #[(1010, 106), (2043, 44), (2060, 60), (2062, 83)], 44) := by decide +kernel
theorem dX5_holds_204 : decode cX5_holds 204 = .ok (.aload_n 0, 1) := by decide +kernel
theorem dX5_holds_205 : decode cX5_holds 205 = .ok (.getfield 15, 3) := by decide +kernel
theorem dX5_holds_208 : decode cX5_holds 208 = .ok (.iload_n 3, 1) := by decide +kernel
theorem dX5_holds_209 : decode cX5_holds 209 = .ok (.iconst 1, 1) := by decide +kernel
theorem dX5_holds_210 : decode cX5_holds 210 = .ok (.isub, 1) := by decide +kernel
theorem dX5_holds_211 : decode cX5_holds 211 = .ok (.iload 7, 2) := by decide +kernel
theorem dX5_holds_213 : decode cX5_holds 213 = .ok (.iload 8, 2) := by decide +kernel
theorem dX5_holds_215 : decode cX5_holds 215 = .ok (.iadd, 1) := by decide +kernel
theorem dX5_holds_216 : decode cX5_holds 216 = .ok (.iastore, 1) := by decide +kernel
theorem dX5_holds_217 : decode cX5_holds 217 = .ok (.goto 78, 3) := by decide +kernel
theorem dX5_holds_220 : decode cX5_holds 220 = .ok (.aload_n 0, 1) := by decide +kernel
theorem dX5_holds_221 : decode cX5_holds 221 = .ok (.getfield 15, 3) := by decide +kernel
theorem dX5_holds_224 : decode cX5_holds 224 = .ok (.iload_n 3, 1) := by decide +kernel
theorem dX5_holds_225 : decode cX5_holds 225 = .ok (.iconst 1, 1) := by decide +kernel
theorem dX5_holds_226 : decode cX5_holds 226 = .ok (.isub, 1) := by decide +kernel
theorem dX5_holds_227 : decode cX5_holds 227 = .ok (.iload 7, 2) := by decide +kernel
theorem dX5_holds_229 : decode cX5_holds 229 = .ok (.iload 8, 2) := by decide +kernel
theorem dX5_holds_231 : decode cX5_holds 231 = .ok (.if_icmp .ge 7, 3) := by decide +kernel
theorem dX5_holds_234 : decode cX5_holds 234 = .ok (.iconst 1, 1) := by decide +kernel
theorem dX5_holds_235 : decode cX5_holds 235 = .ok (.goto 4, 3) := by decide +kernel
theorem dX5_holds_238 : decode cX5_holds 238 = .ok (.iconst 0, 1) := by decide +kernel
theorem dX5_holds_239 : decode cX5_holds 239 = .ok (.iastore, 1) := by decide +kernel
theorem dX5_holds_240 : decode cX5_holds 240 = .ok (.goto 55, 3) := by decide +kernel
theorem dX5_holds_243 : decode cX5_holds 243 = .ok (.aload_n 0, 1) := by decide +kernel
theorem dX5_holds_244 : decode cX5_holds 244 = .ok (.getfield 15, 3) := by decide +kernel
theorem dX5_holds_247 : decode cX5_holds 247 = .ok (.iload_n 3, 1) := by decide +kernel
theorem dX5_holds_248 : decode cX5_holds 248 = .ok (.iconst 1, 1) := by decide +kernel
theorem dX5_holds_249 : decode cX5_holds 249 = .ok (.isub, 1) := by decide +kernel
theorem dX5_holds_250 : decode cX5_holds 250 = .ok (.iload 7, 2) := by decide +kernel
theorem dX5_holds_252 : decode cX5_holds 252 = .ok (.iload 8, 2) := by decide +kernel
theorem dX5_holds_254 : decode cX5_holds 254 = .ok (.if_icmp .le 7, 3) := by decide +kernel
theorem dX5_holds_257 : decode cX5_holds 257 = .ok (.iconst 1, 1) := by decide +kernel
theorem dX5_holds_258 : decode cX5_holds 258 = .ok (.goto 4, 3) := by decide +kernel
theorem dX5_holds_261 : decode cX5_holds 261 = .ok (.iconst 0, 1) := by decide +kernel
theorem dX5_holds_262 : decode cX5_holds 262 = .ok (.iastore, 1) := by decide +kernel
theorem dX5_holds_263 : decode cX5_holds 263 = .ok (.goto 32, 3) := by decide +kernel
theorem dX5_holds_266 : decode cX5_holds 266 = .ok (.aload_n 0, 1) := by decide +kernel
theorem dX5_holds_267 : decode cX5_holds 267 = .ok (.getfield 15, 3) := by decide +kernel
theorem dX5_holds_270 : decode cX5_holds 270 = .ok (.iload_n 3, 1) := by decide +kernel
theorem dX5_holds_271 : decode cX5_holds 271 = .ok (.iconst 1, 1) := by decide +kernel
theorem dX5_holds_272 : decode cX5_holds 272 = .ok (.isub, 1) := by decide +kernel
theorem dX5_holds_273 : decode cX5_holds 273 = .ok (.iload 7, 2) := by decide +kernel
theorem dX5_holds_275 : decode cX5_holds 275 = .ok (.iload 8, 2) := by decide +kernel
theorem dX5_holds_277 : decode cX5_holds 277 = .ok (.iand, 1) := by decide +kernel
theorem dX5_holds_278 : decode cX5_holds 278 = .ok (.iastore, 1) := by decide +kernel
theorem dX5_holds_279 : decode cX5_holds 279 = .ok (.goto 16, 3) := by decide +kernel
theorem dX5_holds_282 : decode cX5_holds 282 = .ok (.aload_n 0, 1) := by decide +kernel
theorem dX5_holds_283 : decode cX5_holds 283 = .ok (.getfield 15, 3) := by decide +kernel
theorem dX5_holds_286 : decode cX5_holds 286 = .ok (.iload_n 3, 1) := by decide +kernel
theorem dX5_holds_287 : decode cX5_holds 287 = .ok (.iconst 1, 1) := by decide +kernel
theorem dX5_holds_288 : decode cX5_holds 288 = .ok (.isub, 1) := by decide +kernel
theorem dX5_holds_289 : decode cX5_holds 289 = .ok (.iload 7, 2) := by decide +kernel
theorem dX5_holds_291 : decode cX5_holds 291 = .ok (.iload 8, 2) := by decide +kernel
theorem dX5_holds_293 : decode cX5_holds 293 = .ok (.ior, 1) := by decide +kernel
theorem dX5_holds_294 : decode cX5_holds 294 = .ok (.iastore, 1) := by decide +kernel
theorem dX5_holds_295 : decode cX5_holds 295 = .ok (.iinc 4 1, 3) := by decide +kernel
theorem dX5_holds_298 : decode cX5_holds 298 = .ok (.goto (-293), 3) := by decide +kernel
theorem dX5_holds_301 : decode cX5_holds 301 = .ok (.iload_n 3, 1) := by decide +kernel
theorem dX5_holds_302 : decode cX5_holds 302 = .ok (.ifCond .eq 12, 3) := by decide +kernel
theorem dX5_holds_305 : decode cX5_holds 305 = .ok (.aload_n 0, 1) := by decide +kernel
theorem dX5_holds_306 : decode cX5_holds 306 = .ok (.getfield 15, 3) := by decide +kernel
theorem dX5_holds_309 : decode cX5_holds 309 = .ok (.iconst 0, 1) := by decide +kernel
theorem dX5_holds_310 : decode cX5_holds 310 = .ok (.iaload, 1) := by decide +kernel
theorem dX5_holds_311 : decode cX5_holds 311 = .ok (.ifCond .eq 7, 3) := by decide +kernel
theorem dX5_holds_314 : decode cX5_holds 314 = .ok (.iconst 1, 1) := by decide +kernel
theorem dX5_holds_315 : decode cX5_holds 315 = .ok (.goto 4, 3) := by decide +kernel
theorem dX5_holds_318 : decode cX5_holds 318 = .ok (.iconst 0, 1) := by decide +kernel
theorem dX5_holds_319 : decode cX5_holds 319 = .ok (.ireturn, 1) := by decide +kernel
theorem dX6_init_0 : decode cX6_init 0 = .ok (.aload_n 0, 1) := by decide +kernel
theorem dX6_init_1 : decode cX6_init 1 = .ok (.aload_n 1, 1) := by decide +kernel
theorem dX6_init_2 : decode cX6_init 2 = .ok (.bipush 12, 2) := by decide +kernel
theorem dX6_init_4 : decode cX6_init 4 = .ok (.invokespecial 3, 3) := by decide +kernel
theorem dX6_init_7 : decode cX6_init 7 = .ok (.aload_n 0, 1) := by decide +kernel
theorem dX6_init_8 : decode cX6_init 8 = .ok (.bipush 12, 2) := by decide +kernel
theorem dX6_init_10 : decode cX6_init 10 = .ok (.newarray .int, 2) := by decide +kernel
theorem dX6_init_12 : decode cX6_init 12 = .ok (.putfield 9, 3) := by decide +kernel
theorem dX6_init_15 : decode cX6_init 15 = .ok (.aload_n 0, 1) := by decide +kernel
theorem dX6_init_16 : decode cX6_init 16 = .ok (.bipush 12, 2) := by decide +kernel
theorem dX6_init_18 : decode cX6_init 18 = .ok (.newarray .int, 2) := by decide +kernel
theorem dX6_init_20 : decode cX6_init 20 = .ok (.putfield 15, 3) := by decide +kernel
theorem dX6_init_23 : decode cX6_init 23 = .ok (.aload_n 0, 1) := by decide +kernel
theorem dX6_init_24 : decode cX6_init 24 = .ok (.sipush 400, 3) := by decide +kernel
theorem dX6_init_27 : decode cX6_init 27 = .ok (.newarray .int, 2) := by decide +kernel
theorem dX6_init_29 : decode cX6_init 29 = .ok (.putfield 18, 3) := by decide +kernel
theorem dX6_init_32 : decode cX6_init 32 = .ok (.return_, 1) := by decide +kernel
theorem dX6_begin_0 : decode cX6_begin 0 = .ok (.aload_n 0, 1) := by decide +kernel
theorem dX6_begin_1 : decode cX6_begin 1 = .ok (.iconst 0, 1) := by decide +kernel
theorem dX6_begin_2 : decode cX6_begin 2 = .ok (.putfield 21, 3) := by decide +kernel
theorem dX6_begin_5 : decode cX6_begin 5 = .ok (.aload_n 0, 1) := by decide +kernel
theorem dX6_begin_6 : decode cX6_begin 6 = .ok (.iconst 0, 1) := by decide +kernel
theorem dX6_begin_7 : decode cX6_begin 7 = .ok (.putfield 25, 3) := by decide +kernel
theorem dX6_begin_10 : decode cX6_begin 10 = .ok (.return_, 1) := by decide +kernel
theorem dX6_made_0 : decode cX6_made 0 = .ok (.new 28, 3) := by decide +kernel
theorem dX6_made_3 : decode cX6_made 3 = .ok (.dup, 1) := by decide +kernel
theorem dX6_made_4 : decode cX6_made 4 = .ok (.aload_n 0, 1) := by decide +kernel
theorem dX6_made_5 : decode cX6_made 5 = .ok (.getfield 21, 3) := by decide +kernel
theorem dX6_made_8 : decode cX6_made 8 = .ok (.aload_n 0, 1) := by decide +kernel
theorem dX6_made_9 : decode cX6_made 9 = .ok (.getfield 9, 3) := by decide +kernel
theorem dX6_made_12 : decode cX6_made 12 = .ok (.bipush 12, 2) := by decide +kernel
theorem dX6_made_14 : decode cX6_made 14 = .ok (.invokestatic 30, 3) := by decide +kernel
theorem dX6_made_17 : decode cX6_made 17 = .ok (.aload_n 0, 1) := by decide +kernel
theorem dX6_made_18 : decode cX6_made 18 = .ok (.getfield 15, 3) := by decide +kernel
theorem dX6_made_21 : decode cX6_made 21 = .ok (.bipush 12, 2) := by decide +kernel
theorem dX6_made_23 : decode cX6_made 23 = .ok (.invokestatic 30, 3) := by decide +kernel
theorem dX6_made_26 : decode cX6_made 26 = .ok (.aload_n 0, 1) := by decide +kernel
theorem dX6_made_27 : decode cX6_made 27 = .ok (.getfield 18, 3) := by decide +kernel
theorem dX6_made_30 : decode cX6_made 30 = .ok (.iconst 0, 1) := by decide +kernel
theorem dX6_made_31 : decode cX6_made 31 = .ok (.aload_n 0, 1) := by decide +kernel
theorem dX6_made_32 : decode cX6_made 32 = .ok (.getfield 25, 3) := by decide +kernel
theorem dX6_made_35 : decode cX6_made 35 = .ok (.invokestatic 36, 3) := by decide +kernel
theorem dX6_made_38 : decode cX6_made 38 = .ok (.invokestatic 30, 3) := by decide +kernel
theorem dX6_made_41 : decode cX6_made 41 = .ok (.invokespecial 42, 3) := by decide +kernel
theorem dX6_made_44 : decode cX6_made 44 = .ok (.areturn, 1) := by decide +kernel
theorem dX6_isLine_0 : decode cX6_isLine 0 = .ok (.iconst (-1), 1) := by decide +kernel
theorem dX6_isLine_1 : decode cX6_isLine 1 = .ok (.istore_n 1, 1) := by decide +kernel
theorem dX6_isLine_2 : decode cX6_isLine 2 = .ok (.aload_n 0, 1) := by decide +kernel
theorem dX6_isLine_3 : decode cX6_isLine 3 = .ok (.getfield 45, 3) := by decide +kernel
theorem dX6_isLine_6 : decode cX6_isLine 6 = .ok (.sipush 1012, 3) := by decide +kernel
theorem dX6_isLine_9 : decode cX6_isLine 9 = .ok (.invokevirtual 49, 3) := by decide +kernel
theorem dX6_isLine_12 : decode cX6_isLine 12 = .ok (.ifCond .eq 13, 3) := by decide +kernel
theorem dX6_isLine_15 : decode cX6_isLine 15 = .ok (.aload_n 0, 1) := by decide +kernel
theorem dX6_isLine_16 : decode cX6_isLine 16 = .ok (.getfield 45, 3) := by decide +kernel
theorem dX6_isLine_19 : decode cX6_isLine 19 = .ok (.invokevirtual 55, 3) := by decide +kernel
theorem dX6_isLine_22 : decode cX6_isLine 22 = .ok (.goto 37, 3) := by decide +kernel
theorem dX6_isLine_25 : decode cX6_isLine 25 = .ok (.aload_n 0, 1) := by decide +kernel
theorem dX6_isLine_26 : decode cX6_isLine 26 = .ok (.getfield 45, 3) := by decide +kernel
theorem dX6_isLine_29 : decode cX6_isLine 29 = .ok (.sipush 1014, 3) := by decide +kernel
theorem dX6_isLine_32 : decode cX6_isLine 32 = .ok (.invokevirtual 59, 3) := by decide +kernel
theorem dX6_isLine_35 : decode cX6_isLine 35 = .ok (.ifCond .ne 5, 3) := by decide +kernel
theorem dX6_isLine_38 : decode cX6_isLine 38 = .ok (.iconst 0, 1) := by decide +kernel
theorem dX6_isLine_39 : decode cX6_isLine 39 = .ok (.ireturn, 1) := by decide +kernel
theorem dX6_isLine_40 : decode cX6_isLine 40 = .ok (.aload_n 0, 1) := by decide +kernel
theorem dX6_isLine_41 : decode cX6_isLine 41 = .ok (.getfield 45, 3) := by decide +kernel
theorem dX6_isLine_44 : decode cX6_isLine 44 = .ok (.iconst 0, 1) := by decide +kernel
theorem dX6_isLine_45 : decode cX6_isLine 45 = .ok (.sipush 999, 3) := by decide +kernel
theorem dX6_isLine_48 : decode cX6_isLine 48 = .ok (.invokevirtual 62, 3) := by decide +kernel
theorem dX6_isLine_51 : decode cX6_isLine 51 = .ok (.istore_n 1, 1) := by decide +kernel
theorem dX6_isLine_52 : decode cX6_isLine 52 = .ok (.iload_n 1, 1) := by decide +kernel
theorem dX6_isLine_53 : decode cX6_isLine 53 = .ok (.iconst (-1), 1) := by decide +kernel
theorem dX6_isLine_54 : decode cX6_isLine 54 = .ok (.if_icmp .ne 5, 3) := by decide +kernel
theorem dX6_isLine_57 : decode cX6_isLine 57 = .ok (.iconst 0, 1) := by decide +kernel
theorem dX6_isLine_58 : decode cX6_isLine 58 = .ok (.ireturn, 1) := by decide +kernel
theorem dX6_isLine_59 : decode cX6_isLine 59 = .ok (.aload_n 0, 1) := by decide +kernel
theorem dX6_isLine_60 : decode cX6_isLine 60 = .ok (.getfield 45, 3) := by decide +kernel
theorem dX6_isLine_63 : decode cX6_isLine 63 = .ok (.sipush 1013, 3) := by decide +kernel
theorem dX6_isLine_66 : decode cX6_isLine 66 = .ok (.invokevirtual 49, 3) := by decide +kernel
theorem dX6_isLine_69 : decode cX6_isLine 69 = .ok (.ifCond .eq 20, 3) := by decide +kernel
theorem dX6_isLine_72 : decode cX6_isLine 72 = .ok (.aload_n 0, 1) := by decide +kernel
theorem dX6_isLine_73 : decode cX6_isLine 73 = .ok (.getfield 45, 3) := by decide +kernel
theorem dX6_isLine_76 : decode cX6_isLine 76 = .ok (.invokevirtual 55, 3) := by decide +kernel
theorem dX6_isLine_79 : decode cX6_isLine 79 = .ok (.aload_n 0, 1) := by decide +kernel
theorem dX6_isLine_80 : decode cX6_isLine 80 = .ok (.iconst 0, 1) := by decide +kernel
theorem dX6_isLine_81 : decode cX6_isLine 81 = .ok (.invokevirtual 65, 3) := by decide +kernel
theorem dX6_isLine_84 : decode cX6_isLine 84 = .ok (.ifCond .ne 5, 3) := by decide +kernel
theorem dX6_isLine_87 : decode cX6_isLine 87 = .ok (.iconst 0, 1) := by decide +kernel
theorem dX6_isLine_88 : decode cX6_isLine 88 = .ok (.ireturn, 1) := by decide +kernel
theorem dX6_isLine_89 : decode cX6_isLine 89 = .ok (.aload_n 0, 1) := by decide +kernel
theorem dX6_isLine_90 : decode cX6_isLine 90 = .ok (.getfield 21, 3) := by decide +kernel
theorem dX6_isLine_93 : decode cX6_isLine 93 = .ok (.bipush 12, 2) := by decide +kernel
theorem dX6_isLine_95 : decode cX6_isLine 95 = .ok (.if_icmp .lt 5, 3) := by decide +kernel
theorem dX6_isLine_98 : decode cX6_isLine 98 = .ok (.iconst 0, 1) := by decide +kernel
theorem dX6_isLine_99 : decode cX6_isLine 99 = .ok (.ireturn, 1) := by decide +kernel
theorem dX6_isLine_100 : decode cX6_isLine 100 = .ok (.aload_n 0, 1) := by decide +kernel
theorem dX6_isLine_101 : decode cX6_isLine 101 = .ok (.getfield 9, 3) := by decide +kernel
theorem dX6_isLine_104 : decode cX6_isLine 104 = .ok (.aload_n 0, 1) := by decide +kernel
theorem dX6_isLine_105 : decode cX6_isLine 105 = .ok (.getfield 21, 3) := by decide +kernel
theorem dX6_isLine_108 : decode cX6_isLine 108 = .ok (.iload_n 1, 1) := by decide +kernel
theorem dX6_isLine_109 : decode cX6_isLine 109 = .ok (.iastore, 1) := by decide +kernel
theorem dX6_isLine_110 : decode cX6_isLine 110 = .ok (.aload_n 0, 1) := by decide +kernel
theorem dX6_isLine_111 : decode cX6_isLine 111 = .ok (.getfield 15, 3) := by decide +kernel
theorem dX6_isLine_114 : decode cX6_isLine 114 = .ok (.aload_n 0, 1) := by decide +kernel
theorem dX6_isLine_115 : decode cX6_isLine 115 = .ok (.getfield 21, 3) := by decide +kernel
theorem dX6_isLine_118 : decode cX6_isLine 118 = .ok (.aload_n 0, 1) := by decide +kernel
theorem dX6_isLine_119 : decode cX6_isLine 119 = .ok (.getfield 25, 3) := by decide +kernel
theorem dX6_isLine_122 : decode cX6_isLine 122 = .ok (.iastore, 1) := by decide +kernel
theorem dX6_isLine_123 : decode cX6_isLine 123 = .ok (.aload_n 0, 1) := by decide +kernel
theorem dX6_isLine_124 : decode cX6_isLine 124 = .ok (.dup, 1) := by decide +kernel
theorem dX6_isLine_125 : decode cX6_isLine 125 = .ok (.getfield 21, 3) := by decide +kernel
theorem dX6_isLine_128 : decode cX6_isLine 128 = .ok (.iconst 1, 1) := by decide +kernel
theorem dX6_isLine_129 : decode cX6_isLine 129 = .ok (.iadd, 1) := by decide +kernel
theorem dX6_isLine_130 : decode cX6_isLine 130 = .ok (.putfield 21, 3) := by decide +kernel
theorem dX6_isLine_133 : decode cX6_isLine 133 = .ok (.iconst 1, 1) := by decide +kernel
theorem dX6_isLine_134 : decode cX6_isLine 134 = .ok (.ireturn, 1) := by decide +kernel
theorem dX6_isCondition_0 : decode cX6_isCondition 0 = .ok (.iconst (-1), 1) := by decide +kernel
theorem dX6_isCondition_1 : decode cX6_isCondition 1 = .ok (.istore_n 2, 1) := by decide +kernel
theorem dX6_isCondition_2 : decode cX6_isCondition 2 = .ok (.iconst 0, 1) := by decide +kernel
theorem dX6_isCondition_3 : decode cX6_isCondition 3 = .ok (.istore_n 3, 1) := by decide +kernel
theorem dX6_isCondition_4 : decode cX6_isCondition 4 = .ok (.iconst 0, 1) := by decide +kernel
theorem dX6_isCondition_5 : decode cX6_isCondition 5 = .ok (.istore 4, 2) := by decide +kernel
theorem dX6_isCondition_7 : decode cX6_isCondition 7 = .ok (.iload 4, 2) := by decide +kernel
theorem dX6_isCondition_9 : decode cX6_isCondition 9 = .ok (.sipush 400, 3) := by decide +kernel
theorem dX6_isCondition_12 : decode cX6_isCondition 12 = .ok (.if_icmp .ge 97, 3) := by decide +kernel
theorem dX6_isCondition_15 : decode cX6_isCondition 15 = .ok (.aload_n 0, 1) := by decide +kernel
theorem dX6_isCondition_16 : decode cX6_isCondition 16 = .ok (.iload_n 1, 1) := by decide +kernel
theorem dX6_isCondition_17 : decode cX6_isCondition 17 = .ok (.invokevirtual 68, 3) := by decide +kernel
theorem dX6_isCondition_20 : decode cX6_isCondition 20 = .ok (.ifCond .ne 5, 3) := by decide +kernel
theorem dX6_isCondition_23 : decode cX6_isCondition 23 = .ok (.iconst 0, 1) := by decide +kernel
theorem dX6_isCondition_24 : decode cX6_isCondition 24 = .ok (.ireturn, 1) := by decide +kernel
theorem dX6_isCondition_25 : decode cX6_isCondition 25 = .ok (.iload_n 2, 1) := by decide +kernel
theorem dX6_isCondition_26 : decode cX6_isCondition 26 = .ok (.sipush 1010, 3) := by decide +kernel
theorem dX6_isCondition_29 : decode cX6_isCondition 29 = .ok (.if_icmp .ne 10, 3) := by decide +kernel
theorem dX6_isCondition_32 : decode cX6_isCondition 32 = .ok (.aload_n 0, 1) := by decide +kernel
theorem dX6_isCondition_33 : decode cX6_isCondition 33 = .ok (.sipush 1010, 3) := by decide +kernel
theorem dX6_isCondition_36 : decode cX6_isCondition 36 = .ok (.invokevirtual 71, 3) := by decide +kernel
theorem dX6_isCondition_39 : decode cX6_isCondition 39 = .ok (.aload_n 0, 1) := by decide +kernel
theorem dX6_isCondition_40 : decode cX6_isCondition 40 = .ok (.getfield 45, 3) := by decide +kernel
theorem dX6_isCondition_43 : decode cX6_isCondition 43 = .ok (.invokevirtual 75, 3) := by decide +kernel
theorem dX6_isCondition_46 : decode cX6_isCondition 46 = .ok (.istore_n 2, 1) := by decide +kernel
theorem dX6_isCondition_47 : decode cX6_isCondition 47 = .ok (.iload_n 2, 1) := by decide +kernel
theorem dX6_isCondition_48 : decode cX6_isCondition 48 = .ok (.sipush 1010, 3) := by decide +kernel
theorem dX6_isCondition_51 : decode cX6_isCondition 51 = .ok (.if_icmp .eq 14, 3) := by decide +kernel
theorem dX6_isCondition_54 : decode cX6_isCondition 54 = .ok (.iload_n 3, 1) := by decide +kernel
theorem dX6_isCondition_55 : decode cX6_isCondition 55 = .ok (.ifCond .eq 10, 3) := by decide +kernel
theorem dX6_isCondition_58 : decode cX6_isCondition 58 = .ok (.aload_n 0, 1) := by decide +kernel
theorem dX6_isCondition_59 : decode cX6_isCondition 59 = .ok (.sipush 1011, 3) := by decide +kernel
theorem dX6_isCondition_62 : decode cX6_isCondition 62 = .ok (.invokevirtual 71, 3) := by decide +kernel
theorem dX6_isCondition_65 : decode cX6_isCondition 65 = .ok (.iload_n 2, 1) := by decide +kernel
theorem dX6_isCondition_66 : decode cX6_isCondition 66 = .ok (.sipush 1010, 3) := by decide +kernel
theorem dX6_isCondition_69 : decode cX6_isCondition 69 = .ok (.if_icmp .eq 12, 3) := by decide +kernel
theorem dX6_isCondition_72 : decode cX6_isCondition 72 = .ok (.iload_n 2, 1) := by decide +kernel
theorem dX6_isCondition_73 : decode cX6_isCondition 73 = .ok (.sipush 1011, 3) := by decide +kernel
theorem dX6_isCondition_76 : decode cX6_isCondition 76 = .ok (.if_icmp .eq 5, 3) := by decide +kernel
theorem dX6_isCondition_79 : decode cX6_isCondition 79 = .ok (.iconst 1, 1) := by decide +kernel
theorem dX6_isCondition_80 : decode cX6_isCondition 80 = .ok (.ireturn, 1) := by decide +kernel
theorem dX6_isCondition_81 : decode cX6_isCondition 81 = .ok (.iload_n 3, 1) := by decide +kernel
theorem dX6_isCondition_82 : decode cX6_isCondition 82 = .ok (.iload_n 2, 1) := by decide +kernel
theorem dX6_isCondition_83 : decode cX6_isCondition 83 = .ok (.sipush 1011, 3) := by decide +kernel
theorem dX6_isCondition_86 : decode cX6_isCondition 86 = .ok (.if_icmp .ne 7, 3) := by decide +kernel
theorem dX6_isCondition_89 : decode cX6_isCondition 89 = .ok (.iconst 1, 1) := by decide +kernel
theorem dX6_isCondition_90 : decode cX6_isCondition 90 = .ok (.goto 4, 3) := by decide +kernel
theorem dX6_isCondition_93 : decode cX6_isCondition 93 = .ok (.iconst 0, 1) := by decide +kernel
theorem dX6_isCondition_94 : decode cX6_isCondition 94 = .ok (.ior, 1) := by decide +kernel
theorem dX6_isCondition_95 : decode cX6_isCondition 95 = .ok (.istore_n 3, 1) := by decide +kernel
theorem dX6_isCondition_96 : decode cX6_isCondition 96 = .ok (.aload_n 0, 1) := by decide +kernel
theorem dX6_isCondition_97 : decode cX6_isCondition 97 = .ok (.getfield 45, 3) := by decide +kernel
theorem dX6_isCondition_100 : decode cX6_isCondition 100 = .ok (.invokevirtual 55, 3) := by decide +kernel
theorem dX6_isCondition_103 : decode cX6_isCondition 103 = .ok (.iinc 4 1, 3) := by decide +kernel
theorem dX6_isCondition_106 : decode cX6_isCondition 106 = .ok (.goto (-99), 3) := by decide +kernel
theorem dX6_isCondition_109 : decode cX6_isCondition 109 = .ok (.aload_n 0, 1) := by decide +kernel
theorem dX6_isCondition_110 : decode cX6_isCondition 110 = .ok (.getfield 45, 3) := by decide +kernel
theorem dX6_isCondition_113 : decode cX6_isCondition 113 = .ok (.invokevirtual 79, 3) := by decide +kernel
theorem dX6_isCondition_116 : decode cX6_isCondition 116 = .ok (.ireturn, 1) := by decide +kernel
theorem dX6_isAtom_0 : decode cX6_isAtom 0 = .ok (.aload_n 0, 1) := by decide +kernel
theorem dX6_isAtom_1 : decode cX6_isAtom 1 = .ok (.getfield 45, 3) := by decide +kernel
theorem dX6_isAtom_4 : decode cX6_isAtom 4 = .ok (.invokevirtual 75, 3) := by decide +kernel
theorem dX6_isAtom_7 : decode cX6_isAtom 7 = .ok (.istore_n 2, 1) := by decide +kernel
theorem dX6_isAtom_8 : decode cX6_isAtom 8 = .ok (.iload_n 2, 1) := by decide +kernel
theorem dX6_isAtom_9 : decode cX6_isAtom 9 = .ok (.sipush 1005, 3) := by decide +kernel
theorem dX6_isAtom_12 : decode cX6_isAtom 12 = .ok (.if_icmp .lt 24, 3) := by decide +kernel
theorem dX6_isAtom_15 : decode cX6_isAtom 15 = .ok (.iload_n 2, 1) := by decide +kernel
theorem dX6_isAtom_16 : decode cX6_isAtom 16 = .ok (.sipush 1008, 3) := by decide +kernel
theorem dX6_isAtom_19 : decode cX6_isAtom 19 = .ok (.if_icmp .gt 17, 3) := by decide +kernel
theorem dX6_isAtom_22 : decode cX6_isAtom 22 = .ok (.aload_n 0, 1) := by decide +kernel
theorem dX6_isAtom_23 : decode cX6_isAtom 23 = .ok (.iload_n 2, 1) := by decide +kernel
theorem dX6_isAtom_24 : decode cX6_isAtom 24 = .ok (.invokevirtual 71, 3) := by decide +kernel
theorem dX6_isAtom_27 : decode cX6_isAtom 27 = .ok (.aload_n 0, 1) := by decide +kernel
theorem dX6_isAtom_28 : decode cX6_isAtom 28 = .ok (.getfield 45, 3) := by decide +kernel
theorem dX6_isAtom_31 : decode cX6_isAtom 31 = .ok (.invokevirtual 55, 3) := by decide +kernel
theorem dX6_isAtom_34 : decode cX6_isAtom 34 = .ok (.iconst 1, 1) := by decide +kernel
theorem dX6_isAtom_35 : decode cX6_isAtom 35 = .ok (.ireturn, 1) := by decide +kernel
theorem dX6_isAtom_36 : decode cX6_isAtom 36 = .ok (.iload_n 2, 1) := by decide +kernel
theorem dX6_isAtom_37 : decode cX6_isAtom 37 = .ok (.sipush 1009, 3) := by decide +kernel
theorem dX6_isAtom_40 : decode cX6_isAtom 40 = .ok (.if_icmp .eq 15, 3) := by decide +kernel
theorem dX6_isAtom_43 : decode cX6_isAtom 43 = .ok (.iload_n 2, 1) := by decide +kernel
theorem dX6_isAtom_44 : decode cX6_isAtom 44 = .ok (.sipush 2040, 3) := by decide +kernel
theorem dX6_isAtom_47 : decode cX6_isAtom 47 = .ok (.if_icmp .eq 8, 3) := by decide +kernel
theorem dX6_isAtom_50 : decode cX6_isAtom 50 = .ok (.aload_n 0, 1) := by decide +kernel
theorem dX6_isAtom_51 : decode cX6_isAtom 51 = .ok (.invokevirtual 83, 3) := by decide +kernel
theorem dX6_isAtom_54 : decode cX6_isAtom 54 = .ok (.ireturn, 1) := by decide +kernel
theorem dX6_isAtom_55 : decode cX6_isAtom 55 = .ok (.iload_n 1, 1) := by decide +kernel
theorem dX6_isAtom_56 : decode cX6_isAtom 56 = .ok (.bipush 6, 2) := by decide +kernel
theorem dX6_isAtom_58 : decode cX6_isAtom 58 = .ok (.if_icmp .lt 11, 3) := by decide +kernel
theorem dX6_isAtom_61 : decode cX6_isAtom 61 = .ok (.aload_n 0, 1) := by decide +kernel
theorem dX6_isAtom_62 : decode cX6_isAtom 62 = .ok (.getfield 45, 3) := by decide +kernel
theorem dX6_isAtom_65 : decode cX6_isAtom 65 = .ok (.invokevirtual 79, 3) := by decide +kernel
theorem dX6_isAtom_68 : decode cX6_isAtom 68 = .ok (.ireturn, 1) := by decide +kernel
theorem dX6_isAtom_69 : decode cX6_isAtom 69 = .ok (.aload_n 0, 1) := by decide +kernel
theorem dX6_isAtom_70 : decode cX6_isAtom 70 = .ok (.getfield 45, 3) := by decide +kernel
theorem dX6_isAtom_73 : decode cX6_isAtom 73 = .ok (.invokevirtual 55, 3) := by decide +kernel
theorem dX6_isAtom_76 : decode cX6_isAtom 76 = .ok (.iload_n 2, 1) := by decide +kernel
theorem dX6_isAtom_77 : decode cX6_isAtom 77 = .ok (.sipush 2040, 3) := by decide +kernel
theorem dX6_isAtom_80 : decode cX6_isAtom 80 = .ok (.if_icmp .ne 32, 3) := by decide +kernel
theorem dX6_isAtom_83 : decode cX6_isAtom 83 = .ok (.aload_n 0, 1) := by decide +kernel
theorem dX6_isAtom_84 : decode cX6_isAtom 84 = .ok (.iload_n 1, 1) := by decide +kernel
theorem dX6_isAtom_85 : decode cX6_isAtom 85 = .ok (.iconst 1, 1) := by decide +kernel
theorem dX6_isAtom_86 : decode cX6_isAtom 86 = .ok (.iadd, 1) := by decide +kernel
theorem dX6_isAtom_87 : decode cX6_isAtom 87 = .ok (.invokevirtual 65, 3) := by decide +kernel
theorem dX6_isAtom_90 : decode cX6_isAtom 90 = .ok (.ifCond .eq 20, 3) := by decide +kernel
theorem dX6_isAtom_93 : decode cX6_isAtom 93 = .ok (.aload_n 0, 1) := by decide +kernel
theorem dX6_isAtom_94 : decode cX6_isAtom 94 = .ok (.getfield 45, 3) := by decide +kernel
theorem dX6_isAtom_97 : decode cX6_isAtom 97 = .ok (.sipush 2041, 3) := by decide +kernel
theorem dX6_isAtom_100 : decode cX6_isAtom 100 = .ok (.invokevirtual 59, 3) := by decide +kernel
theorem dX6_isAtom_103 : decode cX6_isAtom 103 = .ok (.ifCond .eq 7, 3) := by decide +kernel
theorem dX6_isAtom_106 : decode cX6_isAtom 106 = .ok (.iconst 1, 1) := by decide +kernel
theorem dX6_isAtom_107 : decode cX6_isAtom 107 = .ok (.goto 4, 3) := by decide +kernel
theorem dX6_isAtom_110 : decode cX6_isAtom 110 = .ok (.iconst 0, 1) := by decide +kernel
theorem dX6_isAtom_111 : decode cX6_isAtom 111 = .ok (.ireturn, 1) := by decide +kernel
theorem dX6_isAtom_112 : decode cX6_isAtom 112 = .ok (.aload_n 0, 1) := by decide +kernel
theorem dX6_isAtom_113 : decode cX6_isAtom 113 = .ok (.iload_n 1, 1) := by decide +kernel
theorem dX6_isAtom_114 : decode cX6_isAtom 114 = .ok (.iconst 1, 1) := by decide +kernel
theorem dX6_isAtom_115 : decode cX6_isAtom 115 = .ok (.iadd, 1) := by decide +kernel
theorem dX6_isAtom_116 : decode cX6_isAtom 116 = .ok (.invokevirtual 68, 3) := by decide +kernel
theorem dX6_isAtom_119 : decode cX6_isAtom 119 = .ok (.ifCond .ne 5, 3) := by decide +kernel
theorem dX6_isAtom_122 : decode cX6_isAtom 122 = .ok (.iconst 0, 1) := by decide +kernel
theorem dX6_isAtom_123 : decode cX6_isAtom 123 = .ok (.ireturn, 1) := by decide +kernel
theorem dX6_isAtom_124 : decode cX6_isAtom 124 = .ok (.aload_n 0, 1) := by decide +kernel
theorem dX6_isAtom_125 : decode cX6_isAtom 125 = .ok (.sipush 1009, 3) := by decide +kernel
theorem dX6_isAtom_128 : decode cX6_isAtom 128 = .ok (.invokevirtual 71, 3) := by decide +kernel
theorem dX6_isAtom_131 : decode cX6_isAtom 131 = .ok (.iconst 1, 1) := by decide +kernel
theorem dX6_isAtom_132 : decode cX6_isAtom 132 = .ok (.ireturn, 1) := by decide +kernel
theorem dX6_isComparison_0 : decode cX6_isComparison 0 = .ok (.aload_n 0, 1) := by decide +kernel
theorem dX6_isComparison_1 : decode cX6_isComparison 1 = .ok (.invokevirtual 86, 3) := by decide +kernel
theorem dX6_isComparison_4 : decode cX6_isComparison 4 = .ok (.ifCond .ne 5, 3) := by decide +kernel
theorem dX6_isComparison_7 : decode cX6_isComparison 7 = .ok (.iconst 0, 1) := by decide +kernel
theorem dX6_isComparison_8 : decode cX6_isComparison 8 = .ok (.ireturn, 1) := by decide +kernel
theorem dX6_isComparison_9 : decode cX6_isComparison 9 = .ok (.aload_n 0, 1) := by decide +kernel
theorem dX6_isComparison_10 : decode cX6_isComparison 10 = .ok (.getfield 45, 3) := by decide +kernel
theorem dX6_isComparison_13 : decode cX6_isComparison 13 = .ok (.invokevirtual 75, 3) := by decide +kernel
theorem dX6_isComparison_16 : decode cX6_isComparison 16 = .ok (.istore_n 1, 1) := by decide +kernel
theorem dX6_isComparison_17 : decode cX6_isComparison 17 = .ok (.iload_n 1, 1) := by decide +kernel
theorem dX6_isComparison_18 : decode cX6_isComparison 18 = .ok (.sipush 2060, 3) := by decide +kernel
theorem dX6_isComparison_21 : decode cX6_isComparison 21 = .ok (.if_icmp .eq 18, 3) := by decide +kernel
theorem dX6_isComparison_24 : decode cX6_isComparison 24 = .ok (.iload_n 1, 1) := by decide +kernel
theorem dX6_isComparison_25 : decode cX6_isComparison 25 = .ok (.sipush 2062, 3) := by decide +kernel
theorem dX6_isComparison_28 : decode cX6_isComparison 28 = .ok (.if_icmp .eq 11, 3) := by decide +kernel
theorem dX6_isComparison_31 : decode cX6_isComparison 31 = .ok (.aload_n 0, 1) := by decide +kernel
theorem dX6_isComparison_32 : decode cX6_isComparison 32 = .ok (.getfield 45, 3) := by decide +kernel
theorem dX6_isComparison_35 : decode cX6_isComparison 35 = .ok (.invokevirtual 79, 3) := by decide +kernel
theorem dX6_isComparison_38 : decode cX6_isComparison 38 = .ok (.ireturn, 1) := by decide +kernel
theorem dX6_isComparison_39 : decode cX6_isComparison 39 = .ok (.aload_n 0, 1) := by decide +kernel
theorem dX6_isComparison_40 : decode cX6_isComparison 40 = .ok (.getfield 45, 3) := by decide +kernel
theorem dX6_isComparison_43 : decode cX6_isComparison 43 = .ok (.invokevirtual 55, 3) := by decide +kernel
theorem dX6_isComparison_46 : decode cX6_isComparison 46 = .ok (.aload_n 0, 1) := by decide +kernel
theorem dX6_isComparison_47 : decode cX6_isComparison 47 = .ok (.invokevirtual 86, 3) := by decide +kernel
theorem dX6_isComparison_50 : decode cX6_isComparison 50 = .ok (.ifCond .ne 5, 3) := by decide +kernel
theorem dX6_isComparison_53 : decode cX6_isComparison 53 = .ok (.iconst 0, 1) := by decide +kernel
theorem dX6_isComparison_54 : decode cX6_isComparison 54 = .ok (.ireturn, 1) := by decide +kernel
theorem dX6_isComparison_55 : decode cX6_isComparison 55 = .ok (.aload_n 0, 1) := by decide +kernel
theorem dX6_isComparison_56 : decode cX6_isComparison 56 = .ok (.iload_n 1, 1) := by decide +kernel
theorem dX6_isComparison_57 : decode cX6_isComparison 57 = .ok (.invokevirtual 71, 3) := by decide +kernel
theorem dX6_isComparison_60 : decode cX6_isComparison 60 = .ok (.iconst 1, 1) := by decide +kernel
theorem dX6_isComparison_61 : decode cX6_isComparison 61 = .ok (.ireturn, 1) := by decide +kernel
theorem dX6_isSum_0 : decode cX6_isSum 0 = .ok (.iconst 0, 1) := by decide +kernel
theorem dX6_isSum_1 : decode cX6_isSum 1 = .ok (.istore_n 1, 1) := by decide +kernel
theorem dX6_isSum_2 : decode cX6_isSum 2 = .ok (.iload_n 1, 1) := by decide +kernel
theorem dX6_isSum_3 : decode cX6_isSum 3 = .ok (.sipush 400, 3) := by decide +kernel
theorem dX6_isSum_6 : decode cX6_isSum 6 = .ok (.if_icmp .ge 105, 3) := by decide +kernel
theorem dX6_isSum_9 : decode cX6_isSum 9 = .ok (.aload_n 0, 1) := by decide +kernel
theorem dX6_isSum_10 : decode cX6_isSum 10 = .ok (.getfield 45, 3) := by decide +kernel
theorem dX6_isSum_13 : decode cX6_isSum 13 = .ok (.invokevirtual 75, 3) := by decide +kernel
theorem dX6_isSum_16 : decode cX6_isSum 16 = .ok (.istore_n 2, 1) := by decide +kernel
theorem dX6_isSum_17 : decode cX6_isSum 17 = .ok (.iload_n 2, 1) := by decide +kernel
theorem dX6_isSum_18 : decode cX6_isSum 18 = .ok (.ifCond .lt 14, 3) := by decide +kernel
theorem dX6_isSum_21 : decode cX6_isSum 21 = .ok (.iload_n 2, 1) := by decide +kernel
theorem dX6_isSum_22 : decode cX6_isSum 22 = .ok (.sipush 999, 3) := by decide +kernel
theorem dX6_isSum_25 : decode cX6_isSum 25 = .ok (.if_icmp .gt 7, 3) := by decide +kernel
theorem dX6_isSum_28 : decode cX6_isSum 28 = .ok (.iconst 1, 1) := by decide +kernel
theorem dX6_isSum_29 : decode cX6_isSum 29 = .ok (.goto 4, 3) := by decide +kernel
theorem dX6_isSum_32 : decode cX6_isSum 32 = .ok (.iconst 0, 1) := by decide +kernel
theorem dX6_isSum_33 : decode cX6_isSum 33 = .ok (.istore_n 3, 1) := by decide +kernel
theorem dX6_isSum_34 : decode cX6_isSum 34 = .ok (.iload_n 3, 1) := by decide +kernel
theorem dX6_isSum_35 : decode cX6_isSum 35 = .ok (.ifCond .ne 25, 3) := by decide +kernel
theorem dX6_isSum_38 : decode cX6_isSum 38 = .ok (.iload_n 2, 1) := by decide +kernel
theorem dX6_isSum_39 : decode cX6_isSum 39 = .ok (.sipush 1000, 3) := by decide +kernel
theorem dX6_isSum_42 : decode cX6_isSum 42 = .ok (.if_icmp .lt 10, 3) := by decide +kernel
theorem dX6_isSum_45 : decode cX6_isSum 45 = .ok (.iload_n 2, 1) := by decide +kernel
theorem dX6_isSum_46 : decode cX6_isSum 46 = .ok (.sipush 1004, 3) := by decide +kernel
theorem dX6_isSum_49 : decode cX6_isSum 49 = .ok (.if_icmp .le 11, 3) := by decide +kernel
theorem dX6_isSum_52 : decode cX6_isSum 52 = .ok (.aload_n 0, 1) := by decide +kernel
theorem dX6_isSum_53 : decode cX6_isSum 53 = .ok (.getfield 45, 3) := by decide +kernel
theorem dX6_isSum_56 : decode cX6_isSum 56 = .ok (.invokevirtual 79, 3) := by decide +kernel
theorem dX6_isSum_59 : decode cX6_isSum 59 = .ok (.ireturn, 1) := by decide +kernel
theorem dX6_isSum_60 : decode cX6_isSum 60 = .ok (.aload_n 0, 1) := by decide +kernel
theorem dX6_isSum_61 : decode cX6_isSum 61 = .ok (.iload_n 2, 1) := by decide +kernel
theorem dX6_isSum_62 : decode cX6_isSum 62 = .ok (.invokevirtual 71, 3) := by decide +kernel
theorem dX6_isSum_65 : decode cX6_isSum 65 = .ok (.iload_n 1, 1) := by decide +kernel
theorem dX6_isSum_66 : decode cX6_isSum 66 = .ok (.ifCond .le 10, 3) := by decide +kernel
theorem dX6_isSum_69 : decode cX6_isSum 69 = .ok (.aload_n 0, 1) := by decide +kernel
theorem dX6_isSum_70 : decode cX6_isSum 70 = .ok (.sipush 2043, 3) := by decide +kernel
theorem dX6_isSum_73 : decode cX6_isSum 73 = .ok (.invokevirtual 71, 3) := by decide +kernel
theorem dX6_isSum_76 : decode cX6_isSum 76 = .ok (.aload_n 0, 1) := by decide +kernel
theorem dX6_isSum_77 : decode cX6_isSum 77 = .ok (.getfield 45, 3) := by decide +kernel
theorem dX6_isSum_80 : decode cX6_isSum 80 = .ok (.invokevirtual 55, 3) := by decide +kernel
theorem dX6_isSum_83 : decode cX6_isSum 83 = .ok (.aload_n 0, 1) := by decide +kernel
theorem dX6_isSum_84 : decode cX6_isSum 84 = .ok (.getfield 45, 3) := by decide +kernel
theorem dX6_isSum_87 : decode cX6_isSum 87 = .ok (.sipush 2043, 3) := by decide +kernel
theorem dX6_isSum_90 : decode cX6_isSum 90 = .ok (.invokevirtual 49, 3) := by decide +kernel
theorem dX6_isSum_93 : decode cX6_isSum 93 = .ok (.ifCond .ne 5, 3) := by decide +kernel
theorem dX6_isSum_96 : decode cX6_isSum 96 = .ok (.iconst 1, 1) := by decide +kernel
theorem dX6_isSum_97 : decode cX6_isSum 97 = .ok (.ireturn, 1) := by decide +kernel
theorem dX6_isSum_98 : decode cX6_isSum 98 = .ok (.aload_n 0, 1) := by decide +kernel
theorem dX6_isSum_99 : decode cX6_isSum 99 = .ok (.getfield 45, 3) := by decide +kernel
theorem dX6_isSum_102 : decode cX6_isSum 102 = .ok (.invokevirtual 55, 3) := by decide +kernel
theorem dX6_isSum_105 : decode cX6_isSum 105 = .ok (.iinc 1 1, 3) := by decide +kernel
theorem dX6_isSum_108 : decode cX6_isSum 108 = .ok (.goto (-106), 3) := by decide +kernel
theorem dX6_isSum_111 : decode cX6_isSum 111 = .ok (.aload_n 0, 1) := by decide +kernel
theorem dX6_isSum_112 : decode cX6_isSum 112 = .ok (.getfield 45, 3) := by decide +kernel
theorem dX6_isSum_115 : decode cX6_isSum 115 = .ok (.invokevirtual 79, 3) := by decide +kernel
theorem dX6_isSum_118 : decode cX6_isSum 118 = .ok (.ireturn, 1) := by decide +kernel
theorem dX6_emit_0 : decode cX6_emit 0 = .ok (.aload_n 0, 1) := by decide +kernel
theorem dX6_emit_1 : decode cX6_emit 1 = .ok (.getfield 25, 3) := by decide +kernel
theorem dX6_emit_4 : decode cX6_emit 4 = .ok (.ifCond .lt 35, 3) := by decide +kernel
theorem dX6_emit_7 : decode cX6_emit 7 = .ok (.aload_n 0, 1) := by decide +kernel
theorem dX6_emit_8 : decode cX6_emit 8 = .ok (.getfield 25, 3) := by decide +kernel
theorem dX6_emit_11 : decode cX6_emit 11 = .ok (.aload_n 0, 1) := by decide +kernel
theorem dX6_emit_12 : decode cX6_emit 12 = .ok (.getfield 18, 3) := by decide +kernel
theorem dX6_emit_15 : decode cX6_emit 15 = .ok (.arraylength, 1) := by decide +kernel
theorem dX6_emit_16 : decode cX6_emit 16 = .ok (.if_icmp .ge 23, 3) := by decide +kernel
theorem dX6_emit_19 : decode cX6_emit 19 = .ok (.aload_n 0, 1) := by decide +kernel
theorem dX6_emit_20 : decode cX6_emit 20 = .ok (.getfield 18, 3) := by decide +kernel
theorem dX6_emit_23 : decode cX6_emit 23 = .ok (.aload_n 0, 1) := by decide +kernel
theorem dX6_emit_24 : decode cX6_emit 24 = .ok (.getfield 25, 3) := by decide +kernel
theorem dX6_emit_27 : decode cX6_emit 27 = .ok (.iload_n 1, 1) := by decide +kernel
theorem dX6_emit_28 : decode cX6_emit 28 = .ok (.iastore, 1) := by decide +kernel
theorem dX6_emit_29 : decode cX6_emit 29 = .ok (.aload_n 0, 1) := by decide +kernel
theorem dX6_emit_30 : decode cX6_emit 30 = .ok (.dup, 1) := by decide +kernel
theorem dX6_emit_31 : decode cX6_emit 31 = .ok (.getfield 25, 3) := by decide +kernel
theorem dX6_emit_34 : decode cX6_emit 34 = .ok (.iconst 1, 1) := by decide +kernel
theorem dX6_emit_35 : decode cX6_emit 35 = .ok (.iadd, 1) := by decide +kernel
theorem dX6_emit_36 : decode cX6_emit 36 = .ok (.putfield 25, 3) := by decide +kernel
theorem dX6_emit_39 : decode cX6_emit 39 = .ok (.return_, 1) := by decide +kernel
theorem dX7_init_0 : decode cX7_init 0 = .ok (.aload_n 0, 1) := by decide +kernel
theorem dX7_init_1 : decode cX7_init 1 = .ok (.invokespecial 3, 3) := by decide +kernel
theorem dX7_init_4 : decode cX7_init 4 = .ok (.aload_n 0, 1) := by decide +kernel
theorem dX7_init_5 : decode cX7_init 5 = .ok (.aload_n 1, 1) := by decide +kernel
theorem dX7_init_6 : decode cX7_init 6 = .ok (.putfield 9, 3) := by decide +kernel
theorem dX7_init_9 : decode cX7_init 9 = .ok (.aload_n 0, 1) := by decide +kernel
theorem dX7_init_10 : decode cX7_init 10 = .ok (.iload_n 2, 1) := by decide +kernel
theorem dX7_init_11 : decode cX7_init 11 = .ok (.putfield 15, 3) := by decide +kernel
theorem dX7_init_14 : decode cX7_init 14 = .ok (.return_, 1) := by decide +kernel
theorem dX7_isRead_0 : decode cX7_isRead 0 = .ok (.aload_n 0, 1) := by decide +kernel
theorem dX7_isRead_1 : decode cX7_isRead 1 = .ok (.getfield 9, 3) := by decide +kernel
theorem dX7_isRead_4 : decode cX7_isRead 4 = .ok (.invokevirtual 19, 3) := by decide +kernel
theorem dX7_isRead_7 : decode cX7_isRead 7 = .ok (.aload_n 0, 1) := by decide +kernel
theorem dX7_isRead_8 : decode cX7_isRead 8 = .ok (.getfield 9, 3) := by decide +kernel
theorem dX7_isRead_11 : decode cX7_isRead 11 = .ok (.sipush 3000, 3) := by decide +kernel
theorem dX7_isRead_14 : decode cX7_isRead 14 = .ok (.invokevirtual 24, 3) := by decide +kernel
theorem dX7_isRead_17 : decode cX7_isRead 17 = .ok (.ifCond .eq 5, 3) := by decide +kernel
theorem dX7_isRead_20 : decode cX7_isRead 20 = .ok (.iconst 1, 1) := by decide +kernel
theorem dX7_isRead_21 : decode cX7_isRead 21 = .ok (.ireturn, 1) := by decide +kernel
theorem dX7_isRead_22 : decode cX7_isRead 22 = .ok (.iconst 0, 1) := by decide +kernel
theorem dX7_isRead_23 : decode cX7_isRead 23 = .ok (.istore_n 1, 1) := by decide +kernel
theorem dX7_isRead_24 : decode cX7_isRead 24 = .ok (.iload_n 1, 1) := by decide +kernel
theorem dX7_isRead_25 : decode cX7_isRead 25 = .ok (.aload_n 0, 1) := by decide +kernel
theorem dX7_isRead_26 : decode cX7_isRead 26 = .ok (.getfield 15, 3) := by decide +kernel
theorem dX7_isRead_29 : decode cX7_isRead 29 = .ok (.if_icmp .ge 48, 3) := by decide +kernel
theorem dX7_isRead_32 : decode cX7_isRead 32 = .ok (.aload_n 0, 1) := by decide +kernel
theorem dX7_isRead_33 : decode cX7_isRead 33 = .ok (.invokevirtual 28, 3) := by decide +kernel
theorem dX7_isRead_36 : decode cX7_isRead 36 = .ok (.ifCond .ne 5, 3) := by decide +kernel
theorem dX7_isRead_39 : decode cX7_isRead 39 = .ok (.iconst 0, 1) := by decide +kernel
theorem dX7_isRead_40 : decode cX7_isRead 40 = .ok (.ireturn, 1) := by decide +kernel
theorem dX7_isRead_41 : decode cX7_isRead 41 = .ok (.aload_n 0, 1) := by decide +kernel
theorem dX7_isRead_42 : decode cX7_isRead 42 = .ok (.getfield 9, 3) := by decide +kernel
theorem dX7_isRead_45 : decode cX7_isRead 45 = .ok (.sipush 3000, 3) := by decide +kernel
theorem dX7_isRead_48 : decode cX7_isRead 48 = .ok (.invokevirtual 24, 3) := by decide +kernel
theorem dX7_isRead_51 : decode cX7_isRead 51 = .ok (.ifCond .eq 5, 3) := by decide +kernel
theorem dX7_isRead_54 : decode cX7_isRead 54 = .ok (.iconst 1, 1) := by decide +kernel
theorem dX7_isRead_55 : decode cX7_isRead 55 = .ok (.ireturn, 1) := by decide +kernel
theorem dX7_isRead_56 : decode cX7_isRead 56 = .ok (.aload_n 0, 1) := by decide +kernel
theorem dX7_isRead_57 : decode cX7_isRead 57 = .ok (.getfield 9, 3) := by decide +kernel
theorem dX7_isRead_60 : decode cX7_isRead 60 = .ok (.sipush 2059, 3) := by decide +kernel
theorem dX7_isRead_63 : decode cX7_isRead 63 = .ok (.invokevirtual 32, 3) := by decide +kernel
theorem dX7_isRead_66 : decode cX7_isRead 66 = .ok (.ifCond .ne 5, 3) := by decide +kernel
theorem dX7_isRead_69 : decode cX7_isRead 69 = .ok (.iconst 0, 1) := by decide +kernel
theorem dX7_isRead_70 : decode cX7_isRead 70 = .ok (.ireturn, 1) := by decide +kernel
theorem dX7_isRead_71 : decode cX7_isRead 71 = .ok (.iinc 1 1, 3) := by decide +kernel
theorem dX7_isRead_74 : decode cX7_isRead 74 = .ok (.goto (-50), 3) := by decide +kernel
theorem dX7_isRead_77 : decode cX7_isRead 77 = .ok (.aload_n 0, 1) := by decide +kernel
theorem dX7_isRead_78 : decode cX7_isRead 78 = .ok (.getfield 9, 3) := by decide +kernel
theorem dX7_isRead_81 : decode cX7_isRead 81 = .ok (.invokevirtual 35, 3) := by decide +kernel
theorem dX7_isRead_84 : decode cX7_isRead 84 = .ok (.ireturn, 1) := by decide +kernel
theorem dX8_init_0 : decode cX8_init 0 = .ok (.aload_n 0, 1) := by decide +kernel
theorem dX8_init_1 : decode cX8_init 1 = .ok (.invokespecial 3, 3) := by decide +kernel
theorem dX8_init_4 : decode cX8_init 4 = .ok (.aload_n 0, 1) := by decide +kernel
theorem dX8_init_5 : decode cX8_init 5 = .ok (.bipush 12, 2) := by decide +kernel
theorem dX8_init_7 : decode cX8_init 7 = .ok (.anewarray 9, 3) := by decide +kernel
theorem dX8_init_10 : decode cX8_init 10 = .ok (.putfield 11, 3) := by decide +kernel
theorem dX8_init_13 : decode cX8_init 13 = .ok (.iconst 0, 1) := by decide +kernel
theorem dX8_init_14 : decode cX8_init 14 = .ok (.istore_n 1, 1) := by decide +kernel
theorem dX8_init_15 : decode cX8_init 15 = .ok (.iload_n 1, 1) := by decide +kernel
theorem dX8_init_16 : decode cX8_init 16 = .ok (.bipush 12, 2) := by decide +kernel
theorem dX8_init_18 : decode cX8_init 18 = .ok (.if_icmp .ge 22, 3) := by decide +kernel
theorem dX8_init_21 : decode cX8_init 21 = .ok (.aload_n 0, 1) := by decide +kernel
theorem dX8_init_22 : decode cX8_init 22 = .ok (.getfield 11, 3) := by decide +kernel
theorem dX8_init_25 : decode cX8_init 25 = .ok (.iload_n 1, 1) := by decide +kernel
theorem dX8_init_26 : decode cX8_init 26 = .ok (.new 9, 3) := by decide +kernel
theorem dX8_init_29 : decode cX8_init 29 = .ok (.dup, 1) := by decide +kernel
theorem dX8_init_30 : decode cX8_init 30 = .ok (.invokespecial 17, 3) := by decide +kernel
theorem dX8_init_33 : decode cX8_init 33 = .ok (.aastore, 1) := by decide +kernel
theorem dX8_init_34 : decode cX8_init 34 = .ok (.iinc 1 1, 3) := by decide +kernel
theorem dX8_init_37 : decode cX8_init 37 = .ok (.goto (-22), 3) := by decide +kernel
theorem dX8_init_40 : decode cX8_init 40 = .ok (.return_, 1) := by decide +kernel
theorem dX8_latestLand_0 : decode cX8_latestLand 0 = .ok (.aload_n 0, 1) := by decide +kernel
theorem dX8_latestLand_1 : decode cX8_latestLand 1 = .ok (.getfield 11, 3) := by decide +kernel
theorem dX8_latestLand_4 : decode cX8_latestLand 4 = .ok (.aload_n 0, 1) := by decide +kernel
theorem dX8_latestLand_5 : decode cX8_latestLand 5 = .ok (.getfield 18, 3) := by decide +kernel
theorem dX8_latestLand_8 : decode cX8_latestLand 8 = .ok (.bipush 12, 2) := by decide +kernel
theorem dX8_latestLand_10 : decode cX8_latestLand 10 = .ok (.invokestatic 22, 3) := by decide +kernel
theorem dX8_latestLand_13 : decode cX8_latestLand 13 = .ok (.aaload, 1) := by decide +kernel
theorem dX8_latestLand_14 : decode cX8_latestLand 14 = .ok (.areturn, 1) := by decide +kernel
theorem dX8_remember_0 : decode cX8_remember 0 = .ok (.aload_n 0, 1) := by decide +kernel
theorem dX8_remember_1 : decode cX8_remember 1 = .ok (.aload_n 0, 1) := by decide +kernel
theorem dX8_remember_2 : decode cX8_remember 2 = .ok (.getfield 18, 3) := by decide +kernel
theorem dX8_remember_5 : decode cX8_remember 5 = .ok (.iconst 1, 1) := by decide +kernel
theorem dX8_remember_6 : decode cX8_remember 6 = .ok (.iadd, 1) := by decide +kernel
theorem dX8_remember_7 : decode cX8_remember 7 = .ok (.bipush 12, 2) := by decide +kernel
theorem dX8_remember_9 : decode cX8_remember 9 = .ok (.irem, 1) := by decide +kernel
theorem dX8_remember_10 : decode cX8_remember 10 = .ok (.putfield 18, 3) := by decide +kernel
theorem dX8_remember_13 : decode cX8_remember 13 = .ok (.aload_n 0, 1) := by decide +kernel
theorem dX8_remember_14 : decode cX8_remember 14 = .ok (.bipush 12, 2) := by decide +kernel
theorem dX8_remember_16 : decode cX8_remember 16 = .ok (.aload_n 0, 1) := by decide +kernel
theorem dX8_remember_17 : decode cX8_remember 17 = .ok (.getfield 28, 3) := by decide +kernel
theorem dX8_remember_20 : decode cX8_remember 20 = .ok (.iconst 1, 1) := by decide +kernel
theorem dX8_remember_21 : decode cX8_remember 21 = .ok (.iadd, 1) := by decide +kernel
theorem dX8_remember_22 : decode cX8_remember 22 = .ok (.invokestatic 31, 3) := by decide +kernel
theorem dX8_remember_25 : decode cX8_remember 25 = .ok (.putfield 28, 3) := by decide +kernel
theorem dX8_remember_28 : decode cX8_remember 28 = .ok (.aload_n 0, 1) := by decide +kernel
theorem dX8_remember_29 : decode cX8_remember 29 = .ok (.invokevirtual 34, 3) := by decide +kernel
theorem dX8_remember_32 : decode cX8_remember 32 = .ok (.aload_n 1, 1) := by decide +kernel
theorem dX8_remember_33 : decode cX8_remember 33 = .ok (.invokevirtual 38, 3) := by decide +kernel
theorem dX8_remember_36 : decode cX8_remember 36 = .ok (.return_, 1) := by decide +kernel
theorem dX8_forgetLatest_0 : decode cX8_forgetLatest 0 = .ok (.aload_n 0, 1) := by decide +kernel
theorem dX8_forgetLatest_1 : decode cX8_forgetLatest 1 = .ok (.aload_n 0, 1) := by decide +kernel
theorem dX8_forgetLatest_2 : decode cX8_forgetLatest 2 = .ok (.getfield 18, 3) := by decide +kernel
theorem dX8_forgetLatest_5 : decode cX8_forgetLatest 5 = .ok (.bipush 12, 2) := by decide +kernel
theorem dX8_forgetLatest_7 : decode cX8_forgetLatest 7 = .ok (.iadd, 1) := by decide +kernel
theorem dX8_forgetLatest_8 : decode cX8_forgetLatest 8 = .ok (.iconst 1, 1) := by decide +kernel
theorem dX8_forgetLatest_9 : decode cX8_forgetLatest 9 = .ok (.isub, 1) := by decide +kernel
theorem dX8_forgetLatest_10 : decode cX8_forgetLatest 10 = .ok (.bipush 12, 2) := by decide +kernel
theorem dX8_forgetLatest_12 : decode cX8_forgetLatest 12 = .ok (.irem, 1) := by decide +kernel
theorem dX8_forgetLatest_13 : decode cX8_forgetLatest 13 = .ok (.putfield 18, 3) := by decide +kernel
theorem dX8_forgetLatest_16 : decode cX8_forgetLatest 16 = .ok (.aload_n 0, 1) := by decide +kernel
theorem dX8_forgetLatest_17 : decode cX8_forgetLatest 17 = .ok (.iconst 0, 1) := by decide +kernel
theorem dX8_forgetLatest_18 : decode cX8_forgetLatest 18 = .ok (.aload_n 0, 1) := by decide +kernel
theorem dX8_forgetLatest_19 : decode cX8_forgetLatest 19 = .ok (.getfield 28, 3) := by decide +kernel
theorem dX8_forgetLatest_22 : decode cX8_forgetLatest 22 = .ok (.iconst 1, 1) := by decide +kernel
theorem dX8_forgetLatest_23 : decode cX8_forgetLatest 23 = .ok (.isub, 1) := by decide +kernel
theorem dX8_forgetLatest_24 : decode cX8_forgetLatest 24 = .ok (.invokestatic 42, 3) := by decide +kernel
theorem dX8_forgetLatest_27 : decode cX8_forgetLatest 27 = .ok (.putfield 28, 3) := by decide +kernel
theorem dX8_forgetLatest_30 : decode cX8_forgetLatest 30 = .ok (.return_, 1) := by decide +kernel
theorem dX9_init_0 : decode cX9_init 0 = .ok (.aload_n 0, 1) := by decide +kernel
theorem dX9_init_1 : decode cX9_init 1 = .ok (.invokespecial 3, 3) := by decide +kernel
theorem dX9_init_4 : decode cX9_init 4 = .ok (.aload_n 0, 1) := by decide +kernel
theorem dX9_init_5 : decode cX9_init 5 = .ok (.sipush 400, 3) := by decide +kernel
theorem dX9_init_8 : decode cX9_init 8 = .ok (.newarray .byte, 2) := by decide +kernel
theorem dX9_init_10 : decode cX9_init 10 = .ok (.putfield 9, 3) := by decide +kernel
theorem dX9_init_13 : decode cX9_init 13 = .ok (.aload_n 0, 1) := by decide +kernel
theorem dX9_init_14 : decode cX9_init 14 = .ok (.sipush 401, 3) := by decide +kernel
theorem dX9_init_17 : decode cX9_init 17 = .ok (.newarray .int, 2) := by decide +kernel
theorem dX9_init_19 : decode cX9_init 19 = .ok (.putfield 15, 3) := by decide +kernel
theorem dX9_init_22 : decode cX9_init 22 = .ok (.aload_n 0, 1) := by decide +kernel
theorem dX9_init_23 : decode cX9_init 23 = .ok (.sipush 401, 3) := by decide +kernel
theorem dX9_init_26 : decode cX9_init 26 = .ok (.newarray .int, 2) := by decide +kernel
theorem dX9_init_28 : decode cX9_init 28 = .ok (.putfield 19, 3) := by decide +kernel
theorem dX9_init_31 : decode cX9_init 31 = .ok (.return_, 1) := by decide +kernel
theorem dX9_add_0 : decode cX9_add 0 = .ok (.iconst 3, 1) := by decide +kernel
theorem dX9_add_1 : decode cX9_add 1 = .ok (.istore_n 2, 1) := by decide +kernel
theorem dX9_add_2 : decode cX9_add 2 = .ok (.iload_n 2, 1) := by decide +kernel
theorem dX9_add_3 : decode cX9_add 3 = .ok (.ifCond .lt 47, 3) := by decide +kernel
theorem dX9_add_6 : decode cX9_add 6 = .ok (.aload_n 0, 1) := by decide +kernel
theorem dX9_add_7 : decode cX9_add 7 = .ok (.getfield 22, 3) := by decide +kernel
theorem dX9_add_10 : decode cX9_add 10 = .ok (.aload_n 0, 1) := by decide +kernel
theorem dX9_add_11 : decode cX9_add 11 = .ok (.getfield 9, 3) := by decide +kernel
theorem dX9_add_14 : decode cX9_add 14 = .ok (.arraylength, 1) := by decide +kernel
theorem dX9_add_15 : decode cX9_add 15 = .ok (.if_icmp .ge 35, 3) := by decide +kernel
theorem dX9_add_18 : decode cX9_add 18 = .ok (.aload_n 0, 1) := by decide +kernel
theorem dX9_add_19 : decode cX9_add 19 = .ok (.getfield 9, 3) := by decide +kernel
theorem dX9_add_22 : decode cX9_add 22 = .ok (.aload_n 0, 1) := by decide +kernel
theorem dX9_add_23 : decode cX9_add 23 = .ok (.getfield 22, 3) := by decide +kernel
theorem dX9_add_26 : decode cX9_add 26 = .ok (.iload_n 1, 1) := by decide +kernel
theorem dX9_add_27 : decode cX9_add 27 = .ok (.bipush 8, 2) := by decide +kernel
theorem dX9_add_29 : decode cX9_add 29 = .ok (.iload_n 2, 1) := by decide +kernel
theorem dX9_add_30 : decode cX9_add 30 = .ok (.imul, 1) := by decide +kernel
theorem dX9_add_31 : decode cX9_add 31 = .ok (.ishr, 1) := by decide +kernel
theorem dX9_add_32 : decode cX9_add 32 = .ok (.i2b, 1) := by decide +kernel
theorem dX9_add_33 : decode cX9_add 33 = .ok (.bastore, 1) := by decide +kernel
theorem dX9_add_34 : decode cX9_add 34 = .ok (.aload_n 0, 1) := by decide +kernel
theorem dX9_add_35 : decode cX9_add 35 = .ok (.dup, 1) := by decide +kernel
theorem dX9_add_36 : decode cX9_add 36 = .ok (.getfield 22, 3) := by decide +kernel
theorem dX9_add_39 : decode cX9_add 39 = .ok (.iconst 1, 1) := by decide +kernel
theorem dX9_add_40 : decode cX9_add 40 = .ok (.iadd, 1) := by decide +kernel
theorem dX9_add_41 : decode cX9_add 41 = .ok (.putfield 22, 3) := by decide +kernel
theorem dX9_add_44 : decode cX9_add 44 = .ok (.iinc 2 (-1), 3) := by decide +kernel
theorem dX9_add_47 : decode cX9_add 47 = .ok (.goto (-45), 3) := by decide +kernel
theorem dX9_add_50 : decode cX9_add 50 = .ok (.return_, 1) := by decide +kernel
theorem dX9_byteAt_0 : decode cX9_byteAt 0 = .ok (.iload_n 1, 1) := by decide +kernel
theorem dX9_byteAt_1 : decode cX9_byteAt 1 = .ok (.ifCond .lt 33, 3) := by decide +kernel
theorem dX9_byteAt_4 : decode cX9_byteAt 4 = .ok (.iload_n 1, 1) := by decide +kernel
theorem dX9_byteAt_5 : decode cX9_byteAt 5 = .ok (.aload_n 0, 1) := by decide +kernel
theorem dX9_byteAt_6 : decode cX9_byteAt 6 = .ok (.getfield 22, 3) := by decide +kernel
theorem dX9_byteAt_9 : decode cX9_byteAt 9 = .ok (.if_icmp .ge 25, 3) := by decide +kernel
theorem dX9_byteAt_12 : decode cX9_byteAt 12 = .ok (.iload_n 1, 1) := by decide +kernel
theorem dX9_byteAt_13 : decode cX9_byteAt 13 = .ok (.aload_n 0, 1) := by decide +kernel
theorem dX9_byteAt_14 : decode cX9_byteAt 14 = .ok (.getfield 9, 3) := by decide +kernel
theorem dX9_byteAt_17 : decode cX9_byteAt 17 = .ok (.arraylength, 1) := by decide +kernel
theorem dX9_byteAt_18 : decode cX9_byteAt 18 = .ok (.if_icmp .ge 16, 3) := by decide +kernel
theorem dX9_byteAt_21 : decode cX9_byteAt 21 = .ok (.aload_n 0, 1) := by decide +kernel
theorem dX9_byteAt_22 : decode cX9_byteAt 22 = .ok (.getfield 9, 3) := by decide +kernel
theorem dX9_byteAt_25 : decode cX9_byteAt 25 = .ok (.iload_n 1, 1) := by decide +kernel
theorem dX9_byteAt_26 : decode cX9_byteAt 26 = .ok (.baload, 1) := by decide +kernel
theorem dX9_byteAt_27 : decode cX9_byteAt 27 = .ok (.sipush 255, 3) := by decide +kernel
theorem dX9_byteAt_30 : decode cX9_byteAt 30 = .ok (.iand, 1) := by decide +kernel
theorem dX9_byteAt_31 : decode cX9_byteAt 31 = .ok (.goto 4, 3) := by decide +kernel
theorem dX9_byteAt_34 : decode cX9_byteAt 34 = .ok (.iconst (-1), 1) := by decide +kernel
theorem dX9_byteAt_35 : decode cX9_byteAt 35 = .ok (.ireturn, 1) := by decide +kernel
theorem dX9_cut_0 : decode cX9_cut 0 = .ok (.iconst 0, 1) := by decide +kernel
theorem dX9_cut_1 : decode cX9_cut 1 = .ok (.istore_n 1, 1) := by decide +kernel
theorem dX9_cut_2 : decode cX9_cut 2 = .ok (.aload_n 0, 1) := by decide +kernel
theorem dX9_cut_3 : decode cX9_cut 3 = .ok (.iconst 0, 1) := by decide +kernel
theorem dX9_cut_4 : decode cX9_cut 4 = .ok (.invokevirtual 26, 3) := by decide +kernel
theorem dX9_cut_7 : decode cX9_cut 7 = .ok (.istore_n 2, 1) := by decide +kernel
theorem dX9_cut_8 : decode cX9_cut 8 = .ok (.iload_n 2, 1) := by decide +kernel
