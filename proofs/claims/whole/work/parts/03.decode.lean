theorem dX0_init_0 : decode cX0_init 0 = .ok (.aload_n 0, 1) := by decide +kernel
theorem dX0_init_1 : decode cX0_init 1 = .ok (.invokespecial 3, 3) := by decide +kernel
theorem dX0_init_4 : decode cX0_init 4 = .ok (.aload_n 0, 1) := by decide +kernel
theorem dX0_init_5 : decode cX0_init 5 = .ok (.bipush 6, 2) := by decide +kernel
theorem dX0_init_7 : decode cX0_init 7 = .ok (.newarray .long, 2) := by decide +kernel
theorem dX0_init_9 : decode cX0_init 9 = .ok (.putfield 9, 3) := by decide +kernel
theorem dX0_init_12 : decode cX0_init 12 = .ok (.aload_n 0, 1) := by decide +kernel
theorem dX0_init_13 : decode cX0_init 13 = .ok (.sipush 240, 3) := by decide +kernel
theorem dX0_init_16 : decode cX0_init 16 = .ok (.newarray .long, 2) := by decide +kernel
theorem dX0_init_18 : decode cX0_init 18 = .ok (.putfield 15, 3) := by decide +kernel
theorem dX0_init_21 : decode cX0_init 21 = .ok (.return_, 1) := by decide +kernel
theorem dX0_clear_0 : decode cX0_clear 0 = .ok (.aload_n 0, 1) := by decide +kernel
theorem dX0_clear_1 : decode cX0_clear 1 = .ok (.getfield 9, 3) := by decide +kernel
theorem dX0_clear_4 : decode cX0_clear 4 = .ok (.lconst 0, 1) := by decide +kernel
theorem dX0_clear_5 : decode cX0_clear 5 = .ok (.invokestatic 18, 3) := by decide +kernel
theorem dX0_clear_8 : decode cX0_clear 8 = .ok (.aload_n 0, 1) := by decide +kernel
theorem dX0_clear_9 : decode cX0_clear 9 = .ok (.iconst 0, 1) := by decide +kernel
theorem dX0_clear_10 : decode cX0_clear 10 = .ok (.putfield 24, 3) := by decide +kernel
theorem dX0_clear_13 : decode cX0_clear 13 = .ok (.aload_n 0, 1) := by decide +kernel
theorem dX0_clear_14 : decode cX0_clear 14 = .ok (.iconst 0, 1) := by decide +kernel
theorem dX0_clear_15 : decode cX0_clear 15 = .ok (.putfield 28, 3) := by decide +kernel
theorem dX0_clear_18 : decode cX0_clear 18 = .ok (.return_, 1) := by decide +kernel
theorem dX0_become_0 : decode cX0_become 0 = .ok (.aload_n 0, 1) := by decide +kernel
theorem dX0_become_1 : decode cX0_become 1 = .ok (.aload_n 1, 1) := by decide +kernel
theorem dX0_become_2 : decode cX0_become 2 = .ok (.getfield 24, 3) := by decide +kernel
theorem dX0_become_5 : decode cX0_become 5 = .ok (.putfield 24, 3) := by decide +kernel
theorem dX0_become_8 : decode cX0_become 8 = .ok (.aload_n 0, 1) := by decide +kernel
theorem dX0_become_9 : decode cX0_become 9 = .ok (.aload_n 1, 1) := by decide +kernel
theorem dX0_become_10 : decode cX0_become 10 = .ok (.getfield 28, 3) := by decide +kernel
theorem dX0_become_13 : decode cX0_become 13 = .ok (.putfield 28, 3) := by decide +kernel
theorem dX0_become_16 : decode cX0_become 16 = .ok (.aload_n 1, 1) := by decide +kernel
theorem dX0_become_17 : decode cX0_become 17 = .ok (.getfield 9, 3) := by decide +kernel
theorem dX0_become_20 : decode cX0_become 20 = .ok (.iconst 0, 1) := by decide +kernel
theorem dX0_become_21 : decode cX0_become 21 = .ok (.aload_n 0, 1) := by decide +kernel
theorem dX0_become_22 : decode cX0_become 22 = .ok (.getfield 9, 3) := by decide +kernel
theorem dX0_become_25 : decode cX0_become 25 = .ok (.iconst 0, 1) := by decide +kernel
theorem dX0_become_26 : decode cX0_become 26 = .ok (.aload_n 0, 1) := by decide +kernel
theorem dX0_become_27 : decode cX0_become 27 = .ok (.getfield 9, 3) := by decide +kernel
theorem dX0_become_30 : decode cX0_become 30 = .ok (.arraylength, 1) := by decide +kernel
theorem dX0_become_31 : decode cX0_become 31 = .ok (.invokestatic 31, 3) := by decide +kernel
theorem dX0_become_34 : decode cX0_become 34 = .ok (.aload_n 1, 1) := by decide +kernel
theorem dX0_become_35 : decode cX0_become 35 = .ok (.getfield 15, 3) := by decide +kernel
theorem dX0_become_38 : decode cX0_become 38 = .ok (.iconst 0, 1) := by decide +kernel
theorem dX0_become_39 : decode cX0_become 39 = .ok (.aload_n 0, 1) := by decide +kernel
theorem dX0_become_40 : decode cX0_become 40 = .ok (.getfield 15, 3) := by decide +kernel
theorem dX0_become_43 : decode cX0_become 43 = .ok (.iconst 0, 1) := by decide +kernel
theorem dX0_become_44 : decode cX0_become 44 = .ok (.aload_n 0, 1) := by decide +kernel
theorem dX0_become_45 : decode cX0_become 45 = .ok (.getfield 15, 3) := by decide +kernel
theorem dX0_become_48 : decode cX0_become 48 = .ok (.arraylength, 1) := by decide +kernel
theorem dX0_become_49 : decode cX0_become 49 = .ok (.invokestatic 31, 3) := by decide +kernel
theorem dX0_become_52 : decode cX0_become 52 = .ok (.return_, 1) := by decide +kernel
theorem dX0_row_0 : decode cX0_row 0 = .ok (.aload_n 0, 1) := by decide +kernel
theorem dX0_row_1 : decode cX0_row 1 = .ok (.getfield 24, 3) := by decide +kernel
theorem dX0_row_4 : decode cX0_row 4 = .ok (.bipush 40, 2) := by decide +kernel
theorem dX0_row_6 : decode cX0_row 6 = .ok (.irem, 1) := by decide +kernel
theorem dX0_row_7 : decode cX0_row 7 = .ok (.bipush 6, 2) := by decide +kernel
theorem dX0_row_9 : decode cX0_row 9 = .ok (.imul, 1) := by decide +kernel
theorem dX0_row_10 : decode cX0_row 10 = .ok (.ireturn, 1) := by decide +kernel
theorem dX0_collect_0 : decode cX0_collect 0 = .ok (.aload_n 0, 1) := by decide +kernel
theorem dX0_collect_1 : decode cX0_collect 1 = .ok (.invokevirtual 37, 3) := by decide +kernel
theorem dX0_collect_4 : decode cX0_collect 4 = .ok (.istore_n 3, 1) := by decide +kernel
theorem dX0_collect_5 : decode cX0_collect 5 = .ok (.iload_n 2, 1) := by decide +kernel
theorem dX0_collect_6 : decode cX0_collect 6 = .ok (.ifCond .ne 7, 3) := by decide +kernel
theorem dX0_collect_9 : decode cX0_collect 9 = .ok (.lconst 1, 1) := by decide +kernel
theorem dX0_collect_10 : decode cX0_collect 10 = .ok (.goto 8, 3) := by decide +kernel
theorem dX0_collect_13 : decode cX0_collect 13 = .ok (.aload_n 1, 1) := by decide +kernel
theorem dX0_collect_14 : decode cX0_collect 14 = .ok (.iload_n 2, 1) := by decide +kernel
theorem dX0_collect_15 : decode cX0_collect 15 = .ok (.invokevirtual 41, 3) := by decide +kernel
theorem dX0_collect_18 : decode cX0_collect 18 = .ok (.lstore 4, 2) := by decide +kernel
theorem dX0_collect_20 : decode cX0_collect 20 = .ok (.iconst 0, 1) := by decide +kernel
theorem dX0_collect_21 : decode cX0_collect 21 = .ok (.istore 6, 2) := by decide +kernel
theorem dX0_collect_23 : decode cX0_collect 23 = .ok (.iload 6, 2) := by decide +kernel
theorem dX0_collect_25 : decode cX0_collect 25 = .ok (.bipush 6, 2) := by decide +kernel
theorem dX0_collect_27 : decode cX0_collect 27 = .ok (.if_icmp .ge 68, 3) := by decide +kernel
theorem dX0_collect_30 : decode cX0_collect 30 = .ok (.iload 6, 2) := by decide +kernel
theorem dX0_collect_32 : decode cX0_collect 32 = .ok (.iload_n 2, 1) := by decide +kernel
theorem dX0_collect_33 : decode cX0_collect 33 = .ok (.invokestatic 47, 3) := by decide +kernel
theorem dX0_collect_36 : decode cX0_collect 36 = .ok (.ifCond .eq 27, 3) := by decide +kernel
theorem dX0_collect_39 : decode cX0_collect 39 = .ok (.lload 4, 2) := by decide +kernel
theorem dX0_collect_41 : decode cX0_collect 41 = .ok (.lconst 0, 1) := by decide +kernel
theorem dX0_collect_42 : decode cX0_collect 42 = .ok (.lcmp, 1) := by decide +kernel
theorem dX0_collect_43 : decode cX0_collect 43 = .ok (.ifCond .le 20, 3) := by decide +kernel
theorem dX0_collect_46 : decode cX0_collect 46 = .ok (.aload_n 1, 1) := by decide +kernel
theorem dX0_collect_47 : decode cX0_collect 47 = .ok (.iload 6, 2) := by decide +kernel
theorem dX0_collect_49 : decode cX0_collect 49 = .ok (.iload_n 2, 1) := by decide +kernel
theorem dX0_collect_50 : decode cX0_collect 50 = .ok (.invokevirtual 51, 3) := by decide +kernel
theorem dX0_collect_53 : decode cX0_collect 53 = .ok (.ldc2_w 55, 3) := by decide +kernel
theorem dX0_collect_56 : decode cX0_collect 56 = .ok (.lmul, 1) := by decide +kernel
theorem dX0_collect_57 : decode cX0_collect 57 = .ok (.lload 4, 2) := by decide +kernel
theorem dX0_collect_59 : decode cX0_collect 59 = .ok (.ldiv, 1) := by decide +kernel
theorem dX0_collect_60 : decode cX0_collect 60 = .ok (.goto 4, 3) := by decide +kernel
theorem dX0_collect_63 : decode cX0_collect 63 = .ok (.lconst 0, 1) := by decide +kernel
theorem dX0_collect_64 : decode cX0_collect 64 = .ok (.lstore 7, 2) := by decide +kernel
theorem dX0_collect_66 : decode cX0_collect 66 = .ok (.aload_n 0, 1) := by decide +kernel
theorem dX0_collect_67 : decode cX0_collect 67 = .ok (.getfield 15, 3) := by decide +kernel
theorem dX0_collect_70 : decode cX0_collect 70 = .ok (.iload_n 3, 1) := by decide +kernel
theorem dX0_collect_71 : decode cX0_collect 71 = .ok (.iload 6, 2) := by decide +kernel
theorem dX0_collect_73 : decode cX0_collect 73 = .ok (.iadd, 1) := by decide +kernel
theorem dX0_collect_74 : decode cX0_collect 74 = .ok (.lload 7, 2) := by decide +kernel
theorem dX0_collect_76 : decode cX0_collect 76 = .ok (.lastore, 1) := by decide +kernel
theorem dX0_collect_77 : decode cX0_collect 77 = .ok (.aload_n 0, 1) := by decide +kernel
theorem dX0_collect_78 : decode cX0_collect 78 = .ok (.getfield 9, 3) := by decide +kernel
theorem dX0_collect_81 : decode cX0_collect 81 = .ok (.iload 6, 2) := by decide +kernel
theorem dX0_collect_83 : decode cX0_collect 83 = .ok (.dup2, 1) := by decide +kernel
theorem dX0_collect_84 : decode cX0_collect 84 = .ok (.laload, 1) := by decide +kernel
theorem dX0_collect_85 : decode cX0_collect 85 = .ok (.lload 7, 2) := by decide +kernel
theorem dX0_collect_87 : decode cX0_collect 87 = .ok (.ladd, 1) := by decide +kernel
theorem dX0_collect_88 : decode cX0_collect 88 = .ok (.lastore, 1) := by decide +kernel
theorem dX0_collect_89 : decode cX0_collect 89 = .ok (.iinc 6 1, 3) := by decide +kernel
theorem dX0_collect_92 : decode cX0_collect 92 = .ok (.goto (-69), 3) := by decide +kernel
theorem dX0_collect_95 : decode cX0_collect 95 = .ok (.aload_n 0, 1) := by decide +kernel
theorem dX0_collect_96 : decode cX0_collect 96 = .ok (.dup, 1) := by decide +kernel
theorem dX0_collect_97 : decode cX0_collect 97 = .ok (.getfield 24, 3) := by decide +kernel
theorem dX0_collect_100 : decode cX0_collect 100 = .ok (.iconst 1, 1) := by decide +kernel
theorem dX0_collect_101 : decode cX0_collect 101 = .ok (.iadd, 1) := by decide +kernel
theorem dX0_collect_102 : decode cX0_collect 102 = .ok (.putfield 24, 3) := by decide +kernel
theorem dX0_collect_105 : decode cX0_collect 105 = .ok (.aload_n 0, 1) := by decide +kernel
theorem dX0_collect_106 : decode cX0_collect 106 = .ok (.bipush 40, 2) := by decide +kernel
theorem dX0_collect_108 : decode cX0_collect 108 = .ok (.aload_n 0, 1) := by decide +kernel
theorem dX0_collect_109 : decode cX0_collect 109 = .ok (.getfield 28, 3) := by decide +kernel
theorem dX0_collect_112 : decode cX0_collect 112 = .ok (.iconst 1, 1) := by decide +kernel
theorem dX0_collect_113 : decode cX0_collect 113 = .ok (.iadd, 1) := by decide +kernel
theorem dX0_collect_114 : decode cX0_collect 114 = .ok (.invokestatic 57, 3) := by decide +kernel
theorem dX0_collect_117 : decode cX0_collect 117 = .ok (.putfield 28, 3) := by decide +kernel
theorem dX0_collect_120 : decode cX0_collect 120 = .ok (.return_, 1) := by decide +kernel
theorem dX0_takeBack_0 : decode cX0_takeBack 0 = .ok (.aload_n 0, 1) := by decide +kernel
theorem dX0_takeBack_1 : decode cX0_takeBack 1 = .ok (.getfield 28, 3) := by decide +kernel
theorem dX0_takeBack_4 : decode cX0_takeBack 4 = .ok (.ifCond .ne 5, 3) := by decide +kernel
theorem dX0_takeBack_7 : decode cX0_takeBack 7 = .ok (.iconst 0, 1) := by decide +kernel
theorem dX0_takeBack_8 : decode cX0_takeBack 8 = .ok (.ireturn, 1) := by decide +kernel
theorem dX0_takeBack_9 : decode cX0_takeBack 9 = .ok (.aload_n 0, 1) := by decide +kernel
theorem dX0_takeBack_10 : decode cX0_takeBack 10 = .ok (.dup, 1) := by decide +kernel
theorem dX0_takeBack_11 : decode cX0_takeBack 11 = .ok (.getfield 24, 3) := by decide +kernel
theorem dX0_takeBack_14 : decode cX0_takeBack 14 = .ok (.iconst 1, 1) := by decide +kernel
theorem dX0_takeBack_15 : decode cX0_takeBack 15 = .ok (.isub, 1) := by decide +kernel
theorem dX0_takeBack_16 : decode cX0_takeBack 16 = .ok (.putfield 24, 3) := by decide +kernel
theorem dX0_takeBack_19 : decode cX0_takeBack 19 = .ok (.aload_n 0, 1) := by decide +kernel
theorem dX0_takeBack_20 : decode cX0_takeBack 20 = .ok (.dup, 1) := by decide +kernel
theorem dX0_takeBack_21 : decode cX0_takeBack 21 = .ok (.getfield 28, 3) := by decide +kernel
theorem dX0_takeBack_24 : decode cX0_takeBack 24 = .ok (.iconst 1, 1) := by decide +kernel
theorem dX0_takeBack_25 : decode cX0_takeBack 25 = .ok (.isub, 1) := by decide +kernel
theorem dX0_takeBack_26 : decode cX0_takeBack 26 = .ok (.putfield 28, 3) := by decide +kernel
theorem dX0_takeBack_29 : decode cX0_takeBack 29 = .ok (.aload_n 0, 1) := by decide +kernel
theorem dX0_takeBack_30 : decode cX0_takeBack 30 = .ok (.invokevirtual 37, 3) := by decide +kernel
theorem dX0_takeBack_33 : decode cX0_takeBack 33 = .ok (.istore_n 1, 1) := by decide +kernel
theorem dX0_takeBack_34 : decode cX0_takeBack 34 = .ok (.iconst 0, 1) := by decide +kernel
theorem dX0_takeBack_35 : decode cX0_takeBack 35 = .ok (.istore_n 2, 1) := by decide +kernel
theorem dX0_takeBack_36 : decode cX0_takeBack 36 = .ok (.iload_n 2, 1) := by decide +kernel
theorem dX0_takeBack_37 : decode cX0_takeBack 37 = .ok (.bipush 6, 2) := by decide +kernel
theorem dX0_takeBack_39 : decode cX0_takeBack 39 = .ok (.if_icmp .ge 26, 3) := by decide +kernel
theorem dX0_takeBack_42 : decode cX0_takeBack 42 = .ok (.aload_n 0, 1) := by decide +kernel
theorem dX0_takeBack_43 : decode cX0_takeBack 43 = .ok (.getfield 9, 3) := by decide +kernel
theorem dX0_takeBack_46 : decode cX0_takeBack 46 = .ok (.iload_n 2, 1) := by decide +kernel
theorem dX0_takeBack_47 : decode cX0_takeBack 47 = .ok (.dup2, 1) := by decide +kernel
theorem dX0_takeBack_48 : decode cX0_takeBack 48 = .ok (.laload, 1) := by decide +kernel
theorem dX0_takeBack_49 : decode cX0_takeBack 49 = .ok (.aload_n 0, 1) := by decide +kernel
theorem dX0_takeBack_50 : decode cX0_takeBack 50 = .ok (.getfield 15, 3) := by decide +kernel
theorem dX0_takeBack_53 : decode cX0_takeBack 53 = .ok (.iload_n 1, 1) := by decide +kernel
theorem dX0_takeBack_54 : decode cX0_takeBack 54 = .ok (.iload_n 2, 1) := by decide +kernel
theorem dX0_takeBack_55 : decode cX0_takeBack 55 = .ok (.iadd, 1) := by decide +kernel
theorem dX0_takeBack_56 : decode cX0_takeBack 56 = .ok (.laload, 1) := by decide +kernel
theorem dX0_takeBack_57 : decode cX0_takeBack 57 = .ok (.lsub, 1) := by decide +kernel
theorem dX0_takeBack_58 : decode cX0_takeBack 58 = .ok (.lastore, 1) := by decide +kernel
theorem dX0_takeBack_59 : decode cX0_takeBack 59 = .ok (.iinc 2 1, 3) := by decide +kernel
theorem dX0_takeBack_62 : decode cX0_takeBack 62 = .ok (.goto (-26), 3) := by decide +kernel
theorem dX0_takeBack_65 : decode cX0_takeBack 65 = .ok (.iconst 1, 1) := by decide +kernel
theorem dX0_takeBack_66 : decode cX0_takeBack 66 = .ok (.ireturn, 1) := by decide +kernel
theorem dX1_init_0 : decode cX1_init 0 = .ok (.aload_n 0, 1) := by decide +kernel
theorem dX1_init_1 : decode cX1_init 1 = .ok (.invokespecial 1, 3) := by decide +kernel
theorem dX1_init_4 : decode cX1_init 4 = .ok (.aload_n 0, 1) := by decide +kernel
theorem dX1_init_5 : decode cX1_init 5 = .ok (.aload_n 1, 1) := by decide +kernel
theorem dX1_init_6 : decode cX1_init 6 = .ok (.putfield 7, 3) := by decide +kernel
theorem dX1_init_9 : decode cX1_init 9 = .ok (.aload_n 0, 1) := by decide +kernel
theorem dX1_init_10 : decode cX1_init 10 = .ok (.aload_n 2, 1) := by decide +kernel
theorem dX1_init_11 : decode cX1_init 11 = .ok (.putfield 13, 3) := by decide +kernel
theorem dX1_init_14 : decode cX1_init 14 = .ok (.return_, 1) := by decide +kernel
theorem dX1_search_0 : decode cX1_search 0 = .ok (.aload_n 0, 1) := by decide +kernel
theorem dX1_search_1 : decode cX1_search 1 = .ok (.getfield 7, 3) := by decide +kernel
theorem dX1_search_4 : decode cX1_search 4 = .ok (.invokevirtual 17, 3) := by decide +kernel
theorem dX1_search_7 : decode cX1_search 7 = .ok (.istore 4, 2) := by decide +kernel
theorem dX1_search_9 : decode cX1_search 9 = .ok (.aload_n 0, 1) := by decide +kernel
theorem dX1_search_10 : decode cX1_search 10 = .ok (.getfield 7, 3) := by decide +kernel
theorem dX1_search_13 : decode cX1_search 13 = .ok (.getfield 23, 3) := by decide +kernel
theorem dX1_search_16 : decode cX1_search 16 = .ok (.iload_n 1, 1) := by decide +kernel
theorem dX1_search_17 : decode cX1_search 17 = .ok (.iaload, 1) := by decide +kernel
theorem dX1_search_18 : decode cX1_search 18 = .ok (.istore 5, 2) := by decide +kernel
theorem dX1_search_20 : decode cX1_search 20 = .ok (.aload_n 0, 1) := by decide +kernel
theorem dX1_search_21 : decode cX1_search 21 = .ok (.getfield 13, 3) := by decide +kernel
theorem dX1_search_24 : decode cX1_search 24 = .ok (.iload_n 2, 1) := by decide +kernel
theorem dX1_search_25 : decode cX1_search 25 = .ok (.aload_n 0, 1) := by decide +kernel
theorem dX1_search_26 : decode cX1_search 26 = .ok (.getfield 7, 3) := by decide +kernel
theorem dX1_search_29 : decode cX1_search 29 = .ok (.getfield 27, 3) := by decide +kernel
theorem dX1_search_32 : decode cX1_search 32 = .ok (.invokevirtual 31, 3) := by decide +kernel
theorem dX1_search_35 : decode cX1_search 35 = .ok (.aload_n 0, 1) := by decide +kernel
theorem dX1_search_36 : decode cX1_search 36 = .ok (.aload_n 0, 1) := by decide +kernel
theorem dX1_search_37 : decode cX1_search 37 = .ok (.getfield 13, 3) := by decide +kernel
theorem dX1_search_40 : decode cX1_search 40 = .ok (.iload_n 1, 1) := by decide +kernel
theorem dX1_search_41 : decode cX1_search 41 = .ok (.iload 4, 2) := by decide +kernel
theorem dX1_search_43 : decode cX1_search 43 = .ok (.invokevirtual 37, 3) := by decide +kernel
theorem dX1_search_46 : decode cX1_search 46 = .ok (.putfield 41, 3) := by decide +kernel
theorem dX1_search_49 : decode cX1_search 49 = .ok (.aload_n 0, 1) := by decide +kernel
theorem dX1_search_50 : decode cX1_search 50 = .ok (.aload_n 0, 1) := by decide +kernel
theorem dX1_search_51 : decode cX1_search 51 = .ok (.getfield 13, 3) := by decide +kernel
theorem dX1_search_54 : decode cX1_search 54 = .ok (.iload 4, 2) := by decide +kernel
theorem dX1_search_56 : decode cX1_search 56 = .ok (.invokevirtual 45, 3) := by decide +kernel
theorem dX1_search_59 : decode cX1_search 59 = .ok (.putfield 49, 3) := by decide +kernel
theorem dX1_search_62 : decode cX1_search 62 = .ok (.aload_n 0, 1) := by decide +kernel
theorem dX1_search_63 : decode cX1_search 63 = .ok (.iload 5, 2) := by decide +kernel
theorem dX1_search_65 : decode cX1_search 65 = .ok (.aload_n 0, 1) := by decide +kernel
theorem dX1_search_66 : decode cX1_search 66 = .ok (.getfield 41, 3) := by decide +kernel
theorem dX1_search_69 : decode cX1_search 69 = .ok (.aload_n 0, 1) := by decide +kernel
theorem dX1_search_70 : decode cX1_search 70 = .ok (.getfield 49, 3) := by decide +kernel
theorem dX1_search_73 : decode cX1_search 73 = .ok (.invokevirtual 52, 3) := by decide +kernel
theorem dX1_search_76 : decode cX1_search 76 = .ok (.iconst 1, 1) := by decide +kernel
theorem dX1_search_77 : decode cX1_search 77 = .ok (.istore 6, 2) := by decide +kernel
theorem dX1_search_79 : decode cX1_search 79 = .ok (.iload 6, 2) := by decide +kernel
theorem dX1_search_81 : decode cX1_search 81 = .ok (.aload_n 0, 1) := by decide +kernel
theorem dX1_search_82 : decode cX1_search 82 = .ok (.getfield 7, 3) := by decide +kernel
theorem dX1_search_85 : decode cX1_search 85 = .ok (.getfield 56, 3) := by decide +kernel
theorem dX1_search_88 : decode cX1_search 88 = .ok (.if_icmp .gt 104, 3) := by decide +kernel
theorem dX1_search_91 : decode cX1_search 91 = .ok (.aload_n 0, 1) := by decide +kernel
theorem dX1_search_92 : decode cX1_search 92 = .ok (.getfield 7, 3) := by decide +kernel
theorem dX1_search_95 : decode cX1_search 95 = .ok (.getfield 23, 3) := by decide +kernel
theorem dX1_search_98 : decode cX1_search 98 = .ok (.iload_n 1, 1) := by decide +kernel
theorem dX1_search_99 : decode cX1_search 99 = .ok (.iload 6, 2) := by decide +kernel
theorem dX1_search_101 : decode cX1_search 101 = .ok (.iastore, 1) := by decide +kernel
theorem dX1_search_102 : decode cX1_search 102 = .ok (.aload_n 0, 1) := by decide +kernel
theorem dX1_search_103 : decode cX1_search 103 = .ok (.getfield 13, 3) := by decide +kernel
theorem dX1_search_106 : decode cX1_search 106 = .ok (.iload_n 2, 1) := by decide +kernel
theorem dX1_search_107 : decode cX1_search 107 = .ok (.aload_n 0, 1) := by decide +kernel
theorem dX1_search_108 : decode cX1_search 108 = .ok (.getfield 7, 3) := by decide +kernel
theorem dX1_search_111 : decode cX1_search 111 = .ok (.getfield 27, 3) := by decide +kernel
theorem dX1_search_114 : decode cX1_search 114 = .ok (.invokevirtual 31, 3) := by decide +kernel
theorem dX1_search_117 : decode cX1_search 117 = .ok (.aload_n 0, 1) := by decide +kernel
theorem dX1_search_118 : decode cX1_search 118 = .ok (.getfield 13, 3) := by decide +kernel
theorem dX1_search_121 : decode cX1_search 121 = .ok (.iload 4, 2) := by decide +kernel
theorem dX1_search_123 : decode cX1_search 123 = .ok (.invokevirtual 45, 3) := by decide +kernel
theorem dX1_search_126 : decode cX1_search 126 = .ok (.lstore 7, 2) := by decide +kernel
theorem dX1_search_128 : decode cX1_search 128 = .ok (.aload_n 0, 1) := by decide +kernel
theorem dX1_search_129 : decode cX1_search 129 = .ok (.getfield 13, 3) := by decide +kernel
theorem dX1_search_132 : decode cX1_search 132 = .ok (.iload_n 1, 1) := by decide +kernel
theorem dX1_search_133 : decode cX1_search 133 = .ok (.iload 4, 2) := by decide +kernel
theorem dX1_search_135 : decode cX1_search 135 = .ok (.invokevirtual 37, 3) := by decide +kernel
theorem dX1_search_138 : decode cX1_search 138 = .ok (.iload_n 3, 1) := by decide +kernel
theorem dX1_search_139 : decode cX1_search 139 = .ok (.aload_n 0, 1) := by decide +kernel
theorem dX1_search_140 : decode cX1_search 140 = .ok (.getfield 7, 3) := by decide +kernel
theorem dX1_search_143 : decode cX1_search 143 = .ok (.iload 6, 2) := by decide +kernel
theorem dX1_search_145 : decode cX1_search 145 = .ok (.iload 5, 2) := by decide +kernel
theorem dX1_search_147 : decode cX1_search 147 = .ok (.invokevirtual 59, 3) := by decide +kernel
theorem dX1_search_150 : decode cX1_search 150 = .ok (.imul, 1) := by decide +kernel
theorem dX1_search_151 : decode cX1_search 151 = .ok (.i2l, 1) := by decide +kernel
theorem dX1_search_152 : decode cX1_search 152 = .ok (.lload 7, 2) := by decide +kernel
theorem dX1_search_154 : decode cX1_search 154 = .ok (.lmul, 1) := by decide +kernel
theorem dX1_search_155 : decode cX1_search 155 = .ok (.ladd, 1) := by decide +kernel
theorem dX1_search_156 : decode cX1_search 156 = .ok (.lstore 9, 2) := by decide +kernel
theorem dX1_search_158 : decode cX1_search 158 = .ok (.lload 9, 2) := by decide +kernel
theorem dX1_search_160 : decode cX1_search 160 = .ok (.aload_n 0, 1) := by decide +kernel
theorem dX1_search_161 : decode cX1_search 161 = .ok (.getfield 63, 3) := by decide +kernel
theorem dX1_search_164 : decode cX1_search 164 = .ok (.lmul, 1) := by decide +kernel
theorem dX1_search_165 : decode cX1_search 165 = .ok (.aload_n 0, 1) := by decide +kernel
theorem dX1_search_166 : decode cX1_search 166 = .ok (.getfield 66, 3) := by decide +kernel
theorem dX1_search_169 : decode cX1_search 169 = .ok (.lload 7, 2) := by decide +kernel
theorem dX1_search_171 : decode cX1_search 171 = .ok (.lmul, 1) := by decide +kernel
theorem dX1_search_172 : decode cX1_search 172 = .ok (.lcmp, 1) := by decide +kernel
theorem dX1_search_173 : decode cX1_search 173 = .ok (.ifCond .ge 13, 3) := by decide +kernel
theorem dX1_search_176 : decode cX1_search 176 = .ok (.aload_n 0, 1) := by decide +kernel
theorem dX1_search_177 : decode cX1_search 177 = .ok (.iload 6, 2) := by decide +kernel
theorem dX1_search_179 : decode cX1_search 179 = .ok (.lload 9, 2) := by decide +kernel
theorem dX1_search_181 : decode cX1_search 181 = .ok (.lload 7, 2) := by decide +kernel
theorem dX1_search_183 : decode cX1_search 183 = .ok (.invokevirtual 52, 3) := by decide +kernel
theorem dX1_search_186 : decode cX1_search 186 = .ok (.iinc 6 1, 3) := by decide +kernel
theorem dX1_search_189 : decode cX1_search 189 = .ok (.goto (-110), 3) := by decide +kernel
theorem dX1_search_192 : decode cX1_search 192 = .ok (.aload_n 0, 1) := by decide +kernel
theorem dX1_search_193 : decode cX1_search 193 = .ok (.getfield 7, 3) := by decide +kernel
theorem dX1_search_196 : decode cX1_search 196 = .ok (.getfield 23, 3) := by decide +kernel
theorem dX1_search_199 : decode cX1_search 199 = .ok (.iload_n 1, 1) := by decide +kernel
theorem dX1_search_200 : decode cX1_search 200 = .ok (.iload 5, 2) := by decide +kernel
theorem dX1_search_202 : decode cX1_search 202 = .ok (.iastore, 1) := by decide +kernel
theorem dX1_search_203 : decode cX1_search 203 = .ok (.return_, 1) := by decide +kernel
theorem dX1_take_0 : decode cX1_take 0 = .ok (.aload_n 0, 1) := by decide +kernel
theorem dX1_take_1 : decode cX1_take 1 = .ok (.iload_n 1, 1) := by decide +kernel
theorem dX1_take_2 : decode cX1_take 2 = .ok (.putfield 69, 3) := by decide +kernel
theorem dX1_take_5 : decode cX1_take 5 = .ok (.aload_n 0, 1) := by decide +kernel
theorem dX1_take_6 : decode cX1_take 6 = .ok (.lload_n 2, 1) := by decide +kernel
theorem dX1_take_7 : decode cX1_take 7 = .ok (.putfield 66, 3) := by decide +kernel
theorem dX1_take_10 : decode cX1_take 10 = .ok (.aload_n 0, 1) := by decide +kernel
theorem dX1_take_11 : decode cX1_take 11 = .ok (.lload 4, 2) := by decide +kernel
theorem dX1_take_13 : decode cX1_take 13 = .ok (.putfield 63, 3) := by decide +kernel
theorem dX1_take_16 : decode cX1_take 16 = .ok (.return_, 1) := by decide +kernel
theorem dX1_gainAbove_0 : decode cX1_gainAbove 0 = .ok (.aload_n 0, 1) := by decide +kernel
theorem dX1_gainAbove_1 : decode cX1_gainAbove 1 = .ok (.getfield 41, 3) := by decide +kernel
theorem dX1_gainAbove_4 : decode cX1_gainAbove 4 = .ok (.aload_n 0, 1) := by decide +kernel
theorem dX1_gainAbove_5 : decode cX1_gainAbove 5 = .ok (.getfield 63, 3) := by decide +kernel
theorem dX1_gainAbove_8 : decode cX1_gainAbove 8 = .ok (.lmul, 1) := by decide +kernel
theorem dX1_gainAbove_9 : decode cX1_gainAbove 9 = .ok (.aload_n 0, 1) := by decide +kernel
theorem dX1_gainAbove_10 : decode cX1_gainAbove 10 = .ok (.getfield 66, 3) := by decide +kernel
theorem dX1_gainAbove_13 : decode cX1_gainAbove 13 = .ok (.aload_n 0, 1) := by decide +kernel
theorem dX1_gainAbove_14 : decode cX1_gainAbove 14 = .ok (.getfield 49, 3) := by decide +kernel
theorem dX1_gainAbove_17 : decode cX1_gainAbove 17 = .ok (.lmul, 1) := by decide +kernel
theorem dX1_gainAbove_18 : decode cX1_gainAbove 18 = .ok (.lsub, 1) := by decide +kernel
theorem dX1_gainAbove_19 : decode cX1_gainAbove 19 = .ok (.lreturn, 1) := by decide +kernel
theorem dX1_gainBelow_0 : decode cX1_gainBelow 0 = .ok (.aload_n 0, 1) := by decide +kernel
theorem dX1_gainBelow_1 : decode cX1_gainBelow 1 = .ok (.getfield 49, 3) := by decide +kernel
theorem dX1_gainBelow_4 : decode cX1_gainBelow 4 = .ok (.aload_n 0, 1) := by decide +kernel
theorem dX1_gainBelow_5 : decode cX1_gainBelow 5 = .ok (.getfield 63, 3) := by decide +kernel
theorem dX1_gainBelow_8 : decode cX1_gainBelow 8 = .ok (.lmul, 1) := by decide +kernel
theorem dX1_gainBelow_9 : decode cX1_gainBelow 9 = .ok (.lreturn, 1) := by decide +kernel
theorem dX2_init_0 : decode cX2_init 0 = .ok (.aload_n 0, 1) := by decide +kernel
theorem dX2_init_1 : decode cX2_init 1 = .ok (.invokespecial 3, 3) := by decide +kernel
theorem dX2_init_4 : decode cX2_init 4 = .ok (.aload_n 0, 1) := by decide +kernel
theorem dX2_init_5 : decode cX2_init 5 = .ok (.bipush 10, 2) := by decide +kernel
theorem dX2_init_7 : decode cX2_init 7 = .ok (.newarray .int, 2) := by decide +kernel
theorem dX2_init_9 : decode cX2_init 9 = .ok (.putfield 9, 3) := by decide +kernel
theorem dX2_init_12 : decode cX2_init 12 = .ok (.aload_n 0, 1) := by decide +kernel
theorem dX2_init_13 : decode cX2_init 13 = .ok (.bipush 10, 2) := by decide +kernel
theorem dX2_init_15 : decode cX2_init 15 = .ok (.newarray .int, 2) := by decide +kernel
theorem dX2_init_17 : decode cX2_init 17 = .ok (.putfield 15, 3) := by decide +kernel
theorem dX2_init_20 : decode cX2_init 20 = .ok (.aload_n 0, 1) := by decide +kernel
theorem dX2_init_21 : decode cX2_init 21 = .ok (.bipush 6, 2) := by decide +kernel
theorem dX2_init_23 : decode cX2_init 23 = .ok (.newarray .int, 2) := by decide +kernel
theorem dX2_init_25 : decode cX2_init 25 = .ok (.putfield 18, 3) := by decide +kernel
theorem dX2_init_28 : decode cX2_init 28 = .ok (.aload_n 0, 1) := by decide +kernel
theorem dX2_init_29 : decode cX2_init 29 = .ok (.bipush 6, 2) := by decide +kernel
theorem dX2_init_31 : decode cX2_init 31 = .ok (.newarray .int, 2) := by decide +kernel
theorem dX2_init_33 : decode cX2_init 33 = .ok (.putfield 21, 3) := by decide +kernel
theorem dX2_init_36 : decode cX2_init 36 = .ok (.aload_n 0, 1) := by decide +kernel
theorem dX2_init_37 : decode cX2_init 37 = .ok (.bipush 6, 2) := by decide +kernel
theorem dX2_init_39 : decode cX2_init 39 = .ok (.newarray .int, 2) := by decide +kernel
theorem dX2_init_41 : decode cX2_init 41 = .ok (.putfield 24, 3) := by decide +kernel
theorem dX2_init_44 : decode cX2_init 44 = .ok (.return_, 1) := by decide +kernel
theorem dX2_become_0 : decode cX2_become 0 = .ok (.aload_n 0, 1) := by decide +kernel
theorem dX2_become_1 : decode cX2_become 1 = .ok (.aload_n 1, 1) := by decide +kernel
theorem dX2_become_2 : decode cX2_become 2 = .ok (.getfield 27, 3) := by decide +kernel
theorem dX2_become_5 : decode cX2_become 5 = .ok (.putfield 27, 3) := by decide +kernel
theorem dX2_become_8 : decode cX2_become 8 = .ok (.aload_n 0, 1) := by decide +kernel
theorem dX2_become_9 : decode cX2_become 9 = .ok (.aload_n 1, 1) := by decide +kernel
theorem dX2_become_10 : decode cX2_become 10 = .ok (.getfield 31, 3) := by decide +kernel
theorem dX2_become_13 : decode cX2_become 13 = .ok (.putfield 31, 3) := by decide +kernel
theorem dX2_become_16 : decode cX2_become 16 = .ok (.aload_n 0, 1) := by decide +kernel
theorem dX2_become_17 : decode cX2_become 17 = .ok (.aload_n 1, 1) := by decide +kernel
theorem dX2_become_18 : decode cX2_become 18 = .ok (.getfield 34, 3) := by decide +kernel
theorem dX2_become_21 : decode cX2_become 21 = .ok (.putfield 34, 3) := by decide +kernel
theorem dX2_become_24 : decode cX2_become 24 = .ok (.aload_n 0, 1) := by decide +kernel
theorem dX2_become_25 : decode cX2_become 25 = .ok (.aload_n 1, 1) := by decide +kernel
theorem dX2_become_26 : decode cX2_become 26 = .ok (.getfield 37, 3) := by decide +kernel
theorem dX2_become_29 : decode cX2_become 29 = .ok (.putfield 37, 3) := by decide +kernel
theorem dX2_become_32 : decode cX2_become 32 = .ok (.aload_n 0, 1) := by decide +kernel
theorem dX2_become_33 : decode cX2_become 33 = .ok (.aload_n 1, 1) := by decide +kernel
theorem dX2_become_34 : decode cX2_become 34 = .ok (.getfield 40, 3) := by decide +kernel
theorem dX2_become_37 : decode cX2_become 37 = .ok (.putfield 40, 3) := by decide +kernel
theorem dX2_become_40 : decode cX2_become 40 = .ok (.aload_n 1, 1) := by decide +kernel
theorem dX2_become_41 : decode cX2_become 41 = .ok (.getfield 9, 3) := by decide +kernel
theorem dX2_become_44 : decode cX2_become 44 = .ok (.iconst 0, 1) := by decide +kernel
theorem dX2_become_45 : decode cX2_become 45 = .ok (.aload_n 0, 1) := by decide +kernel
theorem dX2_become_46 : decode cX2_become 46 = .ok (.getfield 9, 3) := by decide +kernel
theorem dX2_become_49 : decode cX2_become 49 = .ok (.iconst 0, 1) := by decide +kernel
theorem dX2_become_50 : decode cX2_become 50 = .ok (.aload_n 0, 1) := by decide +kernel
theorem dX2_become_51 : decode cX2_become 51 = .ok (.getfield 9, 3) := by decide +kernel
theorem dX2_become_54 : decode cX2_become 54 = .ok (.arraylength, 1) := by decide +kernel
theorem dX2_become_55 : decode cX2_become 55 = .ok (.invokestatic 43, 3) := by decide +kernel
theorem dX2_become_58 : decode cX2_become 58 = .ok (.aload_n 1, 1) := by decide +kernel
theorem dX2_become_59 : decode cX2_become 59 = .ok (.getfield 15, 3) := by decide +kernel
theorem dX2_become_62 : decode cX2_become 62 = .ok (.iconst 0, 1) := by decide +kernel
theorem dX2_become_63 : decode cX2_become 63 = .ok (.aload_n 0, 1) := by decide +kernel
theorem dX2_become_64 : decode cX2_become 64 = .ok (.getfield 15, 3) := by decide +kernel
theorem dX2_become_67 : decode cX2_become 67 = .ok (.iconst 0, 1) := by decide +kernel
theorem dX2_become_68 : decode cX2_become 68 = .ok (.aload_n 0, 1) := by decide +kernel
theorem dX2_become_69 : decode cX2_become 69 = .ok (.getfield 15, 3) := by decide +kernel
theorem dX2_become_72 : decode cX2_become 72 = .ok (.arraylength, 1) := by decide +kernel
theorem dX2_become_73 : decode cX2_become 73 = .ok (.invokestatic 43, 3) := by decide +kernel
theorem dX2_become_76 : decode cX2_become 76 = .ok (.aload_n 1, 1) := by decide +kernel
theorem dX2_become_77 : decode cX2_become 77 = .ok (.getfield 18, 3) := by decide +kernel
theorem dX2_become_80 : decode cX2_become 80 = .ok (.iconst 0, 1) := by decide +kernel
theorem dX2_become_81 : decode cX2_become 81 = .ok (.aload_n 0, 1) := by decide +kernel
theorem dX2_become_82 : decode cX2_become 82 = .ok (.getfield 18, 3) := by decide +kernel
theorem dX2_become_85 : decode cX2_become 85 = .ok (.iconst 0, 1) := by decide +kernel
theorem dX2_become_86 : decode cX2_become 86 = .ok (.aload_n 0, 1) := by decide +kernel
theorem dX2_become_87 : decode cX2_become 87 = .ok (.getfield 18, 3) := by decide +kernel
theorem dX2_become_90 : decode cX2_become 90 = .ok (.arraylength, 1) := by decide +kernel
theorem dX2_become_91 : decode cX2_become 91 = .ok (.invokestatic 43, 3) := by decide +kernel
theorem dX2_become_94 : decode cX2_become 94 = .ok (.aload_n 1, 1) := by decide +kernel
theorem dX2_become_95 : decode cX2_become 95 = .ok (.getfield 21, 3) := by decide +kernel
theorem dX2_become_98 : decode cX2_become 98 = .ok (.iconst 0, 1) := by decide +kernel
theorem dX2_become_99 : decode cX2_become 99 = .ok (.aload_n 0, 1) := by decide +kernel
theorem dX2_become_100 : decode cX2_become 100 = .ok (.getfield 21, 3) := by decide +kernel
theorem dX2_become_103 : decode cX2_become 103 = .ok (.iconst 0, 1) := by decide +kernel
theorem dX2_become_104 : decode cX2_become 104 = .ok (.aload_n 0, 1) := by decide +kernel
theorem dX2_become_105 : decode cX2_become 105 = .ok (.getfield 21, 3) := by decide +kernel
theorem dX2_become_108 : decode cX2_become 108 = .ok (.arraylength, 1) := by decide +kernel
theorem dX2_become_109 : decode cX2_become 109 = .ok (.invokestatic 43, 3) := by decide +kernel
theorem dX2_become_112 : decode cX2_become 112 = .ok (.aload_n 1, 1) := by decide +kernel
theorem dX2_become_113 : decode cX2_become 113 = .ok (.getfield 24, 3) := by decide +kernel
theorem dX2_become_116 : decode cX2_become 116 = .ok (.iconst 0, 1) := by decide +kernel
theorem dX2_become_117 : decode cX2_become 117 = .ok (.aload_n 0, 1) := by decide +kernel
theorem dX2_become_118 : decode cX2_become 118 = .ok (.getfield 24, 3) := by decide +kernel
theorem dX2_become_121 : decode cX2_become 121 = .ok (.iconst 0, 1) := by decide +kernel
theorem dX2_become_122 : decode cX2_become 122 = .ok (.aload_n 0, 1) := by decide +kernel
theorem dX2_become_123 : decode cX2_become 123 = .ok (.getfield 24, 3) := by decide +kernel
theorem dX2_become_126 : decode cX2_become 126 = .ok (.arraylength, 1) := by decide +kernel
theorem dX2_become_127 : decode cX2_become 127 = .ok (.invokestatic 43, 3) := by decide +kernel
theorem dX2_become_130 : decode cX2_become 130 = .ok (.return_, 1) := by decide +kernel
theorem dX2_isWhole_0 : decode cX2_isWhole 0 = .ok (.aload_n 0, 1) := by decide +kernel
theorem dX2_isWhole_1 : decode cX2_isWhole 1 = .ok (.getfield 27, 3) := by decide +kernel
theorem dX2_isWhole_4 : decode cX2_isWhole 4 = .ok (.ifCond .le 14, 3) := by decide +kernel
theorem dX2_isWhole_7 : decode cX2_isWhole 7 = .ok (.aload_n 0, 1) := by decide +kernel
theorem dX2_isWhole_8 : decode cX2_isWhole 8 = .ok (.getfield 31, 3) := by decide +kernel
theorem dX2_isWhole_11 : decode cX2_isWhole 11 = .ok (.ifCond .le 7, 3) := by decide +kernel
theorem dX2_isWhole_14 : decode cX2_isWhole 14 = .ok (.iconst 1, 1) := by decide +kernel
theorem dX2_isWhole_15 : decode cX2_isWhole 15 = .ok (.goto 4, 3) := by decide +kernel
theorem dX2_isWhole_18 : decode cX2_isWhole 18 = .ok (.iconst 0, 1) := by decide +kernel
theorem dX2_isWhole_19 : decode cX2_isWhole 19 = .ok (.istore_n 1, 1) := by decide +kernel
theorem dX2_isWhole_20 : decode cX2_isWhole 20 = .ok (.iconst 0, 1) := by decide +kernel
theorem dX2_isWhole_21 : decode cX2_isWhole 21 = .ok (.istore_n 2, 1) := by decide +kernel
theorem dX2_isWhole_22 : decode cX2_isWhole 22 = .ok (.iload_n 2, 1) := by decide +kernel
theorem dX2_isWhole_23 : decode cX2_isWhole 23 = .ok (.aload_n 0, 1) := by decide +kernel
theorem dX2_isWhole_24 : decode cX2_isWhole 24 = .ok (.getfield 31, 3) := by decide +kernel
theorem dX2_isWhole_27 : decode cX2_isWhole 27 = .ok (.if_icmp .ge 32, 3) := by decide +kernel
theorem dX2_isWhole_30 : decode cX2_isWhole 30 = .ok (.iload_n 1, 1) := by decide +kernel
theorem dX2_isWhole_31 : decode cX2_isWhole 31 = .ok (.ifCond .eq 20, 3) := by decide +kernel
theorem dX2_isWhole_34 : decode cX2_isWhole 34 = .ok (.aload_n 0, 1) := by decide +kernel
theorem dX2_isWhole_35 : decode cX2_isWhole 35 = .ok (.getfield 18, 3) := by decide +kernel
theorem dX2_isWhole_38 : decode cX2_isWhole 38 = .ok (.iload_n 2, 1) := by decide +kernel
theorem dX2_isWhole_39 : decode cX2_isWhole 39 = .ok (.iaload, 1) := by decide +kernel
theorem dX2_isWhole_40 : decode cX2_isWhole 40 = .ok (.aload_n 0, 1) := by decide +kernel
theorem dX2_isWhole_41 : decode cX2_isWhole 41 = .ok (.getfield 27, 3) := by decide +kernel
theorem dX2_isWhole_44 : decode cX2_isWhole 44 = .ok (.if_icmp .gt 7, 3) := by decide +kernel
theorem dX2_isWhole_47 : decode cX2_isWhole 47 = .ok (.iconst 1, 1) := by decide +kernel
theorem dX2_isWhole_48 : decode cX2_isWhole 48 = .ok (.goto 4, 3) := by decide +kernel
theorem dX2_isWhole_51 : decode cX2_isWhole 51 = .ok (.iconst 0, 1) := by decide +kernel
theorem dX2_isWhole_52 : decode cX2_isWhole 52 = .ok (.istore_n 1, 1) := by decide +kernel
theorem dX2_isWhole_53 : decode cX2_isWhole 53 = .ok (.iinc 2 1, 3) := by decide +kernel
theorem dX2_isWhole_56 : decode cX2_isWhole 56 = .ok (.goto (-34), 3) := by decide +kernel
theorem dX2_isWhole_59 : decode cX2_isWhole 59 = .ok (.iload_n 1, 1) := by decide +kernel
theorem dX2_isWhole_60 : decode cX2_isWhole 60 = .ok (.ireturn, 1) := by decide +kernel
theorem dX2_everyone_0 : decode cX2_everyone 0 = .ok (.iconst 1, 1) := by decide +kernel
theorem dX2_everyone_1 : decode cX2_everyone 1 = .ok (.aload_n 0, 1) := by decide +kernel
theorem dX2_everyone_2 : decode cX2_everyone 2 = .ok (.getfield 31, 3) := by decide +kernel
theorem dX2_everyone_5 : decode cX2_everyone 5 = .ok (.ishl, 1) := by decide +kernel
theorem dX2_everyone_6 : decode cX2_everyone 6 = .ok (.iconst 1, 1) := by decide +kernel
theorem dX2_everyone_7 : decode cX2_everyone 7 = .ok (.isub, 1) := by decide +kernel
theorem dX2_everyone_8 : decode cX2_everyone 8 = .ok (.ireturn, 1) := by decide +kernel
theorem dX2_path_0 : decode cX2_path 0 = .ok (.iconst 0, 1) := by decide +kernel
theorem dX2_path_1 : decode cX2_path 1 = .ok (.istore_n 2, 1) := by decide +kernel
theorem dX2_path_2 : decode cX2_path 2 = .ok (.iload_n 1, 1) := by decide +kernel
theorem dX2_path_3 : decode cX2_path 3 = .ok (.istore_n 3, 1) := by decide +kernel
theorem dX2_path_4 : decode cX2_path 4 = .ok (.iconst 0, 1) := by decide +kernel
theorem dX2_path_5 : decode cX2_path 5 = .ok (.istore 4, 2) := by decide +kernel
theorem dX2_path_7 : decode cX2_path 7 = .ok (.iload 4, 2) := by decide +kernel
theorem dX2_path_9 : decode cX2_path 9 = .ok (.bipush 9, 2) := by decide +kernel
theorem dX2_path_11 : decode cX2_path 11 = .ok (.if_icmp .ge 26, 3) := by decide +kernel
theorem dX2_path_14 : decode cX2_path 14 = .ok (.iload_n 3, 1) := by decide +kernel
theorem dX2_path_15 : decode cX2_path 15 = .ok (.ifCond .le 22, 3) := by decide +kernel
theorem dX2_path_18 : decode cX2_path 18 = .ok (.iload_n 2, 1) := by decide +kernel
theorem dX2_path_19 : decode cX2_path 19 = .ok (.iconst 1, 1) := by decide +kernel
theorem dX2_path_20 : decode cX2_path 20 = .ok (.iload_n 3, 1) := by decide +kernel
theorem dX2_path_21 : decode cX2_path 21 = .ok (.ishl, 1) := by decide +kernel
theorem dX2_path_22 : decode cX2_path 22 = .ok (.ior, 1) := by decide +kernel
theorem dX2_path_23 : decode cX2_path 23 = .ok (.istore_n 2, 1) := by decide +kernel
theorem dX2_path_24 : decode cX2_path 24 = .ok (.aload_n 0, 1) := by decide +kernel
theorem dX2_path_25 : decode cX2_path 25 = .ok (.getfield 9, 3) := by decide +kernel
theorem dX2_path_28 : decode cX2_path 28 = .ok (.iload_n 3, 1) := by decide +kernel
theorem dX2_path_29 : decode cX2_path 29 = .ok (.iaload, 1) := by decide +kernel
theorem dX2_path_30 : decode cX2_path 30 = .ok (.istore_n 3, 1) := by decide +kernel
theorem dX2_path_31 : decode cX2_path 31 = .ok (.iinc 4 1, 3) := by decide +kernel
theorem dX2_path_34 : decode cX2_path 34 = .ok (.goto (-27), 3) := by decide +kernel
theorem dX2_path_37 : decode cX2_path 37 = .ok (.iload_n 2, 1) := by decide +kernel
theorem dX2_path_38 : decode cX2_path 38 = .ok (.ireturn, 1) := by decide +kernel
theorem dX2_milesOf_0 : decode cX2_milesOf 0 = .ok (.iconst 0, 1) := by decide +kernel
theorem dX2_milesOf_1 : decode cX2_milesOf 1 = .ok (.istore_n 2, 1) := by decide +kernel
theorem dX2_milesOf_2 : decode cX2_milesOf 2 = .ok (.iconst 1, 1) := by decide +kernel
theorem dX2_milesOf_3 : decode cX2_milesOf 3 = .ok (.istore_n 3, 1) := by decide +kernel
theorem dX2_milesOf_4 : decode cX2_milesOf 4 = .ok (.iload_n 3, 1) := by decide +kernel
theorem dX2_milesOf_5 : decode cX2_milesOf 5 = .ok (.aload_n 0, 1) := by decide +kernel
theorem dX2_milesOf_6 : decode cX2_milesOf 6 = .ok (.getfield 27, 3) := by decide +kernel
theorem dX2_milesOf_9 : decode cX2_milesOf 9 = .ok (.if_icmp .gt 27, 3) := by decide +kernel
theorem dX2_milesOf_12 : decode cX2_milesOf 12 = .ok (.iload_n 1, 1) := by decide +kernel
theorem dX2_milesOf_13 : decode cX2_milesOf 13 = .ok (.iload_n 3, 1) := by decide +kernel
theorem dX2_milesOf_14 : decode cX2_milesOf 14 = .ok (.ishr, 1) := by decide +kernel
theorem dX2_milesOf_15 : decode cX2_milesOf 15 = .ok (.iconst 1, 1) := by decide +kernel
theorem dX2_milesOf_16 : decode cX2_milesOf 16 = .ok (.iand, 1) := by decide +kernel
theorem dX2_milesOf_17 : decode cX2_milesOf 17 = .ok (.iconst 1, 1) := by decide +kernel
theorem dX2_milesOf_18 : decode cX2_milesOf 18 = .ok (.if_icmp .ne 12, 3) := by decide +kernel
theorem dX2_milesOf_21 : decode cX2_milesOf 21 = .ok (.iload_n 2, 1) := by decide +kernel
theorem dX2_milesOf_22 : decode cX2_milesOf 22 = .ok (.aload_n 0, 1) := by decide +kernel
theorem dX2_milesOf_23 : decode cX2_milesOf 23 = .ok (.getfield 15, 3) := by decide +kernel
theorem dX2_milesOf_26 : decode cX2_milesOf 26 = .ok (.iload_n 3, 1) := by decide +kernel
theorem dX2_milesOf_27 : decode cX2_milesOf 27 = .ok (.iaload, 1) := by decide +kernel
theorem dX2_milesOf_28 : decode cX2_milesOf 28 = .ok (.iadd, 1) := by decide +kernel
theorem dX2_milesOf_29 : decode cX2_milesOf 29 = .ok (.istore_n 2, 1) := by decide +kernel
theorem dX2_milesOf_30 : decode cX2_milesOf 30 = .ok (.iinc 3 1, 3) := by decide +kernel
theorem dX2_milesOf_33 : decode cX2_milesOf 33 = .ok (.goto (-29), 3) := by decide +kernel
theorem dX2_milesOf_36 : decode cX2_milesOf 36 = .ok (.iload_n 2, 1) := by decide +kernel
theorem dX2_milesOf_37 : decode cX2_milesOf 37 = .ok (.ireturn, 1) := by decide +kernel
theorem dX2_apart_0 : decode cX2_apart 0 = .ok (.aload_n 0, 1) := by decide +kernel
theorem dX2_apart_1 : decode cX2_apart 1 = .ok (.aload_n 0, 1) := by decide +kernel
theorem dX2_apart_2 : decode cX2_apart 2 = .ok (.iload_n 1, 1) := by decide +kernel
theorem dX2_apart_3 : decode cX2_apart 3 = .ok (.invokevirtual 49, 3) := by decide +kernel
theorem dX2_apart_6 : decode cX2_apart 6 = .ok (.aload_n 0, 1) := by decide +kernel
theorem dX2_apart_7 : decode cX2_apart 7 = .ok (.iload_n 2, 1) := by decide +kernel
theorem dX2_apart_8 : decode cX2_apart 8 = .ok (.invokevirtual 49, 3) := by decide +kernel
theorem dX2_apart_11 : decode cX2_apart 11 = .ok (.ixor, 1) := by decide +kernel
theorem dX2_apart_12 : decode cX2_apart 12 = .ok (.invokevirtual 53, 3) := by decide +kernel
theorem dX2_apart_15 : decode cX2_apart 15 = .ok (.ireturn, 1) := by decide +kernel
theorem dX2_milesFor_0 : decode cX2_milesFor 0 = .ok (.iconst 0, 1) := by decide +kernel
theorem dX2_milesFor_1 : decode cX2_milesFor 1 = .ok (.istore_n 2, 1) := by decide +kernel
theorem dX2_milesFor_2 : decode cX2_milesFor 2 = .ok (.iconst 0, 1) := by decide +kernel
theorem dX2_milesFor_3 : decode cX2_milesFor 3 = .ok (.istore_n 3, 1) := by decide +kernel
theorem dX2_milesFor_4 : decode cX2_milesFor 4 = .ok (.iload_n 3, 1) := by decide +kernel
theorem dX2_milesFor_5 : decode cX2_milesFor 5 = .ok (.aload_n 0, 1) := by decide +kernel
theorem dX2_milesFor_6 : decode cX2_milesFor 6 = .ok (.getfield 31, 3) := by decide +kernel
theorem dX2_milesFor_9 : decode cX2_milesFor 9 = .ok (.if_icmp .ge 30, 3) := by decide +kernel
theorem dX2_milesFor_12 : decode cX2_milesFor 12 = .ok (.iload_n 3, 1) := by decide +kernel
theorem dX2_milesFor_13 : decode cX2_milesFor 13 = .ok (.iload_n 1, 1) := by decide +kernel
theorem dX2_milesFor_14 : decode cX2_milesFor 14 = .ok (.invokestatic 56, 3) := by decide +kernel
theorem dX2_milesFor_17 : decode cX2_milesFor 17 = .ok (.ifCond .eq 16, 3) := by decide +kernel
theorem dX2_milesFor_20 : decode cX2_milesFor 20 = .ok (.iload_n 2, 1) := by decide +kernel
theorem dX2_milesFor_21 : decode cX2_milesFor 21 = .ok (.aload_n 0, 1) := by decide +kernel
theorem dX2_milesFor_22 : decode cX2_milesFor 22 = .ok (.aload_n 0, 1) := by decide +kernel
theorem dX2_milesFor_23 : decode cX2_milesFor 23 = .ok (.getfield 18, 3) := by decide +kernel
theorem dX2_milesFor_26 : decode cX2_milesFor 26 = .ok (.iload_n 3, 1) := by decide +kernel
theorem dX2_milesFor_27 : decode cX2_milesFor 27 = .ok (.iaload, 1) := by decide +kernel
theorem dX2_milesFor_28 : decode cX2_milesFor 28 = .ok (.invokevirtual 49, 3) := by decide +kernel
theorem dX2_milesFor_31 : decode cX2_milesFor 31 = .ok (.ior, 1) := by decide +kernel
theorem dX2_milesFor_32 : decode cX2_milesFor 32 = .ok (.istore_n 2, 1) := by decide +kernel
theorem dX2_milesFor_33 : decode cX2_milesFor 33 = .ok (.iinc 3 1, 3) := by decide +kernel
theorem dX2_milesFor_36 : decode cX2_milesFor 36 = .ok (.goto (-32), 3) := by decide +kernel
theorem dX2_milesFor_39 : decode cX2_milesFor 39 = .ok (.aload_n 0, 1) := by decide +kernel
theorem dX2_milesFor_40 : decode cX2_milesFor 40 = .ok (.iload_n 2, 1) := by decide +kernel
theorem dX2_milesFor_41 : decode cX2_milesFor 41 = .ok (.invokevirtual 53, 3) := by decide +kernel
theorem dX2_milesFor_44 : decode cX2_milesFor 44 = .ok (.ireturn, 1) := by decide +kernel
theorem dX2_costFor_0 : decode cX2_costFor 0 = .ok (.aload_n 0, 1) := by decide +kernel
theorem dX2_costFor_1 : decode cX2_costFor 1 = .ok (.iload_n 1, 1) := by decide +kernel
theorem dX2_costFor_2 : decode cX2_costFor 2 = .ok (.invokevirtual 60, 3) := by decide +kernel
theorem dX2_costFor_5 : decode cX2_costFor 5 = .ok (.istore_n 2, 1) := by decide +kernel
theorem dX2_costFor_6 : decode cX2_costFor 6 = .ok (.aload_n 0, 1) := by decide +kernel
theorem dX2_costFor_7 : decode cX2_costFor 7 = .ok (.getfield 37, 3) := by decide +kernel
theorem dX2_costFor_10 : decode cX2_costFor 10 = .ok (.iload_n 2, 1) := by decide +kernel
theorem dX2_costFor_11 : decode cX2_costFor 11 = .ok (.aload_n 0, 1) := by decide +kernel
theorem dX2_costFor_12 : decode cX2_costFor 12 = .ok (.iload_n 2, 1) := by decide +kernel
theorem dX2_costFor_13 : decode cX2_costFor 13 = .ok (.invokevirtual 63, 3) := by decide +kernel
theorem dX2_costFor_16 : decode cX2_costFor 16 = .ok (.iadd, 1) := by decide +kernel
theorem dX2_costFor_17 : decode cX2_costFor 17 = .ok (.imul, 1) := by decide +kernel
theorem dX2_costFor_18 : decode cX2_costFor 18 = .ok (.ireturn, 1) := by decide +kernel
theorem dX2_nightMiles_0 : decode cX2_nightMiles 0 = .ok (.aload_n 0, 1) := by decide +kernel
theorem dX2_nightMiles_1 : decode cX2_nightMiles 1 = .ok (.getfield 40, 3) := by decide +kernel
theorem dX2_nightMiles_4 : decode cX2_nightMiles 4 = .ok (.ifCond .le 20, 3) := by decide +kernel
theorem dX2_nightMiles_7 : decode cX2_nightMiles 7 = .ok (.iload_n 1, 1) := by decide +kernel
theorem dX2_nightMiles_8 : decode cX2_nightMiles 8 = .ok (.aload_n 0, 1) := by decide +kernel
theorem dX2_nightMiles_9 : decode cX2_nightMiles 9 = .ok (.getfield 40, 3) := by decide +kernel
theorem dX2_nightMiles_12 : decode cX2_nightMiles 12 = .ok (.if_icmp .le 12, 3) := by decide +kernel
theorem dX2_nightMiles_15 : decode cX2_nightMiles 15 = .ok (.iload_n 1, 1) := by decide +kernel
theorem dX2_nightMiles_16 : decode cX2_nightMiles 16 = .ok (.aload_n 0, 1) := by decide +kernel
theorem dX2_nightMiles_17 : decode cX2_nightMiles 17 = .ok (.getfield 40, 3) := by decide +kernel
theorem dX2_nightMiles_20 : decode cX2_nightMiles 20 = .ok (.isub, 1) := by decide +kernel
theorem dX2_nightMiles_21 : decode cX2_nightMiles 21 = .ok (.goto 4, 3) := by decide +kernel
theorem dX2_nightMiles_24 : decode cX2_nightMiles 24 = .ok (.iconst 0, 1) := by decide +kernel
theorem dX2_nightMiles_25 : decode cX2_nightMiles 25 = .ok (.ireturn, 1) := by decide +kernel
theorem dX2_nightCostFor_0 : decode cX2_nightCostFor 0 = .ok (.aload_n 0, 1) := by decide +kernel
theorem dX2_nightCostFor_1 : decode cX2_nightCostFor 1 = .ok (.getfield 37, 3) := by decide +kernel
theorem dX2_nightCostFor_4 : decode cX2_nightCostFor 4 = .ok (.aload_n 0, 1) := by decide +kernel
theorem dX2_nightCostFor_5 : decode cX2_nightCostFor 5 = .ok (.aload_n 0, 1) := by decide +kernel
theorem dX2_nightCostFor_6 : decode cX2_nightCostFor 6 = .ok (.iload_n 1, 1) := by decide +kernel
theorem dX2_nightCostFor_7 : decode cX2_nightCostFor 7 = .ok (.invokevirtual 60, 3) := by decide +kernel
theorem dX2_nightCostFor_10 : decode cX2_nightCostFor 10 = .ok (.invokevirtual 63, 3) := by decide +kernel
theorem dX2_nightCostFor_13 : decode cX2_nightCostFor 13 = .ok (.imul, 1) := by decide +kernel
theorem dX2_nightCostFor_14 : decode cX2_nightCostFor 14 = .ok (.ireturn, 1) := by decide +kernel
theorem dX2_comersOn_0 : decode cX2_comersOn 0 = .ok (.iconst 0, 1) := by decide +kernel
theorem dX2_comersOn_1 : decode cX2_comersOn 1 = .ok (.istore_n 3, 1) := by decide +kernel
theorem dX2_comersOn_2 : decode cX2_comersOn 2 = .ok (.iconst 0, 1) := by decide +kernel
theorem dX2_comersOn_3 : decode cX2_comersOn 3 = .ok (.istore 4, 2) := by decide +kernel
theorem dX2_comersOn_5 : decode cX2_comersOn 5 = .ok (.iload 4, 2) := by decide +kernel
theorem dX2_comersOn_7 : decode cX2_comersOn 7 = .ok (.aload_n 0, 1) := by decide +kernel
theorem dX2_comersOn_8 : decode cX2_comersOn 8 = .ok (.getfield 31, 3) := by decide +kernel
theorem dX2_comersOn_11 : decode cX2_comersOn 11 = .ok (.if_icmp .ge 40, 3) := by decide +kernel
theorem dX2_comersOn_14 : decode cX2_comersOn 14 = .ok (.iload 4, 2) := by decide +kernel
theorem dX2_comersOn_16 : decode cX2_comersOn 16 = .ok (.iload_n 2, 1) := by decide +kernel
theorem dX2_comersOn_17 : decode cX2_comersOn 17 = .ok (.invokestatic 56, 3) := by decide +kernel
theorem dX2_comersOn_20 : decode cX2_comersOn 20 = .ok (.ifCond .eq 25, 3) := by decide +kernel
theorem dX2_comersOn_23 : decode cX2_comersOn 23 = .ok (.aload_n 0, 1) := by decide +kernel
theorem dX2_comersOn_24 : decode cX2_comersOn 24 = .ok (.aload_n 0, 1) := by decide +kernel
theorem dX2_comersOn_25 : decode cX2_comersOn 25 = .ok (.getfield 18, 3) := by decide +kernel
theorem dX2_comersOn_28 : decode cX2_comersOn 28 = .ok (.iload 4, 2) := by decide +kernel
theorem dX2_comersOn_30 : decode cX2_comersOn 30 = .ok (.iaload, 1) := by decide +kernel
theorem dX2_comersOn_31 : decode cX2_comersOn 31 = .ok (.invokevirtual 49, 3) := by decide +kernel
theorem dX2_comersOn_34 : decode cX2_comersOn 34 = .ok (.iload_n 1, 1) := by decide +kernel
theorem dX2_comersOn_35 : decode cX2_comersOn 35 = .ok (.ishr, 1) := by decide +kernel
theorem dX2_comersOn_36 : decode cX2_comersOn 36 = .ok (.iconst 1, 1) := by decide +kernel
theorem dX2_comersOn_37 : decode cX2_comersOn 37 = .ok (.iand, 1) := by decide +kernel
theorem dX2_comersOn_38 : decode cX2_comersOn 38 = .ok (.iconst 1, 1) := by decide +kernel
theorem dX2_comersOn_39 : decode cX2_comersOn 39 = .ok (.if_icmp .ne 6, 3) := by decide +kernel
theorem dX2_comersOn_42 : decode cX2_comersOn 42 = .ok (.iinc 3 1, 3) := by decide +kernel
theorem dX2_comersOn_45 : decode cX2_comersOn 45 = .ok (.iinc 4 1, 3) := by decide +kernel
theorem dX2_comersOn_48 : decode cX2_comersOn 48 = .ok (.goto (-43), 3) := by decide +kernel
theorem dX2_comersOn_51 : decode cX2_comersOn 51 = .ok (.iload_n 3, 1) := by decide +kernel
theorem dX2_comersOn_52 : decode cX2_comersOn 52 = .ok (.ireturn, 1) := by decide +kernel
theorem dX2_seatsFor_0 : decode cX2_seatsFor 0 = .ok (.iconst 0, 1) := by decide +kernel
theorem dX2_seatsFor_1 : decode cX2_seatsFor 1 = .ok (.istore_n 2, 1) := by decide +kernel
theorem dX2_seatsFor_2 : decode cX2_seatsFor 2 = .ok (.iconst 0, 1) := by decide +kernel
theorem dX2_seatsFor_3 : decode cX2_seatsFor 3 = .ok (.istore_n 3, 1) := by decide +kernel
theorem dX2_seatsFor_4 : decode cX2_seatsFor 4 = .ok (.iload_n 3, 1) := by decide +kernel
theorem dX2_seatsFor_5 : decode cX2_seatsFor 5 = .ok (.aload_n 0, 1) := by decide +kernel
theorem dX2_seatsFor_6 : decode cX2_seatsFor 6 = .ok (.getfield 31, 3) := by decide +kernel
theorem dX2_seatsFor_9 : decode cX2_seatsFor 9 = .ok (.if_icmp .ge 26, 3) := by decide +kernel
theorem dX2_seatsFor_12 : decode cX2_seatsFor 12 = .ok (.iload_n 3, 1) := by decide +kernel
theorem dX2_seatsFor_13 : decode cX2_seatsFor 13 = .ok (.iload_n 1, 1) := by decide +kernel
theorem dX2_seatsFor_14 : decode cX2_seatsFor 14 = .ok (.invokestatic 56, 3) := by decide +kernel
theorem dX2_seatsFor_17 : decode cX2_seatsFor 17 = .ok (.ifCond .eq 12, 3) := by decide +kernel
theorem dX2_seatsFor_20 : decode cX2_seatsFor 20 = .ok (.iload_n 2, 1) := by decide +kernel
theorem dX2_seatsFor_21 : decode cX2_seatsFor 21 = .ok (.aload_n 0, 1) := by decide +kernel
theorem dX2_seatsFor_22 : decode cX2_seatsFor 22 = .ok (.getfield 24, 3) := by decide +kernel
theorem dX2_seatsFor_25 : decode cX2_seatsFor 25 = .ok (.iload_n 3, 1) := by decide +kernel
theorem dX2_seatsFor_26 : decode cX2_seatsFor 26 = .ok (.iaload, 1) := by decide +kernel
theorem dX2_seatsFor_27 : decode cX2_seatsFor 27 = .ok (.iadd, 1) := by decide +kernel
theorem dX2_seatsFor_28 : decode cX2_seatsFor 28 = .ok (.istore_n 2, 1) := by decide +kernel
theorem dX2_seatsFor_29 : decode cX2_seatsFor 29 = .ok (.iinc 3 1, 3) := by decide +kernel
theorem dX2_seatsFor_32 : decode cX2_seatsFor 32 = .ok (.goto (-28), 3) := by decide +kernel
theorem dX2_seatsFor_35 : decode cX2_seatsFor 35 = .ok (.iload_n 2, 1) := by decide +kernel
theorem dX2_seatsFor_36 : decode cX2_seatsFor 36 = .ok (.ireturn, 1) := by decide +kernel
theorem dX3_init_0 : decode cX3_init 0 = .ok (.aload_n 0, 1) := by decide +kernel
theorem dX3_init_1 : decode cX3_init 1 = .ok (.invokespecial 3, 3) := by decide +kernel
theorem dX3_init_4 : decode cX3_init 4 = .ok (.aload_n 0, 1) := by decide +kernel
theorem dX3_init_5 : decode cX3_init 5 = .ok (.iconst 3, 1) := by decide +kernel
theorem dX3_init_6 : decode cX3_init 6 = .ok (.newarray .int, 2) := by decide +kernel
theorem dX3_init_8 : decode cX3_init 8 = .ok (.putfield 11, 3) := by decide +kernel
theorem dX3_init_11 : decode cX3_init 11 = .ok (.aload_n 0, 1) := by decide +kernel
theorem dX3_init_12 : decode cX3_init 12 = .ok (.aload_n 1, 1) := by decide +kernel
theorem dX3_init_13 : decode cX3_init 13 = .ok (.putfield 15, 3) := by decide +kernel
theorem dX3_init_16 : decode cX3_init 16 = .ok (.aload_n 0, 1) := by decide +kernel
theorem dX3_init_17 : decode cX3_init 17 = .ok (.aload_n 2, 1) := by decide +kernel
theorem dX3_init_18 : decode cX3_init 18 = .ok (.putfield 19, 3) := by decide +kernel
theorem dX3_init_21 : decode cX3_init 21 = .ok (.return_, 1) := by decide +kernel
theorem dX3_read_0 : decode cX3_read 0 = .ok (.aload_n 0, 1) := by decide +kernel
theorem dX3_read_1 : decode cX3_read 1 = .ok (.invokevirtual 23, 3) := by decide +kernel
theorem dX3_read_4 : decode cX3_read 4 = .ok (.aload_n 0, 1) := by decide +kernel
theorem dX3_read_5 : decode cX3_read 5 = .ok (.invokevirtual 26, 3) := by decide +kernel
theorem dX3_read_8 : decode cX3_read 8 = .ok (.iconst 0, 1) := by decide +kernel
theorem dX3_read_9 : decode cX3_read 9 = .ok (.istore_n 1, 1) := by decide +kernel
theorem dX3_read_10 : decode cX3_read 10 = .ok (.iload_n 1, 1) := by decide +kernel
theorem dX3_read_11 : decode cX3_read 11 = .ok (.sipush 160, 3) := by decide +kernel
theorem dX3_read_14 : decode cX3_read 14 = .ok (.if_icmp .ge 25, 3) := by decide +kernel
theorem dX3_read_17 : decode cX3_read 17 = .ok (.aload_n 0, 1) := by decide +kernel
theorem dX3_read_18 : decode cX3_read 18 = .ok (.getfield 15, 3) := by decide +kernel
theorem dX3_read_21 : decode cX3_read 21 = .ok (.bipush 59, 2) := by decide +kernel
theorem dX3_read_23 : decode cX3_read 23 = .ok (.invokevirtual 31, 3) := by decide +kernel
theorem dX3_read_26 : decode cX3_read 26 = .ok (.ifCond .eq 13, 3) := by decide +kernel
theorem dX3_read_29 : decode cX3_read 29 = .ok (.aload_n 0, 1) := by decide +kernel
theorem dX3_read_30 : decode cX3_read 30 = .ok (.invokevirtual 26, 3) := by decide +kernel
theorem dX3_read_33 : decode cX3_read 33 = .ok (.iinc 1 1, 3) := by decide +kernel
theorem dX3_read_36 : decode cX3_read 36 = .ok (.goto (-26), 3) := by decide +kernel
theorem dX3_read_39 : decode cX3_read 39 = .ok (.aload_n 0, 1) := by decide +kernel
theorem dX3_read_40 : decode cX3_read 40 = .ok (.getfield 15, 3) := by decide +kernel
theorem dX3_read_43 : decode cX3_read 43 = .ok (.invokevirtual 35, 3) := by decide +kernel
theorem dX3_read_46 : decode cX3_read 46 = .ok (.iconst (-1), 1) := by decide +kernel
theorem dX3_read_47 : decode cX3_read 47 = .ok (.if_icmp .eq 17, 3) := by decide +kernel
theorem dX3_read_50 : decode cX3_read 50 = .ok (.aload_n 0, 1) := by decide +kernel
theorem dX3_read_51 : decode cX3_read 51 = .ok (.getfield 15, 3) := by decide +kernel
theorem dX3_read_54 : decode cX3_read 54 = .ok (.aload_n 0, 1) := by decide +kernel
theorem dX3_read_55 : decode cX3_read 55 = .ok (.getfield 15, 3) := by decide +kernel
theorem dX3_read_58 : decode cX3_read 58 = .ok (.getfield 39, 3) := by decide +kernel
theorem dX3_read_61 : decode cX3_read 61 = .ok (.invokevirtual 43, 3) := by decide +kernel
theorem dX3_read_64 : decode cX3_read 64 = .ok (.aload_n 0, 1) := by decide +kernel
theorem dX3_read_65 : decode cX3_read 65 = .ok (.getfield 19, 3) := by decide +kernel
theorem dX3_read_68 : decode cX3_read 68 = .ok (.invokevirtual 47, 3) := by decide +kernel
theorem dX3_read_71 : decode cX3_read 71 = .ok (.ifCond .ne 17, 3) := by decide +kernel
theorem dX3_read_74 : decode cX3_read 74 = .ok (.aload_n 0, 1) := by decide +kernel
theorem dX3_read_75 : decode cX3_read 75 = .ok (.getfield 15, 3) := by decide +kernel
theorem dX3_read_78 : decode cX3_read 78 = .ok (.aload_n 0, 1) := by decide +kernel
theorem dX3_read_79 : decode cX3_read 79 = .ok (.getfield 15, 3) := by decide +kernel
theorem dX3_read_82 : decode cX3_read 82 = .ok (.getfield 53, 3) := by decide +kernel
theorem dX3_read_85 : decode cX3_read 85 = .ok (.invokevirtual 43, 3) := by decide +kernel
theorem dX3_read_88 : decode cX3_read 88 = .ok (.aload_n 0, 1) := by decide +kernel
theorem dX3_read_89 : decode cX3_read 89 = .ok (.getfield 15, 3) := by decide +kernel
theorem dX3_read_92 : decode cX3_read 92 = .ok (.getfield 56, 3) := by decide +kernel
theorem dX3_read_95 : decode cX3_read 95 = .ok (.ireturn, 1) := by decide +kernel
theorem dX3_begin_0 : decode cX3_begin 0 = .ok (.aload_n 0, 1) := by decide +kernel
theorem dX3_begin_1 : decode cX3_begin 1 = .ok (.getfield 15, 3) := by decide +kernel
theorem dX3_begin_4 : decode cX3_begin 4 = .ok (.invokevirtual 59, 3) := by decide +kernel
theorem dX3_begin_7 : decode cX3_begin 7 = .ok (.aload_n 0, 1) := by decide +kernel
theorem dX3_begin_8 : decode cX3_begin 8 = .ok (.getfield 19, 3) := by decide +kernel
theorem dX3_begin_11 : decode cX3_begin 11 = .ok (.iconst 0, 1) := by decide +kernel
theorem dX3_begin_12 : decode cX3_begin 12 = .ok (.putfield 60, 3) := by decide +kernel
theorem dX3_begin_15 : decode cX3_begin 15 = .ok (.aload_n 0, 1) := by decide +kernel
theorem dX3_begin_16 : decode cX3_begin 16 = .ok (.getfield 19, 3) := by decide +kernel
theorem dX3_begin_19 : decode cX3_begin 19 = .ok (.iconst 0, 1) := by decide +kernel
theorem dX3_begin_20 : decode cX3_begin 20 = .ok (.putfield 63, 3) := by decide +kernel
theorem dX3_begin_23 : decode cX3_begin 23 = .ok (.aload_n 0, 1) := by decide +kernel
theorem dX3_begin_24 : decode cX3_begin 24 = .ok (.iconst 0, 1) := by decide +kernel
theorem dX3_begin_25 : decode cX3_begin 25 = .ok (.putfield 66, 3) := by decide +kernel
theorem dX3_begin_28 : decode cX3_begin 28 = .ok (.aload_n 0, 1) := by decide +kernel
theorem dX3_begin_29 : decode cX3_begin 29 = .ok (.iconst 2, 1) := by decide +kernel
theorem dX3_begin_30 : decode cX3_begin 30 = .ok (.invokevirtual 70, 3) := by decide +kernel
theorem dX3_begin_33 : decode cX3_begin 33 = .ok (.aload_n 0, 1) := by decide +kernel
theorem dX3_begin_34 : decode cX3_begin 34 = .ok (.invokevirtual 73, 3) := by decide +kernel
theorem dX3_begin_37 : decode cX3_begin 37 = .ok (.return_, 1) := by decide +kernel
theorem dX3_fillWithout_0 : decode cX3_fillWithout 0 = .ok (.iconst 0, 1) := by decide +kernel
theorem dX3_fillWithout_1 : decode cX3_fillWithout 1 = .ok (.istore_n 2, 1) := by decide +kernel
theorem dX3_fillWithout_2 : decode cX3_fillWithout 2 = .ok (.iload_n 2, 1) := by decide +kernel
theorem dX3_fillWithout_3 : decode cX3_fillWithout 3 = .ok (.iconst 3, 1) := by decide +kernel
theorem dX3_fillWithout_4 : decode cX3_fillWithout 4 = .ok (.if_icmp .ge 24, 3) := by decide +kernel
theorem dX3_fillWithout_7 : decode cX3_fillWithout 7 = .ok (.aload_n 0, 1) := by decide +kernel
theorem dX3_fillWithout_8 : decode cX3_fillWithout 8 = .ok (.getfield 11, 3) := by decide +kernel
theorem dX3_fillWithout_11 : decode cX3_fillWithout 11 = .ok (.iload_n 2, 1) := by decide +kernel
theorem dX3_fillWithout_12 : decode cX3_fillWithout 12 = .ok (.getstatic 76, 3) := by decide +kernel
theorem dX3_fillWithout_15 : decode cX3_fillWithout 15 = .ok (.iload_n 1, 1) := by decide +kernel
theorem dX3_fillWithout_16 : decode cX3_fillWithout 16 = .ok (.iconst 3, 1) := by decide +kernel
theorem dX3_fillWithout_17 : decode cX3_fillWithout 17 = .ok (.imul, 1) := by decide +kernel
theorem dX3_fillWithout_18 : decode cX3_fillWithout 18 = .ok (.iload_n 2, 1) := by decide +kernel
theorem dX3_fillWithout_19 : decode cX3_fillWithout 19 = .ok (.iadd, 1) := by decide +kernel
theorem dX3_fillWithout_20 : decode cX3_fillWithout 20 = .ok (.iaload, 1) := by decide +kernel
theorem dX3_fillWithout_21 : decode cX3_fillWithout 21 = .ok (.iastore, 1) := by decide +kernel
theorem dX3_fillWithout_22 : decode cX3_fillWithout 22 = .ok (.iinc 2 1, 3) := by decide +kernel
theorem dX3_fillWithout_25 : decode cX3_fillWithout 25 = .ok (.goto (-23), 3) := by decide +kernel
theorem dX3_fillWithout_28 : decode cX3_fillWithout 28 = .ok (.return_, 1) := by decide +kernel
theorem dX3_clause_0 : decode cX3_clause 0 = .ok (.aload_n 0, 1) := by decide +kernel
theorem dX3_clause_1 : decode cX3_clause 1 = .ok (.getfield 15, 3) := by decide +kernel
theorem dX3_clause_4 : decode cX3_clause 4 = .ok (.invokevirtual 35, 3) := by decide +kernel
theorem dX3_clause_7 : decode cX3_clause 7 = .ok (.istore_n 1, 1) := by decide +kernel
theorem dX3_clause_8 : decode cX3_clause 8 = .ok (.iload_n 1, 1) := by decide +kernel
theorem dX3_clause_9 : decode cX3_clause 9 = .ok (.bipush 119, 2) := by decide +kernel
theorem dX3_clause_11 : decode cX3_clause 11 = .ok (.if_icmp .ne 40, 3) := by decide +kernel
theorem dX3_clause_14 : decode cX3_clause 14 = .ok (.aload_n 0, 1) := by decide +kernel
theorem dX3_clause_15 : decode cX3_clause 15 = .ok (.getfield 19, 3) := by decide +kernel
theorem dX3_clause_18 : decode cX3_clause 18 = .ok (.getfield 60, 3) := by decide +kernel
theorem dX3_clause_21 : decode cX3_clause 21 = .ok (.bipush 9, 2) := by decide +kernel
theorem dX3_clause_23 : decode cX3_clause 23 = .ok (.if_icmp .ge 28, 3) := by decide +kernel
theorem dX3_clause_26 : decode cX3_clause 26 = .ok (.aload_n 0, 1) := by decide +kernel
theorem dX3_clause_27 : decode cX3_clause 27 = .ok (.getfield 15, 3) := by decide +kernel
theorem dX3_clause_30 : decode cX3_clause 30 = .ok (.dup, 1) := by decide +kernel
theorem dX3_clause_31 : decode cX3_clause 31 = .ok (.getfield 39, 3) := by decide +kernel
theorem dX3_clause_34 : decode cX3_clause 34 = .ok (.iconst 1, 1) := by decide +kernel
theorem dX3_clause_35 : decode cX3_clause 35 = .ok (.iadd, 1) := by decide +kernel
theorem dX3_clause_36 : decode cX3_clause 36 = .ok (.putfield 39, 3) := by decide +kernel
theorem dX3_clause_39 : decode cX3_clause 39 = .ok (.aload_n 0, 1) := by decide +kernel
theorem dX3_clause_40 : decode cX3_clause 40 = .ok (.iconst 0, 1) := by decide +kernel
theorem dX3_clause_41 : decode cX3_clause 41 = .ok (.invokevirtual 79, 3) := by decide +kernel
theorem dX3_clause_44 : decode cX3_clause 44 = .ok (.aload_n 0, 1) := by decide +kernel
theorem dX3_clause_45 : decode cX3_clause 45 = .ok (.invokevirtual 82, 3) := by decide +kernel
theorem dX3_clause_48 : decode cX3_clause 48 = .ok (.goto 103, 3) := by decide +kernel
theorem dX3_clause_51 : decode cX3_clause 51 = .ok (.iload_n 1, 1) := by decide +kernel
theorem dX3_clause_52 : decode cX3_clause 52 = .ok (.bipush 114, 2) := by decide +kernel
theorem dX3_clause_54 : decode cX3_clause 54 = .ok (.if_icmp .ne 40, 3) := by decide +kernel
theorem dX3_clause_57 : decode cX3_clause 57 = .ok (.aload_n 0, 1) := by decide +kernel
theorem dX3_clause_58 : decode cX3_clause 58 = .ok (.getfield 19, 3) := by decide +kernel
theorem dX3_clause_61 : decode cX3_clause 61 = .ok (.getfield 63, 3) := by decide +kernel
theorem dX3_clause_64 : decode cX3_clause 64 = .ok (.bipush 6, 2) := by decide +kernel
theorem dX3_clause_66 : decode cX3_clause 66 = .ok (.if_icmp .ge 28, 3) := by decide +kernel
theorem dX3_clause_69 : decode cX3_clause 69 = .ok (.aload_n 0, 1) := by decide +kernel
theorem dX3_clause_70 : decode cX3_clause 70 = .ok (.getfield 15, 3) := by decide +kernel
theorem dX3_clause_73 : decode cX3_clause 73 = .ok (.dup, 1) := by decide +kernel
theorem dX3_clause_74 : decode cX3_clause 74 = .ok (.getfield 39, 3) := by decide +kernel
theorem dX3_clause_77 : decode cX3_clause 77 = .ok (.iconst 1, 1) := by decide +kernel
theorem dX3_clause_78 : decode cX3_clause 78 = .ok (.iadd, 1) := by decide +kernel
theorem dX3_clause_79 : decode cX3_clause 79 = .ok (.putfield 39, 3) := by decide +kernel
theorem dX3_clause_82 : decode cX3_clause 82 = .ok (.aload_n 0, 1) := by decide +kernel
theorem dX3_clause_83 : decode cX3_clause 83 = .ok (.iconst 1, 1) := by decide +kernel
theorem dX3_clause_84 : decode cX3_clause 84 = .ok (.invokevirtual 79, 3) := by decide +kernel
theorem dX3_clause_87 : decode cX3_clause 87 = .ok (.aload_n 0, 1) := by decide +kernel
theorem dX3_clause_88 : decode cX3_clause 88 = .ok (.invokevirtual 85, 3) := by decide +kernel
theorem dX3_clause_91 : decode cX3_clause 91 = .ok (.goto 60, 3) := by decide +kernel
theorem dX3_clause_94 : decode cX3_clause 94 = .ok (.iload_n 1, 1) := by decide +kernel
theorem dX3_clause_95 : decode cX3_clause 95 = .ok (.bipush 99, 2) := by decide +kernel
theorem dX3_clause_97 : decode cX3_clause 97 = .ok (.if_icmp .ne 40, 3) := by decide +kernel
theorem dX3_clause_100 : decode cX3_clause 100 = .ok (.aload_n 0, 1) := by decide +kernel
theorem dX3_clause_101 : decode cX3_clause 101 = .ok (.getfield 66, 3) := by decide +kernel
theorem dX3_clause_104 : decode cX3_clause 104 = .ok (.ifCond .ne 33, 3) := by decide +kernel
theorem dX3_clause_107 : decode cX3_clause 107 = .ok (.aload_n 0, 1) := by decide +kernel
theorem dX3_clause_108 : decode cX3_clause 108 = .ok (.getfield 15, 3) := by decide +kernel
theorem dX3_clause_111 : decode cX3_clause 111 = .ok (.dup, 1) := by decide +kernel
theorem dX3_clause_112 : decode cX3_clause 112 = .ok (.getfield 39, 3) := by decide +kernel
theorem dX3_clause_115 : decode cX3_clause 115 = .ok (.iconst 1, 1) := by decide +kernel
theorem dX3_clause_116 : decode cX3_clause 116 = .ok (.iadd, 1) := by decide +kernel
theorem dX3_clause_117 : decode cX3_clause 117 = .ok (.putfield 39, 3) := by decide +kernel
theorem dX3_clause_120 : decode cX3_clause 120 = .ok (.aload_n 0, 1) := by decide +kernel
theorem dX3_clause_121 : decode cX3_clause 121 = .ok (.iconst 1, 1) := by decide +kernel
theorem dX3_clause_122 : decode cX3_clause 122 = .ok (.putfield 66, 3) := by decide +kernel
theorem dX3_clause_125 : decode cX3_clause 125 = .ok (.aload_n 0, 1) := by decide +kernel
theorem dX3_clause_126 : decode cX3_clause 126 = .ok (.iconst 2, 1) := by decide +kernel
theorem dX3_clause_127 : decode cX3_clause 127 = .ok (.invokevirtual 79, 3) := by decide +kernel
theorem dX3_clause_130 : decode cX3_clause 130 = .ok (.aload_n 0, 1) := by decide +kernel
theorem dX3_clause_131 : decode cX3_clause 131 = .ok (.invokevirtual 73, 3) := by decide +kernel
theorem dX3_clause_134 : decode cX3_clause 134 = .ok (.goto 17, 3) := by decide +kernel
theorem dX3_clause_137 : decode cX3_clause 137 = .ok (.aload_n 0, 1) := by decide +kernel
theorem dX3_clause_138 : decode cX3_clause 138 = .ok (.getfield 15, 3) := by decide +kernel
theorem dX3_clause_141 : decode cX3_clause 141 = .ok (.aload_n 0, 1) := by decide +kernel
theorem dX3_clause_142 : decode cX3_clause 142 = .ok (.getfield 15, 3) := by decide +kernel
theorem dX3_clause_145 : decode cX3_clause 145 = .ok (.getfield 39, 3) := by decide +kernel
theorem dX3_clause_148 : decode cX3_clause 148 = .ok (.invokevirtual 43, 3) := by decide +kernel
theorem dX3_clause_151 : decode cX3_clause 151 = .ok (.return_, 1) := by decide +kernel
theorem dX3_readItems_0 : decode cX3_readItems 0 = .ok (.aload_n 0, 1) := by decide +kernel
theorem dX3_readItems_1 : decode cX3_readItems 1 = .ok (.iload_n 1, 1) := by decide +kernel
theorem dX3_readItems_2 : decode cX3_readItems 2 = .ok (.invokevirtual 70, 3) := by decide +kernel
theorem dX3_readItems_5 : decode cX3_readItems 5 = .ok (.iconst 0, 1) := by decide +kernel
theorem dX3_readItems_6 : decode cX3_readItems 6 = .ok (.istore_n 2, 1) := by decide +kernel
theorem dX3_readItems_7 : decode cX3_readItems 7 = .ok (.iconst 0, 1) := by decide +kernel
theorem dX3_readItems_8 : decode cX3_readItems 8 = .ok (.istore_n 3, 1) := by decide +kernel
theorem dX3_readItems_9 : decode cX3_readItems 9 = .ok (.iload_n 3, 1) := by decide +kernel
theorem dX3_readItems_10 : decode cX3_readItems 10 = .ok (.iconst 3, 1) := by decide +kernel
theorem dX3_readItems_11 : decode cX3_readItems 11 = .ok (.if_icmp .ge 73, 3) := by decide +kernel
theorem dX3_readItems_14 : decode cX3_readItems 14 = .ok (.iload_n 1, 1) := by decide +kernel
theorem dX3_readItems_15 : decode cX3_readItems 15 = .ok (.aload_n 0, 1) := by decide +kernel
theorem dX3_readItems_16 : decode cX3_readItems 16 = .ok (.getfield 15, 3) := by decide +kernel
theorem dX3_readItems_19 : decode cX3_readItems 19 = .ok (.invokevirtual 35, 3) := by decide +kernel
theorem dX3_readItems_22 : decode cX3_readItems 22 = .ok (.invokestatic 88, 3) := by decide +kernel
theorem dX3_readItems_25 : decode cX3_readItems 25 = .ok (.istore 4, 2) := by decide +kernel
theorem dX3_readItems_27 : decode cX3_readItems 27 = .ok (.iload 4, 2) := by decide +kernel
theorem dX3_readItems_29 : decode cX3_readItems 29 = .ok (.iconst (-1), 1) := by decide +kernel
theorem dX3_readItems_30 : decode cX3_readItems 30 = .ok (.if_icmp .eq 13, 3) := by decide +kernel
theorem dX3_readItems_33 : decode cX3_readItems 33 = .ok (.iload_n 2, 1) := by decide +kernel
theorem dX3_readItems_34 : decode cX3_readItems 34 = .ok (.iload 4, 2) := by decide +kernel
theorem dX3_readItems_36 : decode cX3_readItems 36 = .ok (.ishr, 1) := by decide +kernel
theorem dX3_readItems_37 : decode cX3_readItems 37 = .ok (.iconst 1, 1) := by decide +kernel
theorem dX3_readItems_38 : decode cX3_readItems 38 = .ok (.iand, 1) := by decide +kernel
theorem dX3_readItems_39 : decode cX3_readItems 39 = .ok (.iconst 1, 1) := by decide +kernel
theorem dX3_readItems_40 : decode cX3_readItems 40 = .ok (.if_icmp .ne 4, 3) := by decide +kernel
theorem dX3_readItems_43 : decode cX3_readItems 43 = .ok (.return_, 1) := by decide +kernel
theorem dX3_readItems_44 : decode cX3_readItems 44 = .ok (.aload_n 0, 1) := by decide +kernel
theorem dX3_readItems_45 : decode cX3_readItems 45 = .ok (.getfield 15, 3) := by decide +kernel
theorem dX3_readItems_48 : decode cX3_readItems 48 = .ok (.dup, 1) := by decide +kernel
theorem dX3_readItems_49 : decode cX3_readItems 49 = .ok (.getfield 39, 3) := by decide +kernel
theorem dX3_readItems_52 : decode cX3_readItems 52 = .ok (.iconst 1, 1) := by decide +kernel
theorem dX3_readItems_53 : decode cX3_readItems 53 = .ok (.iadd, 1) := by decide +kernel
theorem dX3_readItems_54 : decode cX3_readItems 54 = .ok (.putfield 39, 3) := by decide +kernel
theorem dX3_readItems_57 : decode cX3_readItems 57 = .ok (.iload_n 2, 1) := by decide +kernel
theorem dX3_readItems_58 : decode cX3_readItems 58 = .ok (.iconst 1, 1) := by decide +kernel
theorem dX3_readItems_59 : decode cX3_readItems 59 = .ok (.iload 4, 2) := by decide +kernel
theorem dX3_readItems_61 : decode cX3_readItems 61 = .ok (.ishl, 1) := by decide +kernel
theorem dX3_readItems_62 : decode cX3_readItems 62 = .ok (.ior, 1) := by decide +kernel
theorem dX3_readItems_63 : decode cX3_readItems 63 = .ok (.istore_n 2, 1) := by decide +kernel
theorem dX3_readItems_64 : decode cX3_readItems 64 = .ok (.aload_n 0, 1) := by decide +kernel
theorem dX3_readItems_65 : decode cX3_readItems 65 = .ok (.getfield 11, 3) := by decide +kernel
theorem dX3_readItems_68 : decode cX3_readItems 68 = .ok (.iload 4, 2) := by decide +kernel
theorem dX3_readItems_70 : decode cX3_readItems 70 = .ok (.aload_n 0, 1) := by decide +kernel
theorem dX3_readItems_71 : decode cX3_readItems 71 = .ok (.iload_n 1, 1) := by decide +kernel
theorem dX3_readItems_72 : decode cX3_readItems 72 = .ok (.iload 4, 2) := by decide +kernel
theorem dX3_readItems_74 : decode cX3_readItems 74 = .ok (.invokevirtual 92, 3) := by decide +kernel
theorem dX3_readItems_77 : decode cX3_readItems 77 = .ok (.iastore, 1) := by decide +kernel
theorem dX3_readItems_78 : decode cX3_readItems 78 = .ok (.iinc 3 1, 3) := by decide +kernel
theorem dX3_readItems_81 : decode cX3_readItems 81 = .ok (.goto (-72), 3) := by decide +kernel
theorem dX3_readItems_84 : decode cX3_readItems 84 = .ok (.return_, 1) := by decide +kernel
theorem dX3_itemOf_0 : decode cX3_itemOf 0 = .ok (.iconst 0, 1) := by decide +kernel
theorem dX3_itemOf_1 : decode cX3_itemOf 1 = .ok (.istore_n 2, 1) := by decide +kernel
theorem dX3_itemOf_2 : decode cX3_itemOf 2 = .ok (.iload_n 2, 1) := by decide +kernel
theorem dX3_itemOf_3 : decode cX3_itemOf 3 = .ok (.iconst 3, 1) := by decide +kernel
theorem dX3_itemOf_4 : decode cX3_itemOf 4 = .ok (.if_icmp .ge 24, 3) := by decide +kernel
theorem dX3_itemOf_7 : decode cX3_itemOf 7 = .ok (.getstatic 95, 3) := by decide +kernel
theorem dX3_itemOf_10 : decode cX3_itemOf 10 = .ok (.iload_n 0, 1) := by decide +kernel
theorem dX3_itemOf_11 : decode cX3_itemOf 11 = .ok (.iconst 3, 1) := by decide +kernel
theorem dX3_itemOf_12 : decode cX3_itemOf 12 = .ok (.imul, 1) := by decide +kernel
theorem dX3_itemOf_13 : decode cX3_itemOf 13 = .ok (.iload_n 2, 1) := by decide +kernel
theorem dX3_itemOf_14 : decode cX3_itemOf 14 = .ok (.iadd, 1) := by decide +kernel
theorem dX3_itemOf_15 : decode cX3_itemOf 15 = .ok (.iaload, 1) := by decide +kernel
theorem dX3_itemOf_16 : decode cX3_itemOf 16 = .ok (.iload_n 1, 1) := by decide +kernel
theorem dX3_itemOf_17 : decode cX3_itemOf 17 = .ok (.if_icmp .ne 5, 3) := by decide +kernel
theorem dX3_itemOf_20 : decode cX3_itemOf 20 = .ok (.iload_n 2, 1) := by decide +kernel
theorem dX3_itemOf_21 : decode cX3_itemOf 21 = .ok (.ireturn, 1) := by decide +kernel
theorem dX3_itemOf_22 : decode cX3_itemOf 22 = .ok (.iinc 2 1, 3) := by decide +kernel
theorem dX3_itemOf_25 : decode cX3_itemOf 25 = .ok (.goto (-23), 3) := by decide +kernel
theorem dX3_itemOf_28 : decode cX3_itemOf 28 = .ok (.iconst (-1), 1) := by decide +kernel
theorem dX3_itemOf_29 : decode cX3_itemOf 29 = .ok (.ireturn, 1) := by decide +kernel
theorem dX3_boundNumber_0 : decode cX3_boundNumber 0 = .ok (.aload_n 0, 1) := by decide +kernel
theorem dX3_boundNumber_1 : decode cX3_boundNumber 1 = .ok (.getfield 15, 3) := by decide +kernel
theorem dX3_boundNumber_4 : decode cX3_boundNumber 4 = .ok (.iconst 2, 1) := by decide +kernel
theorem dX3_boundNumber_5 : decode cX3_boundNumber 5 = .ok (.invokevirtual 98, 3) := by decide +kernel
theorem dX3_boundNumber_8 : decode cX3_boundNumber 8 = .ok (.istore_n 3, 1) := by decide +kernel
theorem dX3_boundNumber_9 : decode cX3_boundNumber 9 = .ok (.iload_n 1, 1) := by decide +kernel
theorem dX3_boundNumber_10 : decode cX3_boundNumber 10 = .ok (.ifCond .ne 17, 3) := by decide +kernel
theorem dX3_boundNumber_13 : decode cX3_boundNumber 13 = .ok (.iload_n 2, 1) := by decide +kernel
theorem dX3_boundNumber_14 : decode cX3_boundNumber 14 = .ok (.ifCond .ne 13, 3) := by decide +kernel
theorem dX3_boundNumber_17 : decode cX3_boundNumber 17 = .ok (.aload_n 0, 1) := by decide +kernel
theorem dX3_boundNumber_18 : decode cX3_boundNumber 18 = .ok (.getfield 19, 3) := by decide +kernel
theorem dX3_boundNumber_21 : decode cX3_boundNumber 21 = .ok (.getfield 60, 3) := by decide +kernel
theorem dX3_boundNumber_24 : decode cX3_boundNumber 24 = .ok (.goto 12, 3) := by decide +kernel
theorem dX3_boundNumber_27 : decode cX3_boundNumber 27 = .ok (.getstatic 102, 3) := by decide +kernel
theorem dX3_boundNumber_30 : decode cX3_boundNumber 30 = .ok (.iload_n 1, 1) := by decide +kernel
theorem dX3_boundNumber_31 : decode cX3_boundNumber 31 = .ok (.iconst 3, 1) := by decide +kernel
theorem dX3_boundNumber_32 : decode cX3_boundNumber 32 = .ok (.imul, 1) := by decide +kernel
theorem dX3_boundNumber_33 : decode cX3_boundNumber 33 = .ok (.iload_n 2, 1) := by decide +kernel
theorem dX3_boundNumber_34 : decode cX3_boundNumber 34 = .ok (.iadd, 1) := by decide +kernel
theorem dX3_boundNumber_35 : decode cX3_boundNumber 35 = .ok (.iaload, 1) := by decide +kernel
theorem dX3_boundNumber_36 : decode cX3_boundNumber 36 = .ok (.istore 4, 2) := by decide +kernel
theorem dX3_boundNumber_38 : decode cX3_boundNumber 38 = .ok (.iload_n 3, 1) := by decide +kernel
theorem dX3_boundNumber_39 : decode cX3_boundNumber 39 = .ok (.getstatic 105, 3) := by decide +kernel
theorem dX3_boundNumber_42 : decode cX3_boundNumber 42 = .ok (.iload_n 1, 1) := by decide +kernel
theorem dX3_boundNumber_43 : decode cX3_boundNumber 43 = .ok (.iconst 3, 1) := by decide +kernel
theorem dX3_boundNumber_44 : decode cX3_boundNumber 44 = .ok (.imul, 1) := by decide +kernel
theorem dX3_boundNumber_45 : decode cX3_boundNumber 45 = .ok (.iload_n 2, 1) := by decide +kernel
theorem dX3_boundNumber_46 : decode cX3_boundNumber 46 = .ok (.iadd, 1) := by decide +kernel
theorem dX3_boundNumber_47 : decode cX3_boundNumber 47 = .ok (.iaload, 1) := by decide +kernel
theorem dX3_boundNumber_48 : decode cX3_boundNumber 48 = .ok (.iload 4, 2) := by decide +kernel
theorem dX3_boundNumber_50 : decode cX3_boundNumber 50 = .ok (.invokestatic 108, 3) := by decide +kernel
theorem dX3_boundNumber_53 : decode cX3_boundNumber 53 = .ok (.ifCond .ne 19, 3) := by decide +kernel
theorem dX3_boundNumber_56 : decode cX3_boundNumber 56 = .ok (.aload_n 0, 1) := by decide +kernel
theorem dX3_boundNumber_57 : decode cX3_boundNumber 57 = .ok (.getfield 15, 3) := by decide +kernel
theorem dX3_boundNumber_60 : decode cX3_boundNumber 60 = .ok (.aload_n 0, 1) := by decide +kernel
theorem dX3_boundNumber_61 : decode cX3_boundNumber 61 = .ok (.getfield 15, 3) := by decide +kernel
theorem dX3_boundNumber_64 : decode cX3_boundNumber 64 = .ok (.getfield 39, 3) := by decide +kernel
theorem dX3_boundNumber_67 : decode cX3_boundNumber 67 = .ok (.iconst 1, 1) := by decide +kernel
theorem dX3_boundNumber_68 : decode cX3_boundNumber 68 = .ok (.isub, 1) := by decide +kernel
theorem dX3_boundNumber_69 : decode cX3_boundNumber 69 = .ok (.invokevirtual 43, 3) := by decide +kernel
theorem dX3_boundNumber_72 : decode cX3_boundNumber 72 = .ok (.iload_n 3, 1) := by decide +kernel
theorem dX3_boundNumber_73 : decode cX3_boundNumber 73 = .ok (.ireturn, 1) := by decide +kernel
theorem dX3_takeWay_0 : decode cX3_takeWay 0 = .ok (.aload_n 0, 1) := by decide +kernel
theorem dX3_takeWay_1 : decode cX3_takeWay 1 = .ok (.getfield 19, 3) := by decide +kernel
theorem dX3_takeWay_4 : decode cX3_takeWay 4 = .ok (.dup, 1) := by decide +kernel
theorem dX3_takeWay_5 : decode cX3_takeWay 5 = .ok (.getfield 60, 3) := by decide +kernel
theorem dX3_takeWay_8 : decode cX3_takeWay 8 = .ok (.iconst 1, 1) := by decide +kernel
theorem dX3_takeWay_9 : decode cX3_takeWay 9 = .ok (.iadd, 1) := by decide +kernel
theorem dX3_takeWay_10 : decode cX3_takeWay 10 = .ok (.putfield 60, 3) := by decide +kernel
theorem dX3_takeWay_13 : decode cX3_takeWay 13 = .ok (.aload_n 0, 1) := by decide +kernel
theorem dX3_takeWay_14 : decode cX3_takeWay 14 = .ok (.getfield 19, 3) := by decide +kernel
theorem dX3_takeWay_17 : decode cX3_takeWay 17 = .ok (.getfield 112, 3) := by decide +kernel
theorem dX3_takeWay_20 : decode cX3_takeWay 20 = .ok (.aload_n 0, 1) := by decide +kernel
theorem dX3_takeWay_21 : decode cX3_takeWay 21 = .ok (.getfield 19, 3) := by decide +kernel
theorem dX3_takeWay_24 : decode cX3_takeWay 24 = .ok (.getfield 60, 3) := by decide +kernel
theorem dX3_takeWay_27 : decode cX3_takeWay 27 = .ok (.aload_n 0, 1) := by decide +kernel
theorem dX3_takeWay_28 : decode cX3_takeWay 28 = .ok (.getfield 11, 3) := by decide +kernel
theorem dX3_takeWay_31 : decode cX3_takeWay 31 = .ok (.iconst 0, 1) := by decide +kernel
theorem dX3_takeWay_32 : decode cX3_takeWay 32 = .ok (.iaload, 1) := by decide +kernel
theorem dX3_takeWay_33 : decode cX3_takeWay 33 = .ok (.iastore, 1) := by decide +kernel
theorem dX3_takeWay_34 : decode cX3_takeWay 34 = .ok (.aload_n 0, 1) := by decide +kernel
theorem dX3_takeWay_35 : decode cX3_takeWay 35 = .ok (.getfield 19, 3) := by decide +kernel
theorem dX3_takeWay_38 : decode cX3_takeWay 38 = .ok (.getfield 115, 3) := by decide +kernel
theorem dX3_takeWay_41 : decode cX3_takeWay 41 = .ok (.aload_n 0, 1) := by decide +kernel
theorem dX3_takeWay_42 : decode cX3_takeWay 42 = .ok (.getfield 19, 3) := by decide +kernel
theorem dX3_takeWay_45 : decode cX3_takeWay 45 = .ok (.getfield 60, 3) := by decide +kernel
theorem dX3_takeWay_48 : decode cX3_takeWay 48 = .ok (.aload_n 0, 1) := by decide +kernel
theorem dX3_takeWay_49 : decode cX3_takeWay 49 = .ok (.getfield 11, 3) := by decide +kernel
theorem dX3_takeWay_52 : decode cX3_takeWay 52 = .ok (.iconst 1, 1) := by decide +kernel
theorem dX3_takeWay_53 : decode cX3_takeWay 53 = .ok (.iaload, 1) := by decide +kernel
theorem dX3_takeWay_54 : decode cX3_takeWay 54 = .ok (.iastore, 1) := by decide +kernel
theorem dX3_takeWay_55 : decode cX3_takeWay 55 = .ok (.return_, 1) := by decide +kernel
theorem dX3_takeRider_0 : decode cX3_takeRider 0 = .ok (.aload_n 0, 1) := by decide +kernel
theorem dX3_takeRider_1 : decode cX3_takeRider 1 = .ok (.getfield 19, 3) := by decide +kernel
theorem dX3_takeRider_4 : decode cX3_takeRider 4 = .ok (.getfield 118, 3) := by decide +kernel
theorem dX3_takeRider_7 : decode cX3_takeRider 7 = .ok (.aload_n 0, 1) := by decide +kernel
theorem dX3_takeRider_8 : decode cX3_takeRider 8 = .ok (.getfield 19, 3) := by decide +kernel
theorem dX3_takeRider_11 : decode cX3_takeRider 11 = .ok (.getfield 63, 3) := by decide +kernel
theorem dX3_takeRider_14 : decode cX3_takeRider 14 = .ok (.aload_n 0, 1) := by decide +kernel
theorem dX3_takeRider_15 : decode cX3_takeRider 15 = .ok (.getfield 11, 3) := by decide +kernel
theorem dX3_takeRider_18 : decode cX3_takeRider 18 = .ok (.iconst 0, 1) := by decide +kernel
theorem dX3_takeRider_19 : decode cX3_takeRider 19 = .ok (.iaload, 1) := by decide +kernel
theorem dX3_takeRider_20 : decode cX3_takeRider 20 = .ok (.iastore, 1) := by decide +kernel
theorem dX3_takeRider_21 : decode cX3_takeRider 21 = .ok (.aload_n 0, 1) := by decide +kernel
theorem dX3_takeRider_22 : decode cX3_takeRider 22 = .ok (.getfield 19, 3) := by decide +kernel
theorem dX3_takeRider_25 : decode cX3_takeRider 25 = .ok (.getfield 121, 3) := by decide +kernel
theorem dX3_takeRider_28 : decode cX3_takeRider 28 = .ok (.aload_n 0, 1) := by decide +kernel
theorem dX3_takeRider_29 : decode cX3_takeRider 29 = .ok (.getfield 19, 3) := by decide +kernel
theorem dX3_takeRider_32 : decode cX3_takeRider 32 = .ok (.getfield 63, 3) := by decide +kernel
theorem dX3_takeRider_35 : decode cX3_takeRider 35 = .ok (.aload_n 0, 1) := by decide +kernel
theorem dX3_takeRider_36 : decode cX3_takeRider 36 = .ok (.getfield 11, 3) := by decide +kernel
theorem dX3_takeRider_39 : decode cX3_takeRider 39 = .ok (.iconst 1, 1) := by decide +kernel
theorem dX3_takeRider_40 : decode cX3_takeRider 40 = .ok (.iaload, 1) := by decide +kernel
theorem dX3_takeRider_41 : decode cX3_takeRider 41 = .ok (.iastore, 1) := by decide +kernel
theorem dX3_takeRider_42 : decode cX3_takeRider 42 = .ok (.aload_n 0, 1) := by decide +kernel
theorem dX3_takeRider_43 : decode cX3_takeRider 43 = .ok (.getfield 19, 3) := by decide +kernel
theorem dX3_takeRider_46 : decode cX3_takeRider 46 = .ok (.getfield 124, 3) := by decide +kernel
theorem dX3_takeRider_49 : decode cX3_takeRider 49 = .ok (.aload_n 0, 1) := by decide +kernel
theorem dX3_takeRider_50 : decode cX3_takeRider 50 = .ok (.getfield 19, 3) := by decide +kernel
theorem dX3_takeRider_53 : decode cX3_takeRider 53 = .ok (.getfield 63, 3) := by decide +kernel
theorem dX3_takeRider_56 : decode cX3_takeRider 56 = .ok (.aload_n 0, 1) := by decide +kernel
theorem dX3_takeRider_57 : decode cX3_takeRider 57 = .ok (.getfield 11, 3) := by decide +kernel
theorem dX3_takeRider_60 : decode cX3_takeRider 60 = .ok (.iconst 2, 1) := by decide +kernel
theorem dX3_takeRider_61 : decode cX3_takeRider 61 = .ok (.iaload, 1) := by decide +kernel
theorem dX3_takeRider_62 : decode cX3_takeRider 62 = .ok (.iastore, 1) := by decide +kernel
theorem dX3_takeRider_63 : decode cX3_takeRider 63 = .ok (.aload_n 0, 1) := by decide +kernel
theorem dX3_takeRider_64 : decode cX3_takeRider 64 = .ok (.getfield 19, 3) := by decide +kernel
theorem dX3_takeRider_67 : decode cX3_takeRider 67 = .ok (.dup, 1) := by decide +kernel
theorem dX3_takeRider_68 : decode cX3_takeRider 68 = .ok (.getfield 63, 3) := by decide +kernel
theorem dX3_takeRider_71 : decode cX3_takeRider 71 = .ok (.iconst 1, 1) := by decide +kernel
theorem dX3_takeRider_72 : decode cX3_takeRider 72 = .ok (.iadd, 1) := by decide +kernel
theorem dX3_takeRider_73 : decode cX3_takeRider 73 = .ok (.putfield 63, 3) := by decide +kernel
theorem dX3_takeRider_76 : decode cX3_takeRider 76 = .ok (.return_, 1) := by decide +kernel
theorem dX3_takeCoach_0 : decode cX3_takeCoach 0 = .ok (.aload_n 0, 1) := by decide +kernel
theorem dX3_takeCoach_1 : decode cX3_takeCoach 1 = .ok (.getfield 19, 3) := by decide +kernel
theorem dX3_takeCoach_4 : decode cX3_takeCoach 4 = .ok (.aload_n 0, 1) := by decide +kernel
theorem dX3_takeCoach_5 : decode cX3_takeCoach 5 = .ok (.getfield 11, 3) := by decide +kernel
theorem dX3_takeCoach_8 : decode cX3_takeCoach 8 = .ok (.iconst 0, 1) := by decide +kernel
theorem dX3_takeCoach_9 : decode cX3_takeCoach 9 = .ok (.iaload, 1) := by decide +kernel
theorem dX3_takeCoach_10 : decode cX3_takeCoach 10 = .ok (.putfield 127, 3) := by decide +kernel
theorem dX3_takeCoach_13 : decode cX3_takeCoach 13 = .ok (.aload_n 0, 1) := by decide +kernel
theorem dX3_takeCoach_14 : decode cX3_takeCoach 14 = .ok (.getfield 19, 3) := by decide +kernel
theorem dX3_takeCoach_17 : decode cX3_takeCoach 17 = .ok (.aload_n 0, 1) := by decide +kernel
theorem dX3_takeCoach_18 : decode cX3_takeCoach 18 = .ok (.getfield 11, 3) := by decide +kernel
theorem dX3_takeCoach_21 : decode cX3_takeCoach 21 = .ok (.iconst 1, 1) := by decide +kernel
theorem dX3_takeCoach_22 : decode cX3_takeCoach 22 = .ok (.iaload, 1) := by decide +kernel
theorem dX3_takeCoach_23 : decode cX3_takeCoach 23 = .ok (.putfield 130, 3) := by decide +kernel
theorem dX3_takeCoach_26 : decode cX3_takeCoach 26 = .ok (.aload_n 0, 1) := by decide +kernel
theorem dX3_takeCoach_27 : decode cX3_takeCoach 27 = .ok (.getfield 19, 3) := by decide +kernel
theorem dX3_takeCoach_30 : decode cX3_takeCoach 30 = .ok (.aload_n 0, 1) := by decide +kernel
theorem dX3_takeCoach_31 : decode cX3_takeCoach 31 = .ok (.getfield 11, 3) := by decide +kernel
theorem dX3_takeCoach_34 : decode cX3_takeCoach 34 = .ok (.iconst 2, 1) := by decide +kernel
theorem dX3_takeCoach_35 : decode cX3_takeCoach 35 = .ok (.iaload, 1) := by decide +kernel
theorem dX3_takeCoach_36 : decode cX3_takeCoach 36 = .ok (.putfield 133, 3) := by decide +kernel
theorem dX3_takeCoach_39 : decode cX3_takeCoach 39 = .ok (.return_, 1) := by decide +kernel
theorem dX4_init_0 : decode cX4_init 0 = .ok (.aload_n 0, 1) := by decide +kernel
theorem dX4_init_1 : decode cX4_init 1 = .ok (.invokespecial 1, 3) := by decide +kernel
theorem dX4_init_4 : decode cX4_init 4 = .ok (.aload_n 0, 1) := by decide +kernel
theorem dX4_init_5 : decode cX4_init 5 = .ok (.sipush 160, 3) := by decide +kernel
theorem dX4_init_8 : decode cX4_init 8 = .ok (.newarray .int, 2) := by decide +kernel
theorem dX4_init_10 : decode cX4_init 10 = .ok (.putfield 9, 3) := by decide +kernel
theorem dX4_init_13 : decode cX4_init 13 = .ok (.aload_n 0, 1) := by decide +kernel
theorem dX4_init_14 : decode cX4_init 14 = .ok (.aload_n 1, 1) := by decide +kernel
theorem dX4_init_15 : decode cX4_init 15 = .ok (.putfield 15, 3) := by decide +kernel
theorem dX4_init_18 : decode cX4_init 18 = .ok (.return_, 1) := by decide +kernel
theorem dX4_read_0 : decode cX4_read 0 = .ok (.aload_n 0, 1) := by decide +kernel
theorem dX4_read_1 : decode cX4_read 1 = .ok (.getfield 15, 3) := by decide +kernel
theorem dX4_read_4 : decode cX4_read 4 = .ok (.invokevirtual 19, 3) := by decide +kernel
theorem dX4_read_7 : decode cX4_read 7 = .ok (.aload_n 0, 1) := by decide +kernel
theorem dX4_read_8 : decode cX4_read 8 = .ok (.iconst 0, 1) := by decide +kernel
theorem dX4_read_9 : decode cX4_read 9 = .ok (.putfield 22, 3) := by decide +kernel
theorem dX4_read_12 : decode cX4_read 12 = .ok (.aload_n 0, 1) := by decide +kernel
theorem dX4_read_13 : decode cX4_read 13 = .ok (.invokevirtual 26, 3) := by decide +kernel
theorem dX4_read_16 : decode cX4_read 16 = .ok (.iconst 0, 1) := by decide +kernel
theorem dX4_read_17 : decode cX4_read 17 = .ok (.istore_n 1, 1) := by decide +kernel
theorem dX4_read_18 : decode cX4_read 18 = .ok (.iload_n 1, 1) := by decide +kernel
theorem dX4_read_19 : decode cX4_read 19 = .ok (.sipush 160, 3) := by decide +kernel
theorem dX4_read_22 : decode cX4_read 22 = .ok (.if_icmp .ge 25, 3) := by decide +kernel
theorem dX4_read_25 : decode cX4_read 25 = .ok (.aload_n 0, 1) := by decide +kernel
theorem dX4_read_26 : decode cX4_read 26 = .ok (.getfield 15, 3) := by decide +kernel
theorem dX4_read_29 : decode cX4_read 29 = .ok (.bipush 59, 2) := by decide +kernel
theorem dX4_read_31 : decode cX4_read 31 = .ok (.invokevirtual 29, 3) := by decide +kernel
theorem dX4_read_34 : decode cX4_read 34 = .ok (.ifCond .eq 13, 3) := by decide +kernel
theorem dX4_read_37 : decode cX4_read 37 = .ok (.aload_n 0, 1) := by decide +kernel
theorem dX4_read_38 : decode cX4_read 38 = .ok (.invokevirtual 26, 3) := by decide +kernel
theorem dX4_read_41 : decode cX4_read 41 = .ok (.iinc 1 1, 3) := by decide +kernel
theorem dX4_read_44 : decode cX4_read 44 = .ok (.goto (-26), 3) := by decide +kernel
theorem dX4_read_47 : decode cX4_read 47 = .ok (.aload_n 0, 1) := by decide +kernel
theorem dX4_read_48 : decode cX4_read 48 = .ok (.getfield 15, 3) := by decide +kernel
theorem dX4_read_51 : decode cX4_read 51 = .ok (.invokevirtual 33, 3) := by decide +kernel
theorem dX4_read_54 : decode cX4_read 54 = .ok (.iconst (-1), 1) := by decide +kernel
theorem dX4_read_55 : decode cX4_read 55 = .ok (.if_icmp .eq 17, 3) := by decide +kernel
theorem dX4_read_58 : decode cX4_read 58 = .ok (.aload_n 0, 1) := by decide +kernel
theorem dX4_read_59 : decode cX4_read 59 = .ok (.getfield 15, 3) := by decide +kernel
theorem dX4_read_62 : decode cX4_read 62 = .ok (.aload_n 0, 1) := by decide +kernel
theorem dX4_read_63 : decode cX4_read 63 = .ok (.getfield 15, 3) := by decide +kernel
theorem dX4_read_66 : decode cX4_read 66 = .ok (.getfield 37, 3) := by decide +kernel
theorem dX4_read_69 : decode cX4_read 69 = .ok (.invokevirtual 40, 3) := by decide +kernel
theorem dX4_read_72 : decode cX4_read 72 = .ok (.aload_n 0, 1) := by decide +kernel
theorem dX4_read_73 : decode cX4_read 73 = .ok (.getfield 15, 3) := by decide +kernel
theorem dX4_read_76 : decode cX4_read 76 = .ok (.getfield 44, 3) := by decide +kernel
theorem dX4_read_79 : decode cX4_read 79 = .ok (.ireturn, 1) := by decide +kernel
theorem dX4_clause_0 : decode cX4_clause 0 = .ok (.aload_n 0, 1) := by decide +kernel
theorem dX4_clause_1 : decode cX4_clause 1 = .ok (.getfield 15, 3) := by decide +kernel
theorem dX4_clause_4 : decode cX4_clause 4 = .ok (.bipush 121, 2) := by decide +kernel
theorem dX4_clause_6 : decode cX4_clause 6 = .ok (.invokevirtual 47, 3) := by decide +kernel
theorem dX4_clause_9 : decode cX4_clause 9 = .ok (.aload_n 0, 1) := by decide +kernel
theorem dX4_clause_10 : decode cX4_clause 10 = .ok (.getfield 15, 3) := by decide +kernel
theorem dX4_clause_13 : decode cX4_clause 13 = .ok (.bipush 58, 2) := by decide +kernel
theorem dX4_clause_15 : decode cX4_clause 15 = .ok (.invokevirtual 47, 3) := by decide +kernel
theorem dX4_clause_18 : decode cX4_clause 18 = .ok (.aload_n 0, 1) := by decide +kernel
theorem dX4_clause_19 : decode cX4_clause 19 = .ok (.getfield 15, 3) := by decide +kernel
theorem dX4_clause_22 : decode cX4_clause 22 = .ok (.invokevirtual 33, 3) := by decide +kernel
theorem dX4_clause_25 : decode cX4_clause 25 = .ok (.istore_n 1, 1) := by decide +kernel
theorem dX4_clause_26 : decode cX4_clause 26 = .ok (.iload_n 1, 1) := by decide +kernel
theorem dX4_clause_27 : decode cX4_clause 27 = .ok (.bipush 33, 2) := by decide +kernel
theorem dX4_clause_29 : decode cX4_clause 29 = .ok (.if_icmp .eq 9, 3) := by decide +kernel
theorem dX4_clause_32 : decode cX4_clause 32 = .ok (.iload_n 1, 1) := by decide +kernel
theorem dX4_clause_33 : decode cX4_clause 33 = .ok (.bipush 40, 2) := by decide +kernel
theorem dX4_clause_35 : decode cX4_clause 35 = .ok (.if_icmp .ne 7, 3) := by decide +kernel
theorem dX4_clause_38 : decode cX4_clause 38 = .ok (.iconst 1, 1) := by decide +kernel
theorem dX4_clause_39 : decode cX4_clause 39 = .ok (.goto 4, 3) := by decide +kernel
theorem dX4_clause_42 : decode cX4_clause 42 = .ok (.iconst 0, 1) := by decide +kernel
theorem dX4_clause_43 : decode cX4_clause 43 = .ok (.istore_n 2, 1) := by decide +kernel
theorem dX4_clause_44 : decode cX4_clause 44 = .ok (.iload_n 2, 1) := by decide +kernel
theorem dX4_clause_45 : decode cX4_clause 45 = .ok (.ifCond .ne 32, 3) := by decide +kernel
theorem dX4_clause_48 : decode cX4_clause 48 = .ok (.aload_n 0, 1) := by decide +kernel
theorem dX4_clause_49 : decode cX4_clause 49 = .ok (.iconst 0, 1) := by decide +kernel
theorem dX4_clause_50 : decode cX4_clause 50 = .ok (.invokevirtual 50, 3) := by decide +kernel
theorem dX4_clause_53 : decode cX4_clause 53 = .ok (.aload_n 0, 1) := by decide +kernel
theorem dX4_clause_54 : decode cX4_clause 54 = .ok (.getfield 15, 3) := by decide +kernel
theorem dX4_clause_57 : decode cX4_clause 57 = .ok (.invokevirtual 33, 3) := by decide +kernel
theorem dX4_clause_60 : decode cX4_clause 60 = .ok (.invokestatic 53, 3) := by decide +kernel
theorem dX4_clause_63 : decode cX4_clause 63 = .ok (.istore_n 2, 1) := by decide +kernel
theorem dX4_clause_64 : decode cX4_clause 64 = .ok (.iload_n 2, 1) := by decide +kernel
theorem dX4_clause_65 : decode cX4_clause 65 = .ok (.ifCond .eq 18, 3) := by decide +kernel
theorem dX4_clause_68 : decode cX4_clause 68 = .ok (.aload_n 0, 1) := by decide +kernel
theorem dX4_clause_69 : decode cX4_clause 69 = .ok (.iconst 0, 1) := by decide +kernel
theorem dX4_clause_70 : decode cX4_clause 70 = .ok (.iconst 1, 1) := by decide +kernel
theorem dX4_clause_71 : decode cX4_clause 71 = .ok (.invokevirtual 56, 3) := by decide +kernel
theorem dX4_clause_74 : decode cX4_clause 74 = .ok (.goto 9, 3) := by decide +kernel
theorem dX4_clause_77 : decode cX4_clause 77 = .ok (.aload_n 0, 1) := by decide +kernel
theorem dX4_clause_78 : decode cX4_clause 78 = .ok (.iconst 0, 1) := by decide +kernel
theorem dX4_clause_79 : decode cX4_clause 79 = .ok (.iconst 0, 1) := by decide +kernel
theorem dX4_clause_80 : decode cX4_clause 80 = .ok (.invokevirtual 56, 3) := by decide +kernel
theorem dX4_clause_83 : decode cX4_clause 83 = .ok (.iload_n 2, 1) := by decide +kernel
theorem dX4_clause_84 : decode cX4_clause 84 = .ok (.ifCond .eq 24, 3) := by decide +kernel
theorem dX4_clause_87 : decode cX4_clause 87 = .ok (.aload_n 0, 1) := by decide +kernel
theorem dX4_clause_88 : decode cX4_clause 88 = .ok (.getfield 15, 3) := by decide +kernel
theorem dX4_clause_91 : decode cX4_clause 91 = .ok (.bipush 63, 2) := by decide +kernel
theorem dX4_clause_93 : decode cX4_clause 93 = .ok (.invokevirtual 47, 3) := by decide +kernel
theorem dX4_clause_96 : decode cX4_clause 96 = .ok (.aload_n 0, 1) := by decide +kernel
theorem dX4_clause_97 : decode cX4_clause 97 = .ok (.sipush 10063, 3) := by decide +kernel
theorem dX4_clause_100 : decode cX4_clause 100 = .ok (.invokevirtual 62, 3) := by decide +kernel
theorem dX4_clause_103 : decode cX4_clause 103 = .ok (.aload_n 0, 1) := by decide +kernel
theorem dX4_clause_104 : decode cX4_clause 104 = .ok (.iconst 0, 1) := by decide +kernel
theorem dX4_clause_105 : decode cX4_clause 105 = .ok (.invokevirtual 50, 3) := by decide +kernel
theorem dX4_clause_108 : decode cX4_clause 108 = .ok (.aload_n 0, 1) := by decide +kernel
theorem dX4_clause_109 : decode cX4_clause 109 = .ok (.sipush 10059, 3) := by decide +kernel
theorem dX4_clause_112 : decode cX4_clause 112 = .ok (.invokevirtual 62, 3) := by decide +kernel
theorem dX4_clause_115 : decode cX4_clause 115 = .ok (.return_, 1) := by decide +kernel
theorem dX4_isComparison_0 : decode cX4_isComparison 0 = .ok (.iload_n 0, 1) := by decide +kernel
theorem dX4_isComparison_1 : decode cX4_isComparison 1 = .ok (.bipush 61, 2) := by decide +kernel
theorem dX4_isComparison_3 : decode cX4_isComparison 3 = .ok (.if_icmp .eq 15, 3) := by decide +kernel
theorem dX4_isComparison_6 : decode cX4_isComparison 6 = .ok (.iload_n 0, 1) := by decide +kernel
theorem dX4_isComparison_7 : decode cX4_isComparison 7 = .ok (.bipush 60, 2) := by decide +kernel
theorem dX4_isComparison_9 : decode cX4_isComparison 9 = .ok (.if_icmp .eq 9, 3) := by decide +kernel
theorem dX4_isComparison_12 : decode cX4_isComparison 12 = .ok (.iload_n 0, 1) := by decide +kernel
theorem dX4_isComparison_13 : decode cX4_isComparison 13 = .ok (.bipush 62, 2) := by decide +kernel
theorem dX4_isComparison_15 : decode cX4_isComparison 15 = .ok (.if_icmp .ne 7, 3) := by decide +kernel
theorem dX4_isComparison_18 : decode cX4_isComparison 18 = .ok (.iconst 1, 1) := by decide +kernel
theorem dX4_isComparison_19 : decode cX4_isComparison 19 = .ok (.goto 4, 3) := by decide +kernel
theorem dX4_isComparison_22 : decode cX4_isComparison 22 = .ok (.iconst 0, 1) := by decide +kernel
theorem dX4_isComparison_23 : decode cX4_isComparison 23 = .ok (.ireturn, 1) := by decide +kernel
theorem dX4_condition_0 : decode cX4_condition 0 = .ok (.aload_n 0, 1) := by decide +kernel
theorem dX4_condition_1 : decode cX4_condition 1 = .ok (.iload_n 1, 1) := by decide +kernel
theorem dX4_condition_2 : decode cX4_condition 2 = .ok (.iload_n 2, 1) := by decide +kernel
theorem dX4_condition_3 : decode cX4_condition 3 = .ok (.invokevirtual 65, 3) := by decide +kernel
theorem dX4_condition_6 : decode cX4_condition 6 = .ok (.iconst 0, 1) := by decide +kernel
theorem dX4_condition_7 : decode cX4_condition 7 = .ok (.istore_n 3, 1) := by decide +kernel
theorem dX4_condition_8 : decode cX4_condition 8 = .ok (.iload_n 3, 1) := by decide +kernel
theorem dX4_condition_9 : decode cX4_condition 9 = .ok (.sipush 160, 3) := by decide +kernel
theorem dX4_condition_12 : decode cX4_condition 12 = .ok (.if_icmp .ge 34, 3) := by decide +kernel
theorem dX4_condition_15 : decode cX4_condition 15 = .ok (.aload_n 0, 1) := by decide +kernel
theorem dX4_condition_16 : decode cX4_condition 16 = .ok (.getfield 15, 3) := by decide +kernel
theorem dX4_condition_19 : decode cX4_condition 19 = .ok (.bipush 124, 2) := by decide +kernel
theorem dX4_condition_21 : decode cX4_condition 21 = .ok (.invokevirtual 29, 3) := by decide +kernel
theorem dX4_condition_24 : decode cX4_condition 24 = .ok (.ifCond .eq 22, 3) := by decide +kernel
theorem dX4_condition_27 : decode cX4_condition 27 = .ok (.aload_n 0, 1) := by decide +kernel
theorem dX4_condition_28 : decode cX4_condition 28 = .ok (.iload_n 1, 1) := by decide +kernel
theorem dX4_condition_29 : decode cX4_condition 29 = .ok (.iconst 0, 1) := by decide +kernel
theorem dX4_condition_30 : decode cX4_condition 30 = .ok (.invokevirtual 65, 3) := by decide +kernel
theorem dX4_condition_33 : decode cX4_condition 33 = .ok (.aload_n 0, 1) := by decide +kernel
theorem dX4_condition_34 : decode cX4_condition 34 = .ok (.sipush 10124, 3) := by decide +kernel
theorem dX4_condition_37 : decode cX4_condition 37 = .ok (.invokevirtual 62, 3) := by decide +kernel
theorem dX4_condition_40 : decode cX4_condition 40 = .ok (.iinc 3 1, 3) := by decide +kernel
theorem dX4_condition_43 : decode cX4_condition 43 = .ok (.goto (-35), 3) := by decide +kernel
theorem dX4_condition_46 : decode cX4_condition 46 = .ok (.return_, 1) := by decide +kernel
theorem dX4_truth_0 : decode cX4_truth 0 = .ok (.aload_n 0, 1) := by decide +kernel
theorem dX4_truth_1 : decode cX4_truth 1 = .ok (.iload_n 1, 1) := by decide +kernel
theorem dX4_truth_2 : decode cX4_truth 2 = .ok (.iload_n 2, 1) := by decide +kernel
theorem dX4_truth_3 : decode cX4_truth 3 = .ok (.invokevirtual 68, 3) := by decide +kernel
theorem dX4_truth_6 : decode cX4_truth 6 = .ok (.iconst 0, 1) := by decide +kernel
theorem dX4_truth_7 : decode cX4_truth 7 = .ok (.istore_n 3, 1) := by decide +kernel
theorem dX4_truth_8 : decode cX4_truth 8 = .ok (.iload_n 3, 1) := by decide +kernel
theorem dX4_truth_9 : decode cX4_truth 9 = .ok (.sipush 160, 3) := by decide +kernel
theorem dX4_truth_12 : decode cX4_truth 12 = .ok (.if_icmp .ge 34, 3) := by decide +kernel
theorem dX4_truth_15 : decode cX4_truth 15 = .ok (.aload_n 0, 1) := by decide +kernel
theorem dX4_truth_16 : decode cX4_truth 16 = .ok (.getfield 15, 3) := by decide +kernel
theorem dX4_truth_19 : decode cX4_truth 19 = .ok (.bipush 38, 2) := by decide +kernel
theorem dX4_truth_21 : decode cX4_truth 21 = .ok (.invokevirtual 29, 3) := by decide +kernel
theorem dX4_truth_24 : decode cX4_truth 24 = .ok (.ifCond .eq 22, 3) := by decide +kernel
theorem dX4_truth_27 : decode cX4_truth 27 = .ok (.aload_n 0, 1) := by decide +kernel
theorem dX4_truth_28 : decode cX4_truth 28 = .ok (.iload_n 1, 1) := by decide +kernel
theorem dX4_truth_29 : decode cX4_truth 29 = .ok (.iconst 0, 1) := by decide +kernel
theorem dX4_truth_30 : decode cX4_truth 30 = .ok (.invokevirtual 68, 3) := by decide +kernel
theorem dX4_truth_33 : decode cX4_truth 33 = .ok (.aload_n 0, 1) := by decide +kernel
theorem dX4_truth_34 : decode cX4_truth 34 = .ok (.sipush 10038, 3) := by decide +kernel
theorem dX4_truth_37 : decode cX4_truth 37 = .ok (.invokevirtual 62, 3) := by decide +kernel
theorem dX4_truth_40 : decode cX4_truth 40 = .ok (.iinc 3 1, 3) := by decide +kernel
theorem dX4_truth_43 : decode cX4_truth 43 = .ok (.goto (-35), 3) := by decide +kernel
theorem dX4_truth_46 : decode cX4_truth 46 = .ok (.return_, 1) := by decide +kernel
theorem dX4_unit_0 : decode cX4_unit 0 = .ok (.iload_n 2, 1) := by decide +kernel
theorem dX4_unit_1 : decode cX4_unit 1 = .ok (.ifCond .eq 11, 3) := by decide +kernel
theorem dX4_unit_4 : decode cX4_unit 4 = .ok (.aload_n 0, 1) := by decide +kernel
theorem dX4_unit_5 : decode cX4_unit 5 = .ok (.iload_n 1, 1) := by decide +kernel
theorem dX4_unit_6 : decode cX4_unit 6 = .ok (.invokevirtual 71, 3) := by decide +kernel
theorem dX4_unit_9 : decode cX4_unit 9 = .ok (.goto 71, 3) := by decide +kernel
theorem dX4_unit_12 : decode cX4_unit 12 = .ok (.aload_n 0, 1) := by decide +kernel
theorem dX4_unit_13 : decode cX4_unit 13 = .ok (.bipush 33, 2) := by decide +kernel
theorem dX4_unit_15 : decode cX4_unit 15 = .ok (.iload_n 1, 1) := by decide +kernel
theorem dX4_unit_16 : decode cX4_unit 16 = .ok (.invokevirtual 74, 3) := by decide +kernel
theorem dX4_unit_19 : decode cX4_unit 19 = .ok (.ifCond .eq 21, 3) := by decide +kernel
theorem dX4_unit_22 : decode cX4_unit 22 = .ok (.aload_n 0, 1) := by decide +kernel
theorem dX4_unit_23 : decode cX4_unit 23 = .ok (.iload_n 1, 1) := by decide +kernel
theorem dX4_unit_24 : decode cX4_unit 24 = .ok (.iconst 1, 1) := by decide +kernel
theorem dX4_unit_25 : decode cX4_unit 25 = .ok (.iadd, 1) := by decide +kernel
theorem dX4_unit_26 : decode cX4_unit 26 = .ok (.iconst 0, 1) := by decide +kernel
theorem dX4_unit_27 : decode cX4_unit 27 = .ok (.invokevirtual 68, 3) := by decide +kernel
theorem dX4_unit_30 : decode cX4_unit 30 = .ok (.aload_n 0, 1) := by decide +kernel
theorem dX4_unit_31 : decode cX4_unit 31 = .ok (.sipush 10033, 3) := by decide +kernel
theorem dX4_unit_34 : decode cX4_unit 34 = .ok (.invokevirtual 62, 3) := by decide +kernel
theorem dX4_unit_37 : decode cX4_unit 37 = .ok (.goto 43, 3) := by decide +kernel
theorem dX4_unit_40 : decode cX4_unit 40 = .ok (.aload_n 0, 1) := by decide +kernel
theorem dX4_unit_41 : decode cX4_unit 41 = .ok (.bipush 40, 2) := by decide +kernel
theorem dX4_unit_43 : decode cX4_unit 43 = .ok (.iload_n 1, 1) := by decide +kernel
theorem dX4_unit_44 : decode cX4_unit 44 = .ok (.invokevirtual 74, 3) := by decide +kernel
theorem dX4_unit_47 : decode cX4_unit 47 = .ok (.ifCond .eq 23, 3) := by decide +kernel
theorem dX4_unit_50 : decode cX4_unit 50 = .ok (.aload_n 0, 1) := by decide +kernel
theorem dX4_unit_51 : decode cX4_unit 51 = .ok (.iload_n 1, 1) := by decide +kernel
theorem dX4_unit_52 : decode cX4_unit 52 = .ok (.iconst 1, 1) := by decide +kernel
theorem dX4_unit_53 : decode cX4_unit 53 = .ok (.iadd, 1) := by decide +kernel
theorem dX4_unit_54 : decode cX4_unit 54 = .ok (.iconst 0, 1) := by decide +kernel
theorem dX4_unit_55 : decode cX4_unit 55 = .ok (.invokevirtual 56, 3) := by decide +kernel
theorem dX4_unit_58 : decode cX4_unit 58 = .ok (.aload_n 0, 1) := by decide +kernel
theorem dX4_unit_59 : decode cX4_unit 59 = .ok (.getfield 15, 3) := by decide +kernel
theorem dX4_unit_62 : decode cX4_unit 62 = .ok (.bipush 41, 2) := by decide +kernel
theorem dX4_unit_64 : decode cX4_unit 64 = .ok (.invokevirtual 47, 3) := by decide +kernel
theorem dX4_unit_67 : decode cX4_unit 67 = .ok (.goto 13, 3) := by decide +kernel
theorem dX4_unit_70 : decode cX4_unit 70 = .ok (.aload_n 0, 1) := by decide +kernel
theorem dX4_unit_71 : decode cX4_unit 71 = .ok (.iload_n 1, 1) := by decide +kernel
theorem dX4_unit_72 : decode cX4_unit 72 = .ok (.invokevirtual 50, 3) := by decide +kernel
theorem dX4_unit_75 : decode cX4_unit 75 = .ok (.aload_n 0, 1) := by decide +kernel
theorem dX4_unit_76 : decode cX4_unit 76 = .ok (.iload_n 1, 1) := by decide +kernel
theorem dX4_unit_77 : decode cX4_unit 77 = .ok (.invokevirtual 71, 3) := by decide +kernel
theorem dX4_unit_80 : decode cX4_unit 80 = .ok (.return_, 1) := by decide +kernel
theorem dX4_opens_0 : decode cX4_opens 0 = .ok (.aload_n 0, 1) := by decide +kernel
theorem dX4_opens_1 : decode cX4_opens 1 = .ok (.getfield 15, 3) := by decide +kernel
theorem dX4_opens_4 : decode cX4_opens 4 = .ok (.invokevirtual 33, 3) := by decide +kernel
theorem dX4_opens_7 : decode cX4_opens 7 = .ok (.iload_n 1, 1) := by decide +kernel
theorem dX4_opens_8 : decode cX4_opens 8 = .ok (.if_icmp .eq 5, 3) := by decide +kernel
theorem dX4_opens_11 : decode cX4_opens 11 = .ok (.iconst 0, 1) := by decide +kernel
theorem dX4_opens_12 : decode cX4_opens 12 = .ok (.ireturn, 1) := by decide +kernel
theorem dX4_opens_13 : decode cX4_opens 13 = .ok (.iload_n 2, 1) := by decide +kernel
theorem dX4_opens_14 : decode cX4_opens 14 = .ok (.bipush 6, 2) := by decide +kernel
theorem dX4_opens_16 : decode cX4_opens 16 = .ok (.if_icmp .lt 19, 3) := by decide +kernel
theorem dX4_opens_19 : decode cX4_opens 19 = .ok (.aload_n 0, 1) := by decide +kernel
theorem dX4_opens_20 : decode cX4_opens 20 = .ok (.getfield 15, 3) := by decide +kernel
theorem dX4_opens_23 : decode cX4_opens 23 = .ok (.aload_n 0, 1) := by decide +kernel
theorem dX4_opens_24 : decode cX4_opens 24 = .ok (.getfield 15, 3) := by decide +kernel
theorem dX4_opens_27 : decode cX4_opens 27 = .ok (.getfield 37, 3) := by decide +kernel
theorem dX4_opens_30 : decode cX4_opens 30 = .ok (.invokevirtual 40, 3) := by decide +kernel
theorem dX4_opens_33 : decode cX4_opens 33 = .ok (.iconst 0, 1) := by decide +kernel
theorem dX4_opens_34 : decode cX4_opens 34 = .ok (.ireturn, 1) := by decide +kernel
theorem dX4_opens_35 : decode cX4_opens 35 = .ok (.aload_n 0, 1) := by decide +kernel
theorem dX4_opens_36 : decode cX4_opens 36 = .ok (.getfield 15, 3) := by decide +kernel
theorem dX4_opens_39 : decode cX4_opens 39 = .ok (.dup, 1) := by decide +kernel
theorem dX4_opens_40 : decode cX4_opens 40 = .ok (.getfield 37, 3) := by decide +kernel
theorem dX4_opens_43 : decode cX4_opens 43 = .ok (.iconst 1, 1) := by decide +kernel
theorem dX4_opens_44 : decode cX4_opens 44 = .ok (.iadd, 1) := by decide +kernel
theorem dX4_opens_45 : decode cX4_opens 45 = .ok (.putfield 37, 3) := by decide +kernel
theorem dX4_opens_48 : decode cX4_opens 48 = .ok (.iconst 1, 1) := by decide +kernel
theorem dX4_opens_49 : decode cX4_opens 49 = .ok (.ireturn, 1) := by decide +kernel
theorem dX4_comparison_0 : decode cX4_comparison 0 = .ok (.aload_n 0, 1) := by decide +kernel
theorem dX4_comparison_1 : decode cX4_comparison 1 = .ok (.getfield 15, 3) := by decide +kernel
theorem dX4_comparison_4 : decode cX4_comparison 4 = .ok (.invokevirtual 33, 3) := by decide +kernel
theorem dX4_comparison_7 : decode cX4_comparison 7 = .ok (.istore_n 2, 1) := by decide +kernel
theorem dX4_comparison_8 : decode cX4_comparison 8 = .ok (.iload_n 2, 1) := by decide +kernel
theorem dX4_comparison_9 : decode cX4_comparison 9 = .ok (.invokestatic 53, 3) := by decide +kernel
theorem dX4_comparison_12 : decode cX4_comparison 12 = .ok (.ifCond .ne 18, 3) := by decide +kernel
theorem dX4_comparison_15 : decode cX4_comparison 15 = .ok (.aload_n 0, 1) := by decide +kernel
theorem dX4_comparison_16 : decode cX4_comparison 16 = .ok (.getfield 15, 3) := by decide +kernel
theorem dX4_comparison_19 : decode cX4_comparison 19 = .ok (.aload_n 0, 1) := by decide +kernel
theorem dX4_comparison_20 : decode cX4_comparison 20 = .ok (.getfield 15, 3) := by decide +kernel
theorem dX4_comparison_23 : decode cX4_comparison 23 = .ok (.getfield 37, 3) := by decide +kernel
theorem dX4_comparison_26 : decode cX4_comparison 26 = .ok (.invokevirtual 40, 3) := by decide +kernel
theorem dX4_comparison_29 : decode cX4_comparison 29 = .ok (.return_, 1) := by decide +kernel
theorem dX4_comparison_30 : decode cX4_comparison 30 = .ok (.aload_n 0, 1) := by decide +kernel
theorem dX4_comparison_31 : decode cX4_comparison 31 = .ok (.getfield 15, 3) := by decide +kernel
theorem dX4_comparison_34 : decode cX4_comparison 34 = .ok (.dup, 1) := by decide +kernel
theorem dX4_comparison_35 : decode cX4_comparison 35 = .ok (.getfield 37, 3) := by decide +kernel
theorem dX4_comparison_38 : decode cX4_comparison 38 = .ok (.iconst 1, 1) := by decide +kernel
theorem dX4_comparison_39 : decode cX4_comparison 39 = .ok (.iadd, 1) := by decide +kernel
theorem dX4_comparison_40 : decode cX4_comparison 40 = .ok (.putfield 37, 3) := by decide +kernel
theorem dX4_comparison_43 : decode cX4_comparison 43 = .ok (.aload_n 0, 1) := by decide +kernel
theorem dX4_comparison_44 : decode cX4_comparison 44 = .ok (.iload_n 1, 1) := by decide +kernel
theorem dX4_comparison_45 : decode cX4_comparison 45 = .ok (.invokevirtual 50, 3) := by decide +kernel
theorem dX4_comparison_48 : decode cX4_comparison 48 = .ok (.aload_n 0, 1) := by decide +kernel
theorem dX4_comparison_49 : decode cX4_comparison 49 = .ok (.sipush 10000, 3) := by decide +kernel
theorem dX4_comparison_52 : decode cX4_comparison 52 = .ok (.iload_n 2, 1) := by decide +kernel
theorem dX4_comparison_53 : decode cX4_comparison 53 = .ok (.iadd, 1) := by decide +kernel
theorem dX4_comparison_54 : decode cX4_comparison 54 = .ok (.invokevirtual 62, 3) := by decide +kernel
theorem dX4_comparison_57 : decode cX4_comparison 57 = .ok (.return_, 1) := by decide +kernel
theorem dX4_sum_0 : decode cX4_sum 0 = .ok (.aload_n 0, 1) := by decide +kernel
theorem dX4_sum_1 : decode cX4_sum 1 = .ok (.iload_n 1, 1) := by decide +kernel
theorem dX4_sum_2 : decode cX4_sum 2 = .ok (.invokevirtual 78, 3) := by decide +kernel
theorem dX4_sum_5 : decode cX4_sum 5 = .ok (.aload_n 0, 1) := by decide +kernel
theorem dX4_sum_6 : decode cX4_sum 6 = .ok (.getfield 15, 3) := by decide +kernel
theorem dX4_sum_9 : decode cX4_sum 9 = .ok (.invokevirtual 33, 3) := by decide +kernel
theorem dX4_sum_12 : decode cX4_sum 12 = .ok (.istore_n 2, 1) := by decide +kernel
theorem dX4_sum_13 : decode cX4_sum 13 = .ok (.iconst 0, 1) := by decide +kernel
theorem dX4_sum_14 : decode cX4_sum 14 = .ok (.istore_n 3, 1) := by decide +kernel
theorem dX4_sum_15 : decode cX4_sum 15 = .ok (.iload_n 3, 1) := by decide +kernel
theorem dX4_sum_16 : decode cX4_sum 16 = .ok (.sipush 160, 3) := by decide +kernel
theorem dX4_sum_19 : decode cX4_sum 19 = .ok (.if_icmp .ge 56, 3) := by decide +kernel
theorem dX4_sum_22 : decode cX4_sum 22 = .ok (.iload_n 2, 1) := by decide +kernel
theorem dX4_sum_23 : decode cX4_sum 23 = .ok (.bipush 43, 2) := by decide +kernel
theorem dX4_sum_25 : decode cX4_sum 25 = .ok (.if_icmp .eq 9, 3) := by decide +kernel
theorem dX4_sum_28 : decode cX4_sum 28 = .ok (.iload_n 2, 1) := by decide +kernel
theorem dX4_sum_29 : decode cX4_sum 29 = .ok (.bipush 45, 2) := by decide +kernel
theorem dX4_sum_31 : decode cX4_sum 31 = .ok (.if_icmp .ne 44, 3) := by decide +kernel
theorem dX4_sum_34 : decode cX4_sum 34 = .ok (.aload_n 0, 1) := by decide +kernel
theorem dX4_sum_35 : decode cX4_sum 35 = .ok (.getfield 15, 3) := by decide +kernel
theorem dX4_sum_38 : decode cX4_sum 38 = .ok (.dup, 1) := by decide +kernel
theorem dX4_sum_39 : decode cX4_sum 39 = .ok (.getfield 37, 3) := by decide +kernel
theorem dX4_sum_42 : decode cX4_sum 42 = .ok (.iconst 1, 1) := by decide +kernel
theorem dX4_sum_43 : decode cX4_sum 43 = .ok (.iadd, 1) := by decide +kernel
theorem dX4_sum_44 : decode cX4_sum 44 = .ok (.putfield 37, 3) := by decide +kernel
theorem dX4_sum_47 : decode cX4_sum 47 = .ok (.aload_n 0, 1) := by decide +kernel
theorem dX4_sum_48 : decode cX4_sum 48 = .ok (.iload_n 1, 1) := by decide +kernel
theorem dX4_sum_49 : decode cX4_sum 49 = .ok (.invokevirtual 78, 3) := by decide +kernel
theorem dX4_sum_52 : decode cX4_sum 52 = .ok (.aload_n 0, 1) := by decide +kernel
theorem dX4_sum_53 : decode cX4_sum 53 = .ok (.sipush 10000, 3) := by decide +kernel
theorem dX4_sum_56 : decode cX4_sum 56 = .ok (.iload_n 2, 1) := by decide +kernel
theorem dX4_sum_57 : decode cX4_sum 57 = .ok (.iadd, 1) := by decide +kernel
theorem dX4_sum_58 : decode cX4_sum 58 = .ok (.invokevirtual 62, 3) := by decide +kernel
theorem dX4_sum_61 : decode cX4_sum 61 = .ok (.aload_n 0, 1) := by decide +kernel
theorem dX4_sum_62 : decode cX4_sum 62 = .ok (.getfield 15, 3) := by decide +kernel
theorem dX4_sum_65 : decode cX4_sum 65 = .ok (.invokevirtual 33, 3) := by decide +kernel
theorem dX4_sum_68 : decode cX4_sum 68 = .ok (.istore_n 2, 1) := by decide +kernel
theorem dX4_sum_69 : decode cX4_sum 69 = .ok (.iinc 3 1, 3) := by decide +kernel
theorem dX4_sum_72 : decode cX4_sum 72 = .ok (.goto (-57), 3) := by decide +kernel
theorem dX4_sum_75 : decode cX4_sum 75 = .ok (.return_, 1) := by decide +kernel
theorem dX4_term_0 : decode cX4_term 0 = .ok (.aload_n 0, 1) := by decide +kernel
theorem dX4_term_1 : decode cX4_term 1 = .ok (.iload_n 1, 1) := by decide +kernel
theorem dX4_term_2 : decode cX4_term 2 = .ok (.invokevirtual 81, 3) := by decide +kernel
theorem dX4_term_5 : decode cX4_term 5 = .ok (.aload_n 0, 1) := by decide +kernel
theorem dX4_term_6 : decode cX4_term 6 = .ok (.getfield 15, 3) := by decide +kernel
theorem dX4_term_9 : decode cX4_term 9 = .ok (.invokevirtual 33, 3) := by decide +kernel
theorem dX4_term_12 : decode cX4_term 12 = .ok (.istore_n 2, 1) := by decide +kernel
theorem dX4_term_13 : decode cX4_term 13 = .ok (.iconst 0, 1) := by decide +kernel
theorem dX4_term_14 : decode cX4_term 14 = .ok (.istore_n 3, 1) := by decide +kernel
theorem dX4_term_15 : decode cX4_term 15 = .ok (.iload_n 3, 1) := by decide +kernel
theorem dX4_term_16 : decode cX4_term 16 = .ok (.sipush 160, 3) := by decide +kernel
theorem dX4_term_19 : decode cX4_term 19 = .ok (.if_icmp .ge 56, 3) := by decide +kernel
theorem dX4_term_22 : decode cX4_term 22 = .ok (.iload_n 2, 1) := by decide +kernel
theorem dX4_term_23 : decode cX4_term 23 = .ok (.bipush 42, 2) := by decide +kernel
theorem dX4_term_25 : decode cX4_term 25 = .ok (.if_icmp .eq 9, 3) := by decide +kernel
theorem dX4_term_28 : decode cX4_term 28 = .ok (.iload_n 2, 1) := by decide +kernel
theorem dX4_term_29 : decode cX4_term 29 = .ok (.bipush 47, 2) := by decide +kernel
theorem dX4_term_31 : decode cX4_term 31 = .ok (.if_icmp .ne 44, 3) := by decide +kernel
theorem dX4_term_34 : decode cX4_term 34 = .ok (.aload_n 0, 1) := by decide +kernel
theorem dX4_term_35 : decode cX4_term 35 = .ok (.getfield 15, 3) := by decide +kernel
theorem dX4_term_38 : decode cX4_term 38 = .ok (.dup, 1) := by decide +kernel
theorem dX4_term_39 : decode cX4_term 39 = .ok (.getfield 37, 3) := by decide +kernel
theorem dX4_term_42 : decode cX4_term 42 = .ok (.iconst 1, 1) := by decide +kernel
theorem dX4_term_43 : decode cX4_term 43 = .ok (.iadd, 1) := by decide +kernel
theorem dX4_term_44 : decode cX4_term 44 = .ok (.putfield 37, 3) := by decide +kernel
theorem dX4_term_47 : decode cX4_term 47 = .ok (.aload_n 0, 1) := by decide +kernel
theorem dX4_term_48 : decode cX4_term 48 = .ok (.iload_n 1, 1) := by decide +kernel
theorem dX4_term_49 : decode cX4_term 49 = .ok (.invokevirtual 81, 3) := by decide +kernel
theorem dX4_term_52 : decode cX4_term 52 = .ok (.aload_n 0, 1) := by decide +kernel
theorem dX4_term_53 : decode cX4_term 53 = .ok (.sipush 10000, 3) := by decide +kernel
theorem dX4_term_56 : decode cX4_term 56 = .ok (.iload_n 2, 1) := by decide +kernel
theorem dX4_term_57 : decode cX4_term 57 = .ok (.iadd, 1) := by decide +kernel
theorem dX4_term_58 : decode cX4_term 58 = .ok (.invokevirtual 62, 3) := by decide +kernel
theorem dX4_term_61 : decode cX4_term 61 = .ok (.aload_n 0, 1) := by decide +kernel
theorem dX4_term_62 : decode cX4_term 62 = .ok (.getfield 15, 3) := by decide +kernel
theorem dX4_term_65 : decode cX4_term 65 = .ok (.invokevirtual 33, 3) := by decide +kernel
theorem dX4_term_68 : decode cX4_term 68 = .ok (.istore_n 2, 1) := by decide +kernel
theorem dX4_term_69 : decode cX4_term 69 = .ok (.iinc 3 1, 3) := by decide +kernel
theorem dX4_term_72 : decode cX4_term 72 = .ok (.goto (-57), 3) := by decide +kernel
theorem dX4_term_75 : decode cX4_term 75 = .ok (.return_, 1) := by decide +kernel
theorem dX4_atom_0 : decode cX4_atom 0 = .ok (.aload_n 0, 1) := by decide +kernel
theorem dX4_atom_1 : decode cX4_atom 1 = .ok (.getfield 15, 3) := by decide +kernel
theorem dX4_atom_4 : decode cX4_atom 4 = .ok (.invokevirtual 33, 3) := by decide +kernel
theorem dX4_atom_7 : decode cX4_atom 7 = .ok (.istore_n 2, 1) := by decide +kernel
theorem dX4_atom_8 : decode cX4_atom 8 = .ok (.iload_n 2, 1) := by decide +kernel
theorem dX4_atom_9 : decode cX4_atom 9 = .ok (.bipush 48, 2) := by decide +kernel
theorem dX4_atom_11 : decode cX4_atom 11 = .ok (.bipush 57, 2) := by decide +kernel
theorem dX4_atom_13 : decode cX4_atom 13 = .ok (.invokestatic 84, 3) := by decide +kernel
theorem dX4_atom_16 : decode cX4_atom 16 = .ok (.ifCond .eq 18, 3) := by decide +kernel
theorem dX4_atom_19 : decode cX4_atom 19 = .ok (.aload_n 0, 1) := by decide +kernel
theorem dX4_atom_20 : decode cX4_atom 20 = .ok (.aload_n 0, 1) := by decide +kernel
theorem dX4_atom_21 : decode cX4_atom 21 = .ok (.getfield 15, 3) := by decide +kernel
theorem dX4_atom_24 : decode cX4_atom 24 = .ok (.iconst 4, 1) := by decide +kernel
theorem dX4_atom_25 : decode cX4_atom 25 = .ok (.invokevirtual 90, 3) := by decide +kernel
theorem dX4_atom_28 : decode cX4_atom 28 = .ok (.invokevirtual 62, 3) := by decide +kernel
theorem dX4_atom_31 : decode cX4_atom 31 = .ok (.goto 78, 3) := by decide +kernel
theorem dX4_atom_34 : decode cX4_atom 34 = .ok (.iload_n 2, 1) := by decide +kernel
theorem dX4_atom_35 : decode cX4_atom 35 = .ok (.invokestatic 94, 3) := by decide +kernel
theorem dX4_atom_38 : decode cX4_atom 38 = .ok (.ifCond .eq 28, 3) := by decide +kernel
theorem dX4_atom_41 : decode cX4_atom 41 = .ok (.aload_n 0, 1) := by decide +kernel
theorem dX4_atom_42 : decode cX4_atom 42 = .ok (.getfield 15, 3) := by decide +kernel
theorem dX4_atom_45 : decode cX4_atom 45 = .ok (.dup, 1) := by decide +kernel
theorem dX4_atom_46 : decode cX4_atom 46 = .ok (.getfield 37, 3) := by decide +kernel
theorem dX4_atom_49 : decode cX4_atom 49 = .ok (.iconst 1, 1) := by decide +kernel
theorem dX4_atom_50 : decode cX4_atom 50 = .ok (.iadd, 1) := by decide +kernel
theorem dX4_atom_51 : decode cX4_atom 51 = .ok (.putfield 37, 3) := by decide +kernel
theorem dX4_atom_54 : decode cX4_atom 54 = .ok (.aload_n 0, 1) := by decide +kernel
theorem dX4_atom_55 : decode cX4_atom 55 = .ok (.sipush 10000, 3) := by decide +kernel
theorem dX4_atom_58 : decode cX4_atom 58 = .ok (.iload_n 2, 1) := by decide +kernel
theorem dX4_atom_59 : decode cX4_atom 59 = .ok (.iadd, 1) := by decide +kernel
theorem dX4_atom_60 : decode cX4_atom 60 = .ok (.invokevirtual 62, 3) := by decide +kernel
theorem dX4_atom_63 : decode cX4_atom 63 = .ok (.goto 46, 3) := by decide +kernel
theorem dX4_atom_66 : decode cX4_atom 66 = .ok (.aload_n 0, 1) := by decide +kernel
theorem dX4_atom_67 : decode cX4_atom 67 = .ok (.bipush 91, 2) := by decide +kernel
theorem dX4_atom_69 : decode cX4_atom 69 = .ok (.iload_n 1, 1) := by decide +kernel
theorem dX4_atom_70 : decode cX4_atom 70 = .ok (.invokevirtual 74, 3) := by decide +kernel
theorem dX4_atom_73 : decode cX4_atom 73 = .ok (.ifCond .eq 22, 3) := by decide +kernel
theorem dX4_atom_76 : decode cX4_atom 76 = .ok (.aload_n 0, 1) := by decide +kernel
theorem dX4_atom_77 : decode cX4_atom 77 = .ok (.iload_n 1, 1) := by decide +kernel
theorem dX4_atom_78 : decode cX4_atom 78 = .ok (.iconst 1, 1) := by decide +kernel
theorem dX4_atom_79 : decode cX4_atom 79 = .ok (.iadd, 1) := by decide +kernel
theorem dX4_atom_80 : decode cX4_atom 80 = .ok (.invokevirtual 50, 3) := by decide +kernel
theorem dX4_atom_83 : decode cX4_atom 83 = .ok (.aload_n 0, 1) := by decide +kernel
theorem dX4_atom_84 : decode cX4_atom 84 = .ok (.getfield 15, 3) := by decide +kernel
theorem dX4_atom_87 : decode cX4_atom 87 = .ok (.bipush 93, 2) := by decide +kernel
theorem dX4_atom_89 : decode cX4_atom 89 = .ok (.invokevirtual 47, 3) := by decide +kernel
theorem dX4_atom_92 : decode cX4_atom 92 = .ok (.goto 17, 3) := by decide +kernel
theorem dX4_atom_95 : decode cX4_atom 95 = .ok (.aload_n 0, 1) := by decide +kernel
theorem dX4_atom_96 : decode cX4_atom 96 = .ok (.getfield 15, 3) := by decide +kernel
theorem dX4_atom_99 : decode cX4_atom 99 = .ok (.aload_n 0, 1) := by decide +kernel
theorem dX4_atom_100 : decode cX4_atom 100 = .ok (.getfield 15, 3) := by decide +kernel
theorem dX4_atom_103 : decode cX4_atom 103 = .ok (.getfield 37, 3) := by decide +kernel
theorem dX4_atom_106 : decode cX4_atom 106 = .ok (.invokevirtual 40, 3) := by decide +kernel
theorem dX4_atom_109 : decode cX4_atom 109 = .ok (.return_, 1) := by decide +kernel
theorem dX4_isLetter_0 : decode cX4_isLetter 0 = .ok (.iload_n 0, 1) := by decide +kernel
theorem dX4_isLetter_1 : decode cX4_isLetter 1 = .ok (.tableswitch 69 107 119 #[67, 69, 67, 67, 69, 67, 69, 69, 67, 69, 69, 69, 67], 67) := by decide +kernel
theorem dX4_isLetter_68 : decode cX4_isLetter 68 = .ok (.iconst 1, 1) := by decide +kernel
theorem dX4_isLetter_69 : decode cX4_isLetter 69 = .ok (.ireturn, 1) := by decide +kernel
theorem dX4_isLetter_70 : decode cX4_isLetter 70 = .ok (.iconst 0, 1) := by decide +kernel
theorem dX4_isLetter_71 : decode cX4_isLetter 71 = .ok (.ireturn, 1) := by decide +kernel
theorem dX4_emit_0 : decode cX4_emit 0 = .ok (.aload_n 0, 1) := by decide +kernel
theorem dX4_emit_1 : decode cX4_emit 1 = .ok (.getfield 22, 3) := by decide +kernel
theorem dX4_emit_4 : decode cX4_emit 4 = .ok (.aload_n 0, 1) := by decide +kernel
theorem dX4_emit_5 : decode cX4_emit 5 = .ok (.getfield 9, 3) := by decide +kernel
theorem dX4_emit_8 : decode cX4_emit 8 = .ok (.arraylength, 1) := by decide +kernel
theorem dX4_emit_9 : decode cX4_emit 9 = .ok (.if_icmp .ge 23, 3) := by decide +kernel
theorem dX4_emit_12 : decode cX4_emit 12 = .ok (.aload_n 0, 1) := by decide +kernel
theorem dX4_emit_13 : decode cX4_emit 13 = .ok (.getfield 9, 3) := by decide +kernel
theorem dX4_emit_16 : decode cX4_emit 16 = .ok (.aload_n 0, 1) := by decide +kernel
theorem dX4_emit_17 : decode cX4_emit 17 = .ok (.getfield 22, 3) := by decide +kernel
theorem dX4_emit_20 : decode cX4_emit 20 = .ok (.iload_n 1, 1) := by decide +kernel
theorem dX4_emit_21 : decode cX4_emit 21 = .ok (.iastore, 1) := by decide +kernel
theorem dX4_emit_22 : decode cX4_emit 22 = .ok (.aload_n 0, 1) := by decide +kernel
theorem dX4_emit_23 : decode cX4_emit 23 = .ok (.dup, 1) := by decide +kernel
theorem dX4_emit_24 : decode cX4_emit 24 = .ok (.getfield 22, 3) := by decide +kernel
theorem dX4_emit_27 : decode cX4_emit 27 = .ok (.iconst 1, 1) := by decide +kernel
theorem dX4_emit_28 : decode cX4_emit 28 = .ok (.iadd, 1) := by decide +kernel
theorem dX4_emit_29 : decode cX4_emit 29 = .ok (.putfield 22, 3) := by decide +kernel
theorem dX4_emit_32 : decode cX4_emit 32 = .ok (.return_, 1) := by decide +kernel
theorem dX5_init_0 : decode cX5_init 0 = .ok (.aload_n 0, 1) := by decide +kernel
theorem dX5_init_1 : decode cX5_init 1 = .ok (.invokespecial 1, 3) := by decide +kernel
theorem dX5_init_4 : decode cX5_init 4 = .ok (.aload_n 0, 1) := by decide +kernel
theorem dX5_init_5 : decode cX5_init 5 = .ok (.iconst 4, 1) := by decide +kernel
theorem dX5_init_6 : decode cX5_init 6 = .ok (.sipush 160, 3) := by decide +kernel
theorem dX5_init_9 : decode cX5_init 9 = .ok (.multianewarray 11 2, 4) := by decide +kernel
theorem dX5_init_13 : decode cX5_init 13 = .ok (.putfield 13, 3) := by decide +kernel
theorem dX5_init_16 : decode cX5_init 16 = .ok (.aload_n 0, 1) := by decide +kernel
theorem dX5_init_17 : decode cX5_init 17 = .ok (.iconst 4, 1) := by decide +kernel
theorem dX5_init_18 : decode cX5_init 18 = .ok (.newarray .int, 2) := by decide +kernel
theorem dX5_init_20 : decode cX5_init 20 = .ok (.putfield 16, 3) := by decide +kernel
theorem dX5_init_23 : decode cX5_init 23 = .ok (.aload_n 0, 1) := by decide +kernel
theorem dX5_init_24 : decode cX5_init 24 = .ok (.sipush 160, 3) := by decide +kernel
theorem dX5_init_27 : decode cX5_init 27 = .ok (.newarray .int, 2) := by decide +kernel
theorem dX5_init_29 : decode cX5_init 29 = .ok (.putfield 20, 3) := by decide +kernel
theorem dX5_init_32 : decode cX5_init 32 = .ok (.return_, 1) := by decide +kernel
theorem dX5_append_0 : decode cX5_append 0 = .ok (.aload_n 0, 1) := by decide +kernel
theorem dX5_append_1 : decode cX5_append 1 = .ok (.getfield 23, 3) := by decide +kernel
theorem dX5_append_4 : decode cX5_append 4 = .ok (.iconst 4, 1) := by decide +kernel
theorem dX5_append_5 : decode cX5_append 5 = .ok (.if_icmp .ge 46, 3) := by decide +kernel
theorem dX5_append_8 : decode cX5_append 8 = .ok (.iload_n 2, 1) := by decide +kernel
theorem dX5_append_9 : decode cX5_append 9 = .ok (.sipush 160, 3) := by decide +kernel
theorem dX5_append_12 : decode cX5_append 12 = .ok (.if_icmp .gt 39, 3) := by decide +kernel
theorem dX5_append_15 : decode cX5_append 15 = .ok (.aload_n 1, 1) := by decide +kernel
theorem dX5_append_16 : decode cX5_append 16 = .ok (.iconst 0, 1) := by decide +kernel
theorem dX5_append_17 : decode cX5_append 17 = .ok (.aload_n 0, 1) := by decide +kernel
theorem dX5_append_18 : decode cX5_append 18 = .ok (.getfield 13, 3) := by decide +kernel
theorem dX5_append_21 : decode cX5_append 21 = .ok (.aload_n 0, 1) := by decide +kernel
theorem dX5_append_22 : decode cX5_append 22 = .ok (.getfield 23, 3) := by decide +kernel
theorem dX5_append_25 : decode cX5_append 25 = .ok (.aaload, 1) := by decide +kernel
theorem dX5_append_26 : decode cX5_append 26 = .ok (.iconst 0, 1) := by decide +kernel
theorem dX5_append_27 : decode cX5_append 27 = .ok (.iload_n 2, 1) := by decide +kernel
theorem dX5_append_28 : decode cX5_append 28 = .ok (.invokestatic 27, 3) := by decide +kernel
theorem dX5_append_31 : decode cX5_append 31 = .ok (.aload_n 0, 1) := by decide +kernel
theorem dX5_append_32 : decode cX5_append 32 = .ok (.getfield 16, 3) := by decide +kernel
theorem dX5_append_35 : decode cX5_append 35 = .ok (.aload_n 0, 1) := by decide +kernel
theorem dX5_append_36 : decode cX5_append 36 = .ok (.getfield 23, 3) := by decide +kernel
theorem dX5_append_39 : decode cX5_append 39 = .ok (.iload_n 2, 1) := by decide +kernel
theorem dX5_append_40 : decode cX5_append 40 = .ok (.iastore, 1) := by decide +kernel
theorem dX5_append_41 : decode cX5_append 41 = .ok (.aload_n 0, 1) := by decide +kernel
theorem dX5_append_42 : decode cX5_append 42 = .ok (.dup, 1) := by decide +kernel
theorem dX5_append_43 : decode cX5_append 43 = .ok (.getfield 23, 3) := by decide +kernel
theorem dX5_append_46 : decode cX5_append 46 = .ok (.iconst 1, 1) := by decide +kernel
theorem dX5_append_47 : decode cX5_append 47 = .ok (.iadd, 1) := by decide +kernel
theorem dX5_append_48 : decode cX5_append 48 = .ok (.putfield 23, 3) := by decide +kernel
theorem dX5_append_51 : decode cX5_append 51 = .ok (.return_, 1) := by decide +kernel
theorem dX5_worth_0 : decode cX5_worth 0 = .ok (.iload_n 1, 1) := by decide +kernel
theorem dX5_worth_1 : decode cX5_worth 1 = .ok (.ifCond .lt 11, 3) := by decide +kernel
theorem dX5_worth_4 : decode cX5_worth 4 = .ok (.iload_n 1, 1) := by decide +kernel
theorem dX5_worth_5 : decode cX5_worth 5 = .ok (.aload_n 0, 1) := by decide +kernel
theorem dX5_worth_6 : decode cX5_worth 6 = .ok (.getfield 23, 3) := by decide +kernel
theorem dX5_worth_9 : decode cX5_worth 9 = .ok (.if_icmp .lt 5, 3) := by decide +kernel
theorem dX5_worth_12 : decode cX5_worth 12 = .ok (.iconst 0, 1) := by decide +kernel
theorem dX5_worth_13 : decode cX5_worth 13 = .ok (.ireturn, 1) := by decide +kernel
theorem dX5_worth_14 : decode cX5_worth 14 = .ok (.aload_n 0, 1) := by decide +kernel
theorem dX5_worth_15 : decode cX5_worth 15 = .ok (.iconst 0, 1) := by decide +kernel
theorem dX5_worth_16 : decode cX5_worth 16 = .ok (.putfield 33, 3) := by decide +kernel
theorem dX5_worth_19 : decode cX5_worth 19 = .ok (.aload_n 0, 1) := by decide +kernel
theorem dX5_worth_20 : decode cX5_worth 20 = .ok (.getfield 13, 3) := by decide +kernel
theorem dX5_worth_23 : decode cX5_worth 23 = .ok (.iload_n 1, 1) := by decide +kernel
theorem dX5_worth_24 : decode cX5_worth 24 = .ok (.aaload, 1) := by decide +kernel
theorem dX5_worth_25 : decode cX5_worth 25 = .ok (.astore 5, 2) := by decide +kernel
theorem dX5_worth_27 : decode cX5_worth 27 = .ok (.iconst 0, 1) := by decide +kernel
theorem dX5_worth_28 : decode cX5_worth 28 = .ok (.istore 6, 2) := by decide +kernel
theorem dX5_worth_30 : decode cX5_worth 30 = .ok (.iload 6, 2) := by decide +kernel
theorem dX5_worth_32 : decode cX5_worth 32 = .ok (.aload_n 0, 1) := by decide +kernel
theorem dX5_worth_33 : decode cX5_worth 33 = .ok (.getfield 16, 3) := by decide +kernel
theorem dX5_worth_36 : decode cX5_worth 36 = .ok (.iload_n 1, 1) := by decide +kernel
theorem dX5_worth_37 : decode cX5_worth 37 = .ok (.iaload, 1) := by decide +kernel
theorem dX5_worth_38 : decode cX5_worth 38 = .ok (.if_icmp .ge 68, 3) := by decide +kernel
theorem dX5_worth_41 : decode cX5_worth 41 = .ok (.aload 5, 2) := by decide +kernel
theorem dX5_worth_43 : decode cX5_worth 43 = .ok (.iload 6, 2) := by decide +kernel
theorem dX5_worth_45 : decode cX5_worth 45 = .ok (.iaload, 1) := by decide +kernel
theorem dX5_worth_46 : decode cX5_worth 46 = .ok (.sipush 10059, 3) := by decide +kernel
theorem dX5_worth_49 : decode cX5_worth 49 = .ok (.if_icmp .eq 57, 3) := by decide +kernel
theorem dX5_worth_52 : decode cX5_worth 52 = .ok (.aload 5, 2) := by decide +kernel
theorem dX5_worth_54 : decode cX5_worth 54 = .ok (.iload 6, 2) := by decide +kernel
theorem dX5_worth_56 : decode cX5_worth 56 = .ok (.iaload, 1) := by decide +kernel
theorem dX5_worth_57 : decode cX5_worth 57 = .ok (.sipush 10063, 3) := by decide +kernel
theorem dX5_worth_60 : decode cX5_worth 60 = .ok (.if_icmp .ne 27, 3) := by decide +kernel
theorem dX5_worth_63 : decode cX5_worth 63 = .ok (.aload_n 0, 1) := by decide +kernel
theorem dX5_worth_64 : decode cX5_worth 64 = .ok (.invokevirtual 36, 3) := by decide +kernel
theorem dX5_worth_67 : decode cX5_worth 67 = .ok (.ifCond .ne 13, 3) := by decide +kernel
theorem dX5_worth_70 : decode cX5_worth 70 = .ok (.aload_n 0, 1) := by decide +kernel
theorem dX5_worth_71 : decode cX5_worth 71 = .ok (.iload_n 1, 1) := by decide +kernel
theorem dX5_worth_72 : decode cX5_worth 72 = .ok (.iload 6, 2) := by decide +kernel
theorem dX5_worth_74 : decode cX5_worth 74 = .ok (.invokevirtual 40, 3) := by decide +kernel
theorem dX5_worth_77 : decode cX5_worth 77 = .ok (.goto 5, 3) := by decide +kernel
theorem dX5_worth_80 : decode cX5_worth 80 = .ok (.iload 6, 2) := by decide +kernel
theorem dX5_worth_82 : decode cX5_worth 82 = .ok (.istore 6, 2) := by decide +kernel
theorem dX5_worth_84 : decode cX5_worth 84 = .ok (.goto 16, 3) := by decide +kernel
theorem dX5_worth_87 : decode cX5_worth 87 = .ok (.aload_n 0, 1) := by decide +kernel
theorem dX5_worth_88 : decode cX5_worth 88 = .ok (.aload 5, 2) := by decide +kernel
theorem dX5_worth_90 : decode cX5_worth 90 = .ok (.iload 6, 2) := by decide +kernel
theorem dX5_worth_92 : decode cX5_worth 92 = .ok (.iaload, 1) := by decide +kernel
theorem dX5_worth_93 : decode cX5_worth 93 = .ok (.aload_n 2, 1) := by decide +kernel
theorem dX5_worth_94 : decode cX5_worth 94 = .ok (.iload_n 3, 1) := by decide +kernel
theorem dX5_worth_95 : decode cX5_worth 95 = .ok (.iload 4, 2) := by decide +kernel
theorem dX5_worth_97 : decode cX5_worth 97 = .ok (.invokevirtual 44, 3) := by decide +kernel
theorem dX5_worth_100 : decode cX5_worth 100 = .ok (.iinc 6 1, 3) := by decide +kernel
theorem dX5_worth_103 : decode cX5_worth 103 = .ok (.goto (-73), 3) := by decide +kernel
theorem dX5_worth_106 : decode cX5_worth 106 = .ok (.iconst 0, 1) := by decide +kernel
theorem dX5_worth_107 : decode cX5_worth 107 = .ok (.sipush 1000, 3) := by decide +kernel
theorem dX5_worth_110 : decode cX5_worth 110 = .ok (.aload_n 0, 1) := by decide +kernel
theorem dX5_worth_111 : decode cX5_worth 111 = .ok (.invokevirtual 36, 3) := by decide +kernel
theorem dX5_worth_114 : decode cX5_worth 114 = .ok (.invokestatic 48, 3) := by decide +kernel
theorem dX5_worth_117 : decode cX5_worth 117 = .ok (.invokestatic 53, 3) := by decide +kernel
theorem dX5_worth_120 : decode cX5_worth 120 = .ok (.ireturn, 1) := by decide +kernel
theorem dX5_clauseEnd_0 : decode cX5_clauseEnd 0 = .ok (.iload_n 2, 1) := by decide +kernel
theorem dX5_clauseEnd_1 : decode cX5_clauseEnd 1 = .ok (.istore_n 3, 1) := by decide +kernel
theorem dX5_clauseEnd_2 : decode cX5_clauseEnd 2 = .ok (.iload_n 3, 1) := by decide +kernel
theorem dX5_clauseEnd_3 : decode cX5_clauseEnd 3 = .ok (.aload_n 0, 1) := by decide +kernel
theorem dX5_clauseEnd_4 : decode cX5_clauseEnd 4 = .ok (.getfield 16, 3) := by decide +kernel
theorem dX5_clauseEnd_7 : decode cX5_clauseEnd 7 = .ok (.iload_n 1, 1) := by decide +kernel
theorem dX5_clauseEnd_8 : decode cX5_clauseEnd 8 = .ok (.iaload, 1) := by decide +kernel
theorem dX5_clauseEnd_9 : decode cX5_clauseEnd 9 = .ok (.if_icmp .ge 23, 3) := by decide +kernel
theorem dX5_clauseEnd_12 : decode cX5_clauseEnd 12 = .ok (.aload_n 0, 1) := by decide +kernel
theorem dX5_clauseEnd_13 : decode cX5_clauseEnd 13 = .ok (.getfield 13, 3) := by decide +kernel
theorem dX5_clauseEnd_16 : decode cX5_clauseEnd 16 = .ok (.iload_n 1, 1) := by decide +kernel
theorem dX5_clauseEnd_17 : decode cX5_clauseEnd 17 = .ok (.aaload, 1) := by decide +kernel
theorem dX5_clauseEnd_18 : decode cX5_clauseEnd 18 = .ok (.iload_n 3, 1) := by decide +kernel
theorem dX5_clauseEnd_19 : decode cX5_clauseEnd 19 = .ok (.iaload, 1) := by decide +kernel
theorem dX5_clauseEnd_20 : decode cX5_clauseEnd 20 = .ok (.sipush 10059, 3) := by decide +kernel
theorem dX5_clauseEnd_23 : decode cX5_clauseEnd 23 = .ok (.if_icmp .eq 9, 3) := by decide +kernel
theorem dX5_clauseEnd_26 : decode cX5_clauseEnd 26 = .ok (.iinc 3 1, 3) := by decide +kernel
theorem dX5_clauseEnd_29 : decode cX5_clauseEnd 29 = .ok (.goto (-27), 3) := by decide +kernel
theorem dX5_clauseEnd_32 : decode cX5_clauseEnd 32 = .ok (.iload_n 3, 1) := by decide +kernel
theorem dX5_clauseEnd_33 : decode cX5_clauseEnd 33 = .ok (.ireturn, 1) := by decide +kernel
theorem dX5_reckon_0 : decode cX5_reckon 0 = .ok (.iload_n 1, 1) := by decide +kernel
theorem dX5_reckon_1 : decode cX5_reckon 1 = .ok (.sipush 10000, 3) := by decide +kernel
theorem dX5_reckon_4 : decode cX5_reckon 4 = .ok (.isub, 1) := by decide +kernel
theorem dX5_reckon_5 : decode cX5_reckon 5 = .ok (.lookupswitch 148 #[(33, 135), (107, 127), (109, 67), (110, 107), (112, 116), (115, 81), (119, 94)], 67) := by decide +kernel
theorem dX5_reckon_72 : decode cX5_reckon 72 = .ok (.aload_n 0, 1) := by decide +kernel
theorem dX5_reckon_73 : decode cX5_reckon 73 = .ok (.aload_n 2, 1) := by decide +kernel
theorem dX5_reckon_74 : decode cX5_reckon 74 = .ok (.iconst 1, 1) := by decide +kernel
theorem dX5_reckon_75 : decode cX5_reckon 75 = .ok (.iload_n 3, 1) := by decide +kernel
theorem dX5_reckon_76 : decode cX5_reckon 76 = .ok (.ishl, 1) := by decide +kernel
theorem dX5_reckon_77 : decode cX5_reckon 77 = .ok (.invokevirtual 56, 3) := by decide +kernel
theorem dX5_reckon_80 : decode cX5_reckon 80 = .ok (.invokevirtual 62, 3) := by decide +kernel
theorem dX5_reckon_83 : decode cX5_reckon 83 = .ok (.goto 75, 3) := by decide +kernel
theorem dX5_reckon_86 : decode cX5_reckon 86 = .ok (.aload_n 0, 1) := by decide +kernel
theorem dX5_reckon_87 : decode cX5_reckon 87 = .ok (.aload_n 2, 1) := by decide +kernel
theorem dX5_reckon_88 : decode cX5_reckon 88 = .ok (.getfield 66, 3) := by decide +kernel
theorem dX5_reckon_91 : decode cX5_reckon 91 = .ok (.iload_n 3, 1) := by decide +kernel
theorem dX5_reckon_92 : decode cX5_reckon 92 = .ok (.iaload, 1) := by decide +kernel
theorem dX5_reckon_93 : decode cX5_reckon 93 = .ok (.invokevirtual 62, 3) := by decide +kernel
theorem dX5_reckon_96 : decode cX5_reckon 96 = .ok (.goto 62, 3) := by decide +kernel
theorem dX5_reckon_99 : decode cX5_reckon 99 = .ok (.aload_n 0, 1) := by decide +kernel
theorem dX5_reckon_100 : decode cX5_reckon 100 = .ok (.aload_n 2, 1) := by decide +kernel
theorem dX5_reckon_101 : decode cX5_reckon 101 = .ok (.getfield 69, 3) := by decide +kernel
theorem dX5_reckon_104 : decode cX5_reckon 104 = .ok (.iload_n 3, 1) := by decide +kernel
theorem dX5_reckon_105 : decode cX5_reckon 105 = .ok (.iaload, 1) := by decide +kernel
theorem dX5_reckon_106 : decode cX5_reckon 106 = .ok (.invokevirtual 62, 3) := by decide +kernel
theorem dX5_reckon_109 : decode cX5_reckon 109 = .ok (.goto 49, 3) := by decide +kernel
theorem dX5_reckon_112 : decode cX5_reckon 112 = .ok (.aload_n 0, 1) := by decide +kernel
theorem dX5_reckon_113 : decode cX5_reckon 113 = .ok (.iload 4, 2) := by decide +kernel
theorem dX5_reckon_115 : decode cX5_reckon 115 = .ok (.invokevirtual 62, 3) := by decide +kernel
theorem dX5_reckon_118 : decode cX5_reckon 118 = .ok (.goto 40, 3) := by decide +kernel
theorem dX5_reckon_121 : decode cX5_reckon 121 = .ok (.aload_n 0, 1) := by decide +kernel
theorem dX5_reckon_122 : decode cX5_reckon 122 = .ok (.aload_n 2, 1) := by decide +kernel
theorem dX5_reckon_123 : decode cX5_reckon 123 = .ok (.getfield 72, 3) := by decide +kernel
theorem dX5_reckon_126 : decode cX5_reckon 126 = .ok (.invokevirtual 62, 3) := by decide +kernel
theorem dX5_reckon_129 : decode cX5_reckon 129 = .ok (.goto 29, 3) := by decide +kernel
theorem dX5_reckon_132 : decode cX5_reckon 132 = .ok (.aload_n 0, 1) := by decide +kernel
theorem dX5_reckon_133 : decode cX5_reckon 133 = .ok (.iload_n 3, 1) := by decide +kernel
theorem dX5_reckon_134 : decode cX5_reckon 134 = .ok (.invokevirtual 62, 3) := by decide +kernel
theorem dX5_reckon_137 : decode cX5_reckon 137 = .ok (.goto 21, 3) := by decide +kernel
theorem dX5_reckon_140 : decode cX5_reckon 140 = .ok (.aload_n 0, 1) := by decide +kernel
theorem dX5_reckon_141 : decode cX5_reckon 141 = .ok (.iconst 1, 1) := by decide +kernel
theorem dX5_reckon_142 : decode cX5_reckon 142 = .ok (.aload_n 0, 1) := by decide +kernel
theorem dX5_reckon_143 : decode cX5_reckon 143 = .ok (.invokevirtual 36, 3) := by decide +kernel
theorem dX5_reckon_146 : decode cX5_reckon 146 = .ok (.isub, 1) := by decide +kernel
theorem dX5_reckon_147 : decode cX5_reckon 147 = .ok (.invokevirtual 62, 3) := by decide +kernel
theorem dX5_reckon_150 : decode cX5_reckon 150 = .ok (.goto 8, 3) := by decide +kernel
theorem dX5_reckon_153 : decode cX5_reckon 153 = .ok (.aload_n 0, 1) := by decide +kernel
theorem dX5_reckon_154 : decode cX5_reckon 154 = .ok (.iload_n 1, 1) := by decide +kernel
theorem dX5_reckon_155 : decode cX5_reckon 155 = .ok (.invokevirtual 75, 3) := by decide +kernel
theorem dX5_reckon_158 : decode cX5_reckon 158 = .ok (.return_, 1) := by decide +kernel
theorem dX5_pushNumberOrPair_0 : decode cX5_pushNumberOrPair 0 = .ok (.iload_n 1, 1) := by decide +kernel
theorem dX5_pushNumberOrPair_1 : decode cX5_pushNumberOrPair 1 = .ok (.sipush 10000, 3) := by decide +kernel
theorem dX5_pushNumberOrPair_4 : decode cX5_pushNumberOrPair 4 = .ok (.if_icmp .ge 11, 3) := by decide +kernel
theorem dX5_pushNumberOrPair_7 : decode cX5_pushNumberOrPair 7 = .ok (.aload_n 0, 1) := by decide +kernel
theorem dX5_pushNumberOrPair_8 : decode cX5_pushNumberOrPair 8 = .ok (.iload_n 1, 1) := by decide +kernel
theorem dX5_pushNumberOrPair_9 : decode cX5_pushNumberOrPair 9 = .ok (.invokevirtual 62, 3) := by decide +kernel
theorem dX5_pushNumberOrPair_12 : decode cX5_pushNumberOrPair 12 = .ok (.goto 44, 3) := by decide +kernel
theorem dX5_pushNumberOrPair_15 : decode cX5_pushNumberOrPair 15 = .ok (.aload_n 0, 1) := by decide +kernel
theorem dX5_pushNumberOrPair_16 : decode cX5_pushNumberOrPair 16 = .ok (.invokevirtual 36, 3) := by decide +kernel
theorem dX5_pushNumberOrPair_19 : decode cX5_pushNumberOrPair 19 = .ok (.i2l, 1) := by decide +kernel
theorem dX5_pushNumberOrPair_20 : decode cX5_pushNumberOrPair 20 = .ok (.lstore_n 2, 1) := by decide +kernel
theorem dX5_pushNumberOrPair_21 : decode cX5_pushNumberOrPair 21 = .ok (.aload_n 0, 1) := by decide +kernel
theorem dX5_pushNumberOrPair_22 : decode cX5_pushNumberOrPair 22 = .ok (.invokevirtual 36, 3) := by decide +kernel
theorem dX5_pushNumberOrPair_25 : decode cX5_pushNumberOrPair 25 = .ok (.i2l, 1) := by decide +kernel
theorem dX5_pushNumberOrPair_26 : decode cX5_pushNumberOrPair 26 = .ok (.lstore 4, 2) := by decide +kernel
theorem dX5_pushNumberOrPair_28 : decode cX5_pushNumberOrPair 28 = .ok (.aload_n 0, 1) := by decide +kernel
theorem dX5_pushNumberOrPair_29 : decode cX5_pushNumberOrPair 29 = .ok (.ldc2_w 78, 3) := by decide +kernel
theorem dX5_pushNumberOrPair_32 : decode cX5_pushNumberOrPair 32 = .ok (.ldc2_w 80, 3) := by decide +kernel
theorem dX5_pushNumberOrPair_35 : decode cX5_pushNumberOrPair 35 = .ok (.iload_n 1, 1) := by decide +kernel
theorem dX5_pushNumberOrPair_36 : decode cX5_pushNumberOrPair 36 = .ok (.sipush 10000, 3) := by decide +kernel
theorem dX5_pushNumberOrPair_39 : decode cX5_pushNumberOrPair 39 = .ok (.isub, 1) := by decide +kernel
theorem dX5_pushNumberOrPair_40 : decode cX5_pushNumberOrPair 40 = .ok (.lload 4, 2) := by decide +kernel
theorem dX5_pushNumberOrPair_42 : decode cX5_pushNumberOrPair 42 = .ok (.lload_n 2, 1) := by decide +kernel
theorem dX5_pushNumberOrPair_43 : decode cX5_pushNumberOrPair 43 = .ok (.invokestatic 82, 3) := by decide +kernel
theorem dX5_pushNumberOrPair_46 : decode cX5_pushNumberOrPair 46 = .ok (.invokestatic 86, 3) := by decide +kernel
theorem dX5_pushNumberOrPair_49 : decode cX5_pushNumberOrPair 49 = .ok (.invokestatic 89, 3) := by decide +kernel
theorem dX5_pushNumberOrPair_52 : decode cX5_pushNumberOrPair 52 = .ok (.l2i, 1) := by decide +kernel
theorem dX5_pushNumberOrPair_53 : decode cX5_pushNumberOrPair 53 = .ok (.invokevirtual 62, 3) := by decide +kernel
theorem dX5_pushNumberOrPair_56 : decode cX5_pushNumberOrPair 56 = .ok (.return_, 1) := by decide +kernel
theorem dX5_pair_0 : decode cX5_pair 0 = .ok (.iload_n 0, 1) := by decide +kernel
theorem dX5_pair_1 : decode cX5_pair 1 = .ok (.tableswitch 195 38 62 #[177, 195, 195, 195, 123, 115, 195, 119, 195, 127, 195, 195, 195, 195, 195, 195, 195, 195, 195, 195, 195, 195, 153, 141, 165], 115) := by decide +kernel
theorem dX5_pair_116 : decode cX5_pair 116 = .ok (.lload_n 1, 1) := by decide +kernel
theorem dX5_pair_117 : decode cX5_pair 117 = .ok (.lload_n 3, 1) := by decide +kernel
theorem dX5_pair_118 : decode cX5_pair 118 = .ok (.ladd, 1) := by decide +kernel
theorem dX5_pair_119 : decode cX5_pair 119 = .ok (.lreturn, 1) := by decide +kernel
theorem dX5_pair_120 : decode cX5_pair 120 = .ok (.lload_n 1, 1) := by decide +kernel
theorem dX5_pair_121 : decode cX5_pair 121 = .ok (.lload_n 3, 1) := by decide +kernel
theorem dX5_pair_122 : decode cX5_pair 122 = .ok (.lsub, 1) := by decide +kernel
theorem dX5_pair_123 : decode cX5_pair 123 = .ok (.lreturn, 1) := by decide +kernel
theorem dX5_pair_124 : decode cX5_pair 124 = .ok (.lload_n 1, 1) := by decide +kernel
theorem dX5_pair_125 : decode cX5_pair 125 = .ok (.lload_n 3, 1) := by decide +kernel
theorem dX5_pair_126 : decode cX5_pair 126 = .ok (.lmul, 1) := by decide +kernel
theorem dX5_pair_127 : decode cX5_pair 127 = .ok (.lreturn, 1) := by decide +kernel
theorem dX5_pair_128 : decode cX5_pair 128 = .ok (.lload_n 3, 1) := by decide +kernel
theorem dX5_pair_129 : decode cX5_pair 129 = .ok (.lconst 0, 1) := by decide +kernel
theorem dX5_pair_130 : decode cX5_pair 130 = .ok (.lcmp, 1) := by decide +kernel
theorem dX5_pair_131 : decode cX5_pair 131 = .ok (.ifCond .ne 7, 3) := by decide +kernel
theorem dX5_pair_134 : decode cX5_pair 134 = .ok (.lconst 0, 1) := by decide +kernel
theorem dX5_pair_135 : decode cX5_pair 135 = .ok (.goto 6, 3) := by decide +kernel
theorem dX5_pair_138 : decode cX5_pair 138 = .ok (.lload_n 1, 1) := by decide +kernel
theorem dX5_pair_139 : decode cX5_pair 139 = .ok (.lload_n 3, 1) := by decide +kernel
theorem dX5_pair_140 : decode cX5_pair 140 = .ok (.ldiv, 1) := by decide +kernel
theorem dX5_pair_141 : decode cX5_pair 141 = .ok (.lreturn, 1) := by decide +kernel
theorem dX5_pair_142 : decode cX5_pair 142 = .ok (.lload_n 1, 1) := by decide +kernel
theorem dX5_pair_143 : decode cX5_pair 143 = .ok (.lload_n 3, 1) := by decide +kernel
theorem dX5_pair_144 : decode cX5_pair 144 = .ok (.lcmp, 1) := by decide +kernel
theorem dX5_pair_145 : decode cX5_pair 145 = .ok (.ifCond .ne 7, 3) := by decide +kernel
theorem dX5_pair_148 : decode cX5_pair 148 = .ok (.lconst 1, 1) := by decide +kernel
theorem dX5_pair_149 : decode cX5_pair 149 = .ok (.goto 4, 3) := by decide +kernel
theorem dX5_pair_152 : decode cX5_pair 152 = .ok (.lconst 0, 1) := by decide +kernel
theorem dX5_pair_153 : decode cX5_pair 153 = .ok (.lreturn, 1) := by decide +kernel
theorem dX5_pair_154 : decode cX5_pair 154 = .ok (.lload_n 1, 1) := by decide +kernel
theorem dX5_pair_155 : decode cX5_pair 155 = .ok (.lload_n 3, 1) := by decide +kernel
theorem dX5_pair_156 : decode cX5_pair 156 = .ok (.lcmp, 1) := by decide +kernel
theorem dX5_pair_157 : decode cX5_pair 157 = .ok (.ifCond .ge 7, 3) := by decide +kernel
theorem dX5_pair_160 : decode cX5_pair 160 = .ok (.lconst 1, 1) := by decide +kernel
theorem dX5_pair_161 : decode cX5_pair 161 = .ok (.goto 4, 3) := by decide +kernel
theorem dX5_pair_164 : decode cX5_pair 164 = .ok (.lconst 0, 1) := by decide +kernel
theorem dX5_pair_165 : decode cX5_pair 165 = .ok (.lreturn, 1) := by decide +kernel
theorem dX5_pair_166 : decode cX5_pair 166 = .ok (.lload_n 1, 1) := by decide +kernel
theorem dX5_pair_167 : decode cX5_pair 167 = .ok (.lload_n 3, 1) := by decide +kernel
theorem dX5_pair_168 : decode cX5_pair 168 = .ok (.lcmp, 1) := by decide +kernel
theorem dX5_pair_169 : decode cX5_pair 169 = .ok (.ifCond .le 7, 3) := by decide +kernel
theorem dX5_pair_172 : decode cX5_pair 172 = .ok (.lconst 1, 1) := by decide +kernel
theorem dX5_pair_173 : decode cX5_pair 173 = .ok (.goto 4, 3) := by decide +kernel
theorem dX5_pair_176 : decode cX5_pair 176 = .ok (.lconst 0, 1) := by decide +kernel
theorem dX5_pair_177 : decode cX5_pair 177 = .ok (.lreturn, 1) := by decide +kernel
theorem dX5_pair_178 : decode cX5_pair 178 = .ok (.lload_n 1, 1) := by decide +kernel
theorem dX5_pair_179 : decode cX5_pair 179 = .ok (.lconst 1, 1) := by decide +kernel
theorem dX5_pair_180 : decode cX5_pair 180 = .ok (.lcmp, 1) := by decide +kernel
theorem dX5_pair_181 : decode cX5_pair 181 = .ok (.ifCond .ne 13, 3) := by decide +kernel
theorem dX5_pair_184 : decode cX5_pair 184 = .ok (.lload_n 3, 1) := by decide +kernel
theorem dX5_pair_185 : decode cX5_pair 185 = .ok (.lconst 1, 1) := by decide +kernel
theorem dX5_pair_186 : decode cX5_pair 186 = .ok (.lcmp, 1) := by decide +kernel
theorem dX5_pair_187 : decode cX5_pair 187 = .ok (.ifCond .ne 7, 3) := by decide +kernel
theorem dX5_pair_190 : decode cX5_pair 190 = .ok (.lconst 1, 1) := by decide +kernel
theorem dX5_pair_191 : decode cX5_pair 191 = .ok (.goto 4, 3) := by decide +kernel
theorem dX5_pair_194 : decode cX5_pair 194 = .ok (.lconst 0, 1) := by decide +kernel
theorem dX5_pair_195 : decode cX5_pair 195 = .ok (.lreturn, 1) := by decide +kernel
theorem dX5_pair_196 : decode cX5_pair 196 = .ok (.lload_n 1, 1) := by decide +kernel
theorem dX5_pair_197 : decode cX5_pair 197 = .ok (.lconst 1, 1) := by decide +kernel
theorem dX5_pair_198 : decode cX5_pair 198 = .ok (.lcmp, 1) := by decide +kernel
theorem dX5_pair_199 : decode cX5_pair 199 = .ok (.ifCond .eq 9, 3) := by decide +kernel
theorem dX5_pair_202 : decode cX5_pair 202 = .ok (.lload_n 3, 1) := by decide +kernel
theorem dX5_pair_203 : decode cX5_pair 203 = .ok (.lconst 1, 1) := by decide +kernel
theorem dX5_pair_204 : decode cX5_pair 204 = .ok (.lcmp, 1) := by decide +kernel
theorem dX5_pair_205 : decode cX5_pair 205 = .ok (.ifCond .ne 7, 3) := by decide +kernel
theorem dX5_pair_208 : decode cX5_pair 208 = .ok (.lconst 1, 1) := by decide +kernel
theorem dX5_pair_209 : decode cX5_pair 209 = .ok (.goto 4, 3) := by decide +kernel
theorem dX5_pair_212 : decode cX5_pair 212 = .ok (.lconst 0, 1) := by decide +kernel
theorem dX5_pair_213 : decode cX5_pair 213 = .ok (.lreturn, 1) := by decide +kernel
theorem dX5_push_0 : decode cX5_push 0 = .ok (.aload_n 0, 1) := by decide +kernel
theorem dX5_push_1 : decode cX5_push 1 = .ok (.getfield 33, 3) := by decide +kernel
theorem dX5_push_4 : decode cX5_push 4 = .ok (.aload_n 0, 1) := by decide +kernel
theorem dX5_push_5 : decode cX5_push 5 = .ok (.getfield 20, 3) := by decide +kernel
theorem dX5_push_8 : decode cX5_push 8 = .ok (.arraylength, 1) := by decide +kernel
theorem dX5_push_9 : decode cX5_push 9 = .ok (.if_icmp .ge 23, 3) := by decide +kernel
theorem dX5_push_12 : decode cX5_push 12 = .ok (.aload_n 0, 1) := by decide +kernel
theorem dX5_push_13 : decode cX5_push 13 = .ok (.getfield 20, 3) := by decide +kernel
theorem dX5_push_16 : decode cX5_push 16 = .ok (.aload_n 0, 1) := by decide +kernel
theorem dX5_push_17 : decode cX5_push 17 = .ok (.getfield 33, 3) := by decide +kernel
theorem dX5_push_20 : decode cX5_push 20 = .ok (.iload_n 1, 1) := by decide +kernel
theorem dX5_push_21 : decode cX5_push 21 = .ok (.iastore, 1) := by decide +kernel
theorem dX5_push_22 : decode cX5_push 22 = .ok (.aload_n 0, 1) := by decide +kernel
theorem dX5_push_23 : decode cX5_push 23 = .ok (.dup, 1) := by decide +kernel
theorem dX5_push_24 : decode cX5_push 24 = .ok (.getfield 33, 3) := by decide +kernel
theorem dX5_push_27 : decode cX5_push 27 = .ok (.iconst 1, 1) := by decide +kernel
theorem dX5_push_28 : decode cX5_push 28 = .ok (.iadd, 1) := by decide +kernel
theorem dX5_push_29 : decode cX5_push 29 = .ok (.putfield 33, 3) := by decide +kernel
theorem dX5_push_32 : decode cX5_push 32 = .ok (.return_, 1) := by decide +kernel
theorem dX5_pop_0 : decode cX5_pop 0 = .ok (.aload_n 0, 1) := by decide +kernel
theorem dX5_pop_1 : decode cX5_pop 1 = .ok (.getfield 33, 3) := by decide +kernel
theorem dX5_pop_4 : decode cX5_pop 4 = .ok (.ifCond .ne 5, 3) := by decide +kernel
theorem dX5_pop_7 : decode cX5_pop 7 = .ok (.iconst 0, 1) := by decide +kernel
theorem dX5_pop_8 : decode cX5_pop 8 = .ok (.ireturn, 1) := by decide +kernel
theorem dX5_pop_9 : decode cX5_pop 9 = .ok (.aload_n 0, 1) := by decide +kernel
theorem dX5_pop_10 : decode cX5_pop 10 = .ok (.dup, 1) := by decide +kernel
theorem dX5_pop_11 : decode cX5_pop 11 = .ok (.getfield 33, 3) := by decide +kernel
theorem dX5_pop_14 : decode cX5_pop 14 = .ok (.iconst 1, 1) := by decide +kernel
theorem dX5_pop_15 : decode cX5_pop 15 = .ok (.isub, 1) := by decide +kernel
theorem dX5_pop_16 : decode cX5_pop 16 = .ok (.putfield 33, 3) := by decide +kernel
theorem dX5_pop_19 : decode cX5_pop 19 = .ok (.aload_n 0, 1) := by decide +kernel
theorem dX5_pop_20 : decode cX5_pop 20 = .ok (.getfield 20, 3) := by decide +kernel
theorem dX5_pop_23 : decode cX5_pop 23 = .ok (.aload_n 0, 1) := by decide +kernel
theorem dX5_pop_24 : decode cX5_pop 24 = .ok (.getfield 33, 3) := by decide +kernel
theorem dX5_pop_27 : decode cX5_pop 27 = .ok (.iaload, 1) := by decide +kernel
theorem dX5_pop_28 : decode cX5_pop 28 = .ok (.ireturn, 1) := by decide +kernel
theorem dX6_init_0 : decode cX6_init 0 = .ok (.aload_n 0, 1) := by decide +kernel
theorem dX6_init_1 : decode cX6_init 1 = .ok (.invokespecial 3, 3) := by decide +kernel
theorem dX6_init_4 : decode cX6_init 4 = .ok (.aload_n 0, 1) := by decide +kernel
theorem dX6_init_5 : decode cX6_init 5 = .ok (.bipush 7, 2) := by decide +kernel
theorem dX6_init_7 : decode cX6_init 7 = .ok (.newarray .int, 2) := by decide +kernel
theorem dX6_init_9 : decode cX6_init 9 = .ok (.putfield 9, 3) := by decide +kernel
theorem dX6_init_12 : decode cX6_init 12 = .ok (.aload_n 0, 1) := by decide +kernel
theorem dX6_init_13 : decode cX6_init 13 = .ok (.bipush 7, 2) := by decide +kernel
theorem dX6_init_15 : decode cX6_init 15 = .ok (.newarray .int, 2) := by decide +kernel
theorem dX6_init_17 : decode cX6_init 17 = .ok (.putfield 15, 3) := by decide +kernel
theorem dX6_init_20 : decode cX6_init 20 = .ok (.aload_n 0, 1) := by decide +kernel
theorem dX6_init_21 : decode cX6_init 21 = .ok (.sipush 384, 3) := by decide +kernel
theorem dX6_init_24 : decode cX6_init 24 = .ok (.newarray .long, 2) := by decide +kernel
theorem dX6_init_26 : decode cX6_init 26 = .ok (.putfield 18, 3) := by decide +kernel
theorem dX6_init_29 : decode cX6_init 29 = .ok (.aload_n 0, 1) := by decide +kernel
theorem dX6_init_30 : decode cX6_init 30 = .ok (.bipush 64, 2) := by decide +kernel
theorem dX6_init_32 : decode cX6_init 32 = .ok (.newarray .long, 2) := by decide +kernel
theorem dX6_init_34 : decode cX6_init 34 = .ok (.putfield 22, 3) := by decide +kernel
theorem dX6_init_37 : decode cX6_init 37 = .ok (.aload_n 0, 1) := by decide +kernel
theorem dX6_init_38 : decode cX6_init 38 = .ok (.aload_n 1, 1) := by decide +kernel
theorem dX6_init_39 : decode cX6_init 39 = .ok (.putfield 25, 3) := by decide +kernel
theorem dX6_init_42 : decode cX6_init 42 = .ok (.aload_n 0, 1) := by decide +kernel
theorem dX6_init_43 : decode cX6_init 43 = .ok (.aload_n 2, 1) := by decide +kernel
theorem dX6_init_44 : decode cX6_init 44 = .ok (.putfield 29, 3) := by decide +kernel
theorem dX6_init_47 : decode cX6_init 47 = .ok (.return_, 1) := by decide +kernel
theorem dX6_searchBest_0 : decode cX6_searchBest 0 = .ok (.aload_n 0, 1) := by decide +kernel
theorem dX6_searchBest_1 : decode cX6_searchBest 1 = .ok (.iconst (-1), 1) := by decide +kernel
theorem dX6_searchBest_2 : decode cX6_searchBest 2 = .ok (.putfield 33, 3) := by decide +kernel
theorem dX6_searchBest_5 : decode cX6_searchBest 5 = .ok (.aload_n 0, 1) := by decide +kernel
theorem dX6_searchBest_6 : decode cX6_searchBest 6 = .ok (.iconst (-1), 1) := by decide +kernel
theorem dX6_searchBest_7 : decode cX6_searchBest 7 = .ok (.putfield 37, 3) := by decide +kernel
theorem dX6_searchBest_10 : decode cX6_searchBest 10 = .ok (.aload_n 0, 1) := by decide +kernel
theorem dX6_searchBest_11 : decode cX6_searchBest 11 = .ok (.iconst 0, 1) := by decide +kernel
theorem dX6_searchBest_12 : decode cX6_searchBest 12 = .ok (.putfield 40, 3) := by decide +kernel
theorem dX6_searchBest_15 : decode cX6_searchBest 15 = .ok (.aload_n 0, 1) := by decide +kernel
theorem dX6_searchBest_16 : decode cX6_searchBest 16 = .ok (.iconst 0, 1) := by decide +kernel
theorem dX6_searchBest_17 : decode cX6_searchBest 17 = .ok (.iconst 0, 1) := by decide +kernel
theorem dX6_searchBest_18 : decode cX6_searchBest 18 = .ok (.iconst 0, 1) := by decide +kernel
theorem dX6_searchBest_19 : decode cX6_searchBest 19 = .ok (.invokevirtual 44, 3) := by decide +kernel
theorem dX6_searchBest_22 : decode cX6_searchBest 22 = .ok (.return_, 1) := by decide +kernel
theorem dX6_reckonShares_0 : decode cX6_reckonShares 0 = .ok (.iconst 1, 1) := by decide +kernel
theorem dX6_reckonShares_1 : decode cX6_reckonShares 1 = .ok (.istore_n 1, 1) := by decide +kernel
theorem dX6_reckonShares_2 : decode cX6_reckonShares 2 = .ok (.iload_n 1, 1) := by decide +kernel
theorem dX6_reckonShares_3 : decode cX6_reckonShares 3 = .ok (.aload_n 0, 1) := by decide +kernel
theorem dX6_reckonShares_4 : decode cX6_reckonShares 4 = .ok (.getfield 25, 3) := by decide +kernel
theorem dX6_reckonShares_7 : decode cX6_reckonShares 7 = .ok (.invokevirtual 48, 3) := by decide +kernel
theorem dX6_reckonShares_10 : decode cX6_reckonShares 10 = .ok (.if_icmp .gt 74, 3) := by decide +kernel
theorem dX6_reckonShares_13 : decode cX6_reckonShares 13 = .ok (.aload_n 0, 1) := by decide +kernel
theorem dX6_reckonShares_14 : decode cX6_reckonShares 14 = .ok (.getfield 22, 3) := by decide +kernel
theorem dX6_reckonShares_17 : decode cX6_reckonShares 17 = .ok (.iload_n 1, 1) := by decide +kernel
theorem dX6_reckonShares_18 : decode cX6_reckonShares 18 = .ok (.aload_n 0, 1) := by decide +kernel
theorem dX6_reckonShares_19 : decode cX6_reckonShares 19 = .ok (.getfield 29, 3) := by decide +kernel
theorem dX6_reckonShares_22 : decode cX6_reckonShares 22 = .ok (.iload_n 1, 1) := by decide +kernel
theorem dX6_reckonShares_23 : decode cX6_reckonShares 23 = .ok (.invokevirtual 54, 3) := by decide +kernel
theorem dX6_reckonShares_26 : decode cX6_reckonShares 26 = .ok (.lastore, 1) := by decide +kernel
theorem dX6_reckonShares_27 : decode cX6_reckonShares 27 = .ok (.iconst 0, 1) := by decide +kernel
theorem dX6_reckonShares_28 : decode cX6_reckonShares 28 = .ok (.istore_n 2, 1) := by decide +kernel
theorem dX6_reckonShares_29 : decode cX6_reckonShares 29 = .ok (.iload_n 2, 1) := by decide +kernel
theorem dX6_reckonShares_30 : decode cX6_reckonShares 30 = .ok (.aload_n 0, 1) := by decide +kernel
theorem dX6_reckonShares_31 : decode cX6_reckonShares 31 = .ok (.getfield 25, 3) := by decide +kernel
theorem dX6_reckonShares_34 : decode cX6_reckonShares 34 = .ok (.getfield 60, 3) := by decide +kernel
theorem dX6_reckonShares_37 : decode cX6_reckonShares 37 = .ok (.if_icmp .ge 41, 3) := by decide +kernel
theorem dX6_reckonShares_40 : decode cX6_reckonShares 40 = .ok (.aload_n 0, 1) := by decide +kernel
theorem dX6_reckonShares_41 : decode cX6_reckonShares 41 = .ok (.getfield 18, 3) := by decide +kernel
theorem dX6_reckonShares_44 : decode cX6_reckonShares 44 = .ok (.iload_n 1, 1) := by decide +kernel
theorem dX6_reckonShares_45 : decode cX6_reckonShares 45 = .ok (.bipush 6, 2) := by decide +kernel
theorem dX6_reckonShares_47 : decode cX6_reckonShares 47 = .ok (.imul, 1) := by decide +kernel
theorem dX6_reckonShares_48 : decode cX6_reckonShares 48 = .ok (.iload_n 2, 1) := by decide +kernel
theorem dX6_reckonShares_49 : decode cX6_reckonShares 49 = .ok (.iadd, 1) := by decide +kernel
theorem dX6_reckonShares_50 : decode cX6_reckonShares 50 = .ok (.iload_n 2, 1) := by decide +kernel
theorem dX6_reckonShares_51 : decode cX6_reckonShares 51 = .ok (.iload_n 1, 1) := by decide +kernel
theorem dX6_reckonShares_52 : decode cX6_reckonShares 52 = .ok (.invokestatic 63, 3) := by decide +kernel
theorem dX6_reckonShares_55 : decode cX6_reckonShares 55 = .ok (.ifCond .eq 15, 3) := by decide +kernel
theorem dX6_reckonShares_58 : decode cX6_reckonShares 58 = .ok (.aload_n 0, 1) := by decide +kernel
theorem dX6_reckonShares_59 : decode cX6_reckonShares 59 = .ok (.getfield 29, 3) := by decide +kernel
theorem dX6_reckonShares_62 : decode cX6_reckonShares 62 = .ok (.iload_n 2, 1) := by decide +kernel
theorem dX6_reckonShares_63 : decode cX6_reckonShares 63 = .ok (.iload_n 1, 1) := by decide +kernel
theorem dX6_reckonShares_64 : decode cX6_reckonShares 64 = .ok (.invokevirtual 67, 3) := by decide +kernel
theorem dX6_reckonShares_67 : decode cX6_reckonShares 67 = .ok (.goto 4, 3) := by decide +kernel
theorem dX6_reckonShares_70 : decode cX6_reckonShares 70 = .ok (.lconst 0, 1) := by decide +kernel
theorem dX6_reckonShares_71 : decode cX6_reckonShares 71 = .ok (.lastore, 1) := by decide +kernel
theorem dX6_reckonShares_72 : decode cX6_reckonShares 72 = .ok (.iinc 2 1, 3) := by decide +kernel
theorem dX6_reckonShares_75 : decode cX6_reckonShares 75 = .ok (.goto (-46), 3) := by decide +kernel
theorem dX6_reckonShares_78 : decode cX6_reckonShares 78 = .ok (.iinc 1 1, 3) := by decide +kernel
theorem dX6_reckonShares_81 : decode cX6_reckonShares 81 = .ok (.goto (-79), 3) := by decide +kernel
theorem dX6_reckonShares_84 : decode cX6_reckonShares 84 = .ok (.return_, 1) := by decide +kernel
theorem dX6_searchSteady_0 : decode cX6_searchSteady 0 = .ok (.aload_n 0, 1) := by decide +kernel
theorem dX6_searchSteady_1 : decode cX6_searchSteady 1 = .ok (.iload_n 1, 1) := by decide +kernel
theorem dX6_searchSteady_2 : decode cX6_searchSteady 2 = .ok (.putfield 71, 3) := by decide +kernel
theorem dX6_searchSteady_5 : decode cX6_searchSteady 5 = .ok (.aload_n 0, 1) := by decide +kernel
theorem dX6_searchSteady_6 : decode cX6_searchSteady 6 = .ok (.iconst 0, 1) := by decide +kernel
theorem dX6_searchSteady_7 : decode cX6_searchSteady 7 = .ok (.putfield 74, 3) := by decide +kernel
theorem dX6_searchSteady_10 : decode cX6_searchSteady 10 = .ok (.aload_n 0, 1) := by decide +kernel
theorem dX6_searchSteady_11 : decode cX6_searchSteady 11 = .ok (.iconst (-1), 1) := by decide +kernel
theorem dX6_searchSteady_12 : decode cX6_searchSteady 12 = .ok (.putfield 77, 3) := by decide +kernel
theorem dX6_searchSteady_15 : decode cX6_searchSteady 15 = .ok (.aload_n 0, 1) := by decide +kernel
theorem dX6_searchSteady_16 : decode cX6_searchSteady 16 = .ok (.iconst 1, 1) := by decide +kernel
theorem dX6_searchSteady_17 : decode cX6_searchSteady 17 = .ok (.putfield 40, 3) := by decide +kernel
theorem dX6_searchSteady_20 : decode cX6_searchSteady 20 = .ok (.aload_n 0, 1) := by decide +kernel
theorem dX6_searchSteady_21 : decode cX6_searchSteady 21 = .ok (.iconst 0, 1) := by decide +kernel
theorem dX6_searchSteady_22 : decode cX6_searchSteady 22 = .ok (.iconst 0, 1) := by decide +kernel
theorem dX6_searchSteady_23 : decode cX6_searchSteady 23 = .ok (.iconst 0, 1) := by decide +kernel
theorem dX6_searchSteady_24 : decode cX6_searchSteady 24 = .ok (.invokevirtual 44, 3) := by decide +kernel
theorem dX6_searchSteady_27 : decode cX6_searchSteady 27 = .ok (.return_, 1) := by decide +kernel
theorem dX6_seat_0 : decode cX6_seat 0 = .ok (.iload_n 1, 1) := by decide +kernel
theorem dX6_seat_1 : decode cX6_seat 1 = .ok (.aload_n 0, 1) := by decide +kernel
theorem dX6_seat_2 : decode cX6_seat 2 = .ok (.getfield 25, 3) := by decide +kernel
theorem dX6_seat_5 : decode cX6_seat 5 = .ok (.getfield 60, 3) := by decide +kernel
theorem dX6_seat_8 : decode cX6_seat 8 = .ok (.if_icmp .lt 10, 3) := by decide +kernel
theorem dX6_seat_11 : decode cX6_seat 11 = .ok (.aload_n 0, 1) := by decide +kernel
theorem dX6_seat_12 : decode cX6_seat 12 = .ok (.iload_n 2, 1) := by decide +kernel
theorem dX6_seat_13 : decode cX6_seat 13 = .ok (.iload_n 3, 1) := by decide +kernel
theorem dX6_seat_14 : decode cX6_seat 14 = .ok (.invokevirtual 80, 3) := by decide +kernel
theorem dX6_seat_17 : decode cX6_seat 17 = .ok (.return_, 1) := by decide +kernel
theorem dX6_seat_18 : decode cX6_seat 18 = .ok (.iconst 0, 1) := by decide +kernel
theorem dX6_seat_19 : decode cX6_seat 19 = .ok (.istore 4, 2) := by decide +kernel
theorem dX6_seat_21 : decode cX6_seat 21 = .ok (.iload 4, 2) := by decide +kernel
theorem dX6_seat_23 : decode cX6_seat 23 = .ok (.iload_n 2, 1) := by decide +kernel
theorem dX6_seat_24 : decode cX6_seat 24 = .ok (.if_icmp .gt 112, 3) := by decide +kernel
theorem dX6_seat_27 : decode cX6_seat 27 = .ok (.aload_n 0, 1) := by decide +kernel
theorem dX6_seat_28 : decode cX6_seat 28 = .ok (.iload 4, 2) := by decide +kernel
theorem dX6_seat_30 : decode cX6_seat 30 = .ok (.iload_n 1, 1) := by decide +kernel
theorem dX6_seat_31 : decode cX6_seat 31 = .ok (.invokevirtual 84, 3) := by decide +kernel
theorem dX6_seat_34 : decode cX6_seat 34 = .ok (.ifCond .eq 96, 3) := by decide +kernel
theorem dX6_seat_37 : decode cX6_seat 37 = .ok (.aload_n 0, 1) := by decide +kernel
theorem dX6_seat_38 : decode cX6_seat 38 = .ok (.getfield 9, 3) := by decide +kernel
theorem dX6_seat_41 : decode cX6_seat 41 = .ok (.iload 4, 2) := by decide +kernel
theorem dX6_seat_43 : decode cX6_seat 43 = .ok (.dup2, 1) := by decide +kernel
theorem dX6_seat_44 : decode cX6_seat 44 = .ok (.iaload, 1) := by decide +kernel
theorem dX6_seat_45 : decode cX6_seat 45 = .ok (.iconst 1, 1) := by decide +kernel
theorem dX6_seat_46 : decode cX6_seat 46 = .ok (.iload_n 1, 1) := by decide +kernel
theorem dX6_seat_47 : decode cX6_seat 47 = .ok (.ishl, 1) := by decide +kernel
theorem dX6_seat_48 : decode cX6_seat 48 = .ok (.ior, 1) := by decide +kernel
theorem dX6_seat_49 : decode cX6_seat 49 = .ok (.iastore, 1) := by decide +kernel
theorem dX6_seat_50 : decode cX6_seat 50 = .ok (.aload_n 0, 1) := by decide +kernel
theorem dX6_seat_51 : decode cX6_seat 51 = .ok (.getfield 15, 3) := by decide +kernel
theorem dX6_seat_54 : decode cX6_seat 54 = .ok (.iload 4, 2) := by decide +kernel
theorem dX6_seat_56 : decode cX6_seat 56 = .ok (.dup2, 1) := by decide +kernel
theorem dX6_seat_57 : decode cX6_seat 57 = .ok (.iaload, 1) := by decide +kernel
theorem dX6_seat_58 : decode cX6_seat 58 = .ok (.aload_n 0, 1) := by decide +kernel
theorem dX6_seat_59 : decode cX6_seat 59 = .ok (.getfield 25, 3) := by decide +kernel
theorem dX6_seat_62 : decode cX6_seat 62 = .ok (.getfield 87, 3) := by decide +kernel
theorem dX6_seat_65 : decode cX6_seat 65 = .ok (.iload_n 1, 1) := by decide +kernel
theorem dX6_seat_66 : decode cX6_seat 66 = .ok (.iaload, 1) := by decide +kernel
theorem dX6_seat_67 : decode cX6_seat 67 = .ok (.iadd, 1) := by decide +kernel
theorem dX6_seat_68 : decode cX6_seat 68 = .ok (.iastore, 1) := by decide +kernel
theorem dX6_seat_69 : decode cX6_seat 69 = .ok (.aload_n 0, 1) := by decide +kernel
theorem dX6_seat_70 : decode cX6_seat 70 = .ok (.iload_n 1, 1) := by decide +kernel
theorem dX6_seat_71 : decode cX6_seat 71 = .ok (.iconst 1, 1) := by decide +kernel
theorem dX6_seat_72 : decode cX6_seat 72 = .ok (.iadd, 1) := by decide +kernel
theorem dX6_seat_73 : decode cX6_seat 73 = .ok (.iload 4, 2) := by decide +kernel
theorem dX6_seat_75 : decode cX6_seat 75 = .ok (.iload_n 2, 1) := by decide +kernel
theorem dX6_seat_76 : decode cX6_seat 76 = .ok (.if_icmp .ne 9, 3) := by decide +kernel
theorem dX6_seat_79 : decode cX6_seat 79 = .ok (.iload_n 2, 1) := by decide +kernel
theorem dX6_seat_80 : decode cX6_seat 80 = .ok (.iconst 1, 1) := by decide +kernel
theorem dX6_seat_81 : decode cX6_seat 81 = .ok (.iadd, 1) := by decide +kernel
theorem dX6_seat_82 : decode cX6_seat 82 = .ok (.goto 4, 3) := by decide +kernel
theorem dX6_seat_85 : decode cX6_seat 85 = .ok (.iload_n 2, 1) := by decide +kernel
theorem dX6_seat_86 : decode cX6_seat 86 = .ok (.iload_n 3, 1) := by decide +kernel
theorem dX6_seat_87 : decode cX6_seat 87 = .ok (.bipush 10, 2) := by decide +kernel
theorem dX6_seat_89 : decode cX6_seat 89 = .ok (.imul, 1) := by decide +kernel
theorem dX6_seat_90 : decode cX6_seat 90 = .ok (.iload 4, 2) := by decide +kernel
theorem dX6_seat_92 : decode cX6_seat 92 = .ok (.iadd, 1) := by decide +kernel
theorem dX6_seat_93 : decode cX6_seat 93 = .ok (.invokevirtual 44, 3) := by decide +kernel
theorem dX6_seat_96 : decode cX6_seat 96 = .ok (.aload_n 0, 1) := by decide +kernel
theorem dX6_seat_97 : decode cX6_seat 97 = .ok (.getfield 9, 3) := by decide +kernel
theorem dX6_seat_100 : decode cX6_seat 100 = .ok (.iload 4, 2) := by decide +kernel
theorem dX6_seat_102 : decode cX6_seat 102 = .ok (.dup2, 1) := by decide +kernel
theorem dX6_seat_103 : decode cX6_seat 103 = .ok (.iaload, 1) := by decide +kernel
theorem dX6_seat_104 : decode cX6_seat 104 = .ok (.iconst 1, 1) := by decide +kernel
theorem dX6_seat_105 : decode cX6_seat 105 = .ok (.iload_n 1, 1) := by decide +kernel
theorem dX6_seat_106 : decode cX6_seat 106 = .ok (.ishl, 1) := by decide +kernel
theorem dX6_seat_107 : decode cX6_seat 107 = .ok (.iconst (-1), 1) := by decide +kernel
theorem dX6_seat_108 : decode cX6_seat 108 = .ok (.ixor, 1) := by decide +kernel
theorem dX6_seat_109 : decode cX6_seat 109 = .ok (.iand, 1) := by decide +kernel
theorem dX6_seat_110 : decode cX6_seat 110 = .ok (.iastore, 1) := by decide +kernel
theorem dX6_seat_111 : decode cX6_seat 111 = .ok (.aload_n 0, 1) := by decide +kernel
theorem dX6_seat_112 : decode cX6_seat 112 = .ok (.getfield 15, 3) := by decide +kernel
theorem dX6_seat_115 : decode cX6_seat 115 = .ok (.iload 4, 2) := by decide +kernel
theorem dX6_seat_117 : decode cX6_seat 117 = .ok (.dup2, 1) := by decide +kernel
theorem dX6_seat_118 : decode cX6_seat 118 = .ok (.iaload, 1) := by decide +kernel
theorem dX6_seat_119 : decode cX6_seat 119 = .ok (.aload_n 0, 1) := by decide +kernel
theorem dX6_seat_120 : decode cX6_seat 120 = .ok (.getfield 25, 3) := by decide +kernel
theorem dX6_seat_123 : decode cX6_seat 123 = .ok (.getfield 87, 3) := by decide +kernel
theorem dX6_seat_126 : decode cX6_seat 126 = .ok (.iload_n 1, 1) := by decide +kernel
theorem dX6_seat_127 : decode cX6_seat 127 = .ok (.iaload, 1) := by decide +kernel
theorem dX6_seat_128 : decode cX6_seat 128 = .ok (.isub, 1) := by decide +kernel
theorem dX6_seat_129 : decode cX6_seat 129 = .ok (.iastore, 1) := by decide +kernel
theorem dX6_seat_130 : decode cX6_seat 130 = .ok (.iinc 4 1, 3) := by decide +kernel
theorem dX6_seat_133 : decode cX6_seat 133 = .ok (.goto (-112), 3) := by decide +kernel
theorem dX6_seat_136 : decode cX6_seat 136 = .ok (.return_, 1) := by decide +kernel
theorem dX6_hasRoom_0 : decode cX6_hasRoom 0 = .ok (.aload_n 0, 1) := by decide +kernel
theorem dX6_hasRoom_1 : decode cX6_hasRoom 1 = .ok (.getfield 15, 3) := by decide +kernel
theorem dX6_hasRoom_4 : decode cX6_hasRoom 4 = .ok (.iload_n 1, 1) := by decide +kernel
theorem dX6_hasRoom_5 : decode cX6_hasRoom 5 = .ok (.iaload, 1) := by decide +kernel
theorem dX6_hasRoom_6 : decode cX6_hasRoom 6 = .ok (.aload_n 0, 1) := by decide +kernel
theorem dX6_hasRoom_7 : decode cX6_hasRoom 7 = .ok (.getfield 25, 3) := by decide +kernel
theorem dX6_hasRoom_10 : decode cX6_hasRoom 10 = .ok (.getfield 87, 3) := by decide +kernel
theorem dX6_hasRoom_13 : decode cX6_hasRoom 13 = .ok (.iload_n 2, 1) := by decide +kernel
theorem dX6_hasRoom_14 : decode cX6_hasRoom 14 = .ok (.iaload, 1) := by decide +kernel
theorem dX6_hasRoom_15 : decode cX6_hasRoom 15 = .ok (.iadd, 1) := by decide +kernel
theorem dX6_hasRoom_16 : decode cX6_hasRoom 16 = .ok (.aload_n 0, 1) := by decide +kernel
theorem dX6_hasRoom_17 : decode cX6_hasRoom 17 = .ok (.getfield 25, 3) := by decide +kernel
theorem dX6_hasRoom_20 : decode cX6_hasRoom 20 = .ok (.getfield 90, 3) := by decide +kernel
theorem dX6_hasRoom_23 : decode cX6_hasRoom 23 = .ok (.if_icmp .gt 7, 3) := by decide +kernel
theorem dX6_hasRoom_26 : decode cX6_hasRoom 26 = .ok (.iconst 1, 1) := by decide +kernel
theorem dX6_hasRoom_27 : decode cX6_hasRoom 27 = .ok (.goto 4, 3) := by decide +kernel
theorem dX6_hasRoom_30 : decode cX6_hasRoom 30 = .ok (.iconst 0, 1) := by decide +kernel
theorem dX6_hasRoom_31 : decode cX6_hasRoom 31 = .ok (.ireturn, 1) := by decide +kernel
theorem dX6_judge_0 : decode cX6_judge 0 = .ok (.aload_n 0, 1) := by decide +kernel
theorem dX6_judge_1 : decode cX6_judge 1 = .ok (.getfield 40, 3) := by decide +kernel
theorem dX6_judge_4 : decode cX6_judge 4 = .ok (.ifCond .eq 45, 3) := by decide +kernel
theorem dX6_judge_7 : decode cX6_judge 7 = .ok (.aload_n 0, 1) := by decide +kernel
theorem dX6_judge_8 : decode cX6_judge 8 = .ok (.iload_n 1, 1) := by decide +kernel
theorem dX6_judge_9 : decode cX6_judge 9 = .ok (.invokevirtual 93, 3) := by decide +kernel
theorem dX6_judge_12 : decode cX6_judge 12 = .ok (.ifCond .eq 36, 3) := by decide +kernel
theorem dX6_judge_15 : decode cX6_judge 15 = .ok (.aload_n 0, 1) := by decide +kernel
theorem dX6_judge_16 : decode cX6_judge 16 = .ok (.aload_n 0, 1) := by decide +kernel
theorem dX6_judge_17 : decode cX6_judge 17 = .ok (.getfield 74, 3) := by decide +kernel
theorem dX6_judge_20 : decode cX6_judge 20 = .ok (.aload_n 0, 1) := by decide +kernel
theorem dX6_judge_21 : decode cX6_judge 21 = .ok (.getfield 71, 3) := by decide +kernel
theorem dX6_judge_24 : decode cX6_judge 24 = .ok (.if_icmp .ne 7, 3) := by decide +kernel
theorem dX6_judge_27 : decode cX6_judge 27 = .ok (.iload_n 2, 1) := by decide +kernel
theorem dX6_judge_28 : decode cX6_judge 28 = .ok (.goto 7, 3) := by decide +kernel
theorem dX6_judge_31 : decode cX6_judge 31 = .ok (.aload_n 0, 1) := by decide +kernel
theorem dX6_judge_32 : decode cX6_judge 32 = .ok (.getfield 77, 3) := by decide +kernel
theorem dX6_judge_35 : decode cX6_judge 35 = .ok (.putfield 77, 3) := by decide +kernel
theorem dX6_judge_38 : decode cX6_judge 38 = .ok (.aload_n 0, 1) := by decide +kernel
theorem dX6_judge_39 : decode cX6_judge 39 = .ok (.dup, 1) := by decide +kernel
theorem dX6_judge_40 : decode cX6_judge 40 = .ok (.getfield 74, 3) := by decide +kernel
theorem dX6_judge_43 : decode cX6_judge 43 = .ok (.iconst 1, 1) := by decide +kernel
theorem dX6_judge_44 : decode cX6_judge 44 = .ok (.iadd, 1) := by decide +kernel
theorem dX6_judge_45 : decode cX6_judge 45 = .ok (.putfield 74, 3) := by decide +kernel
theorem dX6_judge_48 : decode cX6_judge 48 = .ok (.return_, 1) := by decide +kernel
theorem dX6_judge_49 : decode cX6_judge 49 = .ok (.iconst 0, 1) := by decide +kernel
theorem dX6_judge_50 : decode cX6_judge 50 = .ok (.istore_n 3, 1) := by decide +kernel
theorem dX6_judge_51 : decode cX6_judge 51 = .ok (.iconst 0, 1) := by decide +kernel
theorem dX6_judge_52 : decode cX6_judge 52 = .ok (.istore 4, 2) := by decide +kernel
theorem dX6_judge_54 : decode cX6_judge 54 = .ok (.iload 4, 2) := by decide +kernel
theorem dX6_judge_56 : decode cX6_judge 56 = .ok (.iload_n 1, 1) := by decide +kernel
theorem dX6_judge_57 : decode cX6_judge 57 = .ok (.if_icmp .ge 26, 3) := by decide +kernel
theorem dX6_judge_60 : decode cX6_judge 60 = .ok (.iload_n 3, 1) := by decide +kernel
theorem dX6_judge_61 : decode cX6_judge 61 = .ok (.aload_n 0, 1) := by decide +kernel
theorem dX6_judge_62 : decode cX6_judge 62 = .ok (.getfield 25, 3) := by decide +kernel
theorem dX6_judge_65 : decode cX6_judge 65 = .ok (.aload_n 0, 1) := by decide +kernel
theorem dX6_judge_66 : decode cX6_judge 66 = .ok (.getfield 9, 3) := by decide +kernel
theorem dX6_judge_69 : decode cX6_judge 69 = .ok (.iload 4, 2) := by decide +kernel
theorem dX6_judge_71 : decode cX6_judge 71 = .ok (.iaload, 1) := by decide +kernel
theorem dX6_judge_72 : decode cX6_judge 72 = .ok (.invokevirtual 97, 3) := by decide +kernel
theorem dX6_judge_75 : decode cX6_judge 75 = .ok (.iadd, 1) := by decide +kernel
theorem dX6_judge_76 : decode cX6_judge 76 = .ok (.istore_n 3, 1) := by decide +kernel
theorem dX6_judge_77 : decode cX6_judge 77 = .ok (.iinc 4 1, 3) := by decide +kernel
theorem dX6_judge_80 : decode cX6_judge 80 = .ok (.goto (-26), 3) := by decide +kernel
theorem dX6_judge_83 : decode cX6_judge 83 = .ok (.aload_n 0, 1) := by decide +kernel
theorem dX6_judge_84 : decode cX6_judge 84 = .ok (.getfield 33, 3) := by decide +kernel
theorem dX6_judge_87 : decode cX6_judge 87 = .ok (.iconst (-1), 1) := by decide +kernel
theorem dX6_judge_88 : decode cX6_judge 88 = .ok (.if_icmp .eq 11, 3) := by decide +kernel
theorem dX6_judge_91 : decode cX6_judge 91 = .ok (.iload_n 3, 1) := by decide +kernel
theorem dX6_judge_92 : decode cX6_judge 92 = .ok (.aload_n 0, 1) := by decide +kernel
theorem dX6_judge_93 : decode cX6_judge 93 = .ok (.getfield 37, 3) := by decide +kernel
theorem dX6_judge_96 : decode cX6_judge 96 = .ok (.if_icmp .ge 13, 3) := by decide +kernel
theorem dX6_judge_99 : decode cX6_judge 99 = .ok (.aload_n 0, 1) := by decide +kernel
theorem dX6_judge_100 : decode cX6_judge 100 = .ok (.iload_n 2, 1) := by decide +kernel
theorem dX6_judge_101 : decode cX6_judge 101 = .ok (.putfield 33, 3) := by decide +kernel
theorem dX6_judge_104 : decode cX6_judge 104 = .ok (.aload_n 0, 1) := by decide +kernel
theorem dX6_judge_105 : decode cX6_judge 105 = .ok (.iload_n 3, 1) := by decide +kernel
theorem dX6_judge_106 : decode cX6_judge 106 = .ok (.putfield 37, 3) := by decide +kernel
theorem dX6_judge_109 : decode cX6_judge 109 = .ok (.return_, 1) := by decide +kernel
theorem dX6_isSteady_0 : decode cX6_isSteady 0 = .ok (.iconst 1, 1) := by decide +kernel
theorem dX6_isSteady_1 : decode cX6_isSteady 1 = .ok (.istore_n 2, 1) := by decide +kernel
theorem dX6_isSteady_2 : decode cX6_isSteady 2 = .ok (.iconst 0, 1) := by decide +kernel
theorem dX6_isSteady_3 : decode cX6_isSteady 3 = .ok (.istore_n 3, 1) := by decide +kernel
theorem dX6_isSteady_4 : decode cX6_isSteady 4 = .ok (.iload_n 3, 1) := by decide +kernel
theorem dX6_isSteady_5 : decode cX6_isSteady 5 = .ok (.iload_n 1, 1) := by decide +kernel
theorem dX6_isSteady_6 : decode cX6_isSteady 6 = .ok (.if_icmp .ge 70, 3) := by decide +kernel
theorem dX6_isSteady_9 : decode cX6_isSteady 9 = .ok (.iconst 0, 1) := by decide +kernel
theorem dX6_isSteady_10 : decode cX6_isSteady 10 = .ok (.istore 4, 2) := by decide +kernel
theorem dX6_isSteady_12 : decode cX6_isSteady 12 = .ok (.iload 4, 2) := by decide +kernel
theorem dX6_isSteady_14 : decode cX6_isSteady 14 = .ok (.aload_n 0, 1) := by decide +kernel
theorem dX6_isSteady_15 : decode cX6_isSteady 15 = .ok (.getfield 25, 3) := by decide +kernel
theorem dX6_isSteady_18 : decode cX6_isSteady 18 = .ok (.getfield 60, 3) := by decide +kernel
theorem dX6_isSteady_21 : decode cX6_isSteady 21 = .ok (.if_icmp .ge 49, 3) := by decide +kernel
theorem dX6_isSteady_24 : decode cX6_isSteady 24 = .ok (.iload 4, 2) := by decide +kernel
theorem dX6_isSteady_26 : decode cX6_isSteady 26 = .ok (.aload_n 0, 1) := by decide +kernel
theorem dX6_isSteady_27 : decode cX6_isSteady 27 = .ok (.getfield 9, 3) := by decide +kernel
theorem dX6_isSteady_30 : decode cX6_isSteady 30 = .ok (.iload_n 3, 1) := by decide +kernel
theorem dX6_isSteady_31 : decode cX6_isSteady 31 = .ok (.iaload, 1) := by decide +kernel
theorem dX6_isSteady_32 : decode cX6_isSteady 32 = .ok (.invokestatic 63, 3) := by decide +kernel
theorem dX6_isSteady_35 : decode cX6_isSteady 35 = .ok (.ifCond .eq 29, 3) := by decide +kernel
theorem dX6_isSteady_38 : decode cX6_isSteady 38 = .ok (.iload_n 2, 1) := by decide +kernel
theorem dX6_isSteady_39 : decode cX6_isSteady 39 = .ok (.ifCond .eq 23, 3) := by decide +kernel
theorem dX6_isSteady_42 : decode cX6_isSteady 42 = .ok (.aload_n 0, 1) := by decide +kernel
theorem dX6_isSteady_43 : decode cX6_isSteady 43 = .ok (.iload 4, 2) := by decide +kernel
theorem dX6_isSteady_45 : decode cX6_isSteady 45 = .ok (.aload_n 0, 1) := by decide +kernel
theorem dX6_isSteady_46 : decode cX6_isSteady 46 = .ok (.getfield 9, 3) := by decide +kernel
theorem dX6_isSteady_49 : decode cX6_isSteady 49 = .ok (.iload_n 3, 1) := by decide +kernel
theorem dX6_isSteady_50 : decode cX6_isSteady 50 = .ok (.iaload, 1) := by decide +kernel
theorem dX6_isSteady_51 : decode cX6_isSteady 51 = .ok (.iload_n 1, 1) := by decide +kernel
theorem dX6_isSteady_52 : decode cX6_isSteady 52 = .ok (.invokevirtual 101, 3) := by decide +kernel
theorem dX6_isSteady_55 : decode cX6_isSteady 55 = .ok (.ifCond .eq 7, 3) := by decide +kernel
theorem dX6_isSteady_58 : decode cX6_isSteady 58 = .ok (.iconst 1, 1) := by decide +kernel
theorem dX6_isSteady_59 : decode cX6_isSteady 59 = .ok (.goto 4, 3) := by decide +kernel
theorem dX6_isSteady_62 : decode cX6_isSteady 62 = .ok (.iconst 0, 1) := by decide +kernel
theorem dX6_isSteady_63 : decode cX6_isSteady 63 = .ok (.istore_n 2, 1) := by decide +kernel
theorem dX6_isSteady_64 : decode cX6_isSteady 64 = .ok (.iinc 4 1, 3) := by decide +kernel
theorem dX6_isSteady_67 : decode cX6_isSteady 67 = .ok (.goto (-55), 3) := by decide +kernel
theorem dX6_isSteady_70 : decode cX6_isSteady 70 = .ok (.iinc 3 1, 3) := by decide +kernel
theorem dX6_isSteady_73 : decode cX6_isSteady 73 = .ok (.goto (-69), 3) := by decide +kernel
theorem dX6_isSteady_76 : decode cX6_isSteady 76 = .ok (.iload_n 2, 1) := by decide +kernel
theorem dX6_isSteady_77 : decode cX6_isSteady 77 = .ok (.ireturn, 1) := by decide +kernel
theorem dX6_stays_0 : decode cX6_stays 0 = .ok (.iconst 0, 1) := by decide +kernel
theorem dX6_stays_1 : decode cX6_stays 1 = .ok (.istore 4, 2) := by decide +kernel
theorem dX6_stays_3 : decode cX6_stays 3 = .ok (.iload 4, 2) := by decide +kernel
theorem dX6_stays_5 : decode cX6_stays 5 = .ok (.iload_n 3, 1) := by decide +kernel
theorem dX6_stays_6 : decode cX6_stays 6 = .ok (.if_icmp .gt 67, 3) := by decide +kernel
theorem dX6_stays_9 : decode cX6_stays 9 = .ok (.iload_n 1, 1) := by decide +kernel
theorem dX6_stays_10 : decode cX6_stays 10 = .ok (.aload_n 0, 1) := by decide +kernel
theorem dX6_stays_11 : decode cX6_stays 11 = .ok (.getfield 9, 3) := by decide +kernel
theorem dX6_stays_14 : decode cX6_stays 14 = .ok (.iload 4, 2) := by decide +kernel
theorem dX6_stays_16 : decode cX6_stays 16 = .ok (.iaload, 1) := by decide +kernel
theorem dX6_stays_17 : decode cX6_stays 17 = .ok (.invokestatic 63, 3) := by decide +kernel
theorem dX6_stays_20 : decode cX6_stays 20 = .ok (.ifCond .ne 7, 3) := by decide +kernel
theorem dX6_stays_23 : decode cX6_stays 23 = .ok (.iconst 1, 1) := by decide +kernel
theorem dX6_stays_24 : decode cX6_stays 24 = .ok (.goto 4, 3) := by decide +kernel
theorem dX6_stays_27 : decode cX6_stays 27 = .ok (.iconst 0, 1) := by decide +kernel
theorem dX6_stays_28 : decode cX6_stays 28 = .ok (.istore 5, 2) := by decide +kernel
theorem dX6_stays_30 : decode cX6_stays 30 = .ok (.iload 5, 2) := by decide +kernel
theorem dX6_stays_32 : decode cX6_stays 32 = .ok (.ifCond .eq 35, 3) := by decide +kernel
theorem dX6_stays_35 : decode cX6_stays 35 = .ok (.aload_n 0, 1) := by decide +kernel
theorem dX6_stays_36 : decode cX6_stays 36 = .ok (.iload 4, 2) := by decide +kernel
theorem dX6_stays_38 : decode cX6_stays 38 = .ok (.iload_n 1, 1) := by decide +kernel
theorem dX6_stays_39 : decode cX6_stays 39 = .ok (.invokevirtual 84, 3) := by decide +kernel
theorem dX6_stays_42 : decode cX6_stays 42 = .ok (.ifCond .eq 25, 3) := by decide +kernel
theorem dX6_stays_45 : decode cX6_stays 45 = .ok (.aload_n 0, 1) := by decide +kernel
theorem dX6_stays_46 : decode cX6_stays 46 = .ok (.iload_n 1, 1) := by decide +kernel
theorem dX6_stays_47 : decode cX6_stays 47 = .ok (.aload_n 0, 1) := by decide +kernel
theorem dX6_stays_48 : decode cX6_stays 48 = .ok (.getfield 9, 3) := by decide +kernel
theorem dX6_stays_51 : decode cX6_stays 51 = .ok (.iload 4, 2) := by decide +kernel
theorem dX6_stays_53 : decode cX6_stays 53 = .ok (.iaload, 1) := by decide +kernel
theorem dX6_stays_54 : decode cX6_stays 54 = .ok (.iconst 1, 1) := by decide +kernel
theorem dX6_stays_55 : decode cX6_stays 55 = .ok (.iload_n 1, 1) := by decide +kernel
theorem dX6_stays_56 : decode cX6_stays 56 = .ok (.ishl, 1) := by decide +kernel
theorem dX6_stays_57 : decode cX6_stays 57 = .ok (.ior, 1) := by decide +kernel
theorem dX6_stays_58 : decode cX6_stays 58 = .ok (.iload_n 2, 1) := by decide +kernel
theorem dX6_stays_59 : decode cX6_stays 59 = .ok (.invokevirtual 105, 3) := by decide +kernel
theorem dX6_stays_62 : decode cX6_stays 62 = .ok (.ifCond .eq 5, 3) := by decide +kernel
theorem dX6_stays_65 : decode cX6_stays 65 = .ok (.iconst 0, 1) := by decide +kernel
theorem dX6_stays_66 : decode cX6_stays 66 = .ok (.ireturn, 1) := by decide +kernel
theorem dX6_stays_67 : decode cX6_stays 67 = .ok (.iinc 4 1, 3) := by decide +kernel
theorem dX6_stays_70 : decode cX6_stays 70 = .ok (.goto (-67), 3) := by decide +kernel
theorem dX6_stays_73 : decode cX6_stays 73 = .ok (.iconst 1, 1) := by decide +kernel
theorem dX6_stays_74 : decode cX6_stays 74 = .ok (.ireturn, 1) := by decide +kernel
theorem dX6_isLower_0 : decode cX6_isLower 0 = .ok (.aload_n 0, 1) := by decide +kernel
theorem dX6_isLower_1 : decode cX6_isLower 1 = .ok (.getfield 18, 3) := by decide +kernel
theorem dX6_isLower_4 : decode cX6_isLower 4 = .ok (.iload_n 2, 1) := by decide +kernel
theorem dX6_isLower_5 : decode cX6_isLower 5 = .ok (.bipush 6, 2) := by decide +kernel
theorem dX6_isLower_7 : decode cX6_isLower 7 = .ok (.imul, 1) := by decide +kernel
theorem dX6_isLower_8 : decode cX6_isLower 8 = .ok (.iload_n 1, 1) := by decide +kernel
theorem dX6_isLower_9 : decode cX6_isLower 9 = .ok (.iadd, 1) := by decide +kernel
theorem dX6_isLower_10 : decode cX6_isLower 10 = .ok (.laload, 1) := by decide +kernel
theorem dX6_isLower_11 : decode cX6_isLower 11 = .ok (.aload_n 0, 1) := by decide +kernel
theorem dX6_isLower_12 : decode cX6_isLower 12 = .ok (.getfield 22, 3) := by decide +kernel
theorem dX6_isLower_15 : decode cX6_isLower 15 = .ok (.iload_n 3, 1) := by decide +kernel
theorem dX6_isLower_16 : decode cX6_isLower 16 = .ok (.laload, 1) := by decide +kernel
theorem dX6_isLower_17 : decode cX6_isLower 17 = .ok (.lmul, 1) := by decide +kernel
theorem dX6_isLower_18 : decode cX6_isLower 18 = .ok (.aload_n 0, 1) := by decide +kernel
theorem dX6_isLower_19 : decode cX6_isLower 19 = .ok (.getfield 18, 3) := by decide +kernel
theorem dX6_isLower_22 : decode cX6_isLower 22 = .ok (.iload_n 3, 1) := by decide +kernel
theorem dX6_isLower_23 : decode cX6_isLower 23 = .ok (.bipush 6, 2) := by decide +kernel
theorem dX6_isLower_25 : decode cX6_isLower 25 = .ok (.imul, 1) := by decide +kernel
theorem dX6_isLower_26 : decode cX6_isLower 26 = .ok (.iload_n 1, 1) := by decide +kernel
theorem dX6_isLower_27 : decode cX6_isLower 27 = .ok (.iadd, 1) := by decide +kernel
theorem dX6_isLower_28 : decode cX6_isLower 28 = .ok (.laload, 1) := by decide +kernel
theorem dX6_isLower_29 : decode cX6_isLower 29 = .ok (.aload_n 0, 1) := by decide +kernel
theorem dX6_isLower_30 : decode cX6_isLower 30 = .ok (.getfield 22, 3) := by decide +kernel
theorem dX6_isLower_33 : decode cX6_isLower 33 = .ok (.iload_n 2, 1) := by decide +kernel
theorem dX6_isLower_34 : decode cX6_isLower 34 = .ok (.laload, 1) := by decide +kernel
theorem dX6_isLower_35 : decode cX6_isLower 35 = .ok (.lmul, 1) := by decide +kernel
theorem dX6_isLower_36 : decode cX6_isLower 36 = .ok (.lcmp, 1) := by decide +kernel
theorem dX6_isLower_37 : decode cX6_isLower 37 = .ok (.ifCond .ge 7, 3) := by decide +kernel
theorem dX6_isLower_40 : decode cX6_isLower 40 = .ok (.iconst 1, 1) := by decide +kernel
theorem dX6_isLower_41 : decode cX6_isLower 41 = .ok (.goto 4, 3) := by decide +kernel
theorem dX6_isLower_44 : decode cX6_isLower 44 = .ok (.iconst 0, 1) := by decide +kernel
theorem dX6_isLower_45 : decode cX6_isLower 45 = .ok (.ireturn, 1) := by decide +kernel
theorem dX7_init_0 : decode cX7_init 0 = .ok (.aload_n 0, 1) := by decide +kernel
theorem dX7_init_1 : decode cX7_init 1 = .ok (.invokespecial 3, 3) := by decide +kernel
theorem dX7_init_4 : decode cX7_init 4 = .ok (.aload_n 0, 1) := by decide +kernel
theorem dX7_init_5 : decode cX7_init 5 = .ok (.bipush 64, 2) := by decide +kernel
theorem dX7_init_7 : decode cX7_init 7 = .ok (.newarray .int, 2) := by decide +kernel
theorem dX7_init_9 : decode cX7_init 9 = .ok (.putfield 9, 3) := by decide +kernel
theorem dX7_init_12 : decode cX7_init 12 = .ok (.aload_n 0, 1) := by decide +kernel
theorem dX7_init_13 : decode cX7_init 13 = .ok (.bipush 42, 2) := by decide +kernel
theorem dX7_init_15 : decode cX7_init 15 = .ok (.newarray .int, 2) := by decide +kernel
theorem dX7_init_17 : decode cX7_init 17 = .ok (.putfield 15, 3) := by decide +kernel
theorem dX7_init_20 : decode cX7_init 20 = .ok (.aload_n 0, 1) := by decide +kernel
theorem dX7_init_21 : decode cX7_init 21 = .ok (.aload_n 1, 1) := by decide +kernel
theorem dX7_init_22 : decode cX7_init 22 = .ok (.putfield 18, 3) := by decide +kernel
theorem dX7_init_25 : decode cX7_init 25 = .ok (.aload_n 0, 1) := by decide +kernel
theorem dX7_init_26 : decode cX7_init 26 = .ok (.aload_n 2, 1) := by decide +kernel
theorem dX7_init_27 : decode cX7_init 27 = .ok (.putfield 22, 3) := by decide +kernel
theorem dX7_init_30 : decode cX7_init 30 = .ok (.return_, 1) := by decide +kernel
theorem dX7_weigh_0 : decode cX7_weigh 0 = .ok (.aload_n 0, 1) := by decide +kernel
theorem dX7_weigh_1 : decode cX7_weigh 1 = .ok (.iload_n 1, 1) := by decide +kernel
theorem dX7_weigh_2 : decode cX7_weigh 2 = .ok (.putfield 26, 3) := by decide +kernel
theorem dX7_weigh_5 : decode cX7_weigh 5 = .ok (.aload_n 0, 1) := by decide +kernel
theorem dX7_weigh_6 : decode cX7_weigh 6 = .ok (.getfield 9, 3) := by decide +kernel
theorem dX7_weigh_9 : decode cX7_weigh 9 = .ok (.iconst (-1), 1) := by decide +kernel
theorem dX7_weigh_10 : decode cX7_weigh 10 = .ok (.invokestatic 30, 3) := by decide +kernel
theorem dX7_weigh_13 : decode cX7_weigh 13 = .ok (.iload_n 2, 1) := by decide +kernel
theorem dX7_weigh_14 : decode cX7_weigh 14 = .ok (.istore_n 3, 1) := by decide +kernel
theorem dX7_weigh_15 : decode cX7_weigh 15 = .ok (.iload_n 3, 1) := by decide +kernel
theorem dX7_weigh_16 : decode cX7_weigh 16 = .ok (.aload_n 0, 1) := by decide +kernel
theorem dX7_weigh_17 : decode cX7_weigh 17 = .ok (.getfield 18, 3) := by decide +kernel
theorem dX7_weigh_20 : decode cX7_weigh 20 = .ok (.getfield 36, 3) := by decide +kernel
theorem dX7_weigh_23 : decode cX7_weigh 23 = .ok (.if_icmp .gt 49, 3) := by decide +kernel
theorem dX7_weigh_26 : decode cX7_weigh 26 = .ok (.iconst 0, 1) := by decide +kernel
theorem dX7_weigh_27 : decode cX7_weigh 27 = .ok (.istore 4, 2) := by decide +kernel
theorem dX7_weigh_29 : decode cX7_weigh 29 = .ok (.iload 4, 2) := by decide +kernel
theorem dX7_weigh_31 : decode cX7_weigh 31 = .ok (.aload_n 0, 1) := by decide +kernel
theorem dX7_weigh_32 : decode cX7_weigh 32 = .ok (.getfield 18, 3) := by decide +kernel
theorem dX7_weigh_35 : decode cX7_weigh 35 = .ok (.getfield 36, 3) := by decide +kernel
theorem dX7_weigh_38 : decode cX7_weigh 38 = .ok (.if_icmp .ge 28, 3) := by decide +kernel
theorem dX7_weigh_41 : decode cX7_weigh 41 = .ok (.aload_n 0, 1) := by decide +kernel
theorem dX7_weigh_42 : decode cX7_weigh 42 = .ok (.getfield 15, 3) := by decide +kernel
theorem dX7_weigh_45 : decode cX7_weigh 45 = .ok (.iload_n 3, 1) := by decide +kernel
theorem dX7_weigh_46 : decode cX7_weigh 46 = .ok (.bipush 6, 2) := by decide +kernel
theorem dX7_weigh_48 : decode cX7_weigh 48 = .ok (.imul, 1) := by decide +kernel
theorem dX7_weigh_49 : decode cX7_weigh 49 = .ok (.iload 4, 2) := by decide +kernel
theorem dX7_weigh_51 : decode cX7_weigh 51 = .ok (.iadd, 1) := by decide +kernel
theorem dX7_weigh_52 : decode cX7_weigh 52 = .ok (.aload_n 0, 1) := by decide +kernel
theorem dX7_weigh_53 : decode cX7_weigh 53 = .ok (.iload 4, 2) := by decide +kernel
theorem dX7_weigh_55 : decode cX7_weigh 55 = .ok (.iload_n 3, 1) := by decide +kernel
theorem dX7_weigh_56 : decode cX7_weigh 56 = .ok (.invokevirtual 41, 3) := by decide +kernel
theorem dX7_weigh_59 : decode cX7_weigh 59 = .ok (.iastore, 1) := by decide +kernel
theorem dX7_weigh_60 : decode cX7_weigh 60 = .ok (.iinc 4 1, 3) := by decide +kernel
theorem dX7_weigh_63 : decode cX7_weigh 63 = .ok (.goto (-34), 3) := by decide +kernel
theorem dX7_weigh_66 : decode cX7_weigh 66 = .ok (.iinc 3 1, 3) := by decide +kernel
theorem dX7_weigh_69 : decode cX7_weigh 69 = .ok (.goto (-54), 3) := by decide +kernel
theorem dX7_weigh_72 : decode cX7_weigh 72 = .ok (.return_, 1) := by decide +kernel
theorem dX7_weightOf_0 : decode cX7_weightOf 0 = .ok (.aload_n 0, 1) := by decide +kernel
theorem dX7_weightOf_1 : decode cX7_weightOf 1 = .ok (.getfield 26, 3) := by decide +kernel
theorem dX7_weightOf_4 : decode cX7_weightOf 4 = .ok (.iconst 3, 1) := by decide +kernel
theorem dX7_weightOf_5 : decode cX7_weightOf 5 = .ok (.if_icmp .lt 23, 3) := by decide +kernel
theorem dX7_weightOf_8 : decode cX7_weightOf 8 = .ok (.aload_n 0, 1) := by decide +kernel
theorem dX7_weightOf_9 : decode cX7_weightOf 9 = .ok (.getfield 22, 3) := by decide +kernel
theorem dX7_weightOf_12 : decode cX7_weightOf 12 = .ok (.aload_n 0, 1) := by decide +kernel
theorem dX7_weightOf_13 : decode cX7_weightOf 13 = .ok (.getfield 26, 3) := by decide +kernel
theorem dX7_weightOf_16 : decode cX7_weightOf 16 = .ok (.iconst 3, 1) := by decide +kernel
theorem dX7_weightOf_17 : decode cX7_weightOf 17 = .ok (.isub, 1) := by decide +kernel
theorem dX7_weightOf_18 : decode cX7_weightOf 18 = .ok (.aload_n 0, 1) := by decide +kernel
theorem dX7_weightOf_19 : decode cX7_weightOf 19 = .ok (.getfield 18, 3) := by decide +kernel
theorem dX7_weightOf_22 : decode cX7_weightOf 22 = .ok (.iload_n 1, 1) := by decide +kernel
theorem dX7_weightOf_23 : decode cX7_weightOf 23 = .ok (.iload_n 2, 1) := by decide +kernel
theorem dX7_weightOf_24 : decode cX7_weightOf 24 = .ok (.invokevirtual 45, 3) := by decide +kernel
theorem dX7_weightOf_27 : decode cX7_weightOf 27 = .ok (.ireturn, 1) := by decide +kernel
theorem dX7_weightOf_28 : decode cX7_weightOf 28 = .ok (.aload_n 0, 1) := by decide +kernel
theorem dX7_weightOf_29 : decode cX7_weightOf 29 = .ok (.getfield 26, 3) := by decide +kernel
theorem dX7_weightOf_32 : decode cX7_weightOf 32 = .ok (.iconst 2, 1) := by decide +kernel
theorem dX7_weightOf_33 : decode cX7_weightOf 33 = .ok (.if_icmp .ne 13, 3) := by decide +kernel
theorem dX7_weightOf_36 : decode cX7_weightOf 36 = .ok (.aload_n 0, 1) := by decide +kernel
theorem dX7_weightOf_37 : decode cX7_weightOf 37 = .ok (.iconst 1, 1) := by decide +kernel
theorem dX7_weightOf_38 : decode cX7_weightOf 38 = .ok (.iload_n 1, 1) := by decide +kernel
theorem dX7_weightOf_39 : decode cX7_weightOf 39 = .ok (.ishl, 1) := by decide +kernel
theorem dX7_weightOf_40 : decode cX7_weightOf 40 = .ok (.invokevirtual 51, 3) := by decide +kernel
theorem dX7_weightOf_43 : decode cX7_weightOf 43 = .ok (.goto 4, 3) := by decide +kernel
theorem dX7_weightOf_46 : decode cX7_weightOf 46 = .ok (.iconst 0, 1) := by decide +kernel
theorem dX7_weightOf_47 : decode cX7_weightOf 47 = .ok (.ireturn, 1) := by decide +kernel
theorem dX7_costOf_0 : decode cX7_costOf 0 = .ok (.aload_n 0, 1) := by decide +kernel
theorem dX7_costOf_1 : decode cX7_costOf 1 = .ok (.getfield 9, 3) := by decide +kernel
theorem dX7_costOf_4 : decode cX7_costOf 4 = .ok (.iload_n 1, 1) := by decide +kernel
theorem dX7_costOf_5 : decode cX7_costOf 5 = .ok (.iaload, 1) := by decide +kernel
theorem dX7_costOf_6 : decode cX7_costOf 6 = .ok (.iconst (-1), 1) := by decide +kernel
theorem dX7_costOf_7 : decode cX7_costOf 7 = .ok (.if_icmp .ne 17, 3) := by decide +kernel
theorem dX7_costOf_10 : decode cX7_costOf 10 = .ok (.aload_n 0, 1) := by decide +kernel
theorem dX7_costOf_11 : decode cX7_costOf 11 = .ok (.getfield 9, 3) := by decide +kernel
theorem dX7_costOf_14 : decode cX7_costOf 14 = .ok (.iload_n 1, 1) := by decide +kernel
theorem dX7_costOf_15 : decode cX7_costOf 15 = .ok (.aload_n 0, 1) := by decide +kernel
theorem dX7_costOf_16 : decode cX7_costOf 16 = .ok (.getfield 18, 3) := by decide +kernel
theorem dX7_costOf_19 : decode cX7_costOf 19 = .ok (.iload_n 1, 1) := by decide +kernel
theorem dX7_costOf_20 : decode cX7_costOf 20 = .ok (.invokevirtual 55, 3) := by decide +kernel
theorem dX7_costOf_23 : decode cX7_costOf 23 = .ok (.iastore, 1) := by decide +kernel
theorem dX7_costOf_24 : decode cX7_costOf 24 = .ok (.aload_n 0, 1) := by decide +kernel
theorem dX7_costOf_25 : decode cX7_costOf 25 = .ok (.getfield 9, 3) := by decide +kernel
theorem dX7_costOf_28 : decode cX7_costOf 28 = .ok (.iload_n 1, 1) := by decide +kernel
theorem dX7_costOf_29 : decode cX7_costOf 29 = .ok (.iaload, 1) := by decide +kernel
theorem dX7_costOf_30 : decode cX7_costOf 30 = .ok (.ireturn, 1) := by decide +kernel
theorem dX7_below_0 : decode cX7_below 0 = .ok (.aload_n 0, 1) := by decide +kernel
theorem dX7_below_1 : decode cX7_below 1 = .ok (.getfield 26, 3) := by decide +kernel
theorem dX7_below_4 : decode cX7_below 4 = .ok (.ifCond .ne 7, 3) := by decide +kernel
theorem dX7_below_7 : decode cX7_below 7 = .ok (.ldc2_w 58, 3) := by decide +kernel
theorem dX7_below_10 : decode cX7_below 10 = .ok (.lreturn, 1) := by decide +kernel
theorem dX7_below_11 : decode cX7_below 11 = .ok (.aload_n 0, 1) := by decide +kernel
theorem dX7_below_12 : decode cX7_below 12 = .ok (.getfield 26, 3) := by decide +kernel
theorem dX7_below_15 : decode cX7_below 15 = .ok (.iconst 1, 1) := by decide +kernel
theorem dX7_below_16 : decode cX7_below 16 = .ok (.if_icmp .ne 7, 3) := by decide +kernel
theorem dX7_below_19 : decode cX7_below 19 = .ok (.ldc2_w 60, 3) := by decide +kernel
theorem dX7_below_22 : decode cX7_below 22 = .ok (.lreturn, 1) := by decide +kernel
theorem dX7_below_23 : decode cX7_below 23 = .ok (.aload_n 0, 1) := by decide +kernel
theorem dX7_below_24 : decode cX7_below 24 = .ok (.iload_n 1, 1) := by decide +kernel
theorem dX7_below_25 : decode cX7_below 25 = .ok (.invokevirtual 62, 3) := by decide +kernel
theorem dX7_below_28 : decode cX7_below 28 = .ok (.istore_n 2, 1) := by decide +kernel
theorem dX7_below_29 : decode cX7_below 29 = .ok (.iload_n 2, 1) := by decide +kernel
theorem dX7_below_30 : decode cX7_below 30 = .ok (.ifCond .le 8, 3) := by decide +kernel
theorem dX7_below_33 : decode cX7_below 33 = .ok (.iload_n 2, 1) := by decide +kernel
theorem dX7_below_34 : decode cX7_below 34 = .ok (.i2l, 1) := by decide +kernel
theorem dX7_below_35 : decode cX7_below 35 = .ok (.goto 8, 3) := by decide +kernel
theorem dX7_below_38 : decode cX7_below 38 = .ok (.iload_n 1, 1) := by decide +kernel
theorem dX7_below_39 : decode cX7_below 39 = .ok (.invokestatic 65, 3) := by decide +kernel
theorem dX7_below_42 : decode cX7_below 42 = .ok (.i2l, 1) := by decide +kernel
theorem dX7_below_43 : decode cX7_below 43 = .ok (.lreturn, 1) := by decide +kernel
theorem dX7_above_0 : decode cX7_above 0 = .ok (.aload_n 0, 1) := by decide +kernel
theorem dX7_above_1 : decode cX7_above 1 = .ok (.getfield 26, 3) := by decide +kernel
theorem dX7_above_4 : decode cX7_above 4 = .ok (.ifCond .ne 10, 3) := by decide +kernel
theorem dX7_above_7 : decode cX7_above 7 = .ok (.aload_n 0, 1) := by decide +kernel
theorem dX7_above_8 : decode cX7_above 8 = .ok (.iload_n 1, 1) := by decide +kernel
theorem dX7_above_9 : decode cX7_above 9 = .ok (.iload_n 2, 1) := by decide +kernel
theorem dX7_above_10 : decode cX7_above 10 = .ok (.invokevirtual 70, 3) := by decide +kernel
theorem dX7_above_13 : decode cX7_above 13 = .ok (.lreturn, 1) := by decide +kernel
theorem dX7_above_14 : decode cX7_above 14 = .ok (.aload_n 0, 1) := by decide +kernel
theorem dX7_above_15 : decode cX7_above 15 = .ok (.getfield 26, 3) := by decide +kernel
theorem dX7_above_18 : decode cX7_above 18 = .ok (.iconst 1, 1) := by decide +kernel
theorem dX7_above_19 : decode cX7_above 19 = .ok (.if_icmp .ne 10, 3) := by decide +kernel
theorem dX7_above_22 : decode cX7_above 22 = .ok (.aload_n 0, 1) := by decide +kernel
theorem dX7_above_23 : decode cX7_above 23 = .ok (.iload_n 1, 1) := by decide +kernel
theorem dX7_above_24 : decode cX7_above 24 = .ok (.iload_n 2, 1) := by decide +kernel
theorem dX7_above_25 : decode cX7_above 25 = .ok (.invokevirtual 74, 3) := by decide +kernel
theorem dX7_above_28 : decode cX7_above 28 = .ok (.lreturn, 1) := by decide +kernel
theorem dX7_above_29 : decode cX7_above 29 = .ok (.aload_n 0, 1) := by decide +kernel
theorem dX7_above_30 : decode cX7_above 30 = .ok (.iload_n 2, 1) := by decide +kernel
theorem dX7_above_31 : decode cX7_above 31 = .ok (.invokevirtual 62, 3) := by decide +kernel
theorem dX7_above_34 : decode cX7_above 34 = .ok (.ifCond .le 20, 3) := by decide +kernel
theorem dX7_above_37 : decode cX7_above 37 = .ok (.aload_n 0, 1) := by decide +kernel
theorem dX7_above_38 : decode cX7_above 38 = .ok (.getfield 15, 3) := by decide +kernel
theorem dX7_above_41 : decode cX7_above 41 = .ok (.iload_n 2, 1) := by decide +kernel
theorem dX7_above_42 : decode cX7_above 42 = .ok (.invokestatic 65, 3) := by decide +kernel
theorem dX7_above_45 : decode cX7_above 45 = .ok (.bipush 6, 2) := by decide +kernel
theorem dX7_above_47 : decode cX7_above 47 = .ok (.imul, 1) := by decide +kernel
theorem dX7_above_48 : decode cX7_above 48 = .ok (.iload_n 1, 1) := by decide +kernel
theorem dX7_above_49 : decode cX7_above 49 = .ok (.iadd, 1) := by decide +kernel
theorem dX7_above_50 : decode cX7_above 50 = .ok (.iaload, 1) := by decide +kernel
theorem dX7_above_51 : decode cX7_above 51 = .ok (.goto 4, 3) := by decide +kernel
theorem dX7_above_54 : decode cX7_above 54 = .ok (.iconst 1, 1) := by decide +kernel
theorem dX7_above_55 : decode cX7_above 55 = .ok (.istore_n 3, 1) := by decide +kernel
theorem dX7_above_56 : decode cX7_above 56 = .ok (.aload_n 0, 1) := by decide +kernel
theorem dX7_above_57 : decode cX7_above 57 = .ok (.iload_n 2, 1) := by decide +kernel
theorem dX7_above_58 : decode cX7_above 58 = .ok (.invokevirtual 51, 3) := by decide +kernel
theorem dX7_above_61 : decode cX7_above 61 = .ok (.i2l, 1) := by decide +kernel
theorem dX7_above_62 : decode cX7_above 62 = .ok (.iload_n 3, 1) := by decide +kernel
theorem dX7_above_63 : decode cX7_above 63 = .ok (.i2l, 1) := by decide +kernel
theorem dX7_above_64 : decode cX7_above 64 = .ok (.lmul, 1) := by decide +kernel
theorem dX7_above_65 : decode cX7_above 65 = .ok (.lreturn, 1) := by decide +kernel
theorem dX7_sectionParts_0 : decode cX7_sectionParts 0 = .ok (.iload_n 2, 1) := by decide +kernel
theorem dX7_sectionParts_1 : decode cX7_sectionParts 1 = .ok (.invokestatic 65, 3) := by decide +kernel
theorem dX7_sectionParts_4 : decode cX7_sectionParts 4 = .ok (.istore_n 3, 1) := by decide +kernel
theorem dX7_sectionParts_5 : decode cX7_sectionParts 5 = .ok (.aload_n 0, 1) := by decide +kernel
theorem dX7_sectionParts_6 : decode cX7_sectionParts 6 = .ok (.getfield 18, 3) := by decide +kernel
theorem dX7_sectionParts_9 : decode cX7_sectionParts 9 = .ok (.aload_n 0, 1) := by decide +kernel
theorem dX7_sectionParts_10 : decode cX7_sectionParts 10 = .ok (.getfield 18, 3) := by decide +kernel
theorem dX7_sectionParts_13 : decode cX7_sectionParts 13 = .ok (.getfield 77, 3) := by decide +kernel
theorem dX7_sectionParts_16 : decode cX7_sectionParts 16 = .ok (.iload_n 1, 1) := by decide +kernel
theorem dX7_sectionParts_17 : decode cX7_sectionParts 17 = .ok (.iaload, 1) := by decide +kernel
theorem dX7_sectionParts_18 : decode cX7_sectionParts 18 = .ok (.invokevirtual 80, 3) := by decide +kernel
theorem dX7_sectionParts_21 : decode cX7_sectionParts 21 = .ok (.istore 4, 2) := by decide +kernel
theorem dX7_sectionParts_23 : decode cX7_sectionParts 23 = .ok (.iload_n 3, 1) := by decide +kernel
theorem dX7_sectionParts_24 : decode cX7_sectionParts 24 = .ok (.ifCond .le 20, 3) := by decide +kernel
theorem dX7_sectionParts_27 : decode cX7_sectionParts 27 = .ok (.aload_n 0, 1) := by decide +kernel
theorem dX7_sectionParts_28 : decode cX7_sectionParts 28 = .ok (.getfield 18, 3) := by decide +kernel
theorem dX7_sectionParts_31 : decode cX7_sectionParts 31 = .ok (.iload_n 2, 1) := by decide +kernel
theorem dX7_sectionParts_32 : decode cX7_sectionParts 32 = .ok (.invokevirtual 83, 3) := by decide +kernel
theorem dX7_sectionParts_35 : decode cX7_sectionParts 35 = .ok (.bipush 60, 2) := by decide +kernel
theorem dX7_sectionParts_37 : decode cX7_sectionParts 37 = .ok (.iload_n 3, 1) := by decide +kernel
theorem dX7_sectionParts_38 : decode cX7_sectionParts 38 = .ok (.idiv, 1) := by decide +kernel
theorem dX7_sectionParts_39 : decode cX7_sectionParts 39 = .ok (.imul, 1) := by decide +kernel
theorem dX7_sectionParts_40 : decode cX7_sectionParts 40 = .ok (.i2l, 1) := by decide +kernel
theorem dX7_sectionParts_41 : decode cX7_sectionParts 41 = .ok (.goto 4, 3) := by decide +kernel
theorem dX7_sectionParts_44 : decode cX7_sectionParts 44 = .ok (.lconst 0, 1) := by decide +kernel
theorem dX7_sectionParts_45 : decode cX7_sectionParts 45 = .ok (.lstore 5, 2) := by decide +kernel
theorem dX7_sectionParts_47 : decode cX7_sectionParts 47 = .ok (.iconst 1, 1) := by decide +kernel
theorem dX7_sectionParts_48 : decode cX7_sectionParts 48 = .ok (.istore 7, 2) := by decide +kernel
theorem dX7_sectionParts_50 : decode cX7_sectionParts 50 = .ok (.iload 7, 2) := by decide +kernel
theorem dX7_sectionParts_52 : decode cX7_sectionParts 52 = .ok (.aload_n 0, 1) := by decide +kernel
theorem dX7_sectionParts_53 : decode cX7_sectionParts 53 = .ok (.getfield 18, 3) := by decide +kernel
theorem dX7_sectionParts_56 : decode cX7_sectionParts 56 = .ok (.getfield 86, 3) := by decide +kernel
theorem dX7_sectionParts_59 : decode cX7_sectionParts 59 = .ok (.if_icmp .gt 71, 3) := by decide +kernel
theorem dX7_sectionParts_62 : decode cX7_sectionParts 62 = .ok (.iload 4, 2) := by decide +kernel
theorem dX7_sectionParts_64 : decode cX7_sectionParts 64 = .ok (.iload 7, 2) := by decide +kernel
theorem dX7_sectionParts_66 : decode cX7_sectionParts 66 = .ok (.ishr, 1) := by decide +kernel
theorem dX7_sectionParts_67 : decode cX7_sectionParts 67 = .ok (.iconst 1, 1) := by decide +kernel
theorem dX7_sectionParts_68 : decode cX7_sectionParts 68 = .ok (.iand, 1) := by decide +kernel
theorem dX7_sectionParts_69 : decode cX7_sectionParts 69 = .ok (.iconst 1, 1) := by decide +kernel
theorem dX7_sectionParts_70 : decode cX7_sectionParts 70 = .ok (.if_icmp .ne 16, 3) := by decide +kernel
theorem dX7_sectionParts_73 : decode cX7_sectionParts 73 = .ok (.aload_n 0, 1) := by decide +kernel
theorem dX7_sectionParts_74 : decode cX7_sectionParts 74 = .ok (.getfield 18, 3) := by decide +kernel
theorem dX7_sectionParts_77 : decode cX7_sectionParts 77 = .ok (.iload 7, 2) := by decide +kernel
theorem dX7_sectionParts_79 : decode cX7_sectionParts 79 = .ok (.iload_n 2, 1) := by decide +kernel
theorem dX7_sectionParts_80 : decode cX7_sectionParts 80 = .ok (.invokevirtual 89, 3) := by decide +kernel
theorem dX7_sectionParts_83 : decode cX7_sectionParts 83 = .ok (.goto 4, 3) := by decide +kernel
theorem dX7_sectionParts_86 : decode cX7_sectionParts 86 = .ok (.iconst 0, 1) := by decide +kernel
theorem dX7_sectionParts_87 : decode cX7_sectionParts 87 = .ok (.istore 8, 2) := by decide +kernel
theorem dX7_sectionParts_89 : decode cX7_sectionParts 89 = .ok (.iload 8, 2) := by decide +kernel
theorem dX7_sectionParts_91 : decode cX7_sectionParts 91 = .ok (.ifCond .le 33, 3) := by decide +kernel
theorem dX7_sectionParts_94 : decode cX7_sectionParts 94 = .ok (.lload 5, 2) := by decide +kernel
theorem dX7_sectionParts_96 : decode cX7_sectionParts 96 = .ok (.aload_n 0, 1) := by decide +kernel
theorem dX7_sectionParts_97 : decode cX7_sectionParts 97 = .ok (.getfield 18, 3) := by decide +kernel
theorem dX7_sectionParts_100 : decode cX7_sectionParts 100 = .ok (.getfield 92, 3) := by decide +kernel
theorem dX7_sectionParts_103 : decode cX7_sectionParts 103 = .ok (.aload_n 0, 1) := by decide +kernel
theorem dX7_sectionParts_104 : decode cX7_sectionParts 104 = .ok (.getfield 18, 3) := by decide +kernel
theorem dX7_sectionParts_107 : decode cX7_sectionParts 107 = .ok (.getfield 95, 3) := by decide +kernel
theorem dX7_sectionParts_110 : decode cX7_sectionParts 110 = .ok (.iload 7, 2) := by decide +kernel
theorem dX7_sectionParts_112 : decode cX7_sectionParts 112 = .ok (.iaload, 1) := by decide +kernel
theorem dX7_sectionParts_113 : decode cX7_sectionParts 113 = .ok (.imul, 1) := by decide +kernel
theorem dX7_sectionParts_114 : decode cX7_sectionParts 114 = .ok (.bipush 60, 2) := by decide +kernel
theorem dX7_sectionParts_116 : decode cX7_sectionParts 116 = .ok (.iload 8, 2) := by decide +kernel
theorem dX7_sectionParts_118 : decode cX7_sectionParts 118 = .ok (.idiv, 1) := by decide +kernel
theorem dX7_sectionParts_119 : decode cX7_sectionParts 119 = .ok (.imul, 1) := by decide +kernel
theorem dX7_sectionParts_120 : decode cX7_sectionParts 120 = .ok (.i2l, 1) := by decide +kernel
theorem dX7_sectionParts_121 : decode cX7_sectionParts 121 = .ok (.ladd, 1) := by decide +kernel
theorem dX7_sectionParts_122 : decode cX7_sectionParts 122 = .ok (.lstore 5, 2) := by decide +kernel
theorem dX7_sectionParts_124 : decode cX7_sectionParts 124 = .ok (.iinc 7 1, 3) := by decide +kernel
theorem dX7_sectionParts_127 : decode cX7_sectionParts 127 = .ok (.goto (-77), 3) := by decide +kernel
theorem dX7_sectionParts_130 : decode cX7_sectionParts 130 = .ok (.lload 5, 2) := by decide +kernel
theorem dX7_sectionParts_132 : decode cX7_sectionParts 132 = .ok (.lreturn, 1) := by decide +kernel
theorem dX7_orderParts_0 : decode cX7_orderParts 0 = .ok (.iload_n 2, 1) := by decide +kernel
theorem dX7_orderParts_1 : decode cX7_orderParts 1 = .ok (.iconst 1, 1) := by decide +kernel
theorem dX7_orderParts_2 : decode cX7_orderParts 2 = .ok (.iload_n 1, 1) := by decide +kernel
theorem dX7_orderParts_3 : decode cX7_orderParts 3 = .ok (.ishl, 1) := by decide +kernel
theorem dX7_orderParts_4 : decode cX7_orderParts 4 = .ok (.iconst (-1), 1) := by decide +kernel
theorem dX7_orderParts_5 : decode cX7_orderParts 5 = .ok (.ixor, 1) := by decide +kernel
theorem dX7_orderParts_6 : decode cX7_orderParts 6 = .ok (.iand, 1) := by decide +kernel
theorem dX7_orderParts_7 : decode cX7_orderParts 7 = .ok (.istore_n 3, 1) := by decide +kernel
theorem dX7_orderParts_8 : decode cX7_orderParts 8 = .ok (.iload_n 3, 1) := by decide +kernel
theorem dX7_orderParts_9 : decode cX7_orderParts 9 = .ok (.invokestatic 65, 3) := by decide +kernel
theorem dX7_orderParts_12 : decode cX7_orderParts 12 = .ok (.istore 4, 2) := by decide +kernel
theorem dX7_orderParts_14 : decode cX7_orderParts 14 = .ok (.lconst 0, 1) := by decide +kernel
theorem dX7_orderParts_15 : decode cX7_orderParts 15 = .ok (.lstore 5, 2) := by decide +kernel
theorem dX7_orderParts_17 : decode cX7_orderParts 17 = .ok (.iconst 0, 1) := by decide +kernel
theorem dX7_orderParts_18 : decode cX7_orderParts 18 = .ok (.istore 7, 2) := by decide +kernel
theorem dX7_orderParts_20 : decode cX7_orderParts 20 = .ok (.iload 7, 2) := by decide +kernel
theorem dX7_orderParts_22 : decode cX7_orderParts 22 = .ok (.iload_n 3, 1) := by decide +kernel
theorem dX7_orderParts_23 : decode cX7_orderParts 23 = .ok (.if_icmp .gt 70, 3) := by decide +kernel
theorem dX7_orderParts_26 : decode cX7_orderParts 26 = .ok (.iload 7, 2) := by decide +kernel
theorem dX7_orderParts_28 : decode cX7_orderParts 28 = .ok (.iload_n 3, 1) := by decide +kernel
theorem dX7_orderParts_29 : decode cX7_orderParts 29 = .ok (.iconst (-1), 1) := by decide +kernel
theorem dX7_orderParts_30 : decode cX7_orderParts 30 = .ok (.ixor, 1) := by decide +kernel
theorem dX7_orderParts_31 : decode cX7_orderParts 31 = .ok (.iand, 1) := by decide +kernel
theorem dX7_orderParts_32 : decode cX7_orderParts 32 = .ok (.ifCond .ne 55, 3) := by decide +kernel
theorem dX7_orderParts_35 : decode cX7_orderParts 35 = .ok (.iload 7, 2) := by decide +kernel
theorem dX7_orderParts_37 : decode cX7_orderParts 37 = .ok (.invokestatic 65, 3) := by decide +kernel
theorem dX7_orderParts_40 : decode cX7_orderParts 40 = .ok (.istore 8, 2) := by decide +kernel
theorem dX7_orderParts_42 : decode cX7_orderParts 42 = .ok (.getstatic 98, 3) := by decide +kernel
theorem dX7_orderParts_45 : decode cX7_orderParts 45 = .ok (.iload 8, 2) := by decide +kernel
theorem dX7_orderParts_47 : decode cX7_orderParts 47 = .ok (.iaload, 1) := by decide +kernel
theorem dX7_orderParts_48 : decode cX7_orderParts 48 = .ok (.getstatic 98, 3) := by decide +kernel
theorem dX7_orderParts_51 : decode cX7_orderParts 51 = .ok (.iload 4, 2) := by decide +kernel
theorem dX7_orderParts_53 : decode cX7_orderParts 53 = .ok (.iload 8, 2) := by decide +kernel
theorem dX7_orderParts_55 : decode cX7_orderParts 55 = .ok (.isub, 1) := by decide +kernel
theorem dX7_orderParts_56 : decode cX7_orderParts 56 = .ok (.iaload, 1) := by decide +kernel
theorem dX7_orderParts_57 : decode cX7_orderParts 57 = .ok (.imul, 1) := by decide +kernel
theorem dX7_orderParts_58 : decode cX7_orderParts 58 = .ok (.i2l, 1) := by decide +kernel
theorem dX7_orderParts_59 : decode cX7_orderParts 59 = .ok (.lstore 9, 2) := by decide +kernel
theorem dX7_orderParts_61 : decode cX7_orderParts 61 = .ok (.lload 5, 2) := by decide +kernel
theorem dX7_orderParts_63 : decode cX7_orderParts 63 = .ok (.lload 9, 2) := by decide +kernel
theorem dX7_orderParts_65 : decode cX7_orderParts 65 = .ok (.aload_n 0, 1) := by decide +kernel
theorem dX7_orderParts_66 : decode cX7_orderParts 66 = .ok (.iload 7, 2) := by decide +kernel
theorem dX7_orderParts_68 : decode cX7_orderParts 68 = .ok (.iconst 1, 1) := by decide +kernel
theorem dX7_orderParts_69 : decode cX7_orderParts 69 = .ok (.iload_n 1, 1) := by decide +kernel
theorem dX7_orderParts_70 : decode cX7_orderParts 70 = .ok (.ishl, 1) := by decide +kernel
theorem dX7_orderParts_71 : decode cX7_orderParts 71 = .ok (.ior, 1) := by decide +kernel
theorem dX7_orderParts_72 : decode cX7_orderParts 72 = .ok (.invokevirtual 51, 3) := by decide +kernel
theorem dX7_orderParts_75 : decode cX7_orderParts 75 = .ok (.aload_n 0, 1) := by decide +kernel
theorem dX7_orderParts_76 : decode cX7_orderParts 76 = .ok (.iload 7, 2) := by decide +kernel
theorem dX7_orderParts_78 : decode cX7_orderParts 78 = .ok (.invokevirtual 51, 3) := by decide +kernel
theorem dX7_orderParts_81 : decode cX7_orderParts 81 = .ok (.isub, 1) := by decide +kernel
theorem dX7_orderParts_82 : decode cX7_orderParts 82 = .ok (.i2l, 1) := by decide +kernel
theorem dX7_orderParts_83 : decode cX7_orderParts 83 = .ok (.lmul, 1) := by decide +kernel
theorem dX7_orderParts_84 : decode cX7_orderParts 84 = .ok (.ladd, 1) := by decide +kernel
theorem dX7_orderParts_85 : decode cX7_orderParts 85 = .ok (.lstore 5, 2) := by decide +kernel
theorem dX7_orderParts_87 : decode cX7_orderParts 87 = .ok (.iinc 7 1, 3) := by decide +kernel
theorem dX7_orderParts_90 : decode cX7_orderParts 90 = .ok (.goto (-70), 3) := by decide +kernel
theorem dX7_orderParts_93 : decode cX7_orderParts 93 = .ok (.lload 5, 2) := by decide +kernel
theorem dX7_orderParts_95 : decode cX7_orderParts 95 = .ok (.sipush 720, 3) := by decide +kernel
theorem dX7_orderParts_98 : decode cX7_orderParts 98 = .ok (.getstatic 98, 3) := by decide +kernel
theorem dX7_orderParts_101 : decode cX7_orderParts 101 = .ok (.iload 4, 2) := by decide +kernel
theorem dX7_orderParts_103 : decode cX7_orderParts 103 = .ok (.iconst 1, 1) := by decide +kernel
theorem dX7_orderParts_104 : decode cX7_orderParts 104 = .ok (.iadd, 1) := by decide +kernel
theorem dX7_orderParts_105 : decode cX7_orderParts 105 = .ok (.iaload, 1) := by decide +kernel
theorem dX7_orderParts_106 : decode cX7_orderParts 106 = .ok (.idiv, 1) := by decide +kernel
theorem dX7_orderParts_107 : decode cX7_orderParts 107 = .ok (.i2l, 1) := by decide +kernel
theorem dX7_orderParts_108 : decode cX7_orderParts 108 = .ok (.lmul, 1) := by decide +kernel
theorem dX7_orderParts_109 : decode cX7_orderParts 109 = .ok (.lreturn, 1) := by decide +kernel
theorem dX7_weightsOf_0 : decode cX7_weightsOf 0 = .ok (.iload_n 1, 1) := by decide +kernel
theorem dX7_weightsOf_1 : decode cX7_weightsOf 1 = .ok (.invokestatic 65, 3) := by decide +kernel
theorem dX7_weightsOf_4 : decode cX7_weightsOf 4 = .ok (.istore_n 2, 1) := by decide +kernel
theorem dX7_weightsOf_5 : decode cX7_weightsOf 5 = .ok (.iconst 0, 1) := by decide +kernel
theorem dX7_weightsOf_6 : decode cX7_weightsOf 6 = .ok (.istore_n 3, 1) := by decide +kernel
theorem dX7_weightsOf_7 : decode cX7_weightsOf 7 = .ok (.iconst 0, 1) := by decide +kernel
theorem dX7_weightsOf_8 : decode cX7_weightsOf 8 = .ok (.istore 4, 2) := by decide +kernel
theorem dX7_weightsOf_10 : decode cX7_weightsOf 10 = .ok (.iload 4, 2) := by decide +kernel
theorem dX7_weightsOf_12 : decode cX7_weightsOf 12 = .ok (.aload_n 0, 1) := by decide +kernel
theorem dX7_weightsOf_13 : decode cX7_weightsOf 13 = .ok (.getfield 18, 3) := by decide +kernel
theorem dX7_weightsOf_16 : decode cX7_weightsOf 16 = .ok (.getfield 36, 3) := by decide +kernel
theorem dX7_weightsOf_19 : decode cX7_weightsOf 19 = .ok (.if_icmp .ge 33, 3) := by decide +kernel
theorem dX7_weightsOf_22 : decode cX7_weightsOf 22 = .ok (.iload 4, 2) := by decide +kernel
theorem dX7_weightsOf_24 : decode cX7_weightsOf 24 = .ok (.iload_n 1, 1) := by decide +kernel
theorem dX7_weightsOf_25 : decode cX7_weightsOf 25 = .ok (.invokestatic 101, 3) := by decide +kernel
theorem dX7_weightsOf_28 : decode cX7_weightsOf 28 = .ok (.ifCond .eq 18, 3) := by decide +kernel
theorem dX7_weightsOf_31 : decode cX7_weightsOf 31 = .ok (.iload_n 3, 1) := by decide +kernel
theorem dX7_weightsOf_32 : decode cX7_weightsOf 32 = .ok (.aload_n 0, 1) := by decide +kernel
theorem dX7_weightsOf_33 : decode cX7_weightsOf 33 = .ok (.getfield 15, 3) := by decide +kernel
theorem dX7_weightsOf_36 : decode cX7_weightsOf 36 = .ok (.iload_n 2, 1) := by decide +kernel
theorem dX7_weightsOf_37 : decode cX7_weightsOf 37 = .ok (.bipush 6, 2) := by decide +kernel
theorem dX7_weightsOf_39 : decode cX7_weightsOf 39 = .ok (.imul, 1) := by decide +kernel
theorem dX7_weightsOf_40 : decode cX7_weightsOf 40 = .ok (.iload 4, 2) := by decide +kernel
theorem dX7_weightsOf_42 : decode cX7_weightsOf 42 = .ok (.iadd, 1) := by decide +kernel
theorem dX7_weightsOf_43 : decode cX7_weightsOf 43 = .ok (.iaload, 1) := by decide +kernel
theorem dX7_weightsOf_44 : decode cX7_weightsOf 44 = .ok (.iadd, 1) := by decide +kernel
theorem dX7_weightsOf_45 : decode cX7_weightsOf 45 = .ok (.istore_n 3, 1) := by decide +kernel
theorem dX7_weightsOf_46 : decode cX7_weightsOf 46 = .ok (.iinc 4 1, 3) := by decide +kernel
theorem dX7_weightsOf_49 : decode cX7_weightsOf 49 = .ok (.goto (-39), 3) := by decide +kernel
theorem dX7_weightsOf_52 : decode cX7_weightsOf 52 = .ok (.iload_n 3, 1) := by decide +kernel
theorem dX7_weightsOf_53 : decode cX7_weightsOf 53 = .ok (.ireturn, 1) := by decide +kernel
theorem dX7_excess_0 : decode cX7_excess 0 = .ok (.aload_n 0, 1) := by decide +kernel
theorem dX7_excess_1 : decode cX7_excess 1 = .ok (.getfield 18, 3) := by decide +kernel
theorem dX7_excess_4 : decode cX7_excess 4 = .ok (.invokevirtual 105, 3) := by decide +kernel
theorem dX7_excess_7 : decode cX7_excess 7 = .ok (.istore_n 2, 1) := by decide +kernel
theorem dX7_excess_8 : decode cX7_excess 8 = .ok (.aload_n 0, 1) := by decide +kernel
theorem dX7_excess_9 : decode cX7_excess 9 = .ok (.iload_n 1, 1) := by decide +kernel
theorem dX7_excess_10 : decode cX7_excess 10 = .ok (.invokevirtual 51, 3) := by decide +kernel
theorem dX7_excess_13 : decode cX7_excess 13 = .ok (.ineg, 1) := by decide +kernel
theorem dX7_excess_14 : decode cX7_excess 14 = .ok (.i2l, 1) := by decide +kernel
theorem dX7_excess_15 : decode cX7_excess 15 = .ok (.aload_n 0, 1) := by decide +kernel
theorem dX7_excess_16 : decode cX7_excess 16 = .ok (.iload_n 2, 1) := by decide +kernel
theorem dX7_excess_17 : decode cX7_excess 17 = .ok (.invokevirtual 109, 3) := by decide +kernel
theorem dX7_excess_20 : decode cX7_excess 20 = .ok (.lmul, 1) := by decide +kernel
theorem dX7_excess_21 : decode cX7_excess 21 = .ok (.lstore_n 3, 1) := by decide +kernel
theorem dX7_excess_22 : decode cX7_excess 22 = .ok (.iconst 0, 1) := by decide +kernel
theorem dX7_excess_23 : decode cX7_excess 23 = .ok (.istore 5, 2) := by decide +kernel
theorem dX7_excess_25 : decode cX7_excess 25 = .ok (.iload 5, 2) := by decide +kernel
theorem dX7_excess_27 : decode cX7_excess 27 = .ok (.aload_n 0, 1) := by decide +kernel
theorem dX7_excess_28 : decode cX7_excess 28 = .ok (.getfield 18, 3) := by decide +kernel
theorem dX7_excess_31 : decode cX7_excess 31 = .ok (.getfield 36, 3) := by decide +kernel
theorem dX7_excess_34 : decode cX7_excess 34 = .ok (.if_icmp .ge 28, 3) := by decide +kernel
theorem dX7_excess_37 : decode cX7_excess 37 = .ok (.iload 5, 2) := by decide +kernel
theorem dX7_excess_39 : decode cX7_excess 39 = .ok (.iload_n 1, 1) := by decide +kernel
theorem dX7_excess_40 : decode cX7_excess 40 = .ok (.invokestatic 101, 3) := by decide +kernel
theorem dX7_excess_43 : decode cX7_excess 43 = .ok (.ifCond .eq 13, 3) := by decide +kernel
theorem dX7_excess_46 : decode cX7_excess 46 = .ok (.lload_n 3, 1) := by decide +kernel
theorem dX7_excess_47 : decode cX7_excess 47 = .ok (.aload_n 0, 1) := by decide +kernel
theorem dX7_excess_48 : decode cX7_excess 48 = .ok (.iload 5, 2) := by decide +kernel
theorem dX7_excess_50 : decode cX7_excess 50 = .ok (.iload_n 2, 1) := by decide +kernel
theorem dX7_excess_51 : decode cX7_excess 51 = .ok (.invokevirtual 113, 3) := by decide +kernel
theorem dX7_excess_54 : decode cX7_excess 54 = .ok (.ladd, 1) := by decide +kernel
theorem dX7_excess_55 : decode cX7_excess 55 = .ok (.lstore_n 3, 1) := by decide +kernel
theorem dX7_excess_56 : decode cX7_excess 56 = .ok (.iinc 5 1, 3) := by decide +kernel
theorem dX7_excess_59 : decode cX7_excess 59 = .ok (.goto (-34), 3) := by decide +kernel
theorem dX7_excess_62 : decode cX7_excess 62 = .ok (.lload_n 3, 1) := by decide +kernel
theorem dX7_excess_63 : decode cX7_excess 63 = .ok (.lreturn, 1) := by decide +kernel
theorem dX8_init_0 : decode cX8_init 0 = .ok (.aload_n 0, 1) := by decide +kernel
theorem dX8_init_1 : decode cX8_init 1 = .ok (.invokespecial 3, 3) := by decide +kernel
theorem dX8_init_4 : decode cX8_init 4 = .ok (.aload_n 0, 1) := by decide +kernel
theorem dX8_init_5 : decode cX8_init 5 = .ok (.bipush 10, 2) := by decide +kernel
theorem dX8_init_7 : decode cX8_init 7 = .ok (.newarray .int, 2) := by decide +kernel
theorem dX8_init_9 : decode cX8_init 9 = .ok (.putfield 11, 3) := by decide +kernel
theorem dX8_init_12 : decode cX8_init 12 = .ok (.aload_n 0, 1) := by decide +kernel
theorem dX8_init_13 : decode cX8_init 13 = .ok (.bipush 10, 2) := by decide +kernel
theorem dX8_init_15 : decode cX8_init 15 = .ok (.newarray .int, 2) := by decide +kernel
theorem dX8_init_17 : decode cX8_init 17 = .ok (.putfield 15, 3) := by decide +kernel
theorem dX8_init_20 : decode cX8_init 20 = .ok (.aload_n 0, 1) := by decide +kernel
theorem dX8_init_21 : decode cX8_init 21 = .ok (.bipush 10, 2) := by decide +kernel
theorem dX8_init_23 : decode cX8_init 23 = .ok (.newarray .int, 2) := by decide +kernel
theorem dX8_init_25 : decode cX8_init 25 = .ok (.putfield 18, 3) := by decide +kernel
theorem dX8_init_28 : decode cX8_init 28 = .ok (.aload_n 0, 1) := by decide +kernel
theorem dX8_init_29 : decode cX8_init 29 = .ok (.aload_n 1, 1) := by decide +kernel
theorem dX8_init_30 : decode cX8_init 30 = .ok (.putfield 21, 3) := by decide +kernel
theorem dX8_init_33 : decode cX8_init 33 = .ok (.aload_n 0, 1) := by decide +kernel
theorem dX8_init_34 : decode cX8_init 34 = .ok (.aload_n 2, 1) := by decide +kernel
theorem dX8_init_35 : decode cX8_init 35 = .ok (.putfield 25, 3) := by decide +kernel
theorem dX8_init_38 : decode cX8_init 38 = .ok (.return_, 1) := by decide +kernel
theorem dX8_append_0 : decode cX8_append 0 = .ok (.aload_n 0, 1) := by decide +kernel
theorem dX8_append_1 : decode cX8_append 1 = .ok (.getfield 29, 3) := by decide +kernel
theorem dX8_append_4 : decode cX8_append 4 = .ok (.bipush 10, 2) := by decide +kernel
theorem dX8_append_6 : decode cX8_append 6 = .ok (.if_icmp .lt 5, 3) := by decide +kernel
theorem dX8_append_9 : decode cX8_append 9 = .ok (.iconst 0, 1) := by decide +kernel
theorem dX8_append_10 : decode cX8_append 10 = .ok (.ireturn, 1) := by decide +kernel
theorem dX8_append_11 : decode cX8_append 11 = .ok (.aload_n 0, 1) := by decide +kernel
theorem dX8_append_12 : decode cX8_append 12 = .ok (.getfield 11, 3) := by decide +kernel
theorem dX8_append_15 : decode cX8_append 15 = .ok (.aload_n 0, 1) := by decide +kernel
theorem dX8_append_16 : decode cX8_append 16 = .ok (.getfield 29, 3) := by decide +kernel
theorem dX8_append_19 : decode cX8_append 19 = .ok (.iload_n 1, 1) := by decide +kernel
theorem dX8_append_20 : decode cX8_append 20 = .ok (.iastore, 1) := by decide +kernel
theorem dX8_append_21 : decode cX8_append 21 = .ok (.aload_n 0, 1) := by decide +kernel
theorem dX8_append_22 : decode cX8_append 22 = .ok (.getfield 15, 3) := by decide +kernel
theorem dX8_append_25 : decode cX8_append 25 = .ok (.aload_n 0, 1) := by decide +kernel
theorem dX8_append_26 : decode cX8_append 26 = .ok (.getfield 29, 3) := by decide +kernel
theorem dX8_append_29 : decode cX8_append 29 = .ok (.iload_n 2, 1) := by decide +kernel
theorem dX8_append_30 : decode cX8_append 30 = .ok (.iastore, 1) := by decide +kernel
theorem dX8_append_31 : decode cX8_append 31 = .ok (.aload_n 0, 1) := by decide +kernel
theorem dX8_append_32 : decode cX8_append 32 = .ok (.getfield 18, 3) := by decide +kernel
theorem dX8_append_35 : decode cX8_append 35 = .ok (.aload_n 0, 1) := by decide +kernel
theorem dX8_append_36 : decode cX8_append 36 = .ok (.getfield 29, 3) := by decide +kernel
theorem dX8_append_39 : decode cX8_append 39 = .ok (.iload_n 3, 1) := by decide +kernel
theorem dX8_append_40 : decode cX8_append 40 = .ok (.iastore, 1) := by decide +kernel
theorem dX8_append_41 : decode cX8_append 41 = .ok (.aload_n 0, 1) := by decide +kernel
theorem dX8_append_42 : decode cX8_append 42 = .ok (.dup, 1) := by decide +kernel
theorem dX8_append_43 : decode cX8_append 43 = .ok (.getfield 29, 3) := by decide +kernel
theorem dX8_append_46 : decode cX8_append 46 = .ok (.iconst 1, 1) := by decide +kernel
theorem dX8_append_47 : decode cX8_append 47 = .ok (.iadd, 1) := by decide +kernel
theorem dX8_append_48 : decode cX8_append 48 = .ok (.putfield 29, 3) := by decide +kernel
theorem dX8_append_51 : decode cX8_append 51 = .ok (.iconst 1, 1) := by decide +kernel
theorem dX8_append_52 : decode cX8_append 52 = .ok (.ireturn, 1) := by decide +kernel
theorem dX8_hold_0 : decode cX8_hold 0 = .ok (.aload_n 0, 1) := by decide +kernel
theorem dX8_hold_1 : decode cX8_hold 1 = .ok (.getfield 21, 3) := by decide +kernel
theorem dX8_hold_4 : decode cX8_hold 4 = .ok (.invokevirtual 33, 3) := by decide +kernel
theorem dX8_hold_7 : decode cX8_hold 7 = .ok (.istore_n 1, 1) := by decide +kernel
theorem dX8_hold_8 : decode cX8_hold 8 = .ok (.aload_n 0, 1) := by decide +kernel
theorem dX8_hold_9 : decode cX8_hold 9 = .ok (.getfield 25, 3) := by decide +kernel
theorem dX8_hold_12 : decode cX8_hold 12 = .ok (.iconst 0, 1) := by decide +kernel
theorem dX8_hold_13 : decode cX8_hold 13 = .ok (.aload_n 0, 1) := by decide +kernel
theorem dX8_hold_14 : decode cX8_hold 14 = .ok (.getfield 21, 3) := by decide +kernel
theorem dX8_hold_17 : decode cX8_hold 17 = .ok (.getfield 39, 3) := by decide +kernel
theorem dX8_hold_20 : decode cX8_hold 20 = .ok (.invokevirtual 41, 3) := by decide +kernel
theorem dX8_hold_23 : decode cX8_hold 23 = .ok (.iconst 0, 1) := by decide +kernel
theorem dX8_hold_24 : decode cX8_hold 24 = .ok (.istore_n 2, 1) := by decide +kernel
theorem dX8_hold_25 : decode cX8_hold 25 = .ok (.iload_n 2, 1) := by decide +kernel
theorem dX8_hold_26 : decode cX8_hold 26 = .ok (.aload_n 0, 1) := by decide +kernel
theorem dX8_hold_27 : decode cX8_hold 27 = .ok (.getfield 29, 3) := by decide +kernel
theorem dX8_hold_30 : decode cX8_hold 30 = .ok (.if_icmp .ge 55, 3) := by decide +kernel
theorem dX8_hold_33 : decode cX8_hold 33 = .ok (.aload_n 0, 1) := by decide +kernel
theorem dX8_hold_34 : decode cX8_hold 34 = .ok (.getfield 25, 3) := by decide +kernel
theorem dX8_hold_37 : decode cX8_hold 37 = .ok (.aload_n 0, 1) := by decide +kernel
theorem dX8_hold_38 : decode cX8_hold 38 = .ok (.getfield 11, 3) := by decide +kernel
theorem dX8_hold_41 : decode cX8_hold 41 = .ok (.iload_n 2, 1) := by decide +kernel
theorem dX8_hold_42 : decode cX8_hold 42 = .ok (.iaload, 1) := by decide +kernel
theorem dX8_hold_43 : decode cX8_hold 43 = .ok (.iload_n 1, 1) := by decide +kernel
theorem dX8_hold_44 : decode cX8_hold 44 = .ok (.invokevirtual 47, 3) := by decide +kernel
theorem dX8_hold_47 : decode cX8_hold 47 = .ok (.aload_n 0, 1) := by decide +kernel
theorem dX8_hold_48 : decode cX8_hold 48 = .ok (.getfield 18, 3) := by decide +kernel
theorem dX8_hold_51 : decode cX8_hold 51 = .ok (.iload_n 2, 1) := by decide +kernel
theorem dX8_hold_52 : decode cX8_hold 52 = .ok (.iaload, 1) := by decide +kernel
theorem dX8_hold_53 : decode cX8_hold 53 = .ok (.i2l, 1) := by decide +kernel
theorem dX8_hold_54 : decode cX8_hold 54 = .ok (.lmul, 1) := by decide +kernel
theorem dX8_hold_55 : decode cX8_hold 55 = .ok (.lstore_n 3, 1) := by decide +kernel
theorem dX8_hold_56 : decode cX8_hold 56 = .ok (.lload_n 3, 1) := by decide +kernel
theorem dX8_hold_57 : decode cX8_hold 57 = .ok (.aload_n 0, 1) := by decide +kernel
theorem dX8_hold_58 : decode cX8_hold 58 = .ok (.getfield 15, 3) := by decide +kernel
theorem dX8_hold_61 : decode cX8_hold 61 = .ok (.iload_n 2, 1) := by decide +kernel
theorem dX8_hold_62 : decode cX8_hold 62 = .ok (.iaload, 1) := by decide +kernel
theorem dX8_hold_63 : decode cX8_hold 63 = .ok (.i2l, 1) := by decide +kernel
theorem dX8_hold_64 : decode cX8_hold 64 = .ok (.aload_n 0, 1) := by decide +kernel
theorem dX8_hold_65 : decode cX8_hold 65 = .ok (.getfield 25, 3) := by decide +kernel
theorem dX8_hold_68 : decode cX8_hold 68 = .ok (.iload_n 1, 1) := by decide +kernel
theorem dX8_hold_69 : decode cX8_hold 69 = .ok (.invokevirtual 51, 3) := by decide +kernel
theorem dX8_hold_72 : decode cX8_hold 72 = .ok (.lmul, 1) := by decide +kernel
theorem dX8_hold_73 : decode cX8_hold 73 = .ok (.lcmp, 1) := by decide +kernel
theorem dX8_hold_74 : decode cX8_hold 74 = .ok (.ifCond .eq 5, 3) := by decide +kernel
theorem dX8_hold_77 : decode cX8_hold 77 = .ok (.iconst 0, 1) := by decide +kernel
theorem dX8_hold_78 : decode cX8_hold 78 = .ok (.ireturn, 1) := by decide +kernel
theorem dX8_hold_79 : decode cX8_hold 79 = .ok (.iinc 2 1, 3) := by decide +kernel
theorem dX8_hold_82 : decode cX8_hold 82 = .ok (.goto (-57), 3) := by decide +kernel
theorem dX8_hold_85 : decode cX8_hold 85 = .ok (.iconst 1, 1) := by decide +kernel
theorem dX8_hold_86 : decode cX8_hold 86 = .ok (.ireturn, 1) := by decide +kernel
theorem dX9_init_0 : decode cX9_init 0 = .ok (.aload_n 0, 1) := by decide +kernel
theorem dX9_init_1 : decode cX9_init 1 = .ok (.invokespecial 3, 3) := by decide +kernel
theorem dX9_init_4 : decode cX9_init 4 = .ok (.aload_n 0, 1) := by decide +kernel
theorem dX9_init_5 : decode cX9_init 5 = .ok (.aload_n 1, 1) := by decide +kernel
theorem dX9_init_6 : decode cX9_init 6 = .ok (.putfield 9, 3) := by decide +kernel
theorem dX9_init_9 : decode cX9_init 9 = .ok (.return_, 1) := by decide +kernel
theorem dX9_search_0 : decode cX9_search 0 = .ok (.aload_n 0, 1) := by decide +kernel
theorem dX9_search_1 : decode cX9_search 1 = .ok (.iload_n 2, 1) := by decide +kernel
theorem dX9_search_2 : decode cX9_search 2 = .ok (.putfield 15, 3) := by decide +kernel
theorem dX9_search_5 : decode cX9_search 5 = .ok (.aload_n 0, 1) := by decide +kernel
theorem dX9_search_6 : decode cX9_search 6 = .ok (.iconst (-1), 1) := by decide +kernel
theorem dX9_search_7 : decode cX9_search 7 = .ok (.putfield 19, 3) := by decide +kernel
theorem dX9_search_10 : decode cX9_search 10 = .ok (.aload_n 0, 1) := by decide +kernel
theorem dX9_search_11 : decode cX9_search 11 = .ok (.iconst (-1), 1) := by decide +kernel
theorem dX9_search_12 : decode cX9_search 12 = .ok (.putfield 22, 3) := by decide +kernel
theorem dX9_search_15 : decode cX9_search 15 = .ok (.aload_n 0, 1) := by decide +kernel
theorem dX9_search_16 : decode cX9_search 16 = .ok (.iconst 0, 1) := by decide +kernel
theorem dX9_search_17 : decode cX9_search 17 = .ok (.iload_n 1, 1) := by decide +kernel
theorem dX9_search_18 : decode cX9_search 18 = .ok (.iconst 0, 1) := by decide +kernel
theorem dX9_search_19 : decode cX9_search 19 = .ok (.iconst 0, 1) := by decide +kernel
theorem dX9_search_20 : decode cX9_search 20 = .ok (.iconst 0, 1) := by decide +kernel
theorem dX9_search_21 : decode cX9_search 21 = .ok (.iconst 0, 1) := by decide +kernel
theorem dX9_search_22 : decode cX9_search 22 = .ok (.invokevirtual 25, 3) := by decide +kernel
theorem dX9_search_25 : decode cX9_search 25 = .ok (.return_, 1) := by decide +kernel
theorem dX9_visit_0 : decode cX9_visit 0 = .ok (.iload_n 2, 1) := by decide +kernel
theorem dX9_visit_1 : decode cX9_visit 1 = .ok (.ifCond .eq 9, 3) := by decide +kernel
theorem dX9_visit_4 : decode cX9_visit 4 = .ok (.iload_n 1, 1) := by decide +kernel
theorem dX9_visit_5 : decode cX9_visit 5 = .ok (.bipush 6, 2) := by decide +kernel
theorem dX9_visit_7 : decode cX9_visit 7 = .ok (.if_icmp .lt 33, 3) := by decide +kernel
theorem dX9_visit_10 : decode cX9_visit 10 = .ok (.aload_n 0, 1) := by decide +kernel
theorem dX9_visit_11 : decode cX9_visit 11 = .ok (.getfield 19, 3) := by decide +kernel
theorem dX9_visit_14 : decode cX9_visit 14 = .ok (.iconst (-1), 1) := by decide +kernel
theorem dX9_visit_15 : decode cX9_visit 15 = .ok (.if_icmp .eq 12, 3) := by decide +kernel
theorem dX9_visit_18 : decode cX9_visit 18 = .ok (.iload 5, 2) := by decide +kernel
theorem dX9_visit_20 : decode cX9_visit 20 = .ok (.aload_n 0, 1) := by decide +kernel
theorem dX9_visit_21 : decode cX9_visit 21 = .ok (.getfield 22, 3) := by decide +kernel
theorem dX9_visit_24 : decode cX9_visit 24 = .ok (.if_icmp .ge 15, 3) := by decide +kernel
theorem dX9_visit_27 : decode cX9_visit 27 = .ok (.aload_n 0, 1) := by decide +kernel
theorem dX9_visit_28 : decode cX9_visit 28 = .ok (.iload 6, 2) := by decide +kernel
theorem dX9_visit_30 : decode cX9_visit 30 = .ok (.putfield 19, 3) := by decide +kernel
theorem dX9_visit_33 : decode cX9_visit 33 = .ok (.aload_n 0, 1) := by decide +kernel
theorem dX9_visit_34 : decode cX9_visit 34 = .ok (.iload 5, 2) := by decide +kernel
theorem dX9_visit_36 : decode cX9_visit 36 = .ok (.putfield 22, 3) := by decide +kernel
theorem dX9_visit_39 : decode cX9_visit 39 = .ok (.return_, 1) := by decide +kernel
theorem dX9_visit_40 : decode cX9_visit 40 = .ok (.iconst 0, 1) := by decide +kernel
theorem dX9_visit_41 : decode cX9_visit 41 = .ok (.istore 7, 2) := by decide +kernel
theorem dX9_visit_43 : decode cX9_visit 43 = .ok (.iload 7, 2) := by decide +kernel
theorem dX9_visit_45 : decode cX9_visit 45 = .ok (.aload_n 0, 1) := by decide +kernel
theorem dX9_visit_46 : decode cX9_visit 46 = .ok (.getfield 9, 3) := by decide +kernel
theorem dX9_visit_49 : decode cX9_visit 49 = .ok (.getfield 29, 3) := by decide +kernel
theorem dX9_visit_52 : decode cX9_visit 52 = .ok (.if_icmp .ge 86, 3) := by decide +kernel
theorem dX9_visit_55 : decode cX9_visit 55 = .ok (.iload 7, 2) := by decide +kernel
theorem dX9_visit_57 : decode cX9_visit 57 = .ok (.iload_n 2, 1) := by decide +kernel
theorem dX9_visit_58 : decode cX9_visit 58 = .ok (.invokestatic 34, 3) := by decide +kernel
theorem dX9_visit_61 : decode cX9_visit 61 = .ok (.ifCond .eq 71, 3) := by decide +kernel
theorem dX9_visit_64 : decode cX9_visit 64 = .ok (.aload_n 0, 1) := by decide +kernel
theorem dX9_visit_65 : decode cX9_visit 65 = .ok (.getfield 9, 3) := by decide +kernel
theorem dX9_visit_68 : decode cX9_visit 68 = .ok (.getfield 38, 3) := by decide +kernel
theorem dX9_visit_71 : decode cX9_visit 71 = .ok (.iload 7, 2) := by decide +kernel
theorem dX9_visit_73 : decode cX9_visit 73 = .ok (.iaload, 1) := by decide +kernel
theorem dX9_visit_74 : decode cX9_visit 74 = .ok (.istore 8, 2) := by decide +kernel
theorem dX9_visit_76 : decode cX9_visit 76 = .ok (.iload 4, 2) := by decide +kernel
theorem dX9_visit_78 : decode cX9_visit 78 = .ok (.aload_n 0, 1) := by decide +kernel
theorem dX9_visit_79 : decode cX9_visit 79 = .ok (.getfield 9, 3) := by decide +kernel
theorem dX9_visit_82 : decode cX9_visit 82 = .ok (.iload_n 3, 1) := by decide +kernel
theorem dX9_visit_83 : decode cX9_visit 83 = .ok (.iload 8, 2) := by decide +kernel
theorem dX9_visit_85 : decode cX9_visit 85 = .ok (.invokevirtual 42, 3) := by decide +kernel
theorem dX9_visit_88 : decode cX9_visit 88 = .ok (.iadd, 1) := by decide +kernel
theorem dX9_visit_89 : decode cX9_visit 89 = .ok (.istore 9, 2) := by decide +kernel
theorem dX9_visit_91 : decode cX9_visit 91 = .ok (.aload_n 0, 1) := by decide +kernel
theorem dX9_visit_92 : decode cX9_visit 92 = .ok (.iload 5, 2) := by decide +kernel
theorem dX9_visit_94 : decode cX9_visit 94 = .ok (.iload 9, 2) := by decide +kernel
theorem dX9_visit_96 : decode cX9_visit 96 = .ok (.iload 8, 2) := by decide +kernel
theorem dX9_visit_98 : decode cX9_visit 98 = .ok (.invokevirtual 46, 3) := by decide +kernel
theorem dX9_visit_101 : decode cX9_visit 101 = .ok (.istore 10, 2) := by decide +kernel
theorem dX9_visit_103 : decode cX9_visit 103 = .ok (.aload_n 0, 1) := by decide +kernel
theorem dX9_visit_104 : decode cX9_visit 104 = .ok (.iload_n 1, 1) := by decide +kernel
theorem dX9_visit_105 : decode cX9_visit 105 = .ok (.iconst 1, 1) := by decide +kernel
theorem dX9_visit_106 : decode cX9_visit 106 = .ok (.iadd, 1) := by decide +kernel
theorem dX9_visit_107 : decode cX9_visit 107 = .ok (.iload_n 2, 1) := by decide +kernel
theorem dX9_visit_108 : decode cX9_visit 108 = .ok (.iconst 1, 1) := by decide +kernel
theorem dX9_visit_109 : decode cX9_visit 109 = .ok (.iload 7, 2) := by decide +kernel
theorem dX9_visit_111 : decode cX9_visit 111 = .ok (.ishl, 1) := by decide +kernel
theorem dX9_visit_112 : decode cX9_visit 112 = .ok (.iconst (-1), 1) := by decide +kernel
theorem dX9_visit_113 : decode cX9_visit 113 = .ok (.ixor, 1) := by decide +kernel
theorem dX9_visit_114 : decode cX9_visit 114 = .ok (.iand, 1) := by decide +kernel
theorem dX9_visit_115 : decode cX9_visit 115 = .ok (.iload 8, 2) := by decide +kernel
theorem dX9_visit_117 : decode cX9_visit 117 = .ok (.iload 9, 2) := by decide +kernel
theorem dX9_visit_119 : decode cX9_visit 119 = .ok (.iload 10, 2) := by decide +kernel
theorem dX9_visit_121 : decode cX9_visit 121 = .ok (.iload 6, 2) := by decide +kernel
theorem dX9_visit_123 : decode cX9_visit 123 = .ok (.bipush 10, 2) := by decide +kernel
theorem dX9_visit_125 : decode cX9_visit 125 = .ok (.imul, 1) := by decide +kernel
theorem dX9_visit_126 : decode cX9_visit 126 = .ok (.iload 7, 2) := by decide +kernel
theorem dX9_visit_128 : decode cX9_visit 128 = .ok (.iadd, 1) := by decide +kernel
theorem dX9_visit_129 : decode cX9_visit 129 = .ok (.invokevirtual 25, 3) := by decide +kernel
theorem dX9_visit_132 : decode cX9_visit 132 = .ok (.iinc 7 1, 3) := by decide +kernel
theorem dX9_visit_135 : decode cX9_visit 135 = .ok (.goto (-92), 3) := by decide +kernel
theorem dX9_visit_138 : decode cX9_visit 138 = .ok (.return_, 1) := by decide +kernel
theorem dX9_grown_0 : decode cX9_grown 0 = .ok (.aload_n 0, 1) := by decide +kernel
theorem dX9_grown_1 : decode cX9_grown 1 = .ok (.getfield 15, 3) := by decide +kernel
theorem dX9_grown_4 : decode cX9_grown 4 = .ok (.ifCond .ne 5, 3) := by decide +kernel
theorem dX9_grown_7 : decode cX9_grown 7 = .ok (.iload_n 2, 1) := by decide +kernel
theorem dX9_grown_8 : decode cX9_grown 8 = .ok (.ireturn, 1) := by decide +kernel
theorem dX9_grown_9 : decode cX9_grown 9 = .ok (.aload_n 0, 1) := by decide +kernel
theorem dX9_grown_10 : decode cX9_grown 10 = .ok (.getfield 15, 3) := by decide +kernel
theorem dX9_grown_13 : decode cX9_grown 13 = .ok (.iconst 1, 1) := by decide +kernel
theorem dX9_grown_14 : decode cX9_grown 14 = .ok (.if_icmp .ne 9, 3) := by decide +kernel
theorem dX9_grown_17 : decode cX9_grown 17 = .ok (.iload_n 1, 1) := by decide +kernel
theorem dX9_grown_18 : decode cX9_grown 18 = .ok (.iload_n 2, 1) := by decide +kernel
theorem dX9_grown_19 : decode cX9_grown 19 = .ok (.iadd, 1) := by decide +kernel
theorem dX9_grown_20 : decode cX9_grown 20 = .ok (.goto 18, 3) := by decide +kernel
theorem dX9_grown_23 : decode cX9_grown 23 = .ok (.iload_n 1, 1) := by decide +kernel
theorem dX9_grown_24 : decode cX9_grown 24 = .ok (.iload_n 2, 1) := by decide +kernel
theorem dX9_grown_25 : decode cX9_grown 25 = .ok (.aload_n 0, 1) := by decide +kernel
theorem dX9_grown_26 : decode cX9_grown 26 = .ok (.getfield 9, 3) := by decide +kernel
theorem dX9_grown_29 : decode cX9_grown 29 = .ok (.iconst 0, 1) := by decide +kernel
theorem dX9_grown_30 : decode cX9_grown 30 = .ok (.iload_n 3, 1) := by decide +kernel
theorem dX9_grown_31 : decode cX9_grown 31 = .ok (.invokevirtual 42, 3) := by decide +kernel
theorem dX9_grown_34 : decode cX9_grown 34 = .ok (.isub, 1) := by decide +kernel
theorem dX9_grown_35 : decode cX9_grown 35 = .ok (.invokestatic 50, 3) := by decide +kernel
theorem dX9_grown_38 : decode cX9_grown 38 = .ok (.ireturn, 1) := by decide +kernel
theorem dX9_ridden_0 : decode cX9_ridden 0 = .ok (.iconst 1, 1) := by decide +kernel
theorem dX9_ridden_1 : decode cX9_ridden 1 = .ok (.istore 4, 2) := by decide +kernel
theorem dX9_ridden_3 : decode cX9_ridden 3 = .ok (.iconst 1, 1) := by decide +kernel
theorem dX9_ridden_4 : decode cX9_ridden 4 = .ok (.istore 5, 2) := by decide +kernel
theorem dX9_ridden_6 : decode cX9_ridden 6 = .ok (.iload 5, 2) := by decide +kernel
theorem dX9_ridden_8 : decode cX9_ridden 8 = .ok (.iload_n 1, 1) := by decide +kernel
theorem dX9_ridden_9 : decode cX9_ridden 9 = .ok (.invokestatic 55, 3) := by decide +kernel
theorem dX9_ridden_12 : decode cX9_ridden 12 = .ok (.if_icmp .ge 16, 3) := by decide +kernel
theorem dX9_ridden_15 : decode cX9_ridden 15 = .ok (.iload 4, 2) := by decide +kernel
theorem dX9_ridden_17 : decode cX9_ridden 17 = .ok (.bipush 10, 2) := by decide +kernel
theorem dX9_ridden_19 : decode cX9_ridden 19 = .ok (.imul, 1) := by decide +kernel
theorem dX9_ridden_20 : decode cX9_ridden 20 = .ok (.istore 4, 2) := by decide +kernel
theorem dX9_ridden_22 : decode cX9_ridden 22 = .ok (.iinc 5 1, 3) := by decide +kernel
theorem dX9_ridden_25 : decode cX9_ridden 25 = .ok (.goto (-19), 3) := by decide +kernel
theorem dX9_ridden_28 : decode cX9_ridden 28 = .ok (.iload_n 1, 1) := by decide +kernel
theorem dX9_ridden_29 : decode cX9_ridden 29 = .ok (.istore 5, 2) := by decide +kernel
theorem dX9_ridden_31 : decode cX9_ridden 31 = .ok (.iload_n 2, 1) := by decide +kernel
theorem dX9_ridden_32 : decode cX9_ridden 32 = .ok (.istore 6, 2) := by decide +kernel
theorem dX9_ridden_34 : decode cX9_ridden 34 = .ok (.iconst 0, 1) := by decide +kernel
theorem dX9_ridden_35 : decode cX9_ridden 35 = .ok (.istore 7, 2) := by decide +kernel
theorem dX9_ridden_37 : decode cX9_ridden 37 = .ok (.iconst 0, 1) := by decide +kernel
theorem dX9_ridden_38 : decode cX9_ridden 38 = .ok (.istore 8, 2) := by decide +kernel
theorem dX9_ridden_40 : decode cX9_ridden 40 = .ok (.iconst (-1), 1) := by decide +kernel
theorem dX9_ridden_41 : decode cX9_ridden 41 = .ok (.istore 9, 2) := by decide +kernel
theorem dX9_ridden_43 : decode cX9_ridden 43 = .ok (.iload 4, 2) := by decide +kernel
theorem dX9_ridden_45 : decode cX9_ridden 45 = .ok (.ifCond .le 121, 3) := by decide +kernel
theorem dX9_ridden_48 : decode cX9_ridden 48 = .ok (.iload 6, 2) := by decide +kernel
theorem dX9_ridden_50 : decode cX9_ridden 50 = .ok (.iload 4, 2) := by decide +kernel
theorem dX9_ridden_52 : decode cX9_ridden 52 = .ok (.idiv, 1) := by decide +kernel
theorem dX9_ridden_53 : decode cX9_ridden 53 = .ok (.istore 10, 2) := by decide +kernel
theorem dX9_ridden_55 : decode cX9_ridden 55 = .ok (.iload 10, 2) := by decide +kernel
theorem dX9_ridden_57 : decode cX9_ridden 57 = .ok (.ifCond .lt 25, 3) := by decide +kernel
theorem dX9_ridden_60 : decode cX9_ridden 60 = .ok (.iload 10, 2) := by decide +kernel
theorem dX9_ridden_62 : decode cX9_ridden 62 = .ok (.aload_n 0, 1) := by decide +kernel
theorem dX9_ridden_63 : decode cX9_ridden 63 = .ok (.getfield 9, 3) := by decide +kernel
theorem dX9_ridden_66 : decode cX9_ridden 66 = .ok (.getfield 29, 3) := by decide +kernel
theorem dX9_ridden_69 : decode cX9_ridden 69 = .ok (.if_icmp .ge 13, 3) := by decide +kernel
theorem dX9_ridden_72 : decode cX9_ridden 72 = .ok (.iload 10, 2) := by decide +kernel
theorem dX9_ridden_74 : decode cX9_ridden 74 = .ok (.iload 5, 2) := by decide +kernel
theorem dX9_ridden_76 : decode cX9_ridden 76 = .ok (.invokestatic 34, 3) := by decide +kernel
theorem dX9_ridden_79 : decode cX9_ridden 79 = .ok (.ifCond .ne 5, 3) := by decide +kernel
theorem dX9_ridden_82 : decode cX9_ridden 82 = .ok (.iconst (-1), 1) := by decide +kernel
theorem dX9_ridden_83 : decode cX9_ridden 83 = .ok (.ireturn, 1) := by decide +kernel
theorem dX9_ridden_84 : decode cX9_ridden 84 = .ok (.iload 8, 2) := by decide +kernel
theorem dX9_ridden_86 : decode cX9_ridden 86 = .ok (.aload_n 0, 1) := by decide +kernel
theorem dX9_ridden_87 : decode cX9_ridden 87 = .ok (.getfield 9, 3) := by decide +kernel
theorem dX9_ridden_90 : decode cX9_ridden 90 = .ok (.iload 7, 2) := by decide +kernel
theorem dX9_ridden_92 : decode cX9_ridden 92 = .ok (.aload_n 0, 1) := by decide +kernel
theorem dX9_ridden_93 : decode cX9_ridden 93 = .ok (.getfield 9, 3) := by decide +kernel
theorem dX9_ridden_96 : decode cX9_ridden 96 = .ok (.getfield 38, 3) := by decide +kernel
theorem dX9_ridden_99 : decode cX9_ridden 99 = .ok (.iload 10, 2) := by decide +kernel
theorem dX9_ridden_101 : decode cX9_ridden 101 = .ok (.iaload, 1) := by decide +kernel
theorem dX9_ridden_102 : decode cX9_ridden 102 = .ok (.invokevirtual 42, 3) := by decide +kernel
theorem dX9_ridden_105 : decode cX9_ridden 105 = .ok (.iadd, 1) := by decide +kernel
theorem dX9_ridden_106 : decode cX9_ridden 106 = .ok (.istore 8, 2) := by decide +kernel
theorem dX9_ridden_108 : decode cX9_ridden 108 = .ok (.iload 10, 2) := by decide +kernel
theorem dX9_ridden_110 : decode cX9_ridden 110 = .ok (.iload_n 3, 1) := by decide +kernel
theorem dX9_ridden_111 : decode cX9_ridden 111 = .ok (.if_icmp .ne 8, 3) := by decide +kernel
theorem dX9_ridden_114 : decode cX9_ridden 114 = .ok (.iload 8, 2) := by decide +kernel
theorem dX9_ridden_116 : decode cX9_ridden 116 = .ok (.goto 5, 3) := by decide +kernel
theorem dX9_ridden_119 : decode cX9_ridden 119 = .ok (.iload 9, 2) := by decide +kernel
theorem dX9_ridden_121 : decode cX9_ridden 121 = .ok (.istore 9, 2) := by decide +kernel
theorem dX9_ridden_123 : decode cX9_ridden 123 = .ok (.aload_n 0, 1) := by decide +kernel
theorem dX9_ridden_124 : decode cX9_ridden 124 = .ok (.getfield 9, 3) := by decide +kernel
theorem dX9_ridden_127 : decode cX9_ridden 127 = .ok (.getfield 38, 3) := by decide +kernel
theorem dX9_ridden_130 : decode cX9_ridden 130 = .ok (.iload 10, 2) := by decide +kernel
theorem dX9_ridden_132 : decode cX9_ridden 132 = .ok (.iaload, 1) := by decide +kernel
theorem dX9_ridden_133 : decode cX9_ridden 133 = .ok (.istore 7, 2) := by decide +kernel
theorem dX9_ridden_135 : decode cX9_ridden 135 = .ok (.iload 5, 2) := by decide +kernel
theorem dX9_ridden_137 : decode cX9_ridden 137 = .ok (.iconst 1, 1) := by decide +kernel
theorem dX9_ridden_138 : decode cX9_ridden 138 = .ok (.iload 10, 2) := by decide +kernel
theorem dX9_ridden_140 : decode cX9_ridden 140 = .ok (.ishl, 1) := by decide +kernel
theorem dX9_ridden_141 : decode cX9_ridden 141 = .ok (.iconst (-1), 1) := by decide +kernel
theorem dX9_ridden_142 : decode cX9_ridden 142 = .ok (.ixor, 1) := by decide +kernel
theorem dX9_ridden_143 : decode cX9_ridden 143 = .ok (.iand, 1) := by decide +kernel
theorem dX9_ridden_144 : decode cX9_ridden 144 = .ok (.istore 5, 2) := by decide +kernel
theorem dX9_ridden_146 : decode cX9_ridden 146 = .ok (.iload 6, 2) := by decide +kernel
theorem dX9_ridden_148 : decode cX9_ridden 148 = .ok (.iload 10, 2) := by decide +kernel
theorem dX9_ridden_150 : decode cX9_ridden 150 = .ok (.iload 4, 2) := by decide +kernel
theorem dX9_ridden_152 : decode cX9_ridden 152 = .ok (.imul, 1) := by decide +kernel
theorem dX9_ridden_153 : decode cX9_ridden 153 = .ok (.isub, 1) := by decide +kernel
theorem dX9_ridden_154 : decode cX9_ridden 154 = .ok (.istore 6, 2) := by decide +kernel
theorem dX9_ridden_156 : decode cX9_ridden 156 = .ok (.iload 4, 2) := by decide +kernel
theorem dX9_ridden_158 : decode cX9_ridden 158 = .ok (.bipush 10, 2) := by decide +kernel
theorem dX9_ridden_160 : decode cX9_ridden 160 = .ok (.idiv, 1) := by decide +kernel
theorem dX9_ridden_161 : decode cX9_ridden 161 = .ok (.istore 4, 2) := by decide +kernel
theorem dX9_ridden_163 : decode cX9_ridden 163 = .ok (.goto (-120), 3) := by decide +kernel
theorem dX9_ridden_166 : decode cX9_ridden 166 = .ok (.iload 9, 2) := by decide +kernel
theorem dX9_ridden_168 : decode cX9_ridden 168 = .ok (.ireturn, 1) := by decide +kernel
theorem dX10_init_0 : decode cX10_init 0 = .ok (.aload_n 0, 1) := by decide +kernel
theorem dX10_init_1 : decode cX10_init 1 = .ok (.invokespecial 3, 3) := by decide +kernel
theorem dX10_init_4 : decode cX10_init 4 = .ok (.aload_n 0, 1) := by decide +kernel
theorem dX10_init_5 : decode cX10_init 5 = .ok (.sipush 160, 3) := by decide +kernel
theorem dX10_init_8 : decode cX10_init 8 = .ok (.newarray .byte, 2) := by decide +kernel
theorem dX10_init_10 : decode cX10_init 10 = .ok (.putfield 11, 3) := by decide +kernel
theorem dX10_init_13 : decode cX10_init 13 = .ok (.return_, 1) := by decide +kernel
theorem dX10_signsOf_0 : decode cX10_signsOf 0 = .ok (.iconst 0, 1) := by decide +kernel
theorem dX10_signsOf_1 : decode cX10_signsOf 1 = .ok (.istore_n 1, 1) := by decide +kernel
theorem dX10_signsOf_2 : decode cX10_signsOf 2 = .ok (.bipush 24, 2) := by decide +kernel
theorem dX10_signsOf_4 : decode cX10_signsOf 4 = .ok (.istore_n 2, 1) := by decide +kernel
theorem dX10_signsOf_5 : decode cX10_signsOf 5 = .ok (.iload_n 2, 1) := by decide +kernel
theorem dX10_signsOf_6 : decode cX10_signsOf 6 = .ok (.ifCond .lt 22, 3) := by decide +kernel
theorem dX10_signsOf_9 : decode cX10_signsOf 9 = .ok (.iload_n 0, 1) := by decide +kernel
theorem dX10_signsOf_10 : decode cX10_signsOf 10 = .ok (.iload_n 2, 1) := by decide +kernel
theorem dX10_signsOf_11 : decode cX10_signsOf 11 = .ok (.iushr, 1) := by decide +kernel
theorem dX10_signsOf_12 : decode cX10_signsOf 12 = .ok (.sipush 255, 3) := by decide +kernel
theorem dX10_signsOf_15 : decode cX10_signsOf 15 = .ok (.iand, 1) := by decide +kernel
theorem dX10_signsOf_16 : decode cX10_signsOf 16 = .ok (.ifCond .eq 6, 3) := by decide +kernel
theorem dX10_signsOf_19 : decode cX10_signsOf 19 = .ok (.iinc 1 1, 3) := by decide +kernel
theorem dX10_signsOf_22 : decode cX10_signsOf 22 = .ok (.iinc 2 (-8), 3) := by decide +kernel
theorem dX10_signsOf_25 : decode cX10_signsOf 25 = .ok (.goto (-20), 3) := by decide +kernel
theorem dX10_signsOf_28 : decode cX10_signsOf 28 = .ok (.iload_n 1, 1) := by decide +kernel
theorem dX10_signsOf_29 : decode cX10_signsOf 29 = .ok (.ireturn, 1) := by decide +kernel
theorem dX10_append_0 : decode cX10_append 0 = .ok (.bipush 24, 2) := by decide +kernel
theorem dX10_append_2 : decode cX10_append 2 = .ok (.istore_n 2, 1) := by decide +kernel
theorem dX10_append_3 : decode cX10_append 3 = .ok (.iload_n 2, 1) := by decide +kernel
theorem dX10_append_4 : decode cX10_append 4 = .ok (.ifCond .lt 52, 3) := by decide +kernel
theorem dX10_append_7 : decode cX10_append 7 = .ok (.iload_n 1, 1) := by decide +kernel
theorem dX10_append_8 : decode cX10_append 8 = .ok (.iload_n 2, 1) := by decide +kernel
theorem dX10_append_9 : decode cX10_append 9 = .ok (.iushr, 1) := by decide +kernel
theorem dX10_append_10 : decode cX10_append 10 = .ok (.sipush 255, 3) := by decide +kernel
theorem dX10_append_13 : decode cX10_append 13 = .ok (.iand, 1) := by decide +kernel
theorem dX10_append_14 : decode cX10_append 14 = .ok (.istore_n 3, 1) := by decide +kernel
theorem dX10_append_15 : decode cX10_append 15 = .ok (.iload_n 3, 1) := by decide +kernel
theorem dX10_append_16 : decode cX10_append 16 = .ok (.ifCond .eq 34, 3) := by decide +kernel
theorem dX10_append_19 : decode cX10_append 19 = .ok (.aload_n 0, 1) := by decide +kernel
theorem dX10_append_20 : decode cX10_append 20 = .ok (.getfield 15, 3) := by decide +kernel
theorem dX10_append_23 : decode cX10_append 23 = .ok (.sipush 160, 3) := by decide +kernel
theorem dX10_append_26 : decode cX10_append 26 = .ok (.if_icmp .ge 24, 3) := by decide +kernel
theorem dX10_append_29 : decode cX10_append 29 = .ok (.aload_n 0, 1) := by decide +kernel
theorem dX10_append_30 : decode cX10_append 30 = .ok (.getfield 11, 3) := by decide +kernel
theorem dX10_append_33 : decode cX10_append 33 = .ok (.aload_n 0, 1) := by decide +kernel
theorem dX10_append_34 : decode cX10_append 34 = .ok (.getfield 15, 3) := by decide +kernel
theorem dX10_append_37 : decode cX10_append 37 = .ok (.iload_n 3, 1) := by decide +kernel
theorem dX10_append_38 : decode cX10_append 38 = .ok (.i2b, 1) := by decide +kernel
theorem dX10_append_39 : decode cX10_append 39 = .ok (.bastore, 1) := by decide +kernel
theorem dX10_append_40 : decode cX10_append 40 = .ok (.aload_n 0, 1) := by decide +kernel
theorem dX10_append_41 : decode cX10_append 41 = .ok (.dup, 1) := by decide +kernel
theorem dX10_append_42 : decode cX10_append 42 = .ok (.getfield 15, 3) := by decide +kernel
theorem dX10_append_45 : decode cX10_append 45 = .ok (.iconst 1, 1) := by decide +kernel
theorem dX10_append_46 : decode cX10_append 46 = .ok (.iadd, 1) := by decide +kernel
theorem dX10_append_47 : decode cX10_append 47 = .ok (.putfield 15, 3) := by decide +kernel
theorem dX10_append_50 : decode cX10_append 50 = .ok (.iinc 2 (-8), 3) := by decide +kernel
theorem dX10_append_53 : decode cX10_append 53 = .ok (.goto (-50), 3) := by decide +kernel
theorem dX10_append_56 : decode cX10_append 56 = .ok (.return_, 1) := by decide +kernel
theorem dX10_begin_0 : decode cX10_begin 0 = .ok (.aload_n 0, 1) := by decide +kernel
theorem dX10_begin_1 : decode cX10_begin 1 = .ok (.iconst 0, 1) := by decide +kernel
theorem dX10_begin_2 : decode cX10_begin 2 = .ok (.putfield 19, 3) := by decide +kernel
theorem dX10_begin_5 : decode cX10_begin 5 = .ok (.aload_n 0, 1) := by decide +kernel
theorem dX10_begin_6 : decode cX10_begin 6 = .ok (.iconst (-1), 1) := by decide +kernel
theorem dX10_begin_7 : decode cX10_begin 7 = .ok (.putfield 22, 3) := by decide +kernel
theorem dX10_begin_10 : decode cX10_begin 10 = .ok (.return_, 1) := by decide +kernel
theorem dX10_fail_0 : decode cX10_fail 0 = .ok (.aload_n 0, 1) := by decide +kernel
theorem dX10_fail_1 : decode cX10_fail 1 = .ok (.getfield 22, 3) := by decide +kernel
theorem dX10_fail_4 : decode cX10_fail 4 = .ok (.iconst (-1), 1) := by decide +kernel
theorem dX10_fail_5 : decode cX10_fail 5 = .ok (.if_icmp .ne 8, 3) := by decide +kernel
theorem dX10_fail_8 : decode cX10_fail 8 = .ok (.aload_n 0, 1) := by decide +kernel
theorem dX10_fail_9 : decode cX10_fail 9 = .ok (.iload_n 1, 1) := by decide +kernel
theorem dX10_fail_10 : decode cX10_fail 10 = .ok (.putfield 22, 3) := by decide +kernel
theorem dX10_fail_13 : decode cX10_fail 13 = .ok (.return_, 1) := by decide +kernel
theorem dX10_sign_0 : decode cX10_sign 0 = .ok (.aload_n 0, 1) := by decide +kernel
theorem dX10_sign_1 : decode cX10_sign 1 = .ok (.getfield 22, 3) := by decide +kernel
theorem dX10_sign_4 : decode cX10_sign 4 = .ok (.iconst (-1), 1) := by decide +kernel
theorem dX10_sign_5 : decode cX10_sign 5 = .ok (.if_icmp .eq 5, 3) := by decide +kernel
theorem dX10_sign_8 : decode cX10_sign 8 = .ok (.iconst (-1), 1) := by decide +kernel
theorem dX10_sign_9 : decode cX10_sign 9 = .ok (.ireturn, 1) := by decide +kernel
theorem dX10_sign_10 : decode cX10_sign 10 = .ok (.aload_n 0, 1) := by decide +kernel
theorem dX10_sign_11 : decode cX10_sign 11 = .ok (.getfield 19, 3) := by decide +kernel
theorem dX10_sign_14 : decode cX10_sign 14 = .ok (.aload_n 0, 1) := by decide +kernel
theorem dX10_sign_15 : decode cX10_sign 15 = .ok (.getfield 15, 3) := by decide +kernel
theorem dX10_sign_18 : decode cX10_sign 18 = .ok (.if_icmp .ge 30, 3) := by decide +kernel
theorem dX10_sign_21 : decode cX10_sign 21 = .ok (.aload_n 0, 1) := by decide +kernel
theorem dX10_sign_22 : decode cX10_sign 22 = .ok (.getfield 11, 3) := by decide +kernel
theorem dX10_sign_25 : decode cX10_sign 25 = .ok (.aload_n 0, 1) := by decide +kernel
theorem dX10_sign_26 : decode cX10_sign 26 = .ok (.getfield 19, 3) := by decide +kernel
theorem dX10_sign_29 : decode cX10_sign 29 = .ok (.baload, 1) := by decide +kernel
theorem dX10_sign_30 : decode cX10_sign 30 = .ok (.bipush 32, 2) := by decide +kernel
theorem dX10_sign_32 : decode cX10_sign 32 = .ok (.if_icmp .ne 16, 3) := by decide +kernel
theorem dX10_sign_35 : decode cX10_sign 35 = .ok (.aload_n 0, 1) := by decide +kernel
theorem dX10_sign_36 : decode cX10_sign 36 = .ok (.dup, 1) := by decide +kernel
theorem dX10_sign_37 : decode cX10_sign 37 = .ok (.getfield 19, 3) := by decide +kernel
theorem dX10_sign_40 : decode cX10_sign 40 = .ok (.iconst 1, 1) := by decide +kernel
theorem dX10_sign_41 : decode cX10_sign 41 = .ok (.iadd, 1) := by decide +kernel
theorem dX10_sign_42 : decode cX10_sign 42 = .ok (.putfield 19, 3) := by decide +kernel
theorem dX10_sign_45 : decode cX10_sign 45 = .ok (.goto (-35), 3) := by decide +kernel
theorem dX10_sign_48 : decode cX10_sign 48 = .ok (.aload_n 0, 1) := by decide +kernel
theorem dX10_sign_49 : decode cX10_sign 49 = .ok (.getfield 19, 3) := by decide +kernel
theorem dX10_sign_52 : decode cX10_sign 52 = .ok (.aload_n 0, 1) := by decide +kernel
theorem dX10_sign_53 : decode cX10_sign 53 = .ok (.getfield 15, 3) := by decide +kernel
theorem dX10_sign_56 : decode cX10_sign 56 = .ok (.if_icmp .ge 19, 3) := by decide +kernel
theorem dX10_sign_59 : decode cX10_sign 59 = .ok (.aload_n 0, 1) := by decide +kernel
theorem dX10_sign_60 : decode cX10_sign 60 = .ok (.getfield 11, 3) := by decide +kernel
theorem dX10_sign_63 : decode cX10_sign 63 = .ok (.aload_n 0, 1) := by decide +kernel
theorem dX10_sign_64 : decode cX10_sign 64 = .ok (.getfield 19, 3) := by decide +kernel
theorem dX10_sign_67 : decode cX10_sign 67 = .ok (.baload, 1) := by decide +kernel
theorem dX10_sign_68 : decode cX10_sign 68 = .ok (.sipush 255, 3) := by decide +kernel
theorem dX10_sign_71 : decode cX10_sign 71 = .ok (.iand, 1) := by decide +kernel
theorem dX10_sign_72 : decode cX10_sign 72 = .ok (.goto 4, 3) := by decide +kernel
theorem dX10_sign_75 : decode cX10_sign 75 = .ok (.iconst (-1), 1) := by decide +kernel
theorem dX10_sign_76 : decode cX10_sign 76 = .ok (.ireturn, 1) := by decide +kernel
theorem dX10_takes_0 : decode cX10_takes 0 = .ok (.aload_n 0, 1) := by decide +kernel
theorem dX10_takes_1 : decode cX10_takes 1 = .ok (.invokevirtual 25, 3) := by decide +kernel
theorem dX10_takes_4 : decode cX10_takes 4 = .ok (.iload_n 1, 1) := by decide +kernel
theorem dX10_takes_5 : decode cX10_takes 5 = .ok (.if_icmp .eq 5, 3) := by decide +kernel
theorem dX10_takes_8 : decode cX10_takes 8 = .ok (.iconst 0, 1) := by decide +kernel
theorem dX10_takes_9 : decode cX10_takes 9 = .ok (.ireturn, 1) := by decide +kernel
theorem dX10_takes_10 : decode cX10_takes 10 = .ok (.aload_n 0, 1) := by decide +kernel
theorem dX10_takes_11 : decode cX10_takes 11 = .ok (.dup, 1) := by decide +kernel
theorem dX10_takes_12 : decode cX10_takes 12 = .ok (.getfield 19, 3) := by decide +kernel
theorem dX10_takes_15 : decode cX10_takes 15 = .ok (.iconst 1, 1) := by decide +kernel
theorem dX10_takes_16 : decode cX10_takes 16 = .ok (.iadd, 1) := by decide +kernel
theorem dX10_takes_17 : decode cX10_takes 17 = .ok (.putfield 19, 3) := by decide +kernel
theorem dX10_takes_20 : decode cX10_takes 20 = .ok (.iconst 1, 1) := by decide +kernel
theorem dX10_takes_21 : decode cX10_takes 21 = .ok (.ireturn, 1) := by decide +kernel
theorem dX10_expect_0 : decode cX10_expect 0 = .ok (.aload_n 0, 1) := by decide +kernel
theorem dX10_expect_1 : decode cX10_expect 1 = .ok (.invokevirtual 25, 3) := by decide +kernel
theorem dX10_expect_4 : decode cX10_expect 4 = .ok (.iload_n 1, 1) := by decide +kernel
theorem dX10_expect_5 : decode cX10_expect 5 = .ok (.if_icmp .ne 16, 3) := by decide +kernel
theorem dX10_expect_8 : decode cX10_expect 8 = .ok (.aload_n 0, 1) := by decide +kernel
theorem dX10_expect_9 : decode cX10_expect 9 = .ok (.dup, 1) := by decide +kernel
theorem dX10_expect_10 : decode cX10_expect 10 = .ok (.getfield 19, 3) := by decide +kernel
theorem dX10_expect_13 : decode cX10_expect 13 = .ok (.iconst 1, 1) := by decide +kernel
theorem dX10_expect_14 : decode cX10_expect 14 = .ok (.iadd, 1) := by decide +kernel
theorem dX10_expect_15 : decode cX10_expect 15 = .ok (.putfield 19, 3) := by decide +kernel
theorem dX10_expect_18 : decode cX10_expect 18 = .ok (.goto 11, 3) := by decide +kernel
theorem dX10_expect_21 : decode cX10_expect 21 = .ok (.aload_n 0, 1) := by decide +kernel
theorem dX10_expect_22 : decode cX10_expect 22 = .ok (.aload_n 0, 1) := by decide +kernel
theorem dX10_expect_23 : decode cX10_expect 23 = .ok (.getfield 19, 3) := by decide +kernel
theorem dX10_expect_26 : decode cX10_expect 26 = .ok (.invokevirtual 29, 3) := by decide +kernel
theorem dX10_expect_29 : decode cX10_expect 29 = .ok (.return_, 1) := by decide +kernel
theorem dX10_isDigitHere_0 : decode cX10_isDigitHere 0 = .ok (.aload_n 0, 1) := by decide +kernel
theorem dX10_isDigitHere_1 : decode cX10_isDigitHere 1 = .ok (.getfield 19, 3) := by decide +kernel
theorem dX10_isDigitHere_4 : decode cX10_isDigitHere 4 = .ok (.aload_n 0, 1) := by decide +kernel
theorem dX10_isDigitHere_5 : decode cX10_isDigitHere 5 = .ok (.getfield 15, 3) := by decide +kernel
theorem dX10_isDigitHere_8 : decode cX10_isDigitHere 8 = .ok (.if_icmp .ge 35, 3) := by decide +kernel
theorem dX10_isDigitHere_11 : decode cX10_isDigitHere 11 = .ok (.aload_n 0, 1) := by decide +kernel
theorem dX10_isDigitHere_12 : decode cX10_isDigitHere 12 = .ok (.getfield 11, 3) := by decide +kernel
theorem dX10_isDigitHere_15 : decode cX10_isDigitHere 15 = .ok (.aload_n 0, 1) := by decide +kernel
theorem dX10_isDigitHere_16 : decode cX10_isDigitHere 16 = .ok (.getfield 19, 3) := by decide +kernel
theorem dX10_isDigitHere_19 : decode cX10_isDigitHere 19 = .ok (.baload, 1) := by decide +kernel
theorem dX10_isDigitHere_20 : decode cX10_isDigitHere 20 = .ok (.bipush 48, 2) := by decide +kernel
theorem dX10_isDigitHere_22 : decode cX10_isDigitHere 22 = .ok (.if_icmp .lt 21, 3) := by decide +kernel
theorem dX10_isDigitHere_25 : decode cX10_isDigitHere 25 = .ok (.aload_n 0, 1) := by decide +kernel
theorem dX10_isDigitHere_26 : decode cX10_isDigitHere 26 = .ok (.getfield 11, 3) := by decide +kernel
theorem dX10_isDigitHere_29 : decode cX10_isDigitHere 29 = .ok (.aload_n 0, 1) := by decide +kernel
theorem dX10_isDigitHere_30 : decode cX10_isDigitHere 30 = .ok (.getfield 19, 3) := by decide +kernel
theorem dX10_isDigitHere_33 : decode cX10_isDigitHere 33 = .ok (.baload, 1) := by decide +kernel
theorem dX10_isDigitHere_34 : decode cX10_isDigitHere 34 = .ok (.bipush 57, 2) := by decide +kernel
theorem dX10_isDigitHere_36 : decode cX10_isDigitHere 36 = .ok (.if_icmp .gt 7, 3) := by decide +kernel
theorem dX10_isDigitHere_39 : decode cX10_isDigitHere 39 = .ok (.iconst 1, 1) := by decide +kernel
theorem dX10_isDigitHere_40 : decode cX10_isDigitHere 40 = .ok (.goto 4, 3) := by decide +kernel
theorem dX10_isDigitHere_43 : decode cX10_isDigitHere 43 = .ok (.iconst 0, 1) := by decide +kernel
theorem dX10_isDigitHere_44 : decode cX10_isDigitHere 44 = .ok (.ireturn, 1) := by decide +kernel
theorem dX10_number_0 : decode cX10_number 0 = .ok (.aload_n 0, 1) := by decide +kernel
theorem dX10_number_1 : decode cX10_number 1 = .ok (.invokevirtual 25, 3) := by decide +kernel
theorem dX10_number_4 : decode cX10_number 4 = .ok (.pop, 1) := by decide +kernel
theorem dX10_number_5 : decode cX10_number 5 = .ok (.iconst 0, 1) := by decide +kernel
theorem dX10_number_6 : decode cX10_number 6 = .ok (.istore_n 2, 1) := by decide +kernel
theorem dX10_number_7 : decode cX10_number 7 = .ok (.iconst 0, 1) := by decide +kernel
theorem dX10_number_8 : decode cX10_number 8 = .ok (.istore_n 3, 1) := by decide +kernel
theorem dX10_number_9 : decode cX10_number 9 = .ok (.iload_n 3, 1) := by decide +kernel
theorem dX10_number_10 : decode cX10_number 10 = .ok (.iload_n 1, 1) := by decide +kernel
theorem dX10_number_11 : decode cX10_number 11 = .ok (.if_icmp .ge 44, 3) := by decide +kernel
theorem dX10_number_14 : decode cX10_number 14 = .ok (.aload_n 0, 1) := by decide +kernel
theorem dX10_number_15 : decode cX10_number 15 = .ok (.invokevirtual 33, 3) := by decide +kernel
theorem dX10_number_18 : decode cX10_number 18 = .ok (.ifCond .eq 37, 3) := by decide +kernel
theorem dX10_number_21 : decode cX10_number 21 = .ok (.iload_n 2, 1) := by decide +kernel
theorem dX10_number_22 : decode cX10_number 22 = .ok (.bipush 10, 2) := by decide +kernel
theorem dX10_number_24 : decode cX10_number 24 = .ok (.imul, 1) := by decide +kernel
theorem dX10_number_25 : decode cX10_number 25 = .ok (.aload_n 0, 1) := by decide +kernel
theorem dX10_number_26 : decode cX10_number 26 = .ok (.getfield 11, 3) := by decide +kernel
theorem dX10_number_29 : decode cX10_number 29 = .ok (.aload_n 0, 1) := by decide +kernel
theorem dX10_number_30 : decode cX10_number 30 = .ok (.getfield 19, 3) := by decide +kernel
theorem dX10_number_33 : decode cX10_number 33 = .ok (.baload, 1) := by decide +kernel
theorem dX10_number_34 : decode cX10_number 34 = .ok (.iadd, 1) := by decide +kernel
theorem dX10_number_35 : decode cX10_number 35 = .ok (.bipush 48, 2) := by decide +kernel
theorem dX10_number_37 : decode cX10_number 37 = .ok (.isub, 1) := by decide +kernel
theorem dX10_number_38 : decode cX10_number 38 = .ok (.istore_n 2, 1) := by decide +kernel
theorem dX10_number_39 : decode cX10_number 39 = .ok (.iinc 3 1, 3) := by decide +kernel
theorem dX10_number_42 : decode cX10_number 42 = .ok (.aload_n 0, 1) := by decide +kernel
theorem dX10_number_43 : decode cX10_number 43 = .ok (.dup, 1) := by decide +kernel
theorem dX10_number_44 : decode cX10_number 44 = .ok (.getfield 19, 3) := by decide +kernel
theorem dX10_number_47 : decode cX10_number 47 = .ok (.iconst 1, 1) := by decide +kernel
theorem dX10_number_48 : decode cX10_number 48 = .ok (.iadd, 1) := by decide +kernel
theorem dX10_number_49 : decode cX10_number 49 = .ok (.putfield 19, 3) := by decide +kernel
theorem dX10_number_52 : decode cX10_number 52 = .ok (.goto (-43), 3) := by decide +kernel
theorem dX10_number_55 : decode cX10_number 55 = .ok (.iload_n 3, 1) := by decide +kernel
theorem dX10_number_56 : decode cX10_number 56 = .ok (.ifCond .eq 10, 3) := by decide +kernel
theorem dX10_number_59 : decode cX10_number 59 = .ok (.aload_n 0, 1) := by decide +kernel
theorem dX10_number_60 : decode cX10_number 60 = .ok (.invokevirtual 33, 3) := by decide +kernel
theorem dX10_number_63 : decode cX10_number 63 = .ok (.ifCond .eq 11, 3) := by decide +kernel
theorem dX10_number_66 : decode cX10_number 66 = .ok (.aload_n 0, 1) := by decide +kernel
theorem dX10_number_67 : decode cX10_number 67 = .ok (.aload_n 0, 1) := by decide +kernel
theorem dX10_number_68 : decode cX10_number 68 = .ok (.getfield 19, 3) := by decide +kernel
theorem dX10_number_71 : decode cX10_number 71 = .ok (.invokevirtual 29, 3) := by decide +kernel
theorem dX10_number_74 : decode cX10_number 74 = .ok (.iload_n 2, 1) := by decide +kernel
theorem dX10_number_75 : decode cX10_number 75 = .ok (.ireturn, 1) := by decide +kernel
theorem dX11_init_0 : decode cX11_init 0 = .ok (.aload_n 0, 1) := by decide +kernel
theorem dX11_init_1 : decode cX11_init 1 = .ok (.invokespecial 1, 3) := by decide +kernel
theorem dX11_init_4 : decode cX11_init 4 = .ok (.aload_n 0, 1) := by decide +kernel
theorem dX11_init_5 : decode cX11_init 5 = .ok (.new 7, 3) := by decide +kernel
theorem dX11_init_8 : decode cX11_init 8 = .ok (.dup, 1) := by decide +kernel
theorem dX11_init_9 : decode cX11_init 9 = .ok (.invokespecial 9, 3) := by decide +kernel
theorem dX11_init_12 : decode cX11_init 12 = .ok (.putfield 10, 3) := by decide +kernel
theorem dX11_init_15 : decode cX11_init 15 = .ok (.aload_n 0, 1) := by decide +kernel
theorem dX11_init_16 : decode cX11_init 16 = .ok (.new 16, 3) := by decide +kernel
theorem dX11_init_19 : decode cX11_init 19 = .ok (.dup, 1) := by decide +kernel
theorem dX11_init_20 : decode cX11_init 20 = .ok (.invokespecial 18, 3) := by decide +kernel
theorem dX11_init_23 : decode cX11_init 23 = .ok (.putfield 19, 3) := by decide +kernel
theorem dX11_init_26 : decode cX11_init 26 = .ok (.aload_n 0, 1) := by decide +kernel
theorem dX11_init_27 : decode cX11_init 27 = .ok (.new 16, 3) := by decide +kernel
theorem dX11_init_30 : decode cX11_init 30 = .ok (.dup, 1) := by decide +kernel
theorem dX11_init_31 : decode cX11_init 31 = .ok (.invokespecial 18, 3) := by decide +kernel
theorem dX11_init_34 : decode cX11_init 34 = .ok (.putfield 23, 3) := by decide +kernel
theorem dX11_init_37 : decode cX11_init 37 = .ok (.aload_n 0, 1) := by decide +kernel
theorem dX11_init_38 : decode cX11_init 38 = .ok (.new 26, 3) := by decide +kernel
theorem dX11_init_41 : decode cX11_init 41 = .ok (.dup, 1) := by decide +kernel
theorem dX11_init_42 : decode cX11_init 42 = .ok (.aload_n 0, 1) := by decide +kernel
theorem dX11_init_43 : decode cX11_init 43 = .ok (.getfield 10, 3) := by decide +kernel
theorem dX11_init_46 : decode cX11_init 46 = .ok (.aload_n 0, 1) := by decide +kernel
theorem dX11_init_47 : decode cX11_init 47 = .ok (.getfield 23, 3) := by decide +kernel
theorem dX11_init_50 : decode cX11_init 50 = .ok (.invokespecial 28, 3) := by decide +kernel
theorem dX11_init_53 : decode cX11_init 53 = .ok (.putfield 31, 3) := by decide +kernel
theorem dX11_init_56 : decode cX11_init 56 = .ok (.aload_n 0, 1) := by decide +kernel
theorem dX11_init_57 : decode cX11_init 57 = .ok (.new 35, 3) := by decide +kernel
theorem dX11_init_60 : decode cX11_init 60 = .ok (.dup, 1) := by decide +kernel
theorem dX11_init_61 : decode cX11_init 61 = .ok (.aload_n 0, 1) := by decide +kernel
theorem dX11_init_62 : decode cX11_init 62 = .ok (.getfield 10, 3) := by decide +kernel
theorem dX11_init_65 : decode cX11_init 65 = .ok (.invokespecial 37, 3) := by decide +kernel
theorem dX11_init_68 : decode cX11_init 68 = .ok (.putfield 40, 3) := by decide +kernel
theorem dX11_init_71 : decode cX11_init 71 = .ok (.aload_n 0, 1) := by decide +kernel
theorem dX11_init_72 : decode cX11_init 72 = .ok (.new 44, 3) := by decide +kernel
theorem dX11_init_75 : decode cX11_init 75 = .ok (.dup, 1) := by decide +kernel
theorem dX11_init_76 : decode cX11_init 76 = .ok (.invokespecial 46, 3) := by decide +kernel
theorem dX11_init_79 : decode cX11_init 79 = .ok (.putfield 47, 3) := by decide +kernel
theorem dX11_init_82 : decode cX11_init 82 = .ok (.aload_n 0, 1) := by decide +kernel
theorem dX11_init_83 : decode cX11_init 83 = .ok (.new 51, 3) := by decide +kernel
theorem dX11_init_86 : decode cX11_init 86 = .ok (.dup, 1) := by decide +kernel
theorem dX11_init_87 : decode cX11_init 87 = .ok (.aload_n 0, 1) := by decide +kernel
theorem dX11_init_88 : decode cX11_init 88 = .ok (.getfield 19, 3) := by decide +kernel
theorem dX11_init_91 : decode cX11_init 91 = .ok (.aload_n 0, 1) := by decide +kernel
theorem dX11_init_92 : decode cX11_init 92 = .ok (.getfield 47, 3) := by decide +kernel
theorem dX11_init_95 : decode cX11_init 95 = .ok (.invokespecial 53, 3) := by decide +kernel
theorem dX11_init_98 : decode cX11_init 98 = .ok (.putfield 56, 3) := by decide +kernel
theorem dX11_init_101 : decode cX11_init 101 = .ok (.aload_n 0, 1) := by decide +kernel
theorem dX11_init_102 : decode cX11_init 102 = .ok (.new 60, 3) := by decide +kernel
theorem dX11_init_105 : decode cX11_init 105 = .ok (.dup, 1) := by decide +kernel
theorem dX11_init_106 : decode cX11_init 106 = .ok (.aload_n 0, 1) := by decide +kernel
theorem dX11_init_107 : decode cX11_init 107 = .ok (.getfield 19, 3) := by decide +kernel
theorem dX11_init_110 : decode cX11_init 110 = .ok (.invokespecial 62, 3) := by decide +kernel
theorem dX11_init_113 : decode cX11_init 113 = .ok (.putfield 65, 3) := by decide +kernel
theorem dX11_init_116 : decode cX11_init 116 = .ok (.aload_n 0, 1) := by decide +kernel
theorem dX11_init_117 : decode cX11_init 117 = .ok (.new 69, 3) := by decide +kernel
theorem dX11_init_120 : decode cX11_init 120 = .ok (.dup, 1) := by decide +kernel
theorem dX11_init_121 : decode cX11_init 121 = .ok (.aload_n 0, 1) := by decide +kernel
theorem dX11_init_122 : decode cX11_init 122 = .ok (.getfield 19, 3) := by decide +kernel
theorem dX11_init_125 : decode cX11_init 125 = .ok (.aload_n 0, 1) := by decide +kernel
theorem dX11_init_126 : decode cX11_init 126 = .ok (.getfield 56, 3) := by decide +kernel
theorem dX11_init_129 : decode cX11_init 129 = .ok (.invokespecial 71, 3) := by decide +kernel
theorem dX11_init_132 : decode cX11_init 132 = .ok (.putfield 74, 3) := by decide +kernel
theorem dX11_init_135 : decode cX11_init 135 = .ok (.aload_n 0, 1) := by decide +kernel
theorem dX11_init_136 : decode cX11_init 136 = .ok (.new 78, 3) := by decide +kernel
theorem dX11_init_139 : decode cX11_init 139 = .ok (.dup, 1) := by decide +kernel
theorem dX11_init_140 : decode cX11_init 140 = .ok (.aload_n 0, 1) := by decide +kernel
theorem dX11_init_141 : decode cX11_init 141 = .ok (.getfield 19, 3) := by decide +kernel
theorem dX11_init_144 : decode cX11_init 144 = .ok (.aload_n 0, 1) := by decide +kernel
theorem dX11_init_145 : decode cX11_init 145 = .ok (.getfield 56, 3) := by decide +kernel
theorem dX11_init_148 : decode cX11_init 148 = .ok (.invokespecial 80, 3) := by decide +kernel
theorem dX11_init_151 : decode cX11_init 151 = .ok (.putfield 81, 3) := by decide +kernel
theorem dX11_init_154 : decode cX11_init 154 = .ok (.aload_n 0, 1) := by decide +kernel
theorem dX11_init_155 : decode cX11_init 155 = .ok (.new 85, 3) := by decide +kernel
theorem dX11_init_158 : decode cX11_init 158 = .ok (.dup, 1) := by decide +kernel
theorem dX11_init_159 : decode cX11_init 159 = .ok (.aload_n 0, 1) := by decide +kernel
theorem dX11_init_160 : decode cX11_init 160 = .ok (.getfield 19, 3) := by decide +kernel
theorem dX11_init_163 : decode cX11_init 163 = .ok (.aload_n 0, 1) := by decide +kernel
theorem dX11_init_164 : decode cX11_init 164 = .ok (.getfield 56, 3) := by decide +kernel
theorem dX11_init_167 : decode cX11_init 167 = .ok (.invokespecial 87, 3) := by decide +kernel
theorem dX11_init_170 : decode cX11_init 170 = .ok (.putfield 88, 3) := by decide +kernel
theorem dX11_init_173 : decode cX11_init 173 = .ok (.aload_n 0, 1) := by decide +kernel
theorem dX11_init_174 : decode cX11_init 174 = .ok (.new 92, 3) := by decide +kernel
theorem dX11_init_177 : decode cX11_init 177 = .ok (.dup, 1) := by decide +kernel
theorem dX11_init_178 : decode cX11_init 178 = .ok (.invokespecial 94, 3) := by decide +kernel
theorem dX11_init_181 : decode cX11_init 181 = .ok (.putfield 95, 3) := by decide +kernel
theorem dX11_init_184 : decode cX11_init 184 = .ok (.aload_n 0, 1) := by decide +kernel
theorem dX11_init_185 : decode cX11_init 185 = .ok (.new 16, 3) := by decide +kernel
theorem dX11_init_188 : decode cX11_init 188 = .ok (.dup, 1) := by decide +kernel
theorem dX11_init_189 : decode cX11_init 189 = .ok (.invokespecial 18, 3) := by decide +kernel
theorem dX11_init_192 : decode cX11_init 192 = .ok (.putfield 99, 3) := by decide +kernel
theorem dX11_init_195 : decode cX11_init 195 = .ok (.aload_n 0, 1) := by decide +kernel
theorem dX11_init_196 : decode cX11_init 196 = .ok (.new 92, 3) := by decide +kernel
theorem dX11_init_199 : decode cX11_init 199 = .ok (.dup, 1) := by decide +kernel
theorem dX11_init_200 : decode cX11_init 200 = .ok (.invokespecial 94, 3) := by decide +kernel
theorem dX11_init_203 : decode cX11_init 203 = .ok (.putfield 102, 3) := by decide +kernel
theorem dX11_init_206 : decode cX11_init 206 = .ok (.aload_n 0, 1) := by decide +kernel
theorem dX11_init_207 : decode cX11_init 207 = .ok (.iconst 0, 1) := by decide +kernel
theorem dX11_init_208 : decode cX11_init 208 = .ok (.putfield 105, 3) := by decide +kernel
theorem dX11_init_211 : decode cX11_init 211 = .ok (.aload_n 0, 1) := by decide +kernel
theorem dX11_init_212 : decode cX11_init 212 = .ok (.iconst 3, 1) := by decide +kernel
theorem dX11_init_213 : decode cX11_init 213 = .ok (.putfield 109, 3) := by decide +kernel
theorem dX11_init_216 : decode cX11_init 216 = .ok (.return_, 1) := by decide +kernel
theorem dX11_feed_0 : decode cX11_feed 0 = .ok (.iload_n 1, 1) := by decide +kernel
theorem dX11_feed_1 : decode cX11_feed 1 = .ok (.invokestatic 113, 3) := by decide +kernel
theorem dX11_feed_4 : decode cX11_feed 4 = .ok (.iload_n 2, 1) := by decide +kernel
theorem dX11_feed_5 : decode cX11_feed 5 = .ok (.invokestatic 113, 3) := by decide +kernel
theorem dX11_feed_8 : decode cX11_feed 8 = .ok (.iadd, 1) := by decide +kernel
theorem dX11_feed_9 : decode cX11_feed 9 = .ok (.iload_n 3, 1) := by decide +kernel
theorem dX11_feed_10 : decode cX11_feed 10 = .ok (.invokestatic 113, 3) := by decide +kernel
theorem dX11_feed_13 : decode cX11_feed 13 = .ok (.iadd, 1) := by decide +kernel
theorem dX11_feed_14 : decode cX11_feed 14 = .ok (.iload 4, 2) := by decide +kernel
theorem dX11_feed_16 : decode cX11_feed 16 = .ok (.invokestatic 113, 3) := by decide +kernel
theorem dX11_feed_19 : decode cX11_feed 19 = .ok (.iadd, 1) := by decide +kernel
theorem dX11_feed_20 : decode cX11_feed 20 = .ok (.iload 5, 2) := by decide +kernel
theorem dX11_feed_22 : decode cX11_feed 22 = .ok (.invokestatic 113, 3) := by decide +kernel
theorem dX11_feed_25 : decode cX11_feed 25 = .ok (.iadd, 1) := by decide +kernel
theorem dX11_feed_26 : decode cX11_feed 26 = .ok (.istore 6, 2) := by decide +kernel
theorem dX11_feed_28 : decode cX11_feed 28 = .ok (.aload_n 0, 1) := by decide +kernel
theorem dX11_feed_29 : decode cX11_feed 29 = .ok (.getfield 10, 3) := by decide +kernel
theorem dX11_feed_32 : decode cX11_feed 32 = .ok (.getfield 117, 3) := by decide +kernel
theorem dX11_feed_35 : decode cX11_feed 35 = .ok (.iload 6, 2) := by decide +kernel
theorem dX11_feed_37 : decode cX11_feed 37 = .ok (.iadd, 1) := by decide +kernel
theorem dX11_feed_38 : decode cX11_feed 38 = .ok (.sipush 160, 3) := by decide +kernel
theorem dX11_feed_41 : decode cX11_feed 41 = .ok (.if_icmp .le 5, 3) := by decide +kernel
theorem dX11_feed_44 : decode cX11_feed 44 = .ok (.iconst (-1), 1) := by decide +kernel
theorem dX11_feed_45 : decode cX11_feed 45 = .ok (.ireturn, 1) := by decide +kernel
theorem dX11_feed_46 : decode cX11_feed 46 = .ok (.aload_n 0, 1) := by decide +kernel
theorem dX11_feed_47 : decode cX11_feed 47 = .ok (.getfield 10, 3) := by decide +kernel
theorem dX11_feed_50 : decode cX11_feed 50 = .ok (.iload_n 1, 1) := by decide +kernel
theorem dX11_feed_51 : decode cX11_feed 51 = .ok (.invokevirtual 120, 3) := by decide +kernel
theorem dX11_feed_54 : decode cX11_feed 54 = .ok (.aload_n 0, 1) := by decide +kernel
theorem dX11_feed_55 : decode cX11_feed 55 = .ok (.getfield 10, 3) := by decide +kernel
theorem dX11_feed_58 : decode cX11_feed 58 = .ok (.iload_n 2, 1) := by decide +kernel
theorem dX11_feed_59 : decode cX11_feed 59 = .ok (.invokevirtual 120, 3) := by decide +kernel
theorem dX11_feed_62 : decode cX11_feed 62 = .ok (.aload_n 0, 1) := by decide +kernel
theorem dX11_feed_63 : decode cX11_feed 63 = .ok (.getfield 10, 3) := by decide +kernel
theorem dX11_feed_66 : decode cX11_feed 66 = .ok (.iload_n 3, 1) := by decide +kernel
theorem dX11_feed_67 : decode cX11_feed 67 = .ok (.invokevirtual 120, 3) := by decide +kernel
theorem dX11_feed_70 : decode cX11_feed 70 = .ok (.aload_n 0, 1) := by decide +kernel
theorem dX11_feed_71 : decode cX11_feed 71 = .ok (.getfield 10, 3) := by decide +kernel
theorem dX11_feed_74 : decode cX11_feed 74 = .ok (.iload 4, 2) := by decide +kernel
theorem dX11_feed_76 : decode cX11_feed 76 = .ok (.invokevirtual 120, 3) := by decide +kernel
theorem dX11_feed_79 : decode cX11_feed 79 = .ok (.aload_n 0, 1) := by decide +kernel
theorem dX11_feed_80 : decode cX11_feed 80 = .ok (.getfield 10, 3) := by decide +kernel
theorem dX11_feed_83 : decode cX11_feed 83 = .ok (.iload 5, 2) := by decide +kernel
theorem dX11_feed_85 : decode cX11_feed 85 = .ok (.invokevirtual 120, 3) := by decide +kernel
theorem dX11_feed_88 : decode cX11_feed 88 = .ok (.aload_n 0, 1) := by decide +kernel
theorem dX11_feed_89 : decode cX11_feed 89 = .ok (.getfield 10, 3) := by decide +kernel
theorem dX11_feed_92 : decode cX11_feed 92 = .ok (.getfield 117, 3) := by decide +kernel
theorem dX11_feed_95 : decode cX11_feed 95 = .ok (.ireturn, 1) := by decide +kernel
theorem dX11_end_0 : decode cX11_end 0 = .ok (.iload_n 1, 1) := by decide +kernel
theorem dX11_end_1 : decode cX11_end 1 = .ok (.ifCond .lt 14, 3) := by decide +kernel
theorem dX11_end_4 : decode cX11_end 4 = .ok (.iload_n 1, 1) := by decide +kernel
theorem dX11_end_5 : decode cX11_end 5 = .ok (.aload_n 0, 1) := by decide +kernel
theorem dX11_end_6 : decode cX11_end 6 = .ok (.getfield 10, 3) := by decide +kernel
theorem dX11_end_9 : decode cX11_end 9 = .ok (.getfield 117, 3) := by decide +kernel
theorem dX11_end_12 : decode cX11_end 12 = .ok (.if_icmp .le 5, 3) := by decide +kernel
theorem dX11_end_15 : decode cX11_end 15 = .ok (.iconst 0, 1) := by decide +kernel
theorem dX11_end_16 : decode cX11_end 16 = .ok (.ireturn, 1) := by decide +kernel
theorem dX11_end_17 : decode cX11_end 17 = .ok (.aload_n 0, 1) := by decide +kernel
theorem dX11_end_18 : decode cX11_end 18 = .ok (.getfield 10, 3) := by decide +kernel
theorem dX11_end_21 : decode cX11_end 21 = .ok (.iload_n 1, 1) := by decide +kernel
theorem dX11_end_22 : decode cX11_end 22 = .ok (.putfield 117, 3) := by decide +kernel
theorem dX11_end_25 : decode cX11_end 25 = .ok (.iconst 1, 1) := by decide +kernel
theorem dX11_end_26 : decode cX11_end 26 = .ok (.ireturn, 1) := by decide +kernel
theorem dX11_fault_0 : decode cX11_fault 0 = .ok (.iload_n 1, 1) := by decide +kernel
theorem dX11_fault_1 : decode cX11_fault 1 = .ok (.ifCond .ne 11, 3) := by decide +kernel
theorem dX11_fault_4 : decode cX11_fault 4 = .ok (.aload_n 0, 1) := by decide +kernel
theorem dX11_fault_5 : decode cX11_fault 5 = .ok (.getfield 31, 3) := by decide +kernel
theorem dX11_fault_8 : decode cX11_fault 8 = .ok (.invokevirtual 124, 3) := by decide +kernel
theorem dX11_fault_11 : decode cX11_fault 11 = .ok (.ireturn, 1) := by decide +kernel
theorem dX11_fault_12 : decode cX11_fault 12 = .ok (.iload_n 1, 1) := by decide +kernel
theorem dX11_fault_13 : decode cX11_fault 13 = .ok (.iconst 1, 1) := by decide +kernel
theorem dX11_fault_14 : decode cX11_fault 14 = .ok (.if_icmp .ne 13, 3) := by decide +kernel
theorem dX11_fault_17 : decode cX11_fault 17 = .ok (.aload_n 0, 1) := by decide +kernel
theorem dX11_fault_18 : decode cX11_fault 18 = .ok (.getfield 40, 3) := by decide +kernel
theorem dX11_fault_21 : decode cX11_fault 21 = .ok (.invokevirtual 128, 3) := by decide +kernel
theorem dX11_fault_24 : decode cX11_fault 24 = .ok (.goto 5, 3) := by decide +kernel
theorem dX11_fault_27 : decode cX11_fault 27 = .ok (.bipush (-2), 2) := by decide +kernel
theorem dX11_fault_29 : decode cX11_fault 29 = .ok (.ireturn, 1) := by decide +kernel
theorem dX11_text_0 : decode cX11_text 0 = .ok (.iload_n 1, 1) := by decide +kernel
theorem dX11_text_1 : decode cX11_text 1 = .ok (.ifCond .ne 19, 3) := by decide +kernel
theorem dX11_text_4 : decode cX11_text 4 = .ok (.aload_n 0, 1) := by decide +kernel
theorem dX11_text_5 : decode cX11_text 5 = .ok (.getfield 31, 3) := by decide +kernel
theorem dX11_text_8 : decode cX11_text 8 = .ok (.invokevirtual 124, 3) := by decide +kernel
theorem dX11_text_11 : decode cX11_text 11 = .ok (.iconst (-1), 1) := by decide +kernel
theorem dX11_text_12 : decode cX11_text 12 = .ok (.if_icmp .ne 8, 3) := by decide +kernel
theorem dX11_text_15 : decode cX11_text 15 = .ok (.aload_n 0, 1) := by decide +kernel
theorem dX11_text_16 : decode cX11_text 16 = .ok (.invokevirtual 129, 3) := by decide +kernel
theorem dX11_text_19 : decode cX11_text 19 = .ok (.ireturn, 1) := by decide +kernel
theorem dX11_text_20 : decode cX11_text 20 = .ok (.iload_n 1, 1) := by decide +kernel
theorem dX11_text_21 : decode cX11_text 21 = .ok (.iconst 1, 1) := by decide +kernel
theorem dX11_text_22 : decode cX11_text 22 = .ok (.if_icmp .ne 30, 3) := by decide +kernel
theorem dX11_text_25 : decode cX11_text 25 = .ok (.aload_n 0, 1) := by decide +kernel
theorem dX11_text_26 : decode cX11_text 26 = .ok (.getfield 47, 3) := by decide +kernel
theorem dX11_text_29 : decode cX11_text 29 = .ok (.getfield 132, 3) := by decide +kernel
theorem dX11_text_32 : decode cX11_text 32 = .ok (.iconst 4, 1) := by decide +kernel
theorem dX11_text_33 : decode cX11_text 33 = .ok (.if_icmp .ge 19, 3) := by decide +kernel
theorem dX11_text_36 : decode cX11_text 36 = .ok (.aload_n 0, 1) := by decide +kernel
theorem dX11_text_37 : decode cX11_text 37 = .ok (.getfield 40, 3) := by decide +kernel
theorem dX11_text_40 : decode cX11_text 40 = .ok (.invokevirtual 128, 3) := by decide +kernel
theorem dX11_text_43 : decode cX11_text 43 = .ok (.iconst (-1), 1) := by decide +kernel
theorem dX11_text_44 : decode cX11_text 44 = .ok (.if_icmp .ne 8, 3) := by decide +kernel
theorem dX11_text_47 : decode cX11_text 47 = .ok (.aload_n 0, 1) := by decide +kernel
theorem dX11_text_48 : decode cX11_text 48 = .ok (.invokevirtual 133, 3) := by decide +kernel
theorem dX11_text_51 : decode cX11_text 51 = .ok (.ireturn, 1) := by decide +kernel
theorem dX11_text_52 : decode cX11_text 52 = .ok (.iconst (-1), 1) := by decide +kernel
theorem dX11_text_53 : decode cX11_text 53 = .ok (.ireturn, 1) := by decide +kernel
theorem dX11_takeRoad_0 : decode cX11_takeRoad 0 = .ok (.aload_n 0, 1) := by decide +kernel
theorem dX11_takeRoad_1 : decode cX11_takeRoad 1 = .ok (.getfield 19, 3) := by decide +kernel
theorem dX11_takeRoad_4 : decode cX11_takeRoad 4 = .ok (.aload_n 0, 1) := by decide +kernel
theorem dX11_takeRoad_5 : decode cX11_takeRoad 5 = .ok (.getfield 23, 3) := by decide +kernel
theorem dX11_takeRoad_8 : decode cX11_takeRoad 8 = .ok (.invokevirtual 136, 3) := by decide +kernel
theorem dX11_takeRoad_11 : decode cX11_takeRoad 11 = .ok (.aload_n 0, 1) := by decide +kernel
theorem dX11_takeRoad_12 : decode cX11_takeRoad 12 = .ok (.getfield 95, 3) := by decide +kernel
theorem dX11_takeRoad_15 : decode cX11_takeRoad 15 = .ok (.invokevirtual 139, 3) := by decide +kernel
theorem dX11_takeRoad_18 : decode cX11_takeRoad 18 = .ok (.aload_n 0, 1) := by decide +kernel
theorem dX11_takeRoad_19 : decode cX11_takeRoad 19 = .ok (.getfield 88, 3) := by decide +kernel
theorem dX11_takeRoad_22 : decode cX11_takeRoad 22 = .ok (.iconst 0, 1) := by decide +kernel
theorem dX11_takeRoad_23 : decode cX11_takeRoad 23 = .ok (.putfield 142, 3) := by decide +kernel
theorem dX11_takeRoad_26 : decode cX11_takeRoad 26 = .ok (.aload_n 0, 1) := by decide +kernel
theorem dX11_takeRoad_27 : decode cX11_takeRoad 27 = .ok (.iconst 0, 1) := by decide +kernel
theorem dX11_takeRoad_28 : decode cX11_takeRoad 28 = .ok (.putfield 105, 3) := by decide +kernel
theorem dX11_takeRoad_31 : decode cX11_takeRoad 31 = .ok (.aload_n 0, 1) := by decide +kernel
theorem dX11_takeRoad_32 : decode cX11_takeRoad 32 = .ok (.getfield 10, 3) := by decide +kernel
theorem dX11_takeRoad_35 : decode cX11_takeRoad 35 = .ok (.iconst 0, 1) := by decide +kernel
theorem dX11_takeRoad_36 : decode cX11_takeRoad 36 = .ok (.putfield 117, 3) := by decide +kernel
theorem dX11_takeRoad_39 : decode cX11_takeRoad 39 = .ok (.aload_n 0, 1) := by decide +kernel
theorem dX11_takeRoad_40 : decode cX11_takeRoad 40 = .ok (.getfield 19, 3) := by decide +kernel
theorem dX11_takeRoad_43 : decode cX11_takeRoad 43 = .ok (.getfield 143, 3) := by decide +kernel
theorem dX11_takeRoad_46 : decode cX11_takeRoad 46 = .ok (.ireturn, 1) := by decide +kernel
theorem dX11_takeRule_0 : decode cX11_takeRule 0 = .ok (.aload_n 0, 1) := by decide +kernel
theorem dX11_takeRule_1 : decode cX11_takeRule 1 = .ok (.getfield 47, 3) := by decide +kernel
theorem dX11_takeRule_4 : decode cX11_takeRule 4 = .ok (.getfield 132, 3) := by decide +kernel
theorem dX11_takeRule_7 : decode cX11_takeRule 7 = .ok (.istore_n 1, 1) := by decide +kernel
theorem dX11_takeRule_8 : decode cX11_takeRule 8 = .ok (.aload_n 0, 1) := by decide +kernel
theorem dX11_takeRule_9 : decode cX11_takeRule 9 = .ok (.getfield 47, 3) := by decide +kernel
theorem dX11_takeRule_12 : decode cX11_takeRule 12 = .ok (.aload_n 0, 1) := by decide +kernel
theorem dX11_takeRule_13 : decode cX11_takeRule 13 = .ok (.getfield 40, 3) := by decide +kernel
theorem dX11_takeRule_16 : decode cX11_takeRule 16 = .ok (.getfield 146, 3) := by decide +kernel
theorem dX11_takeRule_19 : decode cX11_takeRule 19 = .ok (.aload_n 0, 1) := by decide +kernel
theorem dX11_takeRule_20 : decode cX11_takeRule 20 = .ok (.getfield 40, 3) := by decide +kernel
theorem dX11_takeRule_23 : decode cX11_takeRule 23 = .ok (.getfield 150, 3) := by decide +kernel
theorem dX11_takeRule_26 : decode cX11_takeRule 26 = .ok (.invokevirtual 151, 3) := by decide +kernel
theorem dX11_takeRule_29 : decode cX11_takeRule 29 = .ok (.aload_n 0, 1) := by decide +kernel
theorem dX11_takeRule_30 : decode cX11_takeRule 30 = .ok (.getfield 10, 3) := by decide +kernel
theorem dX11_takeRule_33 : decode cX11_takeRule 33 = .ok (.iconst 0, 1) := by decide +kernel
theorem dX11_takeRule_34 : decode cX11_takeRule 34 = .ok (.putfield 117, 3) := by decide +kernel
theorem dX11_takeRule_37 : decode cX11_takeRule 37 = .ok (.iload_n 1, 1) := by decide +kernel
theorem dX11_takeRule_38 : decode cX11_takeRule 38 = .ok (.ireturn, 1) := by decide +kernel
theorem dX11_rider_0 : decode cX11_rider 0 = .ok (.aload_n 0, 1) := by decide +kernel
theorem dX11_rider_1 : decode cX11_rider 1 = .ok (.iload_n 1, 1) := by decide +kernel
theorem dX11_rider_2 : decode cX11_rider 2 = .ok (.invokevirtual 154, 3) := by decide +kernel
theorem dX11_rider_5 : decode cX11_rider 5 = .ok (.ifCond .eq 12, 3) := by decide +kernel
theorem dX11_rider_8 : decode cX11_rider 8 = .ok (.iload_n 2, 1) := by decide +kernel
theorem dX11_rider_9 : decode cX11_rider 9 = .ok (.iconst 0, 1) := by decide +kernel
theorem dX11_rider_10 : decode cX11_rider 10 = .ok (.iconst 4, 1) := by decide +kernel
theorem dX11_rider_11 : decode cX11_rider 11 = .ok (.invokestatic 158, 3) := by decide +kernel
theorem dX11_rider_14 : decode cX11_rider 14 = .ok (.ifCond .ne 11, 3) := by decide +kernel
theorem dX11_rider_17 : decode cX11_rider 17 = .ok (.new 162, 3) := by decide +kernel
theorem dX11_rider_20 : decode cX11_rider 20 = .ok (.dup, 1) := by decide +kernel
theorem dX11_rider_21 : decode cX11_rider 21 = .ok (.invokespecial 164, 3) := by decide +kernel
theorem dX11_rider_24 : decode cX11_rider 24 = .ok (.athrow, 1) := by decide +kernel
theorem dX11_rider_25 : decode cX11_rider 25 = .ok (.iload_n 2, 1) := by decide +kernel
theorem dX11_rider_26 : decode cX11_rider 26 = .ok (.tableswitch 71 0 3 #[30, 40, 50, 60], 30) := by decide +kernel
theorem dX11_rider_56 : decode cX11_rider 56 = .ok (.aload_n 0, 1) := by decide +kernel
theorem dX11_rider_57 : decode cX11_rider 57 = .ok (.getfield 19, 3) := by decide +kernel
theorem dX11_rider_60 : decode cX11_rider 60 = .ok (.getfield 165, 3) := by decide +kernel
theorem dX11_rider_63 : decode cX11_rider 63 = .ok (.iload_n 1, 1) := by decide +kernel
theorem dX11_rider_64 : decode cX11_rider 64 = .ok (.iaload, 1) := by decide +kernel
theorem dX11_rider_65 : decode cX11_rider 65 = .ok (.ireturn, 1) := by decide +kernel
theorem dX11_rider_66 : decode cX11_rider 66 = .ok (.aload_n 0, 1) := by decide +kernel
theorem dX11_rider_67 : decode cX11_rider 67 = .ok (.getfield 19, 3) := by decide +kernel
theorem dX11_rider_70 : decode cX11_rider 70 = .ok (.getfield 168, 3) := by decide +kernel
theorem dX11_rider_73 : decode cX11_rider 73 = .ok (.iload_n 1, 1) := by decide +kernel
theorem dX11_rider_74 : decode cX11_rider 74 = .ok (.iaload, 1) := by decide +kernel
theorem dX11_rider_75 : decode cX11_rider 75 = .ok (.ireturn, 1) := by decide +kernel
theorem dX11_rider_76 : decode cX11_rider 76 = .ok (.aload_n 0, 1) := by decide +kernel
theorem dX11_rider_77 : decode cX11_rider 77 = .ok (.getfield 19, 3) := by decide +kernel
theorem dX11_rider_80 : decode cX11_rider 80 = .ok (.getfield 171, 3) := by decide +kernel
theorem dX11_rider_83 : decode cX11_rider 83 = .ok (.iload_n 1, 1) := by decide +kernel
theorem dX11_rider_84 : decode cX11_rider 84 = .ok (.iaload, 1) := by decide +kernel
theorem dX11_rider_85 : decode cX11_rider 85 = .ok (.ireturn, 1) := by decide +kernel
theorem dX11_rider_86 : decode cX11_rider 86 = .ok (.aload_n 0, 1) := by decide +kernel
theorem dX11_rider_87 : decode cX11_rider 87 = .ok (.getfield 19, 3) := by decide +kernel
theorem dX11_rider_90 : decode cX11_rider 90 = .ok (.iconst 1, 1) := by decide +kernel
theorem dX11_rider_91 : decode cX11_rider 91 = .ok (.iload_n 1, 1) := by decide +kernel
theorem dX11_rider_92 : decode cX11_rider 92 = .ok (.ishl, 1) := by decide +kernel
theorem dX11_rider_93 : decode cX11_rider 93 = .ok (.invokevirtual 174, 3) := by decide +kernel
theorem dX11_rider_96 : decode cX11_rider 96 = .ok (.ireturn, 1) := by decide +kernel
theorem dX11_rider_97 : decode cX11_rider 97 = .ok (.aload_n 0, 1) := by decide +kernel
theorem dX11_rider_98 : decode cX11_rider 98 = .ok (.getfield 19, 3) := by decide +kernel
theorem dX11_rider_101 : decode cX11_rider 101 = .ok (.iconst 1, 1) := by decide +kernel
theorem dX11_rider_102 : decode cX11_rider 102 = .ok (.iload_n 1, 1) := by decide +kernel
theorem dX11_rider_103 : decode cX11_rider 103 = .ok (.ishl, 1) := by decide +kernel
theorem dX11_rider_104 : decode cX11_rider 104 = .ok (.invokevirtual 177, 3) := by decide +kernel
theorem dX11_rider_107 : decode cX11_rider 107 = .ok (.ireturn, 1) := by decide +kernel
theorem dX11_way_0 : decode cX11_way 0 = .ok (.aload_n 0, 1) := by decide +kernel
theorem dX11_way_1 : decode cX11_way 1 = .ok (.iload_n 1, 1) := by decide +kernel
theorem dX11_way_2 : decode cX11_way 2 = .ok (.invokevirtual 180, 3) := by decide +kernel
theorem dX11_way_5 : decode cX11_way 5 = .ok (.ifCond .eq 12, 3) := by decide +kernel
theorem dX11_way_8 : decode cX11_way 8 = .ok (.iload_n 2, 1) := by decide +kernel
theorem dX11_way_9 : decode cX11_way 9 = .ok (.iconst 0, 1) := by decide +kernel
theorem dX11_way_10 : decode cX11_way 10 = .ok (.iconst 1, 1) := by decide +kernel
theorem dX11_way_11 : decode cX11_way 11 = .ok (.invokestatic 158, 3) := by decide +kernel
theorem dX11_way_14 : decode cX11_way 14 = .ok (.ifCond .ne 5, 3) := by decide +kernel
theorem dX11_way_17 : decode cX11_way 17 = .ok (.iconst (-1), 1) := by decide +kernel
theorem dX11_way_18 : decode cX11_way 18 = .ok (.ireturn, 1) := by decide +kernel
theorem dX11_way_19 : decode cX11_way 19 = .ok (.iload_n 2, 1) := by decide +kernel
theorem dX11_way_20 : decode cX11_way 20 = .ok (.ifCond .ne 15, 3) := by decide +kernel
theorem dX11_way_23 : decode cX11_way 23 = .ok (.aload_n 0, 1) := by decide +kernel
theorem dX11_way_24 : decode cX11_way 24 = .ok (.getfield 19, 3) := by decide +kernel
theorem dX11_way_27 : decode cX11_way 27 = .ok (.getfield 183, 3) := by decide +kernel
theorem dX11_way_30 : decode cX11_way 30 = .ok (.iload_n 1, 1) := by decide +kernel
theorem dX11_way_31 : decode cX11_way 31 = .ok (.iaload, 1) := by decide +kernel
theorem dX11_way_32 : decode cX11_way 32 = .ok (.goto 12, 3) := by decide +kernel
theorem dX11_way_35 : decode cX11_way 35 = .ok (.aload_n 0, 1) := by decide +kernel
theorem dX11_way_36 : decode cX11_way 36 = .ok (.getfield 19, 3) := by decide +kernel
theorem dX11_way_39 : decode cX11_way 39 = .ok (.getfield 186, 3) := by decide +kernel
theorem dX11_way_42 : decode cX11_way 42 = .ok (.iload_n 1, 1) := by decide +kernel
theorem dX11_way_43 : decode cX11_way 43 = .ok (.iaload, 1) := by decide +kernel
theorem dX11_way_44 : decode cX11_way 44 = .ok (.ireturn, 1) := by decide +kernel
theorem dX11_between_0 : decode cX11_between 0 = .ok (.aload_n 0, 1) := by decide +kernel
theorem dX11_between_1 : decode cX11_between 1 = .ok (.iload_n 1, 1) := by decide +kernel
theorem dX11_between_2 : decode cX11_between 2 = .ok (.invokevirtual 189, 3) := by decide +kernel
theorem dX11_between_5 : decode cX11_between 5 = .ok (.ifCond .eq 11, 3) := by decide +kernel
theorem dX11_between_8 : decode cX11_between 8 = .ok (.aload_n 0, 1) := by decide +kernel
theorem dX11_between_9 : decode cX11_between 9 = .ok (.iload_n 2, 1) := by decide +kernel
theorem dX11_between_10 : decode cX11_between 10 = .ok (.invokevirtual 189, 3) := by decide +kernel
theorem dX11_between_13 : decode cX11_between 13 = .ok (.ifCond .ne 5, 3) := by decide +kernel
theorem dX11_between_16 : decode cX11_between 16 = .ok (.iconst (-1), 1) := by decide +kernel
theorem dX11_between_17 : decode cX11_between 17 = .ok (.ireturn, 1) := by decide +kernel
theorem dX11_between_18 : decode cX11_between 18 = .ok (.aload_n 0, 1) := by decide +kernel
theorem dX11_between_19 : decode cX11_between 19 = .ok (.getfield 19, 3) := by decide +kernel
theorem dX11_between_22 : decode cX11_between 22 = .ok (.iload_n 1, 1) := by decide +kernel
theorem dX11_between_23 : decode cX11_between 23 = .ok (.iload_n 2, 1) := by decide +kernel
theorem dX11_between_24 : decode cX11_between 24 = .ok (.invokevirtual 192, 3) := by decide +kernel
theorem dX11_between_27 : decode cX11_between 27 = .ok (.ireturn, 1) := by decide +kernel
theorem dX11_move_0 : decode cX11_move 0 = .ok (.aload_n 0, 1) := by decide +kernel
theorem dX11_move_1 : decode cX11_move 1 = .ok (.iload_n 1, 1) := by decide +kernel
theorem dX11_move_2 : decode cX11_move 2 = .ok (.invokevirtual 154, 3) := by decide +kernel
theorem dX11_move_5 : decode cX11_move 5 = .ok (.ifCond .eq 24, 3) := by decide +kernel
theorem dX11_move_8 : decode cX11_move 8 = .ok (.aload_n 0, 1) := by decide +kernel
theorem dX11_move_9 : decode cX11_move 9 = .ok (.iload_n 2, 1) := by decide +kernel
theorem dX11_move_10 : decode cX11_move 10 = .ok (.invokevirtual 180, 3) := by decide +kernel
theorem dX11_move_13 : decode cX11_move 13 = .ok (.ifCond .eq 16, 3) := by decide +kernel
theorem dX11_move_16 : decode cX11_move 16 = .ok (.aload_n 0, 1) := by decide +kernel
theorem dX11_move_17 : decode cX11_move 17 = .ok (.getfield 19, 3) := by decide +kernel
theorem dX11_move_20 : decode cX11_move 20 = .ok (.getfield 165, 3) := by decide +kernel
theorem dX11_move_23 : decode cX11_move 23 = .ok (.iload_n 1, 1) := by decide +kernel
theorem dX11_move_24 : decode cX11_move 24 = .ok (.iaload, 1) := by decide +kernel
theorem dX11_move_25 : decode cX11_move 25 = .ok (.iload_n 2, 1) := by decide +kernel
theorem dX11_move_26 : decode cX11_move 26 = .ok (.if_icmp .ne 5, 3) := by decide +kernel
theorem dX11_move_29 : decode cX11_move 29 = .ok (.iconst 0, 1) := by decide +kernel
theorem dX11_move_30 : decode cX11_move 30 = .ok (.ireturn, 1) := by decide +kernel
theorem dX11_move_31 : decode cX11_move 31 = .ok (.aload_n 0, 1) := by decide +kernel
theorem dX11_move_32 : decode cX11_move 32 = .ok (.getfield 19, 3) := by decide +kernel
theorem dX11_move_35 : decode cX11_move 35 = .ok (.getfield 165, 3) := by decide +kernel
theorem dX11_move_38 : decode cX11_move 38 = .ok (.iload_n 1, 1) := by decide +kernel
theorem dX11_move_39 : decode cX11_move 39 = .ok (.iload_n 2, 1) := by decide +kernel
theorem dX11_move_40 : decode cX11_move 40 = .ok (.iastore, 1) := by decide +kernel
theorem dX11_move_41 : decode cX11_move 41 = .ok (.iconst 1, 1) := by decide +kernel
theorem dX11_move_42 : decode cX11_move 42 = .ok (.ireturn, 1) := by decide +kernel
theorem dX11_dig_0 : decode cX11_dig 0 = .ok (.aload_n 0, 1) := by decide +kernel
theorem dX11_dig_1 : decode cX11_dig 1 = .ok (.iload_n 1, 1) := by decide +kernel
theorem dX11_dig_2 : decode cX11_dig 2 = .ok (.invokevirtual 180, 3) := by decide +kernel
theorem dX11_dig_5 : decode cX11_dig 5 = .ok (.ifCond .eq 13, 3) := by decide +kernel
theorem dX11_dig_8 : decode cX11_dig 8 = .ok (.iload_n 2, 1) := by decide +kernel
theorem dX11_dig_9 : decode cX11_dig 9 = .ok (.iconst 1, 1) := by decide +kernel
theorem dX11_dig_10 : decode cX11_dig 10 = .ok (.bipush 20, 2) := by decide +kernel
theorem dX11_dig_12 : decode cX11_dig 12 = .ok (.invokestatic 158, 3) := by decide +kernel
theorem dX11_dig_15 : decode cX11_dig 15 = .ok (.ifCond .ne 5, 3) := by decide +kernel
theorem dX11_dig_18 : decode cX11_dig 18 = .ok (.iconst 0, 1) := by decide +kernel
theorem dX11_dig_19 : decode cX11_dig 19 = .ok (.ireturn, 1) := by decide +kernel
theorem dX11_dig_20 : decode cX11_dig 20 = .ok (.aload_n 0, 1) := by decide +kernel
theorem dX11_dig_21 : decode cX11_dig 21 = .ok (.getfield 19, 3) := by decide +kernel
theorem dX11_dig_24 : decode cX11_dig 24 = .ok (.getfield 186, 3) := by decide +kernel
theorem dX11_dig_27 : decode cX11_dig 27 = .ok (.iload_n 1, 1) := by decide +kernel
theorem dX11_dig_28 : decode cX11_dig 28 = .ok (.iload_n 2, 1) := by decide +kernel
theorem dX11_dig_29 : decode cX11_dig 29 = .ok (.iastore, 1) := by decide +kernel
theorem dX11_dig_30 : decode cX11_dig 30 = .ok (.iconst 1, 1) := by decide +kernel
theorem dX11_dig_31 : decode cX11_dig 31 = .ok (.ireturn, 1) := by decide +kernel
theorem dX11_feet_0 : decode cX11_feet 0 = .ok (.iload_n 1, 1) := by decide +kernel
theorem dX11_feet_1 : decode cX11_feet 1 = .ok (.iconst 0, 1) := by decide +kernel
theorem dX11_feet_2 : decode cX11_feet 2 = .ok (.bipush 20, 2) := by decide +kernel
theorem dX11_feet_4 : decode cX11_feet 4 = .ok (.invokestatic 158, 3) := by decide +kernel
theorem dX11_feet_7 : decode cX11_feet 7 = .ok (.ifCond .ne 5, 3) := by decide +kernel
theorem dX11_feet_10 : decode cX11_feet 10 = .ok (.iconst 0, 1) := by decide +kernel
theorem dX11_feet_11 : decode cX11_feet 11 = .ok (.ireturn, 1) := by decide +kernel
theorem dX11_feet_12 : decode cX11_feet 12 = .ok (.aload_n 0, 1) := by decide +kernel
theorem dX11_feet_13 : decode cX11_feet 13 = .ok (.iload_n 1, 1) := by decide +kernel
theorem dX11_feet_14 : decode cX11_feet 14 = .ok (.putfield 109, 3) := by decide +kernel
theorem dX11_feet_17 : decode cX11_feet 17 = .ok (.iconst 1, 1) := by decide +kernel
theorem dX11_feet_18 : decode cX11_feet 18 = .ok (.ireturn, 1) := by decide +kernel
theorem dX11_cost_0 : decode cX11_cost 0 = .ok (.aload_n 0, 1) := by decide +kernel
theorem dX11_cost_1 : decode cX11_cost 1 = .ok (.iload_n 1, 1) := by decide +kernel
theorem dX11_cost_2 : decode cX11_cost 2 = .ok (.invokevirtual 196, 3) := by decide +kernel
theorem dX11_cost_5 : decode cX11_cost 5 = .ok (.ifCond .eq 12, 3) := by decide +kernel
theorem dX11_cost_8 : decode cX11_cost 8 = .ok (.iload_n 2, 1) := by decide +kernel
theorem dX11_cost_9 : decode cX11_cost 9 = .ok (.iconst 0, 1) := by decide +kernel
theorem dX11_cost_10 : decode cX11_cost 10 = .ok (.iconst 2, 1) := by decide +kernel
theorem dX11_cost_11 : decode cX11_cost 11 = .ok (.invokestatic 158, 3) := by decide +kernel
theorem dX11_cost_14 : decode cX11_cost 14 = .ok (.ifCond .ne 5, 3) := by decide +kernel
theorem dX11_cost_17 : decode cX11_cost 17 = .ok (.iconst (-1), 1) := by decide +kernel
theorem dX11_cost_18 : decode cX11_cost 18 = .ok (.ireturn, 1) := by decide +kernel
theorem dX11_cost_19 : decode cX11_cost 19 = .ok (.iload_n 2, 1) := by decide +kernel
theorem dX11_cost_20 : decode cX11_cost 20 = .ok (.ifCond .ne 12, 3) := by decide +kernel
theorem dX11_cost_23 : decode cX11_cost 23 = .ok (.aload_n 0, 1) := by decide +kernel
theorem dX11_cost_24 : decode cX11_cost 24 = .ok (.getfield 19, 3) := by decide +kernel
theorem dX11_cost_27 : decode cX11_cost 27 = .ok (.iload_n 1, 1) := by decide +kernel
theorem dX11_cost_28 : decode cX11_cost 28 = .ok (.invokevirtual 174, 3) := by decide +kernel
theorem dX11_cost_31 : decode cX11_cost 31 = .ok (.ireturn, 1) := by decide +kernel
theorem dX11_cost_32 : decode cX11_cost 32 = .ok (.iload_n 2, 1) := by decide +kernel
theorem dX11_cost_33 : decode cX11_cost 33 = .ok (.iconst 1, 1) := by decide +kernel
theorem dX11_cost_34 : decode cX11_cost 34 = .ok (.if_icmp .ne 14, 3) := by decide +kernel
theorem dX11_cost_37 : decode cX11_cost 37 = .ok (.aload_n 0, 1) := by decide +kernel
theorem dX11_cost_38 : decode cX11_cost 38 = .ok (.getfield 19, 3) := by decide +kernel
theorem dX11_cost_41 : decode cX11_cost 41 = .ok (.iload_n 1, 1) := by decide +kernel
theorem dX11_cost_42 : decode cX11_cost 42 = .ok (.invokevirtual 177, 3) := by decide +kernel
theorem dX11_cost_45 : decode cX11_cost 45 = .ok (.goto 11, 3) := by decide +kernel
theorem dX11_cost_48 : decode cX11_cost 48 = .ok (.aload_n 0, 1) := by decide +kernel
theorem dX11_cost_49 : decode cX11_cost 49 = .ok (.getfield 19, 3) := by decide +kernel
theorem dX11_cost_52 : decode cX11_cost 52 = .ok (.iload_n 1, 1) := by decide +kernel
theorem dX11_cost_53 : decode cX11_cost 53 = .ok (.invokevirtual 199, 3) := by decide +kernel
theorem dX11_cost_56 : decode cX11_cost 56 = .ok (.ireturn, 1) := by decide +kernel
theorem dX11_share_0 : decode cX11_share 0 = .ok (.aload_n 0, 1) := by decide +kernel
theorem dX11_share_1 : decode cX11_share 1 = .ok (.iload_n 1, 1) := by decide +kernel
theorem dX11_share_2 : decode cX11_share 2 = .ok (.invokevirtual 154, 3) := by decide +kernel
theorem dX11_share_5 : decode cX11_share 5 = .ok (.ifCond .eq 37, 3) := by decide +kernel
theorem dX11_share_8 : decode cX11_share 8 = .ok (.aload_n 0, 1) := by decide +kernel
theorem dX11_share_9 : decode cX11_share 9 = .ok (.iload_n 2, 1) := by decide +kernel
theorem dX11_share_10 : decode cX11_share 10 = .ok (.invokevirtual 196, 3) := by decide +kernel
theorem dX11_share_13 : decode cX11_share 13 = .ok (.ifCond .eq 29, 3) := by decide +kernel
theorem dX11_share_16 : decode cX11_share 16 = .ok (.iload_n 1, 1) := by decide +kernel
theorem dX11_share_17 : decode cX11_share 17 = .ok (.iload_n 2, 1) := by decide +kernel
theorem dX11_share_18 : decode cX11_share 18 = .ok (.invokestatic 202, 3) := by decide +kernel
theorem dX11_share_21 : decode cX11_share 21 = .ok (.ifCond .eq 21, 3) := by decide +kernel
theorem dX11_share_24 : decode cX11_share 24 = .ok (.aload_n 0, 1) := by decide +kernel
theorem dX11_share_25 : decode cX11_share 25 = .ok (.iload_n 3, 1) := by decide +kernel
theorem dX11_share_26 : decode cX11_share 26 = .ok (.invokevirtual 206, 3) := by decide +kernel
theorem dX11_share_29 : decode cX11_share 29 = .ok (.ifCond .eq 13, 3) := by decide +kernel
theorem dX11_share_32 : decode cX11_share 32 = .ok (.iload 4, 2) := by decide +kernel
theorem dX11_share_34 : decode cX11_share 34 = .ok (.iconst 0, 1) := by decide +kernel
theorem dX11_share_35 : decode cX11_share 35 = .ok (.iconst 1, 1) := by decide +kernel
theorem dX11_share_36 : decode cX11_share 36 = .ok (.invokestatic 158, 3) := by decide +kernel
theorem dX11_share_39 : decode cX11_share 39 = .ok (.ifCond .ne 7, 3) := by decide +kernel
theorem dX11_share_42 : decode cX11_share 42 = .ok (.ldc2_w 209, 3) := by decide +kernel
theorem dX11_share_45 : decode cX11_share 45 = .ok (.lreturn, 1) := by decide +kernel
theorem dX11_share_46 : decode cX11_share 46 = .ok (.aload_n 0, 1) := by decide +kernel
theorem dX11_share_47 : decode cX11_share 47 = .ok (.getfield 56, 3) := by decide +kernel
theorem dX11_share_50 : decode cX11_share 50 = .ok (.iload_n 3, 1) := by decide +kernel
theorem dX11_share_51 : decode cX11_share 51 = .ok (.iload_n 2, 1) := by decide +kernel
theorem dX11_share_52 : decode cX11_share 52 = .ok (.invokestatic 211, 3) := by decide +kernel
theorem dX11_share_55 : decode cX11_share 55 = .ok (.invokevirtual 216, 3) := by decide +kernel
theorem dX11_share_58 : decode cX11_share 58 = .ok (.aload_n 0, 1) := by decide +kernel
theorem dX11_share_59 : decode cX11_share 59 = .ok (.getfield 56, 3) := by decide +kernel
theorem dX11_share_62 : decode cX11_share 62 = .ok (.iload_n 1, 1) := by decide +kernel
theorem dX11_share_63 : decode cX11_share 63 = .ok (.iload_n 2, 1) := by decide +kernel
theorem dX11_share_64 : decode cX11_share 64 = .ok (.invokevirtual 220, 3) := by decide +kernel
theorem dX11_share_67 : decode cX11_share 67 = .ok (.aload_n 0, 1) := by decide +kernel
theorem dX11_share_68 : decode cX11_share 68 = .ok (.getfield 56, 3) := by decide +kernel
theorem dX11_share_71 : decode cX11_share 71 = .ok (.iload_n 2, 1) := by decide +kernel
theorem dX11_share_72 : decode cX11_share 72 = .ok (.invokevirtual 224, 3) := by decide +kernel
theorem dX11_share_75 : decode cX11_share 75 = .ok (.iload 4, 2) := by decide +kernel
theorem dX11_share_77 : decode cX11_share 77 = .ok (.ifCond .ne 7, 3) := by decide +kernel
theorem dX11_share_80 : decode cX11_share 80 = .ok (.iconst 1, 1) := by decide +kernel
theorem dX11_share_81 : decode cX11_share 81 = .ok (.goto 4, 3) := by decide +kernel
theorem dX11_share_84 : decode cX11_share 84 = .ok (.iconst 0, 1) := by decide +kernel
theorem dX11_share_85 : decode cX11_share 85 = .ok (.invokestatic 228, 3) := by decide +kernel
theorem dX11_share_88 : decode cX11_share 88 = .ok (.lreturn, 1) := by decide +kernel
theorem dX11_worse_0 : decode cX11_worse 0 = .ok (.aload_n 0, 1) := by decide +kernel
theorem dX11_worse_1 : decode cX11_worse 1 = .ok (.iload_n 1, 1) := by decide +kernel
theorem dX11_worse_2 : decode cX11_worse 2 = .ok (.invokevirtual 206, 3) := by decide +kernel
theorem dX11_worse_5 : decode cX11_worse 5 = .ok (.ifCond .eq 8, 3) := by decide +kernel
theorem dX11_worse_8 : decode cX11_worse 8 = .ok (.iload_n 2, 1) := by decide +kernel
theorem dX11_worse_9 : decode cX11_worse 9 = .ok (.iconst (-1), 1) := by decide +kernel
theorem dX11_worse_10 : decode cX11_worse 10 = .ok (.if_icmp .ge 5, 3) := by decide +kernel
theorem dX11_worse_13 : decode cX11_worse 13 = .ok (.iconst (-1), 1) := by decide +kernel
theorem dX11_worse_14 : decode cX11_worse 14 = .ok (.ireturn, 1) := by decide +kernel
theorem dX11_worse_15 : decode cX11_worse 15 = .ok (.aload_n 0, 1) := by decide +kernel
theorem dX11_worse_16 : decode cX11_worse 16 = .ok (.getfield 56, 3) := by decide +kernel
theorem dX11_worse_19 : decode cX11_worse 19 = .ok (.iload_n 1, 1) := by decide +kernel
theorem dX11_worse_20 : decode cX11_worse 20 = .ok (.aload_n 0, 1) := by decide +kernel
theorem dX11_worse_21 : decode cX11_worse 21 = .ok (.getfield 19, 3) := by decide +kernel
theorem dX11_worse_24 : decode cX11_worse 24 = .ok (.getfield 143, 3) := by decide +kernel
theorem dX11_worse_27 : decode cX11_worse 27 = .ok (.invokevirtual 216, 3) := by decide +kernel
theorem dX11_worse_30 : decode cX11_worse 30 = .ok (.iconst 0, 1) := by decide +kernel
theorem dX11_worse_31 : decode cX11_worse 31 = .ok (.istore_n 3, 1) := by decide +kernel
theorem dX11_worse_32 : decode cX11_worse 32 = .ok (.iconst 1, 1) := by decide +kernel
theorem dX11_worse_33 : decode cX11_worse 33 = .ok (.istore 4, 2) := by decide +kernel
theorem dX11_worse_35 : decode cX11_worse 35 = .ok (.iload 4, 2) := by decide +kernel
theorem dX11_worse_37 : decode cX11_worse 37 = .ok (.aload_n 0, 1) := by decide +kernel
theorem dX11_worse_38 : decode cX11_worse 38 = .ok (.getfield 19, 3) := by decide +kernel
theorem dX11_worse_41 : decode cX11_worse 41 = .ok (.invokevirtual 232, 3) := by decide +kernel
theorem dX11_worse_44 : decode cX11_worse 44 = .ok (.if_icmp .gt 34, 3) := by decide +kernel
theorem dX11_worse_47 : decode cX11_worse 47 = .ok (.aload_n 0, 1) := by decide +kernel
theorem dX11_worse_48 : decode cX11_worse 48 = .ok (.getfield 56, 3) := by decide +kernel
theorem dX11_worse_51 : decode cX11_worse 51 = .ok (.iload 4, 2) := by decide +kernel
theorem dX11_worse_53 : decode cX11_worse 53 = .ok (.invokevirtual 235, 3) := by decide +kernel
theorem dX11_worse_56 : decode cX11_worse 56 = .ok (.lconst 0, 1) := by decide +kernel
theorem dX11_worse_57 : decode cX11_worse 57 = .ok (.lcmp, 1) := by decide +kernel
theorem dX11_worse_58 : decode cX11_worse 58 = .ok (.ifCond .le 14, 3) := by decide +kernel
theorem dX11_worse_61 : decode cX11_worse 61 = .ok (.iload_n 3, 1) := by decide +kernel
theorem dX11_worse_62 : decode cX11_worse 62 = .ok (.iload_n 2, 1) := by decide +kernel
theorem dX11_worse_63 : decode cX11_worse 63 = .ok (.if_icmp .ne 6, 3) := by decide +kernel
theorem dX11_worse_66 : decode cX11_worse 66 = .ok (.iload 4, 2) := by decide +kernel
theorem dX11_worse_68 : decode cX11_worse 68 = .ok (.ireturn, 1) := by decide +kernel
theorem dX11_worse_69 : decode cX11_worse 69 = .ok (.iinc 3 1, 3) := by decide +kernel
theorem dX11_worse_72 : decode cX11_worse 72 = .ok (.iinc 4 1, 3) := by decide +kernel
theorem dX11_worse_75 : decode cX11_worse 75 = .ok (.goto (-40), 3) := by decide +kernel
theorem dX11_worse_78 : decode cX11_worse 78 = .ok (.iload_n 2, 1) := by decide +kernel
theorem dX11_worse_79 : decode cX11_worse 79 = .ok (.iconst (-1), 1) := by decide +kernel
theorem dX11_worse_80 : decode cX11_worse 80 = .ok (.if_icmp .ne 7, 3) := by decide +kernel
theorem dX11_worse_83 : decode cX11_worse 83 = .ok (.iload_n 3, 1) := by decide +kernel
theorem dX11_worse_84 : decode cX11_worse 84 = .ok (.goto 4, 3) := by decide +kernel
theorem dX11_worse_87 : decode cX11_worse 87 = .ok (.iconst (-1), 1) := by decide +kernel
theorem dX11_worse_88 : decode cX11_worse 88 = .ok (.ireturn, 1) := by decide +kernel
theorem dX11_complaint_0 : decode cX11_complaint 0 = .ok (.aload_n 0, 1) := by decide +kernel
theorem dX11_complaint_1 : decode cX11_complaint 1 = .ok (.iload_n 1, 1) := by decide +kernel
theorem dX11_complaint_2 : decode cX11_complaint 2 = .ok (.invokevirtual 206, 3) := by decide +kernel
theorem dX11_complaint_5 : decode cX11_complaint 5 = .ok (.ifCond .eq 23, 3) := by decide +kernel
theorem dX11_complaint_8 : decode cX11_complaint 8 = .ok (.aload_n 0, 1) := by decide +kernel
theorem dX11_complaint_9 : decode cX11_complaint 9 = .ok (.getfield 19, 3) := by decide +kernel
theorem dX11_complaint_12 : decode cX11_complaint 12 = .ok (.getfield 143, 3) := by decide +kernel
theorem dX11_complaint_15 : decode cX11_complaint 15 = .ok (.iconst 2, 1) := by decide +kernel
theorem dX11_complaint_16 : decode cX11_complaint 16 = .ok (.if_icmp .lt 12, 3) := by decide +kernel
theorem dX11_complaint_19 : decode cX11_complaint 19 = .ok (.iload_n 2, 1) := by decide +kernel
theorem dX11_complaint_20 : decode cX11_complaint 20 = .ok (.iconst 0, 1) := by decide +kernel
theorem dX11_complaint_21 : decode cX11_complaint 21 = .ok (.iconst 2, 1) := by decide +kernel
theorem dX11_complaint_22 : decode cX11_complaint 22 = .ok (.invokestatic 158, 3) := by decide +kernel
theorem dX11_complaint_25 : decode cX11_complaint 25 = .ok (.ifCond .ne 7, 3) := by decide +kernel
theorem dX11_complaint_28 : decode cX11_complaint 28 = .ok (.ldc2_w 209, 3) := by decide +kernel
theorem dX11_complaint_31 : decode cX11_complaint 31 = .ok (.lreturn, 1) := by decide +kernel
theorem dX11_complaint_32 : decode cX11_complaint 32 = .ok (.aload_n 0, 1) := by decide +kernel
theorem dX11_complaint_33 : decode cX11_complaint 33 = .ok (.getfield 56, 3) := by decide +kernel
theorem dX11_complaint_36 : decode cX11_complaint 36 = .ok (.iload_n 1, 1) := by decide +kernel
theorem dX11_complaint_37 : decode cX11_complaint 37 = .ok (.aload_n 0, 1) := by decide +kernel
theorem dX11_complaint_38 : decode cX11_complaint 38 = .ok (.getfield 19, 3) := by decide +kernel
theorem dX11_complaint_41 : decode cX11_complaint 41 = .ok (.getfield 143, 3) := by decide +kernel
theorem dX11_complaint_44 : decode cX11_complaint 44 = .ok (.invokevirtual 216, 3) := by decide +kernel
theorem dX11_complaint_47 : decode cX11_complaint 47 = .ok (.iconst 1, 1) := by decide +kernel
theorem dX11_complaint_48 : decode cX11_complaint 48 = .ok (.istore_n 3, 1) := by decide +kernel
theorem dX11_complaint_49 : decode cX11_complaint 49 = .ok (.aload_n 0, 1) := by decide +kernel
theorem dX11_complaint_50 : decode cX11_complaint 50 = .ok (.getfield 56, 3) := by decide +kernel
theorem dX11_complaint_53 : decode cX11_complaint 53 = .ok (.iconst 1, 1) := by decide +kernel
theorem dX11_complaint_54 : decode cX11_complaint 54 = .ok (.invokevirtual 235, 3) := by decide +kernel
theorem dX11_complaint_57 : decode cX11_complaint 57 = .ok (.lstore 4, 2) := by decide +kernel
theorem dX11_complaint_59 : decode cX11_complaint 59 = .ok (.iconst 2, 1) := by decide +kernel
theorem dX11_complaint_60 : decode cX11_complaint 60 = .ok (.istore 6, 2) := by decide +kernel
theorem dX11_complaint_62 : decode cX11_complaint 62 = .ok (.iload 6, 2) := by decide +kernel
theorem dX11_complaint_64 : decode cX11_complaint 64 = .ok (.aload_n 0, 1) := by decide +kernel
theorem dX11_complaint_65 : decode cX11_complaint 65 = .ok (.getfield 19, 3) := by decide +kernel
theorem dX11_complaint_68 : decode cX11_complaint 68 = .ok (.invokevirtual 232, 3) := by decide +kernel
theorem dX11_complaint_71 : decode cX11_complaint 71 = .ok (.if_icmp .ge 35, 3) := by decide +kernel
theorem dX11_complaint_74 : decode cX11_complaint 74 = .ok (.aload_n 0, 1) := by decide +kernel
theorem dX11_complaint_75 : decode cX11_complaint 75 = .ok (.getfield 56, 3) := by decide +kernel
theorem dX11_complaint_78 : decode cX11_complaint 78 = .ok (.iload 6, 2) := by decide +kernel
theorem dX11_complaint_80 : decode cX11_complaint 80 = .ok (.invokevirtual 235, 3) := by decide +kernel
theorem dX11_complaint_83 : decode cX11_complaint 83 = .ok (.lstore 7, 2) := by decide +kernel
theorem dX11_complaint_85 : decode cX11_complaint 85 = .ok (.lload 7, 2) := by decide +kernel
theorem dX11_complaint_87 : decode cX11_complaint 87 = .ok (.lload 4, 2) := by decide +kernel
theorem dX11_complaint_89 : decode cX11_complaint 89 = .ok (.lcmp, 1) := by decide +kernel
theorem dX11_complaint_90 : decode cX11_complaint 90 = .ok (.ifCond .le 10, 3) := by decide +kernel
theorem dX11_complaint_93 : decode cX11_complaint 93 = .ok (.iload 6, 2) := by decide +kernel
theorem dX11_complaint_95 : decode cX11_complaint 95 = .ok (.istore_n 3, 1) := by decide +kernel
theorem dX11_complaint_96 : decode cX11_complaint 96 = .ok (.lload 7, 2) := by decide +kernel
theorem dX11_complaint_98 : decode cX11_complaint 98 = .ok (.lstore 4, 2) := by decide +kernel
theorem dX11_complaint_100 : decode cX11_complaint 100 = .ok (.iinc 6 1, 3) := by decide +kernel
theorem dX11_complaint_103 : decode cX11_complaint 103 = .ok (.goto (-41), 3) := by decide +kernel
theorem dX11_complaint_106 : decode cX11_complaint 106 = .ok (.iload_n 2, 1) := by decide +kernel
theorem dX11_complaint_107 : decode cX11_complaint 107 = .ok (.ifCond .ne 8, 3) := by decide +kernel
theorem dX11_complaint_110 : decode cX11_complaint 110 = .ok (.iload_n 3, 1) := by decide +kernel
theorem dX11_complaint_111 : decode cX11_complaint 111 = .ok (.i2l, 1) := by decide +kernel
theorem dX11_complaint_112 : decode cX11_complaint 112 = .ok (.goto 32, 3) := by decide +kernel
theorem dX11_complaint_115 : decode cX11_complaint 115 = .ok (.lload 4, 2) := by decide +kernel
theorem dX11_complaint_117 : decode cX11_complaint 117 = .ok (.aload_n 0, 1) := by decide +kernel
theorem dX11_complaint_118 : decode cX11_complaint 118 = .ok (.getfield 56, 3) := by decide +kernel
theorem dX11_complaint_121 : decode cX11_complaint 121 = .ok (.aload_n 0, 1) := by decide +kernel
theorem dX11_complaint_122 : decode cX11_complaint 122 = .ok (.getfield 19, 3) := by decide +kernel
theorem dX11_complaint_125 : decode cX11_complaint 125 = .ok (.invokevirtual 232, 3) := by decide +kernel
theorem dX11_complaint_128 : decode cX11_complaint 128 = .ok (.invokevirtual 224, 3) := by decide +kernel
theorem dX11_complaint_131 : decode cX11_complaint 131 = .ok (.iload_n 2, 1) := by decide +kernel
theorem dX11_complaint_132 : decode cX11_complaint 132 = .ok (.iconst 1, 1) := by decide +kernel
theorem dX11_complaint_133 : decode cX11_complaint 133 = .ok (.if_icmp .ne 7, 3) := by decide +kernel
theorem dX11_complaint_136 : decode cX11_complaint 136 = .ok (.iconst 1, 1) := by decide +kernel
theorem dX11_complaint_137 : decode cX11_complaint 137 = .ok (.goto 4, 3) := by decide +kernel
theorem dX11_complaint_140 : decode cX11_complaint 140 = .ok (.iconst 0, 1) := by decide +kernel
theorem dX11_complaint_141 : decode cX11_complaint 141 = .ok (.invokestatic 228, 3) := by decide +kernel
theorem dX11_complaint_144 : decode cX11_complaint 144 = .ok (.lreturn, 1) := by decide +kernel
theorem dX11_order_0 : decode cX11_order 0 = .ok (.aload_n 0, 1) := by decide +kernel
theorem dX11_order_1 : decode cX11_order 1 = .ok (.iload_n 1, 1) := by decide +kernel
theorem dX11_order_2 : decode cX11_order 2 = .ok (.invokevirtual 196, 3) := by decide +kernel
theorem dX11_order_5 : decode cX11_order 5 = .ok (.ifCond .eq 25, 3) := by decide +kernel
theorem dX11_order_8 : decode cX11_order 8 = .ok (.iload_n 1, 1) := by decide +kernel
theorem dX11_order_9 : decode cX11_order 9 = .ok (.ifCond .eq 21, 3) := by decide +kernel
theorem dX11_order_12 : decode cX11_order 12 = .ok (.iload_n 2, 1) := by decide +kernel
theorem dX11_order_13 : decode cX11_order 13 = .ok (.iconst 0, 1) := by decide +kernel
theorem dX11_order_14 : decode cX11_order 14 = .ok (.iconst 2, 1) := by decide +kernel
theorem dX11_order_15 : decode cX11_order 15 = .ok (.invokestatic 158, 3) := by decide +kernel
theorem dX11_order_18 : decode cX11_order 18 = .ok (.ifCond .eq 12, 3) := by decide +kernel
theorem dX11_order_21 : decode cX11_order 21 = .ok (.iload_n 3, 1) := by decide +kernel
theorem dX11_order_22 : decode cX11_order 22 = .ok (.iconst 0, 1) := by decide +kernel
theorem dX11_order_23 : decode cX11_order 23 = .ok (.iconst 1, 1) := by decide +kernel
theorem dX11_order_24 : decode cX11_order 24 = .ok (.invokestatic 158, 3) := by decide +kernel
theorem dX11_order_27 : decode cX11_order 27 = .ok (.ifCond .ne 5, 3) := by decide +kernel
theorem dX11_order_30 : decode cX11_order 30 = .ok (.iconst (-1), 1) := by decide +kernel
theorem dX11_order_31 : decode cX11_order 31 = .ok (.ireturn, 1) := by decide +kernel
theorem dX11_order_32 : decode cX11_order 32 = .ok (.aload_n 0, 1) := by decide +kernel
theorem dX11_order_33 : decode cX11_order 33 = .ok (.getfield 65, 3) := by decide +kernel
theorem dX11_order_36 : decode cX11_order 36 = .ok (.iload_n 1, 1) := by decide +kernel
theorem dX11_order_37 : decode cX11_order 37 = .ok (.iload_n 2, 1) := by decide +kernel
theorem dX11_order_38 : decode cX11_order 38 = .ok (.invokevirtual 238, 3) := by decide +kernel
theorem dX11_order_41 : decode cX11_order 41 = .ok (.iload_n 3, 1) := by decide +kernel
theorem dX11_order_42 : decode cX11_order 42 = .ok (.ifCond .ne 13, 3) := by decide +kernel
theorem dX11_order_45 : decode cX11_order 45 = .ok (.aload_n 0, 1) := by decide +kernel
theorem dX11_order_46 : decode cX11_order 46 = .ok (.getfield 65, 3) := by decide +kernel
theorem dX11_order_49 : decode cX11_order 49 = .ok (.getfield 241, 3) := by decide +kernel
theorem dX11_order_52 : decode cX11_order 52 = .ok (.goto 10, 3) := by decide +kernel
theorem dX11_order_55 : decode cX11_order 55 = .ok (.aload_n 0, 1) := by decide +kernel
theorem dX11_order_56 : decode cX11_order 56 = .ok (.getfield 65, 3) := by decide +kernel
theorem dX11_order_59 : decode cX11_order 59 = .ok (.getfield 244, 3) := by decide +kernel
theorem dX11_order_62 : decode cX11_order 62 = .ok (.ireturn, 1) := by decide +kernel
theorem dX11_ride_0 : decode cX11_ride 0 = .ok (.aload_n 0, 1) := by decide +kernel
theorem dX11_ride_1 : decode cX11_ride 1 = .ok (.iload_n 1, 1) := by decide +kernel
theorem dX11_ride_2 : decode cX11_ride 2 = .ok (.invokevirtual 196, 3) := by decide +kernel
theorem dX11_ride_5 : decode cX11_ride 5 = .ok (.ifCond .eq 19, 3) := by decide +kernel
theorem dX11_ride_8 : decode cX11_ride 8 = .ok (.aload_n 0, 1) := by decide +kernel
theorem dX11_ride_9 : decode cX11_ride 9 = .ok (.iload_n 3, 1) := by decide +kernel
theorem dX11_ride_10 : decode cX11_ride 10 = .ok (.invokevirtual 154, 3) := by decide +kernel
theorem dX11_ride_13 : decode cX11_ride 13 = .ok (.ifCond .eq 11, 3) := by decide +kernel
theorem dX11_ride_16 : decode cX11_ride 16 = .ok (.iload_n 3, 1) := by decide +kernel
theorem dX11_ride_17 : decode cX11_ride 17 = .ok (.iload_n 1, 1) := by decide +kernel
theorem dX11_ride_18 : decode cX11_ride 18 = .ok (.invokestatic 202, 3) := by decide +kernel
theorem dX11_ride_21 : decode cX11_ride 21 = .ok (.ifCond .ne 5, 3) := by decide +kernel
theorem dX11_ride_24 : decode cX11_ride 24 = .ok (.iconst (-1), 1) := by decide +kernel
theorem dX11_ride_25 : decode cX11_ride 25 = .ok (.ireturn, 1) := by decide +kernel
theorem dX11_ride_26 : decode cX11_ride 26 = .ok (.aload_n 0, 1) := by decide +kernel
theorem dX11_ride_27 : decode cX11_ride 27 = .ok (.getfield 65, 3) := by decide +kernel
theorem dX11_ride_30 : decode cX11_ride 30 = .ok (.iload_n 1, 1) := by decide +kernel
theorem dX11_ride_31 : decode cX11_ride 31 = .ok (.iload_n 2, 1) := by decide +kernel
theorem dX11_ride_32 : decode cX11_ride 32 = .ok (.iload_n 3, 1) := by decide +kernel
theorem dX11_ride_33 : decode cX11_ride 33 = .ok (.invokevirtual 247, 3) := by decide +kernel
theorem dX11_ride_36 : decode cX11_ride 36 = .ok (.ireturn, 1) := by decide +kernel
theorem dX11_coaches_0 : decode cX11_coaches 0 = .ok (.aload_n 0, 1) := by decide +kernel
theorem dX11_coaches_1 : decode cX11_coaches 1 = .ok (.invokevirtual 251, 3) := by decide +kernel
theorem dX11_coaches_4 : decode cX11_coaches 4 = .ok (.ifCond .ne 12, 3) := by decide +kernel
theorem dX11_coaches_7 : decode cX11_coaches 7 = .ok (.iload_n 1, 1) := by decide +kernel
theorem dX11_coaches_8 : decode cX11_coaches 8 = .ok (.iconst 0, 1) := by decide +kernel
theorem dX11_coaches_9 : decode cX11_coaches 9 = .ok (.iconst 1, 1) := by decide +kernel
theorem dX11_coaches_10 : decode cX11_coaches 10 = .ok (.invokestatic 158, 3) := by decide +kernel
theorem dX11_coaches_13 : decode cX11_coaches 13 = .ok (.ifCond .ne 5, 3) := by decide +kernel
theorem dX11_coaches_16 : decode cX11_coaches 16 = .ok (.iconst (-1), 1) := by decide +kernel
theorem dX11_coaches_17 : decode cX11_coaches 17 = .ok (.ireturn, 1) := by decide +kernel
theorem dX11_coaches_18 : decode cX11_coaches 18 = .ok (.aload_n 0, 1) := by decide +kernel
theorem dX11_coaches_19 : decode cX11_coaches 19 = .ok (.getfield 74, 3) := by decide +kernel
theorem dX11_coaches_22 : decode cX11_coaches 22 = .ok (.invokevirtual 255, 3) := by decide +kernel
theorem dX11_coaches_25 : decode cX11_coaches 25 = .ok (.iload_n 1, 1) := by decide +kernel
theorem dX11_coaches_26 : decode cX11_coaches 26 = .ok (.ifCond .ne 13, 3) := by decide +kernel
theorem dX11_coaches_29 : decode cX11_coaches 29 = .ok (.aload_n 0, 1) := by decide +kernel
theorem dX11_coaches_30 : decode cX11_coaches 30 = .ok (.getfield 74, 3) := by decide +kernel
theorem dX11_coaches_33 : decode cX11_coaches 33 = .ok (.getfield 258, 3) := by decide +kernel
theorem dX11_coaches_36 : decode cX11_coaches 36 = .ok (.goto 10, 3) := by decide +kernel
theorem dX11_coaches_39 : decode cX11_coaches 39 = .ok (.aload_n 0, 1) := by decide +kernel
theorem dX11_coaches_40 : decode cX11_coaches 40 = .ok (.getfield 74, 3) := by decide +kernel
theorem dX11_coaches_43 : decode cX11_coaches 43 = .ok (.getfield 261, 3) := by decide +kernel
theorem dX11_coaches_46 : decode cX11_coaches 46 = .ok (.ireturn, 1) := by decide +kernel
theorem dX11_steady_0 : decode cX11_steady 0 = .ok (.aload_n 0, 1) := by decide +kernel
theorem dX11_steady_1 : decode cX11_steady 1 = .ok (.iload_n 1, 1) := by decide +kernel
theorem dX11_steady_2 : decode cX11_steady 2 = .ok (.invokevirtual 206, 3) := by decide +kernel
theorem dX11_steady_5 : decode cX11_steady 5 = .ok (.ifCond .eq 8, 3) := by decide +kernel
theorem dX11_steady_8 : decode cX11_steady 8 = .ok (.iload_n 2, 1) := by decide +kernel
theorem dX11_steady_9 : decode cX11_steady 9 = .ok (.iconst (-1), 1) := by decide +kernel
theorem dX11_steady_10 : decode cX11_steady 10 = .ok (.if_icmp .ge 5, 3) := by decide +kernel
theorem dX11_steady_13 : decode cX11_steady 13 = .ok (.iconst (-1), 1) := by decide +kernel
theorem dX11_steady_14 : decode cX11_steady 14 = .ok (.ireturn, 1) := by decide +kernel
theorem dX11_steady_15 : decode cX11_steady 15 = .ok (.aload_n 0, 1) := by decide +kernel
theorem dX11_steady_16 : decode cX11_steady 16 = .ok (.getfield 56, 3) := by decide +kernel
theorem dX11_steady_19 : decode cX11_steady 19 = .ok (.iload_n 1, 1) := by decide +kernel
theorem dX11_steady_20 : decode cX11_steady 20 = .ok (.iconst 1, 1) := by decide +kernel
theorem dX11_steady_21 : decode cX11_steady 21 = .ok (.invokevirtual 216, 3) := by decide +kernel
theorem dX11_steady_24 : decode cX11_steady 24 = .ok (.aload_n 0, 1) := by decide +kernel
theorem dX11_steady_25 : decode cX11_steady 25 = .ok (.getfield 74, 3) := by decide +kernel
theorem dX11_steady_28 : decode cX11_steady 28 = .ok (.invokevirtual 264, 3) := by decide +kernel
theorem dX11_steady_31 : decode cX11_steady 31 = .ok (.aload_n 0, 1) := by decide +kernel
theorem dX11_steady_32 : decode cX11_steady 32 = .ok (.getfield 74, 3) := by decide +kernel
theorem dX11_steady_35 : decode cX11_steady 35 = .ok (.iload_n 2, 1) := by decide +kernel
theorem dX11_steady_36 : decode cX11_steady 36 = .ok (.invokevirtual 267, 3) := by decide +kernel
theorem dX11_steady_39 : decode cX11_steady 39 = .ok (.iload_n 2, 1) := by decide +kernel
theorem dX11_steady_40 : decode cX11_steady 40 = .ok (.iconst (-1), 1) := by decide +kernel
theorem dX11_steady_41 : decode cX11_steady 41 = .ok (.if_icmp .ne 13, 3) := by decide +kernel
theorem dX11_steady_44 : decode cX11_steady 44 = .ok (.aload_n 0, 1) := by decide +kernel
theorem dX11_steady_45 : decode cX11_steady 45 = .ok (.getfield 74, 3) := by decide +kernel
theorem dX11_steady_48 : decode cX11_steady 48 = .ok (.getfield 270, 3) := by decide +kernel
theorem dX11_steady_51 : decode cX11_steady 51 = .ok (.goto 10, 3) := by decide +kernel
theorem dX11_steady_54 : decode cX11_steady 54 = .ok (.aload_n 0, 1) := by decide +kernel
theorem dX11_steady_55 : decode cX11_steady 55 = .ok (.getfield 74, 3) := by decide +kernel
theorem dX11_steady_58 : decode cX11_steady 58 = .ok (.getfield 273, 3) := by decide +kernel
theorem dX11_steady_61 : decode cX11_steady 61 = .ok (.ireturn, 1) := by decide +kernel
theorem dX11_left_0 : decode cX11_left 0 = .ok (.aload_n 0, 1) := by decide +kernel
theorem dX11_left_1 : decode cX11_left 1 = .ok (.iload_n 1, 1) := by decide +kernel
theorem dX11_left_2 : decode cX11_left 2 = .ok (.invokevirtual 206, 3) := by decide +kernel
theorem dX11_left_5 : decode cX11_left 5 = .ok (.ifCond .ne 5, 3) := by decide +kernel
theorem dX11_left_8 : decode cX11_left 8 = .ok (.iconst (-1), 1) := by decide +kernel
theorem dX11_left_9 : decode cX11_left 9 = .ok (.ireturn, 1) := by decide +kernel
theorem dX11_left_10 : decode cX11_left 10 = .ok (.aload_n 0, 1) := by decide +kernel
theorem dX11_left_11 : decode cX11_left 11 = .ok (.getfield 56, 3) := by decide +kernel
theorem dX11_left_14 : decode cX11_left 14 = .ok (.iload_n 1, 1) := by decide +kernel
theorem dX11_left_15 : decode cX11_left 15 = .ok (.iconst 1, 1) := by decide +kernel
theorem dX11_left_16 : decode cX11_left 16 = .ok (.invokevirtual 216, 3) := by decide +kernel
theorem dX11_left_19 : decode cX11_left 19 = .ok (.aload_n 0, 1) := by decide +kernel
theorem dX11_left_20 : decode cX11_left 20 = .ok (.getfield 19, 3) := by decide +kernel
theorem dX11_left_23 : decode cX11_left 23 = .ok (.invokevirtual 232, 3) := by decide +kernel
theorem dX11_left_26 : decode cX11_left 26 = .ok (.istore_n 2, 1) := by decide +kernel
theorem dX11_left_27 : decode cX11_left 27 = .ok (.iconst 0, 1) := by decide +kernel
theorem dX11_left_28 : decode cX11_left 28 = .ok (.istore_n 3, 1) := by decide +kernel
theorem dX11_left_29 : decode cX11_left 29 = .ok (.iload_n 3, 1) := by decide +kernel
theorem dX11_left_30 : decode cX11_left 30 = .ok (.bipush 6, 2) := by decide +kernel
theorem dX11_left_32 : decode cX11_left 32 = .ok (.if_icmp .ge 19, 3) := by decide +kernel
theorem dX11_left_35 : decode cX11_left 35 = .ok (.iload_n 2, 1) := by decide +kernel
theorem dX11_left_36 : decode cX11_left 36 = .ok (.aload_n 0, 1) := by decide +kernel
theorem dX11_left_37 : decode cX11_left 37 = .ok (.iload_n 2, 1) := by decide +kernel
theorem dX11_left_38 : decode cX11_left 38 = .ok (.invokevirtual 276, 3) := by decide +kernel
theorem dX11_left_41 : decode cX11_left 41 = .ok (.iconst (-1), 1) := by decide +kernel
theorem dX11_left_42 : decode cX11_left 42 = .ok (.ixor, 1) := by decide +kernel
theorem dX11_left_43 : decode cX11_left 43 = .ok (.iand, 1) := by decide +kernel
theorem dX11_left_44 : decode cX11_left 44 = .ok (.istore_n 2, 1) := by decide +kernel
theorem dX11_left_45 : decode cX11_left 45 = .ok (.iinc 3 1, 3) := by decide +kernel
theorem dX11_left_48 : decode cX11_left 48 = .ok (.goto (-19), 3) := by decide +kernel
theorem dX11_left_51 : decode cX11_left 51 = .ok (.iload_n 2, 1) := by decide +kernel
theorem dX11_left_52 : decode cX11_left 52 = .ok (.ireturn, 1) := by decide +kernel
theorem dX11_walkersOf_0 : decode cX11_walkersOf 0 = .ok (.iconst 0, 1) := by decide +kernel
theorem dX11_walkersOf_1 : decode cX11_walkersOf 1 = .ok (.istore_n 2, 1) := by decide +kernel
theorem dX11_walkersOf_2 : decode cX11_walkersOf 2 = .ok (.iconst 0, 1) := by decide +kernel
theorem dX11_walkersOf_3 : decode cX11_walkersOf 3 = .ok (.istore_n 3, 1) := by decide +kernel
theorem dX11_walkersOf_4 : decode cX11_walkersOf 4 = .ok (.iload_n 3, 1) := by decide +kernel
theorem dX11_walkersOf_5 : decode cX11_walkersOf 5 = .ok (.aload_n 0, 1) := by decide +kernel
theorem dX11_walkersOf_6 : decode cX11_walkersOf 6 = .ok (.getfield 19, 3) := by decide +kernel
theorem dX11_walkersOf_9 : decode cX11_walkersOf 9 = .ok (.getfield 143, 3) := by decide +kernel
theorem dX11_walkersOf_12 : decode cX11_walkersOf 12 = .ok (.if_icmp .ge 55, 3) := by decide +kernel
theorem dX11_walkersOf_15 : decode cX11_walkersOf 15 = .ok (.iload_n 3, 1) := by decide +kernel
theorem dX11_walkersOf_16 : decode cX11_walkersOf 16 = .ok (.iload_n 1, 1) := by decide +kernel
theorem dX11_walkersOf_17 : decode cX11_walkersOf 17 = .ok (.invokestatic 202, 3) := by decide +kernel
theorem dX11_walkersOf_20 : decode cX11_walkersOf 20 = .ok (.ifCond .eq 41, 3) := by decide +kernel
theorem dX11_walkersOf_23 : decode cX11_walkersOf 23 = .ok (.aload_n 0, 1) := by decide +kernel
theorem dX11_walkersOf_24 : decode cX11_walkersOf 24 = .ok (.getfield 56, 3) := by decide +kernel
theorem dX11_walkersOf_27 : decode cX11_walkersOf 27 = .ok (.iload_n 3, 1) := by decide +kernel
theorem dX11_walkersOf_28 : decode cX11_walkersOf 28 = .ok (.iload_n 1, 1) := by decide +kernel
theorem dX11_walkersOf_29 : decode cX11_walkersOf 29 = .ok (.invokevirtual 220, 3) := by decide +kernel
theorem dX11_walkersOf_32 : decode cX11_walkersOf 32 = .ok (.aload_n 0, 1) := by decide +kernel
theorem dX11_walkersOf_33 : decode cX11_walkersOf 33 = .ok (.getfield 19, 3) := by decide +kernel
theorem dX11_walkersOf_36 : decode cX11_walkersOf 36 = .ok (.getfield 168, 3) := by decide +kernel
theorem dX11_walkersOf_39 : decode cX11_walkersOf 39 = .ok (.iload_n 3, 1) := by decide +kernel
theorem dX11_walkersOf_40 : decode cX11_walkersOf 40 = .ok (.iaload, 1) := by decide +kernel
theorem dX11_walkersOf_41 : decode cX11_walkersOf 41 = .ok (.i2l, 1) := by decide +kernel
theorem dX11_walkersOf_42 : decode cX11_walkersOf 42 = .ok (.aload_n 0, 1) := by decide +kernel
theorem dX11_walkersOf_43 : decode cX11_walkersOf 43 = .ok (.getfield 56, 3) := by decide +kernel
theorem dX11_walkersOf_46 : decode cX11_walkersOf 46 = .ok (.iload_n 1, 1) := by decide +kernel
theorem dX11_walkersOf_47 : decode cX11_walkersOf 47 = .ok (.invokevirtual 224, 3) := by decide +kernel
theorem dX11_walkersOf_50 : decode cX11_walkersOf 50 = .ok (.lmul, 1) := by decide +kernel
theorem dX11_walkersOf_51 : decode cX11_walkersOf 51 = .ok (.lcmp, 1) := by decide +kernel
theorem dX11_walkersOf_52 : decode cX11_walkersOf 52 = .ok (.ifCond .le 9, 3) := by decide +kernel
theorem dX11_walkersOf_55 : decode cX11_walkersOf 55 = .ok (.iload_n 2, 1) := by decide +kernel
theorem dX11_walkersOf_56 : decode cX11_walkersOf 56 = .ok (.iconst 1, 1) := by decide +kernel
theorem dX11_walkersOf_57 : decode cX11_walkersOf 57 = .ok (.iload_n 3, 1) := by decide +kernel
theorem dX11_walkersOf_58 : decode cX11_walkersOf 58 = .ok (.ishl, 1) := by decide +kernel
theorem dX11_walkersOf_59 : decode cX11_walkersOf 59 = .ok (.ior, 1) := by decide +kernel
theorem dX11_walkersOf_60 : decode cX11_walkersOf 60 = .ok (.istore_n 2, 1) := by decide +kernel
theorem dX11_walkersOf_61 : decode cX11_walkersOf 61 = .ok (.iinc 3 1, 3) := by decide +kernel
theorem dX11_walkersOf_64 : decode cX11_walkersOf 64 = .ok (.goto (-60), 3) := by decide +kernel
theorem dX11_walkersOf_67 : decode cX11_walkersOf 67 = .ok (.iload_n 2, 1) := by decide +kernel
theorem dX11_walkersOf_68 : decode cX11_walkersOf 68 = .ok (.ireturn, 1) := by decide +kernel
theorem dX11_lie_0 : decode cX11_lie 0 = .ok (.aload_n 0, 1) := by decide +kernel
theorem dX11_lie_1 : decode cX11_lie 1 = .ok (.iload_n 1, 1) := by decide +kernel
theorem dX11_lie_2 : decode cX11_lie 2 = .ok (.invokevirtual 154, 3) := by decide +kernel
theorem dX11_lie_5 : decode cX11_lie 5 = .ok (.ifCond .eq 20, 3) := by decide +kernel
theorem dX11_lie_8 : decode cX11_lie 8 = .ok (.aload_n 0, 1) := by decide +kernel
theorem dX11_lie_9 : decode cX11_lie 9 = .ok (.iload_n 2, 1) := by decide +kernel
theorem dX11_lie_10 : decode cX11_lie 10 = .ok (.invokevirtual 206, 3) := by decide +kernel
theorem dX11_lie_13 : decode cX11_lie 13 = .ok (.ifCond .eq 12, 3) := by decide +kernel
theorem dX11_lie_16 : decode cX11_lie 16 = .ok (.iload_n 3, 1) := by decide +kernel
theorem dX11_lie_17 : decode cX11_lie 17 = .ok (.iconst 0, 1) := by decide +kernel
theorem dX11_lie_18 : decode cX11_lie 18 = .ok (.iconst 2, 1) := by decide +kernel
theorem dX11_lie_19 : decode cX11_lie 19 = .ok (.invokestatic 158, 3) := by decide +kernel
theorem dX11_lie_22 : decode cX11_lie 22 = .ok (.ifCond .ne 7, 3) := by decide +kernel
theorem dX11_lie_25 : decode cX11_lie 25 = .ok (.ldc2_w 209, 3) := by decide +kernel
theorem dX11_lie_28 : decode cX11_lie 28 = .ok (.lreturn, 1) := by decide +kernel
theorem dX11_lie_29 : decode cX11_lie 29 = .ok (.aload_n 0, 1) := by decide +kernel
theorem dX11_lie_30 : decode cX11_lie 30 = .ok (.getfield 81, 3) := by decide +kernel
theorem dX11_lie_33 : decode cX11_lie 33 = .ok (.iload_n 1, 1) := by decide +kernel
theorem dX11_lie_34 : decode cX11_lie 34 = .ok (.iload_n 2, 1) := by decide +kernel
theorem dX11_lie_35 : decode cX11_lie 35 = .ok (.aload_n 0, 1) := by decide +kernel
theorem dX11_lie_36 : decode cX11_lie 36 = .ok (.getfield 109, 3) := by decide +kernel
theorem dX11_lie_39 : decode cX11_lie 39 = .ok (.invokevirtual 279, 3) := by decide +kernel
theorem dX11_lie_42 : decode cX11_lie 42 = .ok (.iload_n 3, 1) := by decide +kernel
theorem dX11_lie_43 : decode cX11_lie 43 = .ok (.ifCond .ne 14, 3) := by decide +kernel
theorem dX11_lie_46 : decode cX11_lie 46 = .ok (.aload_n 0, 1) := by decide +kernel
theorem dX11_lie_47 : decode cX11_lie 47 = .ok (.getfield 81, 3) := by decide +kernel
theorem dX11_lie_50 : decode cX11_lie 50 = .ok (.getfield 282, 3) := by decide +kernel
theorem dX11_lie_53 : decode cX11_lie 53 = .ok (.i2l, 1) := by decide +kernel
theorem dX11_lie_54 : decode cX11_lie 54 = .ok (.goto 30, 3) := by decide +kernel
theorem dX11_lie_57 : decode cX11_lie 57 = .ok (.aload_n 0, 1) := by decide +kernel
theorem dX11_lie_58 : decode cX11_lie 58 = .ok (.getfield 81, 3) := by decide +kernel
theorem dX11_lie_61 : decode cX11_lie 61 = .ok (.invokevirtual 285, 3) := by decide +kernel
theorem dX11_lie_64 : decode cX11_lie 64 = .ok (.aload_n 0, 1) := by decide +kernel
theorem dX11_lie_65 : decode cX11_lie 65 = .ok (.getfield 81, 3) := by decide +kernel
theorem dX11_lie_68 : decode cX11_lie 68 = .ok (.invokevirtual 289, 3) := by decide +kernel
theorem dX11_lie_71 : decode cX11_lie 71 = .ok (.iload_n 3, 1) := by decide +kernel
theorem dX11_lie_72 : decode cX11_lie 72 = .ok (.iconst 1, 1) := by decide +kernel
theorem dX11_lie_73 : decode cX11_lie 73 = .ok (.if_icmp .ne 7, 3) := by decide +kernel
theorem dX11_lie_76 : decode cX11_lie 76 = .ok (.iconst 1, 1) := by decide +kernel
theorem dX11_lie_77 : decode cX11_lie 77 = .ok (.goto 4, 3) := by decide +kernel
theorem dX11_lie_80 : decode cX11_lie 80 = .ok (.iconst 0, 1) := by decide +kernel
theorem dX11_lie_81 : decode cX11_lie 81 = .ok (.invokestatic 228, 3) := by decide +kernel
theorem dX11_lie_84 : decode cX11_lie 84 = .ok (.lreturn, 1) := by decide +kernel
theorem dX11_bridge_0 : decode cX11_bridge 0 = .ok (.aload_n 0, 1) := by decide +kernel
theorem dX11_bridge_1 : decode cX11_bridge 1 = .ok (.invokevirtual 251, 3) := by decide +kernel
theorem dX11_bridge_4 : decode cX11_bridge 4 = .ok (.ifCond .ne 12, 3) := by decide +kernel
theorem dX11_bridge_7 : decode cX11_bridge 7 = .ok (.iload_n 1, 1) := by decide +kernel
theorem dX11_bridge_8 : decode cX11_bridge 8 = .ok (.iconst 0, 1) := by decide +kernel
theorem dX11_bridge_9 : decode cX11_bridge 9 = .ok (.iconst 1, 1) := by decide +kernel
theorem dX11_bridge_10 : decode cX11_bridge 10 = .ok (.invokestatic 158, 3) := by decide +kernel
theorem dX11_bridge_13 : decode cX11_bridge 13 = .ok (.ifCond .ne 5, 3) := by decide +kernel
theorem dX11_bridge_16 : decode cX11_bridge 16 = .ok (.iconst (-1), 1) := by decide +kernel
theorem dX11_bridge_17 : decode cX11_bridge 17 = .ok (.ireturn, 1) := by decide +kernel
theorem dX11_bridge_18 : decode cX11_bridge 18 = .ok (.iconst 1, 1) := by decide +kernel
theorem dX11_bridge_19 : decode cX11_bridge 19 = .ok (.istore_n 2, 1) := by decide +kernel
theorem dX11_bridge_20 : decode cX11_bridge 20 = .ok (.aload_n 0, 1) := by decide +kernel
theorem dX11_bridge_21 : decode cX11_bridge 21 = .ok (.iconst 1, 1) := by decide +kernel
theorem dX11_bridge_22 : decode cX11_bridge 22 = .ok (.invokevirtual 292, 3) := by decide +kernel
theorem dX11_bridge_25 : decode cX11_bridge 25 = .ok (.istore_n 3, 1) := by decide +kernel
theorem dX11_bridge_26 : decode cX11_bridge 26 = .ok (.iconst 2, 1) := by decide +kernel
theorem dX11_bridge_27 : decode cX11_bridge 27 = .ok (.istore 4, 2) := by decide +kernel
theorem dX11_bridge_29 : decode cX11_bridge 29 = .ok (.iload 4, 2) := by decide +kernel
theorem dX11_bridge_31 : decode cX11_bridge 31 = .ok (.aload_n 0, 1) := by decide +kernel
theorem dX11_bridge_32 : decode cX11_bridge 32 = .ok (.getfield 19, 3) := by decide +kernel
theorem dX11_bridge_35 : decode cX11_bridge 35 = .ok (.getfield 295, 3) := by decide +kernel
theorem dX11_bridge_38 : decode cX11_bridge 38 = .ok (.if_icmp .gt 29, 3) := by decide +kernel
theorem dX11_bridge_41 : decode cX11_bridge 41 = .ok (.aload_n 0, 1) := by decide +kernel
theorem dX11_bridge_42 : decode cX11_bridge 42 = .ok (.iload 4, 2) := by decide +kernel
theorem dX11_bridge_44 : decode cX11_bridge 44 = .ok (.invokevirtual 292, 3) := by decide +kernel
theorem dX11_bridge_47 : decode cX11_bridge 47 = .ok (.istore 5, 2) := by decide +kernel
theorem dX11_bridge_49 : decode cX11_bridge 49 = .ok (.iload 5, 2) := by decide +kernel
theorem dX11_bridge_51 : decode cX11_bridge 51 = .ok (.iload_n 3, 1) := by decide +kernel
theorem dX11_bridge_52 : decode cX11_bridge 52 = .ok (.if_icmp .ge 9, 3) := by decide +kernel
theorem dX11_bridge_55 : decode cX11_bridge 55 = .ok (.iload 4, 2) := by decide +kernel
theorem dX11_bridge_57 : decode cX11_bridge 57 = .ok (.istore_n 2, 1) := by decide +kernel
theorem dX11_bridge_58 : decode cX11_bridge 58 = .ok (.iload 5, 2) := by decide +kernel
theorem dX11_bridge_60 : decode cX11_bridge 60 = .ok (.istore_n 3, 1) := by decide +kernel
theorem dX11_bridge_61 : decode cX11_bridge 61 = .ok (.iinc 4 1, 3) := by decide +kernel
theorem dX11_bridge_64 : decode cX11_bridge 64 = .ok (.goto (-35), 3) := by decide +kernel
theorem dX11_bridge_67 : decode cX11_bridge 67 = .ok (.iload_n 1, 1) := by decide +kernel
theorem dX11_bridge_68 : decode cX11_bridge 68 = .ok (.ifCond .ne 7, 3) := by decide +kernel
theorem dX11_bridge_71 : decode cX11_bridge 71 = .ok (.iload_n 2, 1) := by decide +kernel
theorem dX11_bridge_72 : decode cX11_bridge 72 = .ok (.goto 4, 3) := by decide +kernel
theorem dX11_bridge_75 : decode cX11_bridge 75 = .ok (.iload_n 3, 1) := by decide +kernel
theorem dX11_bridge_76 : decode cX11_bridge 76 = .ok (.ireturn, 1) := by decide +kernel
theorem dX11_costIfBridged_0 : decode cX11_costIfBridged 0 = .ok (.aload_n 0, 1) := by decide +kernel
theorem dX11_costIfBridged_1 : decode cX11_costIfBridged 1 = .ok (.getfield 19, 3) := by decide +kernel
theorem dX11_costIfBridged_4 : decode cX11_costIfBridged 4 = .ok (.getfield 186, 3) := by decide +kernel
theorem dX11_costIfBridged_7 : decode cX11_costIfBridged 7 = .ok (.iload_n 1, 1) := by decide +kernel
theorem dX11_costIfBridged_8 : decode cX11_costIfBridged 8 = .ok (.iaload, 1) := by decide +kernel
theorem dX11_costIfBridged_9 : decode cX11_costIfBridged 9 = .ok (.istore_n 2, 1) := by decide +kernel
theorem dX11_costIfBridged_10 : decode cX11_costIfBridged 10 = .ok (.aload_n 0, 1) := by decide +kernel
theorem dX11_costIfBridged_11 : decode cX11_costIfBridged 11 = .ok (.getfield 19, 3) := by decide +kernel
theorem dX11_costIfBridged_14 : decode cX11_costIfBridged 14 = .ok (.getfield 186, 3) := by decide +kernel
theorem dX11_costIfBridged_17 : decode cX11_costIfBridged 17 = .ok (.iload_n 1, 1) := by decide +kernel
theorem dX11_costIfBridged_18 : decode cX11_costIfBridged 18 = .ok (.iconst 1, 1) := by decide +kernel
theorem dX11_costIfBridged_19 : decode cX11_costIfBridged 19 = .ok (.iastore, 1) := by decide +kernel
theorem dX11_costIfBridged_20 : decode cX11_costIfBridged 20 = .ok (.aload_n 0, 1) := by decide +kernel
theorem dX11_costIfBridged_21 : decode cX11_costIfBridged 21 = .ok (.getfield 19, 3) := by decide +kernel
theorem dX11_costIfBridged_24 : decode cX11_costIfBridged 24 = .ok (.aload_n 0, 1) := by decide +kernel
theorem dX11_costIfBridged_25 : decode cX11_costIfBridged 25 = .ok (.getfield 19, 3) := by decide +kernel
theorem dX11_costIfBridged_28 : decode cX11_costIfBridged 28 = .ok (.invokevirtual 232, 3) := by decide +kernel
theorem dX11_costIfBridged_31 : decode cX11_costIfBridged 31 = .ok (.invokevirtual 177, 3) := by decide +kernel
theorem dX11_costIfBridged_34 : decode cX11_costIfBridged 34 = .ok (.istore_n 3, 1) := by decide +kernel
theorem dX11_costIfBridged_35 : decode cX11_costIfBridged 35 = .ok (.aload_n 0, 1) := by decide +kernel
theorem dX11_costIfBridged_36 : decode cX11_costIfBridged 36 = .ok (.getfield 19, 3) := by decide +kernel
theorem dX11_costIfBridged_39 : decode cX11_costIfBridged 39 = .ok (.getfield 186, 3) := by decide +kernel
theorem dX11_costIfBridged_42 : decode cX11_costIfBridged 42 = .ok (.iload_n 1, 1) := by decide +kernel
theorem dX11_costIfBridged_43 : decode cX11_costIfBridged 43 = .ok (.iload_n 2, 1) := by decide +kernel
theorem dX11_costIfBridged_44 : decode cX11_costIfBridged 44 = .ok (.iastore, 1) := by decide +kernel
theorem dX11_costIfBridged_45 : decode cX11_costIfBridged 45 = .ok (.iload_n 3, 1) := by decide +kernel
theorem dX11_costIfBridged_46 : decode cX11_costIfBridged 46 = .ok (.ireturn, 1) := by decide +kernel
theorem dX11_see_0 : decode cX11_see 0 = .ok (.aload_n 0, 1) := by decide +kernel
theorem dX11_see_1 : decode cX11_see 1 = .ok (.iload_n 1, 1) := by decide +kernel
theorem dX11_see_2 : decode cX11_see 2 = .ok (.invokevirtual 154, 3) := by decide +kernel
theorem dX11_see_5 : decode cX11_see 5 = .ok (.ifCond .eq 25, 3) := by decide +kernel
theorem dX11_see_8 : decode cX11_see 8 = .ok (.iload_n 2, 1) := by decide +kernel
theorem dX11_see_9 : decode cX11_see 9 = .ok (.iconst 0, 1) := by decide +kernel
theorem dX11_see_10 : decode cX11_see 10 = .ok (.ldc_w 298, 3) := by decide +kernel
theorem dX11_see_13 : decode cX11_see 13 = .ok (.invokestatic 158, 3) := by decide +kernel
theorem dX11_see_16 : decode cX11_see 16 = .ok (.ifCond .eq 14, 3) := by decide +kernel
theorem dX11_see_19 : decode cX11_see 19 = .ok (.iload_n 3, 1) := by decide +kernel
theorem dX11_see_20 : decode cX11_see 20 = .ok (.iconst 1, 1) := by decide +kernel
theorem dX11_see_21 : decode cX11_see 21 = .ok (.sipush 999, 3) := by decide +kernel
theorem dX11_see_24 : decode cX11_see 24 = .ok (.invokestatic 158, 3) := by decide +kernel
theorem dX11_see_27 : decode cX11_see 27 = .ok (.ifCond .ne 5, 3) := by decide +kernel
theorem dX11_see_30 : decode cX11_see 30 = .ok (.iconst (-1), 1) := by decide +kernel
theorem dX11_see_31 : decode cX11_see 31 = .ok (.ireturn, 1) := by decide +kernel
theorem dX11_see_32 : decode cX11_see 32 = .ok (.aload_n 0, 1) := by decide +kernel
theorem dX11_see_33 : decode cX11_see 33 = .ok (.getfield 88, 3) := by decide +kernel
theorem dX11_see_36 : decode cX11_see 36 = .ok (.iload_n 1, 1) := by decide +kernel
theorem dX11_see_37 : decode cX11_see 37 = .ok (.iload_n 2, 1) := by decide +kernel
theorem dX11_see_38 : decode cX11_see 38 = .ok (.iload_n 3, 1) := by decide +kernel
theorem dX11_see_39 : decode cX11_see 39 = .ok (.invokevirtual 299, 3) := by decide +kernel
theorem dX11_see_42 : decode cX11_see 42 = .ok (.ifCond .eq 13, 3) := by decide +kernel
theorem dX11_see_45 : decode cX11_see 45 = .ok (.aload_n 0, 1) := by decide +kernel
theorem dX11_see_46 : decode cX11_see 46 = .ok (.getfield 88, 3) := by decide +kernel
theorem dX11_see_49 : decode cX11_see 49 = .ok (.getfield 142, 3) := by decide +kernel
theorem dX11_see_52 : decode cX11_see 52 = .ok (.goto 4, 3) := by decide +kernel
theorem dX11_see_55 : decode cX11_see 55 = .ok (.iconst (-1), 1) := by decide +kernel
theorem dX11_see_56 : decode cX11_see 56 = .ok (.ireturn, 1) := by decide +kernel
theorem dX11_fits_0 : decode cX11_fits 0 = .ok (.aload_n 0, 1) := by decide +kernel
theorem dX11_fits_1 : decode cX11_fits 1 = .ok (.iload_n 1, 1) := by decide +kernel
theorem dX11_fits_2 : decode cX11_fits 2 = .ok (.invokevirtual 154, 3) := by decide +kernel
theorem dX11_fits_5 : decode cX11_fits 5 = .ok (.ifCond .ne 5, 3) := by decide +kernel
theorem dX11_fits_8 : decode cX11_fits 8 = .ok (.iconst (-1), 1) := by decide +kernel
theorem dX11_fits_9 : decode cX11_fits 9 = .ok (.ireturn, 1) := by decide +kernel
theorem dX11_fits_10 : decode cX11_fits 10 = .ok (.aload_n 0, 1) := by decide +kernel
theorem dX11_fits_11 : decode cX11_fits 11 = .ok (.getfield 19, 3) := by decide +kernel
theorem dX11_fits_14 : decode cX11_fits 14 = .ok (.getfield 165, 3) := by decide +kernel
theorem dX11_fits_17 : decode cX11_fits 17 = .ok (.iload_n 1, 1) := by decide +kernel
theorem dX11_fits_18 : decode cX11_fits 18 = .ok (.iaload, 1) := by decide +kernel
theorem dX11_fits_19 : decode cX11_fits 19 = .ok (.istore_n 2, 1) := by decide +kernel
theorem dX11_fits_20 : decode cX11_fits 20 = .ok (.iconst 0, 1) := by decide +kernel
theorem dX11_fits_21 : decode cX11_fits 21 = .ok (.istore_n 3, 1) := by decide +kernel
theorem dX11_fits_22 : decode cX11_fits 22 = .ok (.iconst 1, 1) := by decide +kernel
theorem dX11_fits_23 : decode cX11_fits 23 = .ok (.istore 4, 2) := by decide +kernel
theorem dX11_fits_25 : decode cX11_fits 25 = .ok (.iload 4, 2) := by decide +kernel
theorem dX11_fits_27 : decode cX11_fits 27 = .ok (.aload_n 0, 1) := by decide +kernel
theorem dX11_fits_28 : decode cX11_fits 28 = .ok (.getfield 19, 3) := by decide +kernel
theorem dX11_fits_31 : decode cX11_fits 31 = .ok (.getfield 295, 3) := by decide +kernel
theorem dX11_fits_34 : decode cX11_fits 34 = .ok (.if_icmp .gt 37, 3) := by decide +kernel
theorem dX11_fits_37 : decode cX11_fits 37 = .ok (.aload_n 0, 1) := by decide +kernel
theorem dX11_fits_38 : decode cX11_fits 38 = .ok (.getfield 19, 3) := by decide +kernel
theorem dX11_fits_41 : decode cX11_fits 41 = .ok (.getfield 165, 3) := by decide +kernel
theorem dX11_fits_44 : decode cX11_fits 44 = .ok (.iload_n 1, 1) := by decide +kernel
theorem dX11_fits_45 : decode cX11_fits 45 = .ok (.iload 4, 2) := by decide +kernel
theorem dX11_fits_47 : decode cX11_fits 47 = .ok (.iastore, 1) := by decide +kernel
theorem dX11_fits_48 : decode cX11_fits 48 = .ok (.aload_n 0, 1) := by decide +kernel
theorem dX11_fits_49 : decode cX11_fits 49 = .ok (.getfield 88, 3) := by decide +kernel
theorem dX11_fits_52 : decode cX11_fits 52 = .ok (.invokevirtual 301, 3) := by decide +kernel
theorem dX11_fits_55 : decode cX11_fits 55 = .ok (.ifCond .eq 10, 3) := by decide +kernel
theorem dX11_fits_58 : decode cX11_fits 58 = .ok (.iload_n 3, 1) := by decide +kernel
theorem dX11_fits_59 : decode cX11_fits 59 = .ok (.iconst 1, 1) := by decide +kernel
theorem dX11_fits_60 : decode cX11_fits 60 = .ok (.iload 4, 2) := by decide +kernel
theorem dX11_fits_62 : decode cX11_fits 62 = .ok (.ishl, 1) := by decide +kernel
theorem dX11_fits_63 : decode cX11_fits 63 = .ok (.ior, 1) := by decide +kernel
theorem dX11_fits_64 : decode cX11_fits 64 = .ok (.istore_n 3, 1) := by decide +kernel
theorem dX11_fits_65 : decode cX11_fits 65 = .ok (.iinc 4 1, 3) := by decide +kernel
theorem dX11_fits_68 : decode cX11_fits 68 = .ok (.goto (-43), 3) := by decide +kernel
theorem dX11_fits_71 : decode cX11_fits 71 = .ok (.aload_n 0, 1) := by decide +kernel
theorem dX11_fits_72 : decode cX11_fits 72 = .ok (.getfield 19, 3) := by decide +kernel
theorem dX11_fits_75 : decode cX11_fits 75 = .ok (.getfield 165, 3) := by decide +kernel
theorem dX11_fits_78 : decode cX11_fits 78 = .ok (.iload_n 1, 1) := by decide +kernel
theorem dX11_fits_79 : decode cX11_fits 79 = .ok (.iload_n 2, 1) := by decide +kernel
theorem dX11_fits_80 : decode cX11_fits 80 = .ok (.iastore, 1) := by decide +kernel
theorem dX11_fits_81 : decode cX11_fits 81 = .ok (.iload_n 3, 1) := by decide +kernel
theorem dX11_fits_82 : decode cX11_fits 82 = .ok (.ireturn, 1) := by decide +kernel
theorem dX11_night_0 : decode cX11_night 0 = .ok (.aload_n 0, 1) := by decide +kernel
theorem dX11_night_1 : decode cX11_night 1 = .ok (.iload_n 1, 1) := by decide +kernel
theorem dX11_night_2 : decode cX11_night 2 = .ok (.invokevirtual 196, 3) := by decide +kernel
theorem dX11_night_5 : decode cX11_night 5 = .ok (.ifCond .eq 15, 3) := by decide +kernel
theorem dX11_night_8 : decode cX11_night 8 = .ok (.iload_n 1, 1) := by decide +kernel
theorem dX11_night_9 : decode cX11_night 9 = .ok (.ifCond .eq 11, 3) := by decide +kernel
theorem dX11_night_12 : decode cX11_night 12 = .ok (.aload_n 0, 1) := by decide +kernel
theorem dX11_night_13 : decode cX11_night 13 = .ok (.iload_n 2, 1) := by decide +kernel
theorem dX11_night_14 : decode cX11_night 14 = .ok (.invokevirtual 206, 3) := by decide +kernel
theorem dX11_night_17 : decode cX11_night 17 = .ok (.ifCond .ne 5, 3) := by decide +kernel
theorem dX11_night_20 : decode cX11_night 20 = .ok (.iconst (-1), 1) := by decide +kernel
theorem dX11_night_21 : decode cX11_night 21 = .ok (.ireturn, 1) := by decide +kernel
theorem dX11_night_22 : decode cX11_night 22 = .ok (.aload_n 0, 1) := by decide +kernel
theorem dX11_night_23 : decode cX11_night 23 = .ok (.getfield 56, 3) := by decide +kernel
theorem dX11_night_26 : decode cX11_night 26 = .ok (.iload_n 2, 1) := by decide +kernel
theorem dX11_night_27 : decode cX11_night 27 = .ok (.iload_n 1, 1) := by decide +kernel
theorem dX11_night_28 : decode cX11_night 28 = .ok (.invokestatic 211, 3) := by decide +kernel
theorem dX11_night_31 : decode cX11_night 31 = .ok (.invokevirtual 216, 3) := by decide +kernel
theorem dX11_night_34 : decode cX11_night 34 = .ok (.aload_n 0, 1) := by decide +kernel
theorem dX11_night_35 : decode cX11_night 35 = .ok (.getfield 95, 3) := by decide +kernel
theorem dX11_night_38 : decode cX11_night 38 = .ok (.aload_n 0, 1) := by decide +kernel
theorem dX11_night_39 : decode cX11_night 39 = .ok (.getfield 56, 3) := by decide +kernel
theorem dX11_night_42 : decode cX11_night 42 = .ok (.iload_n 1, 1) := by decide +kernel
theorem dX11_night_43 : decode cX11_night 43 = .ok (.invokevirtual 304, 3) := by decide +kernel
theorem dX11_night_46 : decode cX11_night 46 = .ok (.aload_n 0, 1) := by decide +kernel
theorem dX11_night_47 : decode cX11_night 47 = .ok (.getfield 95, 3) := by decide +kernel
theorem dX11_night_50 : decode cX11_night 50 = .ok (.getfield 308, 3) := by decide +kernel
theorem dX11_night_53 : decode cX11_night 53 = .ok (.ireturn, 1) := by decide +kernel
theorem dX11_drawn_0 : decode cX11_drawn 0 = .ok (.aload_n 0, 1) := by decide +kernel
theorem dX11_drawn_1 : decode cX11_drawn 1 = .ok (.iload_n 2, 1) := by decide +kernel
theorem dX11_drawn_2 : decode cX11_drawn 2 = .ok (.invokevirtual 206, 3) := by decide +kernel
theorem dX11_drawn_5 : decode cX11_drawn 5 = .ok (.ifCond .eq 13, 3) := by decide +kernel
theorem dX11_drawn_8 : decode cX11_drawn 8 = .ok (.iload_n 1, 1) := by decide +kernel
theorem dX11_drawn_9 : decode cX11_drawn 9 = .ok (.iconst 1, 1) := by decide +kernel
theorem dX11_drawn_10 : decode cX11_drawn 10 = .ok (.bipush 40, 2) := by decide +kernel
theorem dX11_drawn_12 : decode cX11_drawn 12 = .ok (.invokestatic 158, 3) := by decide +kernel
theorem dX11_drawn_15 : decode cX11_drawn 15 = .ok (.ifCond .ne 5, 3) := by decide +kernel
theorem dX11_drawn_18 : decode cX11_drawn 18 = .ok (.iconst (-1), 1) := by decide +kernel
theorem dX11_drawn_19 : decode cX11_drawn 19 = .ok (.ireturn, 1) := by decide +kernel
theorem dX11_drawn_20 : decode cX11_drawn 20 = .ok (.aload_n 0, 1) := by decide +kernel
theorem dX11_drawn_21 : decode cX11_drawn 21 = .ok (.getfield 56, 3) := by decide +kernel
theorem dX11_drawn_24 : decode cX11_drawn 24 = .ok (.iload_n 2, 1) := by decide +kernel
theorem dX11_drawn_25 : decode cX11_drawn 25 = .ok (.iconst 1, 1) := by decide +kernel
theorem dX11_drawn_26 : decode cX11_drawn 26 = .ok (.invokevirtual 216, 3) := by decide +kernel
theorem dX11_drawn_29 : decode cX11_drawn 29 = .ok (.lload_n 3, 1) := by decide +kernel
theorem dX11_drawn_30 : decode cX11_drawn 30 = .ok (.lstore 5, 2) := by decide +kernel
theorem dX11_drawn_32 : decode cX11_drawn 32 = .ok (.iconst 0, 1) := by decide +kernel
theorem dX11_drawn_33 : decode cX11_drawn 33 = .ok (.istore 7, 2) := by decide +kernel
theorem dX11_drawn_35 : decode cX11_drawn 35 = .ok (.iload 7, 2) := by decide +kernel
theorem dX11_drawn_37 : decode cX11_drawn 37 = .ok (.iload_n 1, 1) := by decide +kernel
theorem dX11_drawn_38 : decode cX11_drawn 38 = .ok (.if_icmp .ge 76, 3) := by decide +kernel
theorem dX11_drawn_41 : decode cX11_drawn 41 = .ok (.iconst 0, 1) := by decide +kernel
theorem dX11_drawn_42 : decode cX11_drawn 42 = .ok (.istore 8, 2) := by decide +kernel
theorem dX11_drawn_44 : decode cX11_drawn 44 = .ok (.iconst 0, 1) := by decide +kernel
theorem dX11_drawn_45 : decode cX11_drawn 45 = .ok (.istore 9, 2) := by decide +kernel
theorem dX11_drawn_47 : decode cX11_drawn 47 = .ok (.iload 9, 2) := by decide +kernel
theorem dX11_drawn_49 : decode cX11_drawn 49 = .ok (.aload_n 0, 1) := by decide +kernel
theorem dX11_drawn_50 : decode cX11_drawn 50 = .ok (.getfield 19, 3) := by decide +kernel
theorem dX11_drawn_53 : decode cX11_drawn 53 = .ok (.getfield 143, 3) := by decide +kernel
theorem dX11_drawn_56 : decode cX11_drawn 56 = .ok (.if_icmp .ge 39, 3) := by decide +kernel
theorem dX11_drawn_59 : decode cX11_drawn 59 = .ok (.lload 5, 2) := by decide +kernel
theorem dX11_drawn_61 : decode cX11_drawn 61 = .ok (.ldc2_w 311, 3) := by decide +kernel
theorem dX11_drawn_64 : decode cX11_drawn 64 = .ok (.lmul, 1) := by decide +kernel
theorem dX11_drawn_65 : decode cX11_drawn 65 = .ok (.ldc2_w 313, 3) := by decide +kernel
theorem dX11_drawn_68 : decode cX11_drawn 68 = .ok (.ladd, 1) := by decide +kernel
theorem dX11_drawn_69 : decode cX11_drawn 69 = .ok (.lstore 5, 2) := by decide +kernel
theorem dX11_drawn_71 : decode cX11_drawn 71 = .ok (.iload 8, 2) := by decide +kernel
theorem dX11_drawn_73 : decode cX11_drawn 73 = .ok (.lload 5, 2) := by decide +kernel
theorem dX11_drawn_75 : decode cX11_drawn 75 = .ok (.bipush 33, 2) := by decide +kernel
theorem dX11_drawn_77 : decode cX11_drawn 77 = .ok (.lushr, 1) := by decide +kernel
theorem dX11_drawn_78 : decode cX11_drawn 78 = .ok (.ldc2_w 315, 3) := by decide +kernel
theorem dX11_drawn_81 : decode cX11_drawn 81 = .ok (.lrem, 1) := by decide +kernel
theorem dX11_drawn_82 : decode cX11_drawn 82 = .ok (.l2i, 1) := by decide +kernel
theorem dX11_drawn_83 : decode cX11_drawn 83 = .ok (.iload 9, 2) := by decide +kernel
theorem dX11_drawn_85 : decode cX11_drawn 85 = .ok (.ishl, 1) := by decide +kernel
theorem dX11_drawn_86 : decode cX11_drawn 86 = .ok (.ior, 1) := by decide +kernel
theorem dX11_drawn_87 : decode cX11_drawn 87 = .ok (.istore 8, 2) := by decide +kernel
theorem dX11_drawn_89 : decode cX11_drawn 89 = .ok (.iinc 9 1, 3) := by decide +kernel
theorem dX11_drawn_92 : decode cX11_drawn 92 = .ok (.goto (-45), 3) := by decide +kernel
theorem dX11_drawn_95 : decode cX11_drawn 95 = .ok (.aload_n 0, 1) := by decide +kernel
theorem dX11_drawn_96 : decode cX11_drawn 96 = .ok (.getfield 95, 3) := by decide +kernel
theorem dX11_drawn_99 : decode cX11_drawn 99 = .ok (.aload_n 0, 1) := by decide +kernel
theorem dX11_drawn_100 : decode cX11_drawn 100 = .ok (.getfield 56, 3) := by decide +kernel
theorem dX11_drawn_103 : decode cX11_drawn 103 = .ok (.iload 8, 2) := by decide +kernel
theorem dX11_drawn_105 : decode cX11_drawn 105 = .ok (.invokevirtual 304, 3) := by decide +kernel
theorem dX11_drawn_108 : decode cX11_drawn 108 = .ok (.iinc 7 1, 3) := by decide +kernel
theorem dX11_drawn_111 : decode cX11_drawn 111 = .ok (.goto (-76), 3) := by decide +kernel
theorem dX11_drawn_114 : decode cX11_drawn 114 = .ok (.aload_n 0, 1) := by decide +kernel
theorem dX11_drawn_115 : decode cX11_drawn 115 = .ok (.getfield 95, 3) := by decide +kernel
theorem dX11_drawn_118 : decode cX11_drawn 118 = .ok (.getfield 308, 3) := by decide +kernel
theorem dX11_drawn_121 : decode cX11_drawn 121 = .ok (.ireturn, 1) := by decide +kernel
theorem dX11_paid_0 : decode cX11_paid 0 = .ok (.aload_n 0, 1) := by decide +kernel
theorem dX11_paid_1 : decode cX11_paid 1 = .ok (.iload_n 1, 1) := by decide +kernel
theorem dX11_paid_2 : decode cX11_paid 2 = .ok (.invokevirtual 154, 3) := by decide +kernel
theorem dX11_paid_5 : decode cX11_paid 5 = .ok (.ifCond .eq 15, 3) := by decide +kernel
theorem dX11_paid_8 : decode cX11_paid 8 = .ok (.aload_n 0, 1) := by decide +kernel
theorem dX11_paid_9 : decode cX11_paid 9 = .ok (.getfield 95, 3) := by decide +kernel
theorem dX11_paid_12 : decode cX11_paid 12 = .ok (.getfield 317, 3) := by decide +kernel
theorem dX11_paid_15 : decode cX11_paid 15 = .ok (.iload_n 1, 1) := by decide +kernel
theorem dX11_paid_16 : decode cX11_paid 16 = .ok (.laload, 1) := by decide +kernel
theorem dX11_paid_17 : decode cX11_paid 17 = .ok (.goto 6, 3) := by decide +kernel
theorem dX11_paid_20 : decode cX11_paid 20 = .ok (.ldc2_w 209, 3) := by decide +kernel
theorem dX11_paid_23 : decode cX11_paid 23 = .ok (.lreturn, 1) := by decide +kernel
theorem dX11_undo_0 : decode cX11_undo 0 = .ok (.aload_n 0, 1) := by decide +kernel
theorem dX11_undo_1 : decode cX11_undo 1 = .ok (.getfield 95, 3) := by decide +kernel
theorem dX11_undo_4 : decode cX11_undo 4 = .ok (.invokevirtual 321, 3) := by decide +kernel
theorem dX11_undo_7 : decode cX11_undo 7 = .ok (.ifCond .eq 13, 3) := by decide +kernel
theorem dX11_undo_10 : decode cX11_undo 10 = .ok (.aload_n 0, 1) := by decide +kernel
theorem dX11_undo_11 : decode cX11_undo 11 = .ok (.getfield 95, 3) := by decide +kernel
theorem dX11_undo_14 : decode cX11_undo 14 = .ok (.getfield 308, 3) := by decide +kernel
theorem dX11_undo_17 : decode cX11_undo 17 = .ok (.goto 4, 3) := by decide +kernel
theorem dX11_undo_20 : decode cX11_undo 20 = .ok (.iconst (-1), 1) := by decide +kernel
theorem dX11_undo_21 : decode cX11_undo 21 = .ok (.ireturn, 1) := by decide +kernel
theorem dX11_image_0 : decode cX11_image 0 = .ok (.aload_n 0, 1) := by decide +kernel
theorem dX11_image_1 : decode cX11_image 1 = .ok (.invokevirtual 251, 3) := by decide +kernel
theorem dX11_image_4 : decode cX11_image 4 = .ok (.ifCond .eq 5, 3) := by decide +kernel
theorem dX11_image_7 : decode cX11_image 7 = .ok (.iconst (-1), 1) := by decide +kernel
theorem dX11_image_8 : decode cX11_image 8 = .ok (.ireturn, 1) := by decide +kernel
theorem dX11_image_9 : decode cX11_image 9 = .ok (.aload_n 0, 1) := by decide +kernel
theorem dX11_image_10 : decode cX11_image 10 = .ok (.getfield 99, 3) := by decide +kernel
theorem dX11_image_13 : decode cX11_image 13 = .ok (.aload_n 0, 1) := by decide +kernel
theorem dX11_image_14 : decode cX11_image 14 = .ok (.getfield 19, 3) := by decide +kernel
theorem dX11_image_17 : decode cX11_image 17 = .ok (.invokevirtual 136, 3) := by decide +kernel
theorem dX11_image_20 : decode cX11_image 20 = .ok (.aload_n 0, 1) := by decide +kernel
theorem dX11_image_21 : decode cX11_image 21 = .ok (.getfield 102, 3) := by decide +kernel
theorem dX11_image_24 : decode cX11_image 24 = .ok (.aload_n 0, 1) := by decide +kernel
theorem dX11_image_25 : decode cX11_image 25 = .ok (.getfield 95, 3) := by decide +kernel
theorem dX11_image_28 : decode cX11_image 28 = .ok (.invokevirtual 324, 3) := by decide +kernel
theorem dX11_image_31 : decode cX11_image 31 = .ok (.aload_n 0, 1) := by decide +kernel
theorem dX11_image_32 : decode cX11_image 32 = .ok (.iconst 1, 1) := by decide +kernel
theorem dX11_image_33 : decode cX11_image 33 = .ok (.putfield 105, 3) := by decide +kernel
theorem dX11_image_36 : decode cX11_image 36 = .ok (.aload_n 0, 1) := by decide +kernel
theorem dX11_image_37 : decode cX11_image 37 = .ok (.getfield 95, 3) := by decide +kernel
theorem dX11_image_40 : decode cX11_image 40 = .ok (.getfield 308, 3) := by decide +kernel
theorem dX11_image_43 : decode cX11_image 43 = .ok (.ireturn, 1) := by decide +kernel
theorem dX11_back_0 : decode cX11_back 0 = .ok (.aload_n 0, 1) := by decide +kernel
theorem dX11_back_1 : decode cX11_back 1 = .ok (.getfield 105, 3) := by decide +kernel
theorem dX11_back_4 : decode cX11_back 4 = .ok (.ifCond .ne 5, 3) := by decide +kernel
theorem dX11_back_7 : decode cX11_back 7 = .ok (.iconst (-1), 1) := by decide +kernel
theorem dX11_back_8 : decode cX11_back 8 = .ok (.ireturn, 1) := by decide +kernel
theorem dX11_back_9 : decode cX11_back 9 = .ok (.aload_n 0, 1) := by decide +kernel
theorem dX11_back_10 : decode cX11_back 10 = .ok (.getfield 19, 3) := by decide +kernel
theorem dX11_back_13 : decode cX11_back 13 = .ok (.aload_n 0, 1) := by decide +kernel
theorem dX11_back_14 : decode cX11_back 14 = .ok (.getfield 99, 3) := by decide +kernel
theorem dX11_back_17 : decode cX11_back 17 = .ok (.invokevirtual 136, 3) := by decide +kernel
theorem dX11_back_20 : decode cX11_back 20 = .ok (.aload_n 0, 1) := by decide +kernel
theorem dX11_back_21 : decode cX11_back 21 = .ok (.getfield 95, 3) := by decide +kernel
theorem dX11_back_24 : decode cX11_back 24 = .ok (.aload_n 0, 1) := by decide +kernel
theorem dX11_back_25 : decode cX11_back 25 = .ok (.getfield 102, 3) := by decide +kernel
theorem dX11_back_28 : decode cX11_back 28 = .ok (.invokevirtual 324, 3) := by decide +kernel
theorem dX11_back_31 : decode cX11_back 31 = .ok (.aload_n 0, 1) := by decide +kernel
theorem dX11_back_32 : decode cX11_back 32 = .ok (.getfield 95, 3) := by decide +kernel
theorem dX11_back_35 : decode cX11_back 35 = .ok (.getfield 308, 3) := by decide +kernel
theorem dX11_back_38 : decode cX11_back 38 = .ok (.ireturn, 1) := by decide +kernel
theorem dX11_count_0 : decode cX11_count 0 = .ok (.iload_n 1, 1) := by decide +kernel
theorem dX11_count_1 : decode cX11_count 1 = .ok (.tableswitch 157 0 10 #[59, 67, 88, 96, 104, 112, 120, 128, 136, 144, 152], 59) := by decide +kernel
theorem dX11_count_60 : decode cX11_count 60 = .ok (.aload_n 0, 1) := by decide +kernel
theorem dX11_count_61 : decode cX11_count 61 = .ok (.getfield 19, 3) := by decide +kernel
theorem dX11_count_64 : decode cX11_count 64 = .ok (.getfield 143, 3) := by decide +kernel
theorem dX11_count_67 : decode cX11_count 67 = .ok (.ireturn, 1) := by decide +kernel
theorem dX11_count_68 : decode cX11_count 68 = .ok (.aload_n 0, 1) := by decide +kernel
theorem dX11_count_69 : decode cX11_count 69 = .ok (.invokevirtual 251, 3) := by decide +kernel
theorem dX11_count_72 : decode cX11_count 72 = .ok (.ifCond .eq 7, 3) := by decide +kernel
theorem dX11_count_75 : decode cX11_count 75 = .ok (.iconst 0, 1) := by decide +kernel
theorem dX11_count_76 : decode cX11_count 76 = .ok (.goto 12, 3) := by decide +kernel
theorem dX11_count_79 : decode cX11_count 79 = .ok (.aload_n 0, 1) := by decide +kernel
theorem dX11_count_80 : decode cX11_count 80 = .ok (.getfield 19, 3) := by decide +kernel
theorem dX11_count_83 : decode cX11_count 83 = .ok (.getfield 295, 3) := by decide +kernel
theorem dX11_count_86 : decode cX11_count 86 = .ok (.iconst 1, 1) := by decide +kernel
theorem dX11_count_87 : decode cX11_count 87 = .ok (.iadd, 1) := by decide +kernel
theorem dX11_count_88 : decode cX11_count 88 = .ok (.ireturn, 1) := by decide +kernel
theorem dX11_count_89 : decode cX11_count 89 = .ok (.aload_n 0, 1) := by decide +kernel
theorem dX11_count_90 : decode cX11_count 90 = .ok (.getfield 47, 3) := by decide +kernel
theorem dX11_count_93 : decode cX11_count 93 = .ok (.getfield 132, 3) := by decide +kernel
theorem dX11_count_96 : decode cX11_count 96 = .ok (.ireturn, 1) := by decide +kernel
theorem dX11_count_97 : decode cX11_count 97 = .ok (.aload_n 0, 1) := by decide +kernel
theorem dX11_count_98 : decode cX11_count 98 = .ok (.getfield 10, 3) := by decide +kernel
theorem dX11_count_101 : decode cX11_count 101 = .ok (.getfield 117, 3) := by decide +kernel
theorem dX11_count_104 : decode cX11_count 104 = .ok (.ireturn, 1) := by decide +kernel
theorem dX11_count_105 : decode cX11_count 105 = .ok (.aload_n 0, 1) := by decide +kernel
theorem dX11_count_106 : decode cX11_count 106 = .ok (.getfield 95, 3) := by decide +kernel
theorem dX11_count_109 : decode cX11_count 109 = .ok (.getfield 308, 3) := by decide +kernel
theorem dX11_count_112 : decode cX11_count 112 = .ok (.ireturn, 1) := by decide +kernel
theorem dX11_count_113 : decode cX11_count 113 = .ok (.aload_n 0, 1) := by decide +kernel
theorem dX11_count_114 : decode cX11_count 114 = .ok (.getfield 95, 3) := by decide +kernel
theorem dX11_count_117 : decode cX11_count 117 = .ok (.getfield 327, 3) := by decide +kernel
theorem dX11_count_120 : decode cX11_count 120 = .ok (.ireturn, 1) := by decide +kernel
theorem dX11_count_121 : decode cX11_count 121 = .ok (.aload_n 0, 1) := by decide +kernel
theorem dX11_count_122 : decode cX11_count 122 = .ok (.getfield 88, 3) := by decide +kernel
theorem dX11_count_125 : decode cX11_count 125 = .ok (.getfield 142, 3) := by decide +kernel
theorem dX11_count_128 : decode cX11_count 128 = .ok (.ireturn, 1) := by decide +kernel
theorem dX11_count_129 : decode cX11_count 129 = .ok (.aload_n 0, 1) := by decide +kernel
theorem dX11_count_130 : decode cX11_count 130 = .ok (.getfield 19, 3) := by decide +kernel
theorem dX11_count_133 : decode cX11_count 133 = .ok (.getfield 330, 3) := by decide +kernel
theorem dX11_count_136 : decode cX11_count 136 = .ok (.ireturn, 1) := by decide +kernel
theorem dX11_count_137 : decode cX11_count 137 = .ok (.aload_n 0, 1) := by decide +kernel
theorem dX11_count_138 : decode cX11_count 138 = .ok (.getfield 19, 3) := by decide +kernel
theorem dX11_count_141 : decode cX11_count 141 = .ok (.getfield 333, 3) := by decide +kernel
theorem dX11_count_144 : decode cX11_count 144 = .ok (.ireturn, 1) := by decide +kernel
theorem dX11_count_145 : decode cX11_count 145 = .ok (.aload_n 0, 1) := by decide +kernel
theorem dX11_count_146 : decode cX11_count 146 = .ok (.getfield 19, 3) := by decide +kernel
theorem dX11_count_149 : decode cX11_count 149 = .ok (.getfield 336, 3) := by decide +kernel
theorem dX11_count_152 : decode cX11_count 152 = .ok (.ireturn, 1) := by decide +kernel
theorem dX11_count_153 : decode cX11_count 153 = .ok (.aload_n 0, 1) := by decide +kernel
theorem dX11_count_154 : decode cX11_count 154 = .ok (.getfield 109, 3) := by decide +kernel
theorem dX11_count_157 : decode cX11_count 157 = .ok (.ireturn, 1) := by decide +kernel
theorem dX11_count_158 : decode cX11_count 158 = .ok (.ldc_w 339, 3) := by decide +kernel
theorem dX11_count_161 : decode cX11_count 161 = .ok (.ireturn, 1) := by decide +kernel
theorem dX11_isRoadless_0 : decode cX11_isRoadless 0 = .ok (.aload_n 0, 1) := by decide +kernel
theorem dX11_isRoadless_1 : decode cX11_isRoadless 1 = .ok (.getfield 19, 3) := by decide +kernel
theorem dX11_isRoadless_4 : decode cX11_isRoadless 4 = .ok (.getfield 295, 3) := by decide +kernel
theorem dX11_isRoadless_7 : decode cX11_isRoadless 7 = .ok (.ifCond .ne 7, 3) := by decide +kernel
theorem dX11_isRoadless_10 : decode cX11_isRoadless 10 = .ok (.iconst 1, 1) := by decide +kernel
theorem dX11_isRoadless_11 : decode cX11_isRoadless 11 = .ok (.goto 4, 3) := by decide +kernel
theorem dX11_isRoadless_14 : decode cX11_isRoadless 14 = .ok (.iconst 0, 1) := by decide +kernel
theorem dX11_isRoadless_15 : decode cX11_isRoadless 15 = .ok (.ireturn, 1) := by decide +kernel
theorem dX11_isRider_0 : decode cX11_isRider 0 = .ok (.iload_n 1, 1) := by decide +kernel
theorem dX11_isRider_1 : decode cX11_isRider 1 = .ok (.ifCond .lt 18, 3) := by decide +kernel
theorem dX11_isRider_4 : decode cX11_isRider 4 = .ok (.iload_n 1, 1) := by decide +kernel
theorem dX11_isRider_5 : decode cX11_isRider 5 = .ok (.aload_n 0, 1) := by decide +kernel
theorem dX11_isRider_6 : decode cX11_isRider 6 = .ok (.getfield 19, 3) := by decide +kernel
theorem dX11_isRider_9 : decode cX11_isRider 9 = .ok (.getfield 143, 3) := by decide +kernel
theorem dX11_isRider_12 : decode cX11_isRider 12 = .ok (.if_icmp .ge 7, 3) := by decide +kernel
theorem dX11_isRider_15 : decode cX11_isRider 15 = .ok (.iconst 1, 1) := by decide +kernel
theorem dX11_isRider_16 : decode cX11_isRider 16 = .ok (.goto 4, 3) := by decide +kernel
theorem dX11_isRider_19 : decode cX11_isRider 19 = .ok (.iconst 0, 1) := by decide +kernel
theorem dX11_isRider_20 : decode cX11_isRider 20 = .ok (.ireturn, 1) := by decide +kernel
theorem dX11_isPlace_0 : decode cX11_isPlace 0 = .ok (.iload_n 1, 1) := by decide +kernel
theorem dX11_isPlace_1 : decode cX11_isPlace 1 = .ok (.ifCond .ne 18, 3) := by decide +kernel
theorem dX11_isPlace_4 : decode cX11_isPlace 4 = .ok (.aload_n 0, 1) := by decide +kernel
theorem dX11_isPlace_5 : decode cX11_isPlace 5 = .ok (.invokevirtual 251, 3) := by decide +kernel
theorem dX11_isPlace_8 : decode cX11_isPlace 8 = .ok (.ifCond .ne 7, 3) := by decide +kernel
theorem dX11_isPlace_11 : decode cX11_isPlace 11 = .ok (.iconst 1, 1) := by decide +kernel
theorem dX11_isPlace_12 : decode cX11_isPlace 12 = .ok (.goto 12, 3) := by decide +kernel
theorem dX11_isPlace_15 : decode cX11_isPlace 15 = .ok (.iconst 0, 1) := by decide +kernel
theorem dX11_isPlace_16 : decode cX11_isPlace 16 = .ok (.goto 8, 3) := by decide +kernel
theorem dX11_isPlace_19 : decode cX11_isPlace 19 = .ok (.aload_n 0, 1) := by decide +kernel
theorem dX11_isPlace_20 : decode cX11_isPlace 20 = .ok (.iload_n 1, 1) := by decide +kernel
theorem dX11_isPlace_21 : decode cX11_isPlace 21 = .ok (.invokevirtual 180, 3) := by decide +kernel
theorem dX11_isPlace_24 : decode cX11_isPlace 24 = .ok (.ireturn, 1) := by decide +kernel
theorem dX11_isHome_0 : decode cX11_isHome 0 = .ok (.iload_n 1, 1) := by decide +kernel
theorem dX11_isHome_1 : decode cX11_isHome 1 = .ok (.iconst 1, 1) := by decide +kernel
theorem dX11_isHome_2 : decode cX11_isHome 2 = .ok (.if_icmp .lt 18, 3) := by decide +kernel
theorem dX11_isHome_5 : decode cX11_isHome 5 = .ok (.iload_n 1, 1) := by decide +kernel
theorem dX11_isHome_6 : decode cX11_isHome 6 = .ok (.aload_n 0, 1) := by decide +kernel
theorem dX11_isHome_7 : decode cX11_isHome 7 = .ok (.getfield 19, 3) := by decide +kernel
theorem dX11_isHome_10 : decode cX11_isHome 10 = .ok (.getfield 295, 3) := by decide +kernel
theorem dX11_isHome_13 : decode cX11_isHome 13 = .ok (.if_icmp .gt 7, 3) := by decide +kernel
theorem dX11_isHome_16 : decode cX11_isHome 16 = .ok (.iconst 1, 1) := by decide +kernel
theorem dX11_isHome_17 : decode cX11_isHome 17 = .ok (.goto 4, 3) := by decide +kernel
theorem dX11_isHome_20 : decode cX11_isHome 20 = .ok (.iconst 0, 1) := by decide +kernel
theorem dX11_isHome_21 : decode cX11_isHome 21 = .ok (.ireturn, 1) := by decide +kernel
theorem dX11_isSet_0 : decode cX11_isSet 0 = .ok (.aload_n 0, 1) := by decide +kernel
theorem dX11_isSet_1 : decode cX11_isSet 1 = .ok (.invokevirtual 251, 3) := by decide +kernel
theorem dX11_isSet_4 : decode cX11_isSet 4 = .ok (.ifCond .ne 22, 3) := by decide +kernel
theorem dX11_isSet_7 : decode cX11_isSet 7 = .ok (.iload_n 1, 1) := by decide +kernel
theorem dX11_isSet_8 : decode cX11_isSet 8 = .ok (.ifCond .lt 18, 3) := by decide +kernel
theorem dX11_isSet_11 : decode cX11_isSet 11 = .ok (.iload_n 1, 1) := by decide +kernel
theorem dX11_isSet_12 : decode cX11_isSet 12 = .ok (.aload_n 0, 1) := by decide +kernel
theorem dX11_isSet_13 : decode cX11_isSet 13 = .ok (.getfield 19, 3) := by decide +kernel
theorem dX11_isSet_16 : decode cX11_isSet 16 = .ok (.invokevirtual 232, 3) := by decide +kernel
theorem dX11_isSet_19 : decode cX11_isSet 19 = .ok (.if_icmp .gt 7, 3) := by decide +kernel
theorem dX11_isSet_22 : decode cX11_isSet 22 = .ok (.iconst 1, 1) := by decide +kernel
theorem dX11_isSet_23 : decode cX11_isSet 23 = .ok (.goto 4, 3) := by decide +kernel
theorem dX11_isSet_26 : decode cX11_isSet 26 = .ok (.iconst 0, 1) := by decide +kernel
theorem dX11_isSet_27 : decode cX11_isSet 27 = .ok (.ireturn, 1) := by decide +kernel
theorem dX11_isLaw_0 : decode cX11_isLaw 0 = .ok (.aload_n 0, 1) := by decide +kernel
theorem dX11_isLaw_1 : decode cX11_isLaw 1 = .ok (.invokevirtual 251, 3) := by decide +kernel
theorem dX11_isLaw_4 : decode cX11_isLaw 4 = .ok (.ifCond .ne 24, 3) := by decide +kernel
theorem dX11_isLaw_7 : decode cX11_isLaw 7 = .ok (.iload_n 1, 1) := by decide +kernel
theorem dX11_isLaw_8 : decode cX11_isLaw 8 = .ok (.ifCond .lt 20, 3) := by decide +kernel
theorem dX11_isLaw_11 : decode cX11_isLaw 11 = .ok (.iload_n 1, 1) := by decide +kernel
theorem dX11_isLaw_12 : decode cX11_isLaw 12 = .ok (.iconst 3, 1) := by decide +kernel
theorem dX11_isLaw_13 : decode cX11_isLaw 13 = .ok (.aload_n 0, 1) := by decide +kernel
theorem dX11_isLaw_14 : decode cX11_isLaw 14 = .ok (.getfield 47, 3) := by decide +kernel
theorem dX11_isLaw_17 : decode cX11_isLaw 17 = .ok (.getfield 132, 3) := by decide +kernel
theorem dX11_isLaw_20 : decode cX11_isLaw 20 = .ok (.iadd, 1) := by decide +kernel
theorem dX11_isLaw_21 : decode cX11_isLaw 21 = .ok (.if_icmp .ge 7, 3) := by decide +kernel
theorem dX11_isLaw_24 : decode cX11_isLaw 24 = .ok (.iconst 1, 1) := by decide +kernel
theorem dX11_isLaw_25 : decode cX11_isLaw 25 = .ok (.goto 4, 3) := by decide +kernel
theorem dX11_isLaw_28 : decode cX11_isLaw 28 = .ok (.iconst 0, 1) := by decide +kernel
theorem dX11_isLaw_29 : decode cX11_isLaw 29 = .ok (.ireturn, 1) := by decide +kernel
theorem dX11_isWithin_0 : decode cX11_isWithin 0 = .ok (.iload_n 0, 1) := by decide +kernel
theorem dX11_isWithin_1 : decode cX11_isWithin 1 = .ok (.iload_n 1, 1) := by decide +kernel
theorem dX11_isWithin_2 : decode cX11_isWithin 2 = .ok (.if_icmp .lt 12, 3) := by decide +kernel
theorem dX11_isWithin_5 : decode cX11_isWithin 5 = .ok (.iload_n 0, 1) := by decide +kernel
theorem dX11_isWithin_6 : decode cX11_isWithin 6 = .ok (.iload_n 2, 1) := by decide +kernel
theorem dX11_isWithin_7 : decode cX11_isWithin 7 = .ok (.if_icmp .gt 7, 3) := by decide +kernel
theorem dX11_isWithin_10 : decode cX11_isWithin 10 = .ok (.iconst 1, 1) := by decide +kernel
theorem dX11_isWithin_11 : decode cX11_isWithin 11 = .ok (.goto 4, 3) := by decide +kernel
theorem dX11_isWithin_14 : decode cX11_isWithin 14 = .ok (.iconst 0, 1) := by decide +kernel
theorem dX11_isWithin_15 : decode cX11_isWithin 15 = .ok (.ireturn, 1) := by decide +kernel
theorem dX11_isIn_0 : decode cX11_isIn 0 = .ok (.iload_n 1, 1) := by decide +kernel
theorem dX11_isIn_1 : decode cX11_isIn 1 = .ok (.iload_n 0, 1) := by decide +kernel
theorem dX11_isIn_2 : decode cX11_isIn 2 = .ok (.ishr, 1) := by decide +kernel
theorem dX11_isIn_3 : decode cX11_isIn 3 = .ok (.iconst 1, 1) := by decide +kernel
theorem dX11_isIn_4 : decode cX11_isIn 4 = .ok (.iand, 1) := by decide +kernel
theorem dX11_isIn_5 : decode cX11_isIn 5 = .ok (.iconst 1, 1) := by decide +kernel
theorem dX11_isIn_6 : decode cX11_isIn 6 = .ok (.if_icmp .ne 7, 3) := by decide +kernel
theorem dX11_isIn_9 : decode cX11_isIn 9 = .ok (.iconst 1, 1) := by decide +kernel
theorem dX11_isIn_10 : decode cX11_isIn 10 = .ok (.goto 4, 3) := by decide +kernel
theorem dX11_isIn_13 : decode cX11_isIn 13 = .ok (.iconst 0, 1) := by decide +kernel
theorem dX11_isIn_14 : decode cX11_isIn 14 = .ok (.ireturn, 1) := by decide +kernel
theorem dX11_plain_0 : decode cX11_plain 0 = .ok (.lload_n 2, 1) := by decide +kernel
theorem dX11_plain_1 : decode cX11_plain 1 = .ok (.lstore 5, 2) := by decide +kernel
theorem dX11_plain_3 : decode cX11_plain 3 = .ok (.lload_n 0, 1) := by decide +kernel
theorem dX11_plain_4 : decode cX11_plain 4 = .ok (.invokestatic 340, 3) := by decide +kernel
theorem dX11_plain_7 : decode cX11_plain 7 = .ok (.lstore 7, 2) := by decide +kernel
theorem dX11_plain_9 : decode cX11_plain 9 = .ok (.iconst 0, 1) := by decide +kernel
theorem dX11_plain_10 : decode cX11_plain 10 = .ok (.istore 9, 2) := by decide +kernel
theorem dX11_plain_12 : decode cX11_plain 12 = .ok (.iload 9, 2) := by decide +kernel
theorem dX11_plain_14 : decode cX11_plain 14 = .ok (.sipush 200, 3) := by decide +kernel
theorem dX11_plain_17 : decode cX11_plain 17 = .ok (.if_icmp .ge 31, 3) := by decide +kernel
theorem dX11_plain_20 : decode cX11_plain 20 = .ok (.lload 7, 2) := by decide +kernel
theorem dX11_plain_22 : decode cX11_plain 22 = .ok (.lconst 0, 1) := by decide +kernel
theorem dX11_plain_23 : decode cX11_plain 23 = .ok (.lcmp, 1) := by decide +kernel
theorem dX11_plain_24 : decode cX11_plain 24 = .ok (.ifCond .le 24, 3) := by decide +kernel
theorem dX11_plain_27 : decode cX11_plain 27 = .ok (.lload 5, 2) := by decide +kernel
theorem dX11_plain_29 : decode cX11_plain 29 = .ok (.lload 7, 2) := by decide +kernel
theorem dX11_plain_31 : decode cX11_plain 31 = .ok (.lrem, 1) := by decide +kernel
theorem dX11_plain_32 : decode cX11_plain 32 = .ok (.lstore 10, 2) := by decide +kernel
theorem dX11_plain_34 : decode cX11_plain 34 = .ok (.lload 7, 2) := by decide +kernel
theorem dX11_plain_36 : decode cX11_plain 36 = .ok (.lstore 5, 2) := by decide +kernel
theorem dX11_plain_38 : decode cX11_plain 38 = .ok (.lload 10, 2) := by decide +kernel
theorem dX11_plain_40 : decode cX11_plain 40 = .ok (.lstore 7, 2) := by decide +kernel
theorem dX11_plain_42 : decode cX11_plain 42 = .ok (.iinc 9 1, 3) := by decide +kernel
theorem dX11_plain_45 : decode cX11_plain 45 = .ok (.goto (-33), 3) := by decide +kernel
theorem dX11_plain_48 : decode cX11_plain 48 = .ok (.lload 5, 2) := by decide +kernel
theorem dX11_plain_50 : decode cX11_plain 50 = .ok (.lconst 1, 1) := by decide +kernel
theorem dX11_plain_51 : decode cX11_plain 51 = .ok (.lcmp, 1) := by decide +kernel
theorem dX11_plain_52 : decode cX11_plain 52 = .ok (.ifCond .ge 7, 3) := by decide +kernel
theorem dX11_plain_55 : decode cX11_plain 55 = .ok (.ldc2_w 209, 3) := by decide +kernel
theorem dX11_plain_58 : decode cX11_plain 58 = .ok (.lreturn, 1) := by decide +kernel
theorem dX11_plain_59 : decode cX11_plain 59 = .ok (.iload 4, 2) := by decide +kernel
theorem dX11_plain_61 : decode cX11_plain 61 = .ok (.ifCond .eq 7, 3) := by decide +kernel
theorem dX11_plain_64 : decode cX11_plain 64 = .ok (.lload_n 0, 1) := by decide +kernel
theorem dX11_plain_65 : decode cX11_plain 65 = .ok (.goto 4, 3) := by decide +kernel
theorem dX11_plain_68 : decode cX11_plain 68 = .ok (.lload_n 2, 1) := by decide +kernel
theorem dX11_plain_69 : decode cX11_plain 69 = .ok (.lload 5, 2) := by decide +kernel
theorem dX11_plain_71 : decode cX11_plain 71 = .ok (.ldiv, 1) := by decide +kernel
theorem dX11_plain_72 : decode cX11_plain 72 = .ok (.lreturn, 1) := by decide +kernel
theorem dX12_init_0 : decode cX12_init 0 = .ok (.aload_n 0, 1) := by decide +kernel
theorem dX12_init_1 : decode cX12_init 1 = .ok (.invokespecial 1, 3) := by decide +kernel
theorem dX12_init_4 : decode cX12_init 4 = .ok (.aload_n 0, 1) := by decide +kernel
theorem dX12_init_5 : decode cX12_init 5 = .ok (.sipush 160, 3) := by decide +kernel
theorem dX12_init_8 : decode cX12_init 8 = .ok (.newarray .byte, 2) := by decide +kernel
theorem dX12_init_10 : decode cX12_init 10 = .ok (.putfield 9, 3) := by decide +kernel
theorem dX12_init_13 : decode cX12_init 13 = .ok (.aload_n 0, 1) := by decide +kernel
theorem dX12_init_14 : decode cX12_init 14 = .ok (.sipush 640, 3) := by decide +kernel
theorem dX12_init_17 : decode cX12_init 17 = .ok (.newarray .byte, 2) := by decide +kernel
theorem dX12_init_19 : decode cX12_init 19 = .ok (.putfield 13, 3) := by decide +kernel
theorem dX12_init_22 : decode cX12_init 22 = .ok (.aload_n 0, 1) := by decide +kernel
theorem dX12_init_23 : decode cX12_init 23 = .ok (.iconst 4, 1) := by decide +kernel
theorem dX12_init_24 : decode cX12_init 24 = .ok (.newarray .int, 2) := by decide +kernel
theorem dX12_init_26 : decode cX12_init 26 = .ok (.putfield 16, 3) := by decide +kernel
theorem dX12_init_29 : decode cX12_init 29 = .ok (.aload_n 0, 1) := by decide +kernel
theorem dX12_init_30 : decode cX12_init 30 = .ok (.sipush 128, 3) := by decide +kernel
theorem dX12_init_33 : decode cX12_init 33 = .ok (.newarray .int, 2) := by decide +kernel
theorem dX12_init_35 : decode cX12_init 35 = .ok (.putfield 20, 3) := by decide +kernel
theorem dX12_init_38 : decode cX12_init 38 = .ok (.aload_n 0, 1) := by decide +kernel
theorem dX12_init_39 : decode cX12_init 39 = .ok (.aload_n 0, 1) := by decide +kernel
theorem dX12_init_40 : decode cX12_init 40 = .ok (.getfield 9, 3) := by decide +kernel
theorem dX12_init_43 : decode cX12_init 43 = .ok (.putfield 23, 3) := by decide +kernel
theorem dX12_init_46 : decode cX12_init 46 = .ok (.aload_n 0, 1) := by decide +kernel
theorem dX12_init_47 : decode cX12_init 47 = .ok (.ldc 26, 2) := by decide +kernel
theorem dX12_init_49 : decode cX12_init 49 = .ok (.putfield 28, 3) := by decide +kernel
theorem dX12_init_52 : decode cX12_init 52 = .ok (.aload_n 0, 1) := by decide +kernel
theorem dX12_init_53 : decode cX12_init 53 = .ok (.ldc 32, 2) := by decide +kernel
theorem dX12_init_55 : decode cX12_init 55 = .ok (.putfield 34, 3) := by decide +kernel
theorem dX12_init_58 : decode cX12_init 58 = .ok (.aload_n 0, 1) := by decide +kernel
theorem dX12_init_59 : decode cX12_init 59 = .ok (.bipush 10, 2) := by decide +kernel
theorem dX12_init_61 : decode cX12_init 61 = .ok (.newarray .int, 2) := by decide +kernel
theorem dX12_init_63 : decode cX12_init 63 = .ok (.putfield 37, 3) := by decide +kernel
theorem dX12_init_66 : decode cX12_init 66 = .ok (.aload_n 0, 1) := by decide +kernel
theorem dX12_init_67 : decode cX12_init 67 = .ok (.bipush 10, 2) := by decide +kernel
theorem dX12_init_69 : decode cX12_init 69 = .ok (.newarray .int, 2) := by decide +kernel
theorem dX12_init_71 : decode cX12_init 71 = .ok (.putfield 40, 3) := by decide +kernel
theorem dX12_init_74 : decode cX12_init 74 = .ok (.aload_n 0, 1) := by decide +kernel
theorem dX12_init_75 : decode cX12_init 75 = .ok (.bipush 18, 2) := by decide +kernel
theorem dX12_init_77 : decode cX12_init 77 = .ok (.newarray .int, 2) := by decide +kernel
theorem dX12_init_79 : decode cX12_init 79 = .ok (.putfield 43, 3) := by decide +kernel
theorem dX12_init_82 : decode cX12_init 82 = .ok (.aload_n 0, 1) := by decide +kernel
theorem dX12_init_83 : decode cX12_init 83 = .ok (.iconst 3, 1) := by decide +kernel
theorem dX12_init_84 : decode cX12_init 84 = .ok (.newarray .int, 2) := by decide +kernel
theorem dX12_init_86 : decode cX12_init 86 = .ok (.putfield 46, 3) := by decide +kernel
theorem dX12_init_89 : decode cX12_init 89 = .ok (.aload_n 0, 1) := by decide +kernel
theorem dX12_init_90 : decode cX12_init 90 = .ok (.bipush 10, 2) := by decide +kernel
theorem dX12_init_92 : decode cX12_init 92 = .ok (.newarray .int, 2) := by decide +kernel
theorem dX12_init_94 : decode cX12_init 94 = .ok (.putfield 49, 3) := by decide +kernel
theorem dX12_init_97 : decode cX12_init 97 = .ok (.aload_n 0, 1) := by decide +kernel
theorem dX12_init_98 : decode cX12_init 98 = .ok (.bipush 10, 2) := by decide +kernel
theorem dX12_init_100 : decode cX12_init 100 = .ok (.newarray .int, 2) := by decide +kernel
theorem dX12_init_102 : decode cX12_init 102 = .ok (.putfield 52, 3) := by decide +kernel
theorem dX12_init_105 : decode cX12_init 105 = .ok (.aload_n 0, 1) := by decide +kernel
theorem dX12_init_106 : decode cX12_init 106 = .ok (.bipush 18, 2) := by decide +kernel
theorem dX12_init_108 : decode cX12_init 108 = .ok (.newarray .int, 2) := by decide +kernel
theorem dX12_init_110 : decode cX12_init 110 = .ok (.putfield 55, 3) := by decide +kernel
theorem dX12_init_113 : decode cX12_init 113 = .ok (.aload_n 0, 1) := by decide +kernel
theorem dX12_init_114 : decode cX12_init 114 = .ok (.iconst 3, 1) := by decide +kernel
theorem dX12_init_115 : decode cX12_init 115 = .ok (.newarray .int, 2) := by decide +kernel
theorem dX12_init_117 : decode cX12_init 117 = .ok (.putfield 58, 3) := by decide +kernel
theorem dX12_init_120 : decode cX12_init 120 = .ok (.aload_n 0, 1) := by decide +kernel
theorem dX12_init_121 : decode cX12_init 121 = .ok (.iconst 3, 1) := by decide +kernel
theorem dX12_init_122 : decode cX12_init 122 = .ok (.putfield 61, 3) := by decide +kernel
theorem dX12_init_125 : decode cX12_init 125 = .ok (.aload_n 0, 1) := by decide +kernel
theorem dX12_init_126 : decode cX12_init 126 = .ok (.bipush 6, 2) := by decide +kernel
theorem dX12_init_128 : decode cX12_init 128 = .ok (.newarray .long, 2) := by decide +kernel
theorem dX12_init_130 : decode cX12_init 130 = .ok (.putfield 65, 3) := by decide +kernel
theorem dX12_init_133 : decode cX12_init 133 = .ok (.aload_n 0, 1) := by decide +kernel
theorem dX12_init_134 : decode cX12_init 134 = .ok (.bipush 6, 2) := by decide +kernel
theorem dX12_init_136 : decode cX12_init 136 = .ok (.newarray .int, 2) := by decide +kernel
theorem dX12_init_138 : decode cX12_init 138 = .ok (.putfield 69, 3) := by decide +kernel
theorem dX12_init_141 : decode cX12_init 141 = .ok (.aload_n 0, 1) := by decide +kernel
theorem dX12_init_142 : decode cX12_init 142 = .ok (.bipush 6, 2) := by decide +kernel
theorem dX12_init_144 : decode cX12_init 144 = .ok (.newarray .int, 2) := by decide +kernel
theorem dX12_init_146 : decode cX12_init 146 = .ok (.putfield 72, 3) := by decide +kernel
theorem dX12_init_149 : decode cX12_init 149 = .ok (.aload_n 0, 1) := by decide +kernel
theorem dX12_init_150 : decode cX12_init 150 = .ok (.bipush 6, 2) := by decide +kernel
theorem dX12_init_152 : decode cX12_init 152 = .ok (.newarray .int, 2) := by decide +kernel
theorem dX12_init_154 : decode cX12_init 154 = .ok (.putfield 75, 3) := by decide +kernel
theorem dX12_init_157 : decode cX12_init 157 = .ok (.aload_n 0, 1) := by decide +kernel
theorem dX12_init_158 : decode cX12_init 158 = .ok (.bipush 7, 2) := by decide +kernel
theorem dX12_init_160 : decode cX12_init 160 = .ok (.newarray .int, 2) := by decide +kernel
theorem dX12_init_162 : decode cX12_init 162 = .ok (.putfield 78, 3) := by decide +kernel
theorem dX12_init_165 : decode cX12_init 165 = .ok (.aload_n 0, 1) := by decide +kernel
theorem dX12_init_166 : decode cX12_init 166 = .ok (.bipush 10, 2) := by decide +kernel
theorem dX12_init_168 : decode cX12_init 168 = .ok (.newarray .int, 2) := by decide +kernel
theorem dX12_init_170 : decode cX12_init 170 = .ok (.putfield 81, 3) := by decide +kernel
theorem dX12_init_173 : decode cX12_init 173 = .ok (.aload_n 0, 1) := by decide +kernel
theorem dX12_init_174 : decode cX12_init 174 = .ok (.bipush 10, 2) := by decide +kernel
theorem dX12_init_176 : decode cX12_init 176 = .ok (.newarray .int, 2) := by decide +kernel
theorem dX12_init_178 : decode cX12_init 178 = .ok (.putfield 84, 3) := by decide +kernel
theorem dX12_init_181 : decode cX12_init 181 = .ok (.aload_n 0, 1) := by decide +kernel
theorem dX12_init_182 : decode cX12_init 182 = .ok (.bipush 10, 2) := by decide +kernel
theorem dX12_init_184 : decode cX12_init 184 = .ok (.newarray .int, 2) := by decide +kernel
theorem dX12_init_186 : decode cX12_init 186 = .ok (.putfield 87, 3) := by decide +kernel
theorem dX12_init_189 : decode cX12_init 189 = .ok (.aload_n 0, 1) := by decide +kernel
theorem dX12_init_190 : decode cX12_init 190 = .ok (.bipush 6, 2) := by decide +kernel
theorem dX12_init_192 : decode cX12_init 192 = .ok (.newarray .long, 2) := by decide +kernel
theorem dX12_init_194 : decode cX12_init 194 = .ok (.putfield 90, 3) := by decide +kernel
theorem dX12_init_197 : decode cX12_init 197 = .ok (.aload_n 0, 1) := by decide +kernel
theorem dX12_init_198 : decode cX12_init 198 = .ok (.sipush 240, 3) := by decide +kernel
theorem dX12_init_201 : decode cX12_init 201 = .ok (.newarray .long, 2) := by decide +kernel
theorem dX12_init_203 : decode cX12_init 203 = .ok (.putfield 93, 3) := by decide +kernel
theorem dX12_init_206 : decode cX12_init 206 = .ok (.aload_n 0, 1) := by decide +kernel
theorem dX12_init_207 : decode cX12_init 207 = .ok (.bipush 6, 2) := by decide +kernel
theorem dX12_init_209 : decode cX12_init 209 = .ok (.newarray .int, 2) := by decide +kernel
theorem dX12_init_211 : decode cX12_init 211 = .ok (.putfield 96, 3) := by decide +kernel
theorem dX12_init_214 : decode cX12_init 214 = .ok (.aload_n 0, 1) := by decide +kernel
theorem dX12_init_215 : decode cX12_init 215 = .ok (.bipush 10, 2) := by decide +kernel
theorem dX12_init_217 : decode cX12_init 217 = .ok (.newarray .int, 2) := by decide +kernel
theorem dX12_init_219 : decode cX12_init 219 = .ok (.putfield 99, 3) := by decide +kernel
theorem dX12_init_222 : decode cX12_init 222 = .ok (.aload_n 0, 1) := by decide +kernel
theorem dX12_init_223 : decode cX12_init 223 = .ok (.bipush 6, 2) := by decide +kernel
theorem dX12_init_225 : decode cX12_init 225 = .ok (.newarray .long, 2) := by decide +kernel
theorem dX12_init_227 : decode cX12_init 227 = .ok (.putfield 102, 3) := by decide +kernel
theorem dX12_init_230 : decode cX12_init 230 = .ok (.aload_n 0, 1) := by decide +kernel
theorem dX12_init_231 : decode cX12_init 231 = .ok (.sipush 240, 3) := by decide +kernel
theorem dX12_init_234 : decode cX12_init 234 = .ok (.newarray .long, 2) := by decide +kernel
theorem dX12_init_236 : decode cX12_init 236 = .ok (.putfield 105, 3) := by decide +kernel
theorem dX12_init_239 : decode cX12_init 239 = .ok (.return_, 1) := by decide +kernel
theorem dX12_thrown_0 : decode cX12_thrown 0 = .ok (.aload_n 0, 1) := by decide +kernel
theorem dX12_thrown_1 : decode cX12_thrown 1 = .ok (.getfield 108, 3) := by decide +kernel
theorem dX12_thrown_4 : decode cX12_thrown 4 = .ok (.ireturn, 1) := by decide +kernel
theorem dX12_isIn_0 : decode cX12_isIn 0 = .ok (.lload_n 0, 1) := by decide +kernel
theorem dX12_isIn_1 : decode cX12_isIn 1 = .ok (.lload_n 2, 1) := by decide +kernel
theorem dX12_isIn_2 : decode cX12_isIn 2 = .ok (.lcmp, 1) := by decide +kernel
theorem dX12_isIn_3 : decode cX12_isIn 3 = .ok (.ifCond .lt 14, 3) := by decide +kernel
theorem dX12_isIn_6 : decode cX12_isIn 6 = .ok (.lload_n 0, 1) := by decide +kernel
theorem dX12_isIn_7 : decode cX12_isIn 7 = .ok (.lload 4, 2) := by decide +kernel
theorem dX12_isIn_9 : decode cX12_isIn 9 = .ok (.lcmp, 1) := by decide +kernel
theorem dX12_isIn_10 : decode cX12_isIn 10 = .ok (.ifCond .gt 7, 3) := by decide +kernel
theorem dX12_isIn_13 : decode cX12_isIn 13 = .ok (.iconst 1, 1) := by decide +kernel
theorem dX12_isIn_14 : decode cX12_isIn 14 = .ok (.goto 4, 3) := by decide +kernel
theorem dX12_isIn_17 : decode cX12_isIn 17 = .ok (.iconst 0, 1) := by decide +kernel
theorem dX12_isIn_18 : decode cX12_isIn 18 = .ok (.ireturn, 1) := by decide +kernel
theorem dX12_has_0 : decode cX12_has 0 = .ok (.iload_n 0, 1) := by decide +kernel
theorem dX12_has_1 : decode cX12_has 1 = .ok (.iload_n 1, 1) := by decide +kernel
theorem dX12_has_2 : decode cX12_has 2 = .ok (.ishr, 1) := by decide +kernel
theorem dX12_has_3 : decode cX12_has 3 = .ok (.iconst 1, 1) := by decide +kernel
theorem dX12_has_4 : decode cX12_has 4 = .ok (.iand, 1) := by decide +kernel
theorem dX12_has_5 : decode cX12_has 5 = .ok (.iconst 1, 1) := by decide +kernel
theorem dX12_has_6 : decode cX12_has 6 = .ok (.if_icmp .ne 7, 3) := by decide +kernel
theorem dX12_has_9 : decode cX12_has 9 = .ok (.iconst 1, 1) := by decide +kernel
theorem dX12_has_10 : decode cX12_has 10 = .ok (.goto 4, 3) := by decide +kernel
theorem dX12_has_13 : decode cX12_has 13 = .ok (.iconst 0, 1) := by decide +kernel
theorem dX12_has_14 : decode cX12_has 14 = .ok (.ireturn, 1) := by decide +kernel
theorem dX12_common_0 : decode cX12_common 0 = .ok (.lload_n 2, 1) := by decide +kernel
theorem dX12_common_1 : decode cX12_common 1 = .ok (.lconst 0, 1) := by decide +kernel
theorem dX12_common_2 : decode cX12_common 2 = .ok (.lcmp, 1) := by decide +kernel
theorem dX12_common_3 : decode cX12_common 3 = .ok (.ifCond .ne 10, 3) := by decide +kernel
theorem dX12_common_6 : decode cX12_common 6 = .ok (.lload_n 0, 1) := by decide +kernel
theorem dX12_common_7 : decode cX12_common 7 = .ok (.invokestatic 111, 3) := by decide +kernel
theorem dX12_common_10 : decode cX12_common 10 = .ok (.goto 10, 3) := by decide +kernel
theorem dX12_common_13 : decode cX12_common 13 = .ok (.lload_n 2, 1) := by decide +kernel
theorem dX12_common_14 : decode cX12_common 14 = .ok (.lload_n 0, 1) := by decide +kernel
theorem dX12_common_15 : decode cX12_common 15 = .ok (.lload_n 2, 1) := by decide +kernel
theorem dX12_common_16 : decode cX12_common 16 = .ok (.lrem, 1) := by decide +kernel
theorem dX12_common_17 : decode cX12_common 17 = .ok (.invokestatic 117, 3) := by decide +kernel
theorem dX12_common_20 : decode cX12_common 20 = .ok (.lreturn, 1) := by decide +kernel
theorem dX12_isAmong_0 : decode cX12_isAmong 0 = .ok (.iconst 0, 1) := by decide +kernel
theorem dX12_isAmong_1 : decode cX12_isAmong 1 = .ok (.istore_n 2, 1) := by decide +kernel
theorem dX12_isAmong_2 : decode cX12_isAmong 2 = .ok (.iload_n 2, 1) := by decide +kernel
theorem dX12_isAmong_3 : decode cX12_isAmong 3 = .ok (.aload_n 0, 1) := by decide +kernel
theorem dX12_isAmong_4 : decode cX12_isAmong 4 = .ok (.invokevirtual 121, 3) := by decide +kernel
theorem dX12_isAmong_7 : decode cX12_isAmong 7 = .ok (.if_icmp .ge 20, 3) := by decide +kernel
theorem dX12_isAmong_10 : decode cX12_isAmong 10 = .ok (.aload_n 0, 1) := by decide +kernel
theorem dX12_isAmong_11 : decode cX12_isAmong 11 = .ok (.iload_n 2, 1) := by decide +kernel
theorem dX12_isAmong_12 : decode cX12_isAmong 12 = .ok (.invokevirtual 127, 3) := by decide +kernel
theorem dX12_isAmong_15 : decode cX12_isAmong 15 = .ok (.iload_n 1, 1) := by decide +kernel
theorem dX12_isAmong_16 : decode cX12_isAmong 16 = .ok (.if_icmp .ne 5, 3) := by decide +kernel
theorem dX12_isAmong_19 : decode cX12_isAmong 19 = .ok (.iconst 1, 1) := by decide +kernel
theorem dX12_isAmong_20 : decode cX12_isAmong 20 = .ok (.ireturn, 1) := by decide +kernel
theorem dX12_isAmong_21 : decode cX12_isAmong 21 = .ok (.iinc 2 1, 3) := by decide +kernel
theorem dX12_isAmong_24 : decode cX12_isAmong 24 = .ok (.goto (-22), 3) := by decide +kernel
theorem dX12_isAmong_27 : decode cX12_isAmong 27 = .ok (.iconst 0, 1) := by decide +kernel
theorem dX12_isAmong_28 : decode cX12_isAmong 28 = .ok (.ireturn, 1) := by decide +kernel
theorem dX12_bytesIn_0 : decode cX12_bytesIn 0 = .ok (.iconst 0, 1) := by decide +kernel
theorem dX12_bytesIn_1 : decode cX12_bytesIn 1 = .ok (.istore_n 1, 1) := by decide +kernel
theorem dX12_bytesIn_2 : decode cX12_bytesIn 2 = .ok (.bipush 24, 2) := by decide +kernel
theorem dX12_bytesIn_4 : decode cX12_bytesIn 4 = .ok (.istore_n 2, 1) := by decide +kernel
theorem dX12_bytesIn_5 : decode cX12_bytesIn 5 = .ok (.iload_n 2, 1) := by decide +kernel
theorem dX12_bytesIn_6 : decode cX12_bytesIn 6 = .ok (.ifCond .lt 27, 3) := by decide +kernel
theorem dX12_bytesIn_9 : decode cX12_bytesIn 9 = .ok (.iload_n 1, 1) := by decide +kernel
theorem dX12_bytesIn_10 : decode cX12_bytesIn 10 = .ok (.iload_n 0, 1) := by decide +kernel
theorem dX12_bytesIn_11 : decode cX12_bytesIn 11 = .ok (.iload_n 2, 1) := by decide +kernel
theorem dX12_bytesIn_12 : decode cX12_bytesIn 12 = .ok (.ishr, 1) := by decide +kernel
theorem dX12_bytesIn_13 : decode cX12_bytesIn 13 = .ok (.sipush 255, 3) := by decide +kernel
theorem dX12_bytesIn_16 : decode cX12_bytesIn 16 = .ok (.iand, 1) := by decide +kernel
theorem dX12_bytesIn_17 : decode cX12_bytesIn 17 = .ok (.ifCond .eq 7, 3) := by decide +kernel
theorem dX12_bytesIn_20 : decode cX12_bytesIn 20 = .ok (.iconst 1, 1) := by decide +kernel
theorem dX12_bytesIn_21 : decode cX12_bytesIn 21 = .ok (.goto 4, 3) := by decide +kernel
theorem dX12_bytesIn_24 : decode cX12_bytesIn 24 = .ok (.iconst 0, 1) := by decide +kernel
theorem dX12_bytesIn_25 : decode cX12_bytesIn 25 = .ok (.iadd, 1) := by decide +kernel
theorem dX12_bytesIn_26 : decode cX12_bytesIn 26 = .ok (.istore_n 1, 1) := by decide +kernel
theorem dX12_bytesIn_27 : decode cX12_bytesIn 27 = .ok (.iinc 2 (-8), 3) := by decide +kernel
theorem dX12_bytesIn_30 : decode cX12_bytesIn 30 = .ok (.goto (-25), 3) := by decide +kernel
theorem dX12_bytesIn_33 : decode cX12_bytesIn 33 = .ok (.iload_n 1, 1) := by decide +kernel
theorem dX12_bytesIn_34 : decode cX12_bytesIn 34 = .ok (.ireturn, 1) := by decide +kernel
theorem dX12_put_0 : decode cX12_put 0 = .ok (.bipush 24, 2) := by decide +kernel
theorem dX12_put_2 : decode cX12_put 2 = .ok (.istore_n 2, 1) := by decide +kernel
theorem dX12_put_3 : decode cX12_put 3 = .ok (.iload_n 2, 1) := by decide +kernel
theorem dX12_put_4 : decode cX12_put 4 = .ok (.ifCond .lt 45, 3) := by decide +kernel
theorem dX12_put_7 : decode cX12_put 7 = .ok (.iload_n 1, 1) := by decide +kernel
theorem dX12_put_8 : decode cX12_put 8 = .ok (.iload_n 2, 1) := by decide +kernel
theorem dX12_put_9 : decode cX12_put 9 = .ok (.ishr, 1) := by decide +kernel
theorem dX12_put_10 : decode cX12_put 10 = .ok (.sipush 255, 3) := by decide +kernel
theorem dX12_put_13 : decode cX12_put 13 = .ok (.iand, 1) := by decide +kernel
theorem dX12_put_14 : decode cX12_put 14 = .ok (.ifCond .ne 6, 3) := by decide +kernel
theorem dX12_put_17 : decode cX12_put 17 = .ok (.goto 26, 3) := by decide +kernel
theorem dX12_put_20 : decode cX12_put 20 = .ok (.aload_n 0, 1) := by decide +kernel
theorem dX12_put_21 : decode cX12_put 21 = .ok (.getfield 9, 3) := by decide +kernel
theorem dX12_put_24 : decode cX12_put 24 = .ok (.aload_n 0, 1) := by decide +kernel
theorem dX12_put_25 : decode cX12_put 25 = .ok (.getfield 131, 3) := by decide +kernel
theorem dX12_put_28 : decode cX12_put 28 = .ok (.iload_n 1, 1) := by decide +kernel
theorem dX12_put_29 : decode cX12_put 29 = .ok (.iload_n 2, 1) := by decide +kernel
theorem dX12_put_30 : decode cX12_put 30 = .ok (.ishr, 1) := by decide +kernel
theorem dX12_put_31 : decode cX12_put 31 = .ok (.i2b, 1) := by decide +kernel
theorem dX12_put_32 : decode cX12_put 32 = .ok (.bastore, 1) := by decide +kernel
theorem dX12_put_33 : decode cX12_put 33 = .ok (.aload_n 0, 1) := by decide +kernel
theorem dX12_put_34 : decode cX12_put 34 = .ok (.dup, 1) := by decide +kernel
theorem dX12_put_35 : decode cX12_put 35 = .ok (.getfield 131, 3) := by decide +kernel
theorem dX12_put_38 : decode cX12_put 38 = .ok (.iconst 1, 1) := by decide +kernel
theorem dX12_put_39 : decode cX12_put 39 = .ok (.iadd, 1) := by decide +kernel
theorem dX12_put_40 : decode cX12_put 40 = .ok (.putfield 131, 3) := by decide +kernel
theorem dX12_put_43 : decode cX12_put 43 = .ok (.iinc 2 (-8), 3) := by decide +kernel
theorem dX12_put_46 : decode cX12_put 46 = .ok (.goto (-43), 3) := by decide +kernel
theorem dX12_put_49 : decode cX12_put 49 = .ok (.return_, 1) := by decide +kernel
theorem dX12_feed_0 : decode cX12_feed 0 = .ok (.aload_n 0, 1) := by decide +kernel
theorem dX12_feed_1 : decode cX12_feed 1 = .ok (.iconst 0, 1) := by decide +kernel
theorem dX12_feed_2 : decode cX12_feed 2 = .ok (.putfield 108, 3) := by decide +kernel
theorem dX12_feed_5 : decode cX12_feed 5 = .ok (.aload_n 0, 1) := by decide +kernel
theorem dX12_feed_6 : decode cX12_feed 6 = .ok (.getfield 131, 3) := by decide +kernel
theorem dX12_feed_9 : decode cX12_feed 9 = .ok (.iload_n 1, 1) := by decide +kernel
theorem dX12_feed_10 : decode cX12_feed 10 = .ok (.invokestatic 133, 3) := by decide +kernel
theorem dX12_feed_13 : decode cX12_feed 13 = .ok (.iadd, 1) := by decide +kernel
theorem dX12_feed_14 : decode cX12_feed 14 = .ok (.iload_n 2, 1) := by decide +kernel
theorem dX12_feed_15 : decode cX12_feed 15 = .ok (.invokestatic 133, 3) := by decide +kernel
theorem dX12_feed_18 : decode cX12_feed 18 = .ok (.iadd, 1) := by decide +kernel
theorem dX12_feed_19 : decode cX12_feed 19 = .ok (.iload_n 3, 1) := by decide +kernel
theorem dX12_feed_20 : decode cX12_feed 20 = .ok (.invokestatic 133, 3) := by decide +kernel
theorem dX12_feed_23 : decode cX12_feed 23 = .ok (.iadd, 1) := by decide +kernel
theorem dX12_feed_24 : decode cX12_feed 24 = .ok (.iload 4, 2) := by decide +kernel
theorem dX12_feed_26 : decode cX12_feed 26 = .ok (.invokestatic 133, 3) := by decide +kernel
theorem dX12_feed_29 : decode cX12_feed 29 = .ok (.iadd, 1) := by decide +kernel
theorem dX12_feed_30 : decode cX12_feed 30 = .ok (.iload 5, 2) := by decide +kernel
theorem dX12_feed_32 : decode cX12_feed 32 = .ok (.invokestatic 133, 3) := by decide +kernel
theorem dX12_feed_35 : decode cX12_feed 35 = .ok (.iadd, 1) := by decide +kernel
theorem dX12_feed_36 : decode cX12_feed 36 = .ok (.sipush 160, 3) := by decide +kernel
theorem dX12_feed_39 : decode cX12_feed 39 = .ok (.if_icmp .le 5, 3) := by decide +kernel
theorem dX12_feed_42 : decode cX12_feed 42 = .ok (.iconst (-1), 1) := by decide +kernel
theorem dX12_feed_43 : decode cX12_feed 43 = .ok (.ireturn, 1) := by decide +kernel
theorem dX12_feed_44 : decode cX12_feed 44 = .ok (.aload_n 0, 1) := by decide +kernel
theorem dX12_feed_45 : decode cX12_feed 45 = .ok (.iload_n 1, 1) := by decide +kernel
theorem dX12_feed_46 : decode cX12_feed 46 = .ok (.invokevirtual 137, 3) := by decide +kernel
theorem dX12_feed_49 : decode cX12_feed 49 = .ok (.aload_n 0, 1) := by decide +kernel
theorem dX12_feed_50 : decode cX12_feed 50 = .ok (.iload_n 2, 1) := by decide +kernel
theorem dX12_feed_51 : decode cX12_feed 51 = .ok (.invokevirtual 137, 3) := by decide +kernel
theorem dX12_feed_54 : decode cX12_feed 54 = .ok (.aload_n 0, 1) := by decide +kernel
theorem dX12_feed_55 : decode cX12_feed 55 = .ok (.iload_n 3, 1) := by decide +kernel
theorem dX12_feed_56 : decode cX12_feed 56 = .ok (.invokevirtual 137, 3) := by decide +kernel
theorem dX12_feed_59 : decode cX12_feed 59 = .ok (.aload_n 0, 1) := by decide +kernel
theorem dX12_feed_60 : decode cX12_feed 60 = .ok (.iload 4, 2) := by decide +kernel
theorem dX12_feed_62 : decode cX12_feed 62 = .ok (.invokevirtual 137, 3) := by decide +kernel
theorem dX12_feed_65 : decode cX12_feed 65 = .ok (.aload_n 0, 1) := by decide +kernel
theorem dX12_feed_66 : decode cX12_feed 66 = .ok (.iload 5, 2) := by decide +kernel
theorem dX12_feed_68 : decode cX12_feed 68 = .ok (.invokevirtual 137, 3) := by decide +kernel
theorem dX12_feed_71 : decode cX12_feed 71 = .ok (.aload_n 0, 1) := by decide +kernel
theorem dX12_feed_72 : decode cX12_feed 72 = .ok (.getfield 131, 3) := by decide +kernel
theorem dX12_feed_75 : decode cX12_feed 75 = .ok (.ireturn, 1) := by decide +kernel
theorem dX12_end_0 : decode cX12_end 0 = .ok (.aload_n 0, 1) := by decide +kernel
theorem dX12_end_1 : decode cX12_end 1 = .ok (.iconst 0, 1) := by decide +kernel
theorem dX12_end_2 : decode cX12_end 2 = .ok (.putfield 108, 3) := by decide +kernel
theorem dX12_end_5 : decode cX12_end 5 = .ok (.iload_n 1, 1) := by decide +kernel
theorem dX12_end_6 : decode cX12_end 6 = .ok (.ifCond .lt 11, 3) := by decide +kernel
theorem dX12_end_9 : decode cX12_end 9 = .ok (.iload_n 1, 1) := by decide +kernel
theorem dX12_end_10 : decode cX12_end 10 = .ok (.aload_n 0, 1) := by decide +kernel
theorem dX12_end_11 : decode cX12_end 11 = .ok (.getfield 131, 3) := by decide +kernel
theorem dX12_end_14 : decode cX12_end 14 = .ok (.if_icmp .le 5, 3) := by decide +kernel
theorem dX12_end_17 : decode cX12_end 17 = .ok (.iconst 0, 1) := by decide +kernel
theorem dX12_end_18 : decode cX12_end 18 = .ok (.ireturn, 1) := by decide +kernel
theorem dX12_end_19 : decode cX12_end 19 = .ok (.aload_n 0, 1) := by decide +kernel
theorem dX12_end_20 : decode cX12_end 20 = .ok (.iload_n 1, 1) := by decide +kernel
theorem dX12_end_21 : decode cX12_end 21 = .ok (.putfield 131, 3) := by decide +kernel
theorem dX12_end_24 : decode cX12_end 24 = .ok (.iconst 1, 1) := by decide +kernel
theorem dX12_end_25 : decode cX12_end 25 = .ok (.ireturn, 1) := by decide +kernel
theorem dX12_look_0 : decode cX12_look 0 = .ok (.aload_n 0, 1) := by decide +kernel
theorem dX12_look_1 : decode cX12_look 1 = .ok (.getfield 141, 3) := by decide +kernel
theorem dX12_look_4 : decode cX12_look 4 = .ok (.aload_n 0, 1) := by decide +kernel
theorem dX12_look_5 : decode cX12_look 5 = .ok (.getfield 144, 3) := by decide +kernel
theorem dX12_look_8 : decode cX12_look 8 = .ok (.if_icmp .ge 35, 3) := by decide +kernel
theorem dX12_look_11 : decode cX12_look 11 = .ok (.aload_n 0, 1) := by decide +kernel
theorem dX12_look_12 : decode cX12_look 12 = .ok (.getfield 23, 3) := by decide +kernel
theorem dX12_look_15 : decode cX12_look 15 = .ok (.aload_n 0, 1) := by decide +kernel
theorem dX12_look_16 : decode cX12_look 16 = .ok (.getfield 147, 3) := by decide +kernel
theorem dX12_look_19 : decode cX12_look 19 = .ok (.aload_n 0, 1) := by decide +kernel
theorem dX12_look_20 : decode cX12_look 20 = .ok (.getfield 141, 3) := by decide +kernel
theorem dX12_look_23 : decode cX12_look 23 = .ok (.iadd, 1) := by decide +kernel
theorem dX12_look_24 : decode cX12_look 24 = .ok (.baload, 1) := by decide +kernel
theorem dX12_look_25 : decode cX12_look 25 = .ok (.bipush 32, 2) := by decide +kernel
theorem dX12_look_27 : decode cX12_look 27 = .ok (.if_icmp .ne 16, 3) := by decide +kernel
theorem dX12_look_30 : decode cX12_look 30 = .ok (.aload_n 0, 1) := by decide +kernel
theorem dX12_look_31 : decode cX12_look 31 = .ok (.dup, 1) := by decide +kernel
theorem dX12_look_32 : decode cX12_look 32 = .ok (.getfield 141, 3) := by decide +kernel
theorem dX12_look_35 : decode cX12_look 35 = .ok (.iconst 1, 1) := by decide +kernel
theorem dX12_look_36 : decode cX12_look 36 = .ok (.iadd, 1) := by decide +kernel
theorem dX12_look_37 : decode cX12_look 37 = .ok (.putfield 141, 3) := by decide +kernel
theorem dX12_look_40 : decode cX12_look 40 = .ok (.goto (-40), 3) := by decide +kernel
theorem dX12_look_43 : decode cX12_look 43 = .ok (.aload_n 0, 1) := by decide +kernel
theorem dX12_look_44 : decode cX12_look 44 = .ok (.getfield 141, 3) := by decide +kernel
theorem dX12_look_47 : decode cX12_look 47 = .ok (.aload_n 0, 1) := by decide +kernel
theorem dX12_look_48 : decode cX12_look 48 = .ok (.getfield 144, 3) := by decide +kernel
theorem dX12_look_51 : decode cX12_look 51 = .ok (.if_icmp .ge 24, 3) := by decide +kernel
theorem dX12_look_54 : decode cX12_look 54 = .ok (.aload_n 0, 1) := by decide +kernel
theorem dX12_look_55 : decode cX12_look 55 = .ok (.getfield 23, 3) := by decide +kernel
theorem dX12_look_58 : decode cX12_look 58 = .ok (.aload_n 0, 1) := by decide +kernel
theorem dX12_look_59 : decode cX12_look 59 = .ok (.getfield 147, 3) := by decide +kernel
theorem dX12_look_62 : decode cX12_look 62 = .ok (.aload_n 0, 1) := by decide +kernel
theorem dX12_look_63 : decode cX12_look 63 = .ok (.getfield 141, 3) := by decide +kernel
theorem dX12_look_66 : decode cX12_look 66 = .ok (.iadd, 1) := by decide +kernel
theorem dX12_look_67 : decode cX12_look 67 = .ok (.baload, 1) := by decide +kernel
theorem dX12_look_68 : decode cX12_look 68 = .ok (.sipush 255, 3) := by decide +kernel
theorem dX12_look_71 : decode cX12_look 71 = .ok (.iand, 1) := by decide +kernel
theorem dX12_look_72 : decode cX12_look 72 = .ok (.goto 4, 3) := by decide +kernel
theorem dX12_look_75 : decode cX12_look 75 = .ok (.iconst (-1), 1) := by decide +kernel
theorem dX12_look_76 : decode cX12_look 76 = .ok (.ireturn, 1) := by decide +kernel
theorem dX12_fails_0 : decode cX12_fails 0 = .ok (.aload_n 0, 1) := by decide +kernel
theorem dX12_fails_1 : decode cX12_fails 1 = .ok (.getfield 150, 3) := by decide +kernel
theorem dX12_fails_4 : decode cX12_fails 4 = .ok (.iconst (-1), 1) := by decide +kernel
theorem dX12_fails_5 : decode cX12_fails 5 = .ok (.if_icmp .ne 11, 3) := by decide +kernel
theorem dX12_fails_8 : decode cX12_fails 8 = .ok (.aload_n 0, 1) := by decide +kernel
theorem dX12_fails_9 : decode cX12_fails 9 = .ok (.aload_n 0, 1) := by decide +kernel
theorem dX12_fails_10 : decode cX12_fails 10 = .ok (.getfield 141, 3) := by decide +kernel
theorem dX12_fails_13 : decode cX12_fails 13 = .ok (.putfield 150, 3) := by decide +kernel
theorem dX12_fails_16 : decode cX12_fails 16 = .ok (.iconst 0, 1) := by decide +kernel
theorem dX12_fails_17 : decode cX12_fails 17 = .ok (.ireturn, 1) := by decide +kernel
theorem dX12_goesIn_0 : decode cX12_goesIn 0 = .ok (.aload_n 0, 1) := by decide +kernel
theorem dX12_goesIn_1 : decode cX12_goesIn 1 = .ok (.getfield 153, 3) := by decide +kernel
theorem dX12_goesIn_4 : decode cX12_goesIn 4 = .ok (.bipush 6, 2) := by decide +kernel
theorem dX12_goesIn_6 : decode cX12_goesIn 6 = .ok (.if_icmp .ne 8, 3) := by decide +kernel
theorem dX12_goesIn_9 : decode cX12_goesIn 9 = .ok (.aload_n 0, 1) := by decide +kernel
theorem dX12_goesIn_10 : decode cX12_goesIn 10 = .ok (.invokevirtual 156, 3) := by decide +kernel
theorem dX12_goesIn_13 : decode cX12_goesIn 13 = .ok (.ireturn, 1) := by decide +kernel
theorem dX12_goesIn_14 : decode cX12_goesIn 14 = .ok (.aload_n 0, 1) := by decide +kernel
theorem dX12_goesIn_15 : decode cX12_goesIn 15 = .ok (.dup, 1) := by decide +kernel
theorem dX12_goesIn_16 : decode cX12_goesIn 16 = .ok (.getfield 153, 3) := by decide +kernel
theorem dX12_goesIn_19 : decode cX12_goesIn 19 = .ok (.iconst 1, 1) := by decide +kernel
theorem dX12_goesIn_20 : decode cX12_goesIn 20 = .ok (.iadd, 1) := by decide +kernel
theorem dX12_goesIn_21 : decode cX12_goesIn 21 = .ok (.putfield 153, 3) := by decide +kernel
theorem dX12_goesIn_24 : decode cX12_goesIn 24 = .ok (.aload_n 0, 1) := by decide +kernel
theorem dX12_goesIn_25 : decode cX12_goesIn 25 = .ok (.dup, 1) := by decide +kernel
theorem dX12_goesIn_26 : decode cX12_goesIn 26 = .ok (.getfield 141, 3) := by decide +kernel
theorem dX12_goesIn_29 : decode cX12_goesIn 29 = .ok (.iconst 1, 1) := by decide +kernel
theorem dX12_goesIn_30 : decode cX12_goesIn 30 = .ok (.iadd, 1) := by decide +kernel
theorem dX12_goesIn_31 : decode cX12_goesIn 31 = .ok (.putfield 141, 3) := by decide +kernel
theorem dX12_goesIn_34 : decode cX12_goesIn 34 = .ok (.iconst 1, 1) := by decide +kernel
theorem dX12_goesIn_35 : decode cX12_goesIn 35 = .ok (.ireturn, 1) := by decide +kernel
theorem dX12_takes_0 : decode cX12_takes 0 = .ok (.aload_n 0, 1) := by decide +kernel
theorem dX12_takes_1 : decode cX12_takes 1 = .ok (.getfield 150, 3) := by decide +kernel
theorem dX12_takes_4 : decode cX12_takes 4 = .ok (.iconst (-1), 1) := by decide +kernel
theorem dX12_takes_5 : decode cX12_takes 5 = .ok (.if_icmp .ne 11, 3) := by decide +kernel
theorem dX12_takes_8 : decode cX12_takes 8 = .ok (.aload_n 0, 1) := by decide +kernel
theorem dX12_takes_9 : decode cX12_takes 9 = .ok (.invokevirtual 160, 3) := by decide +kernel
theorem dX12_takes_12 : decode cX12_takes 12 = .ok (.iload_n 1, 1) := by decide +kernel
theorem dX12_takes_13 : decode cX12_takes 13 = .ok (.if_icmp .eq 8, 3) := by decide +kernel
theorem dX12_takes_16 : decode cX12_takes 16 = .ok (.aload_n 0, 1) := by decide +kernel
theorem dX12_takes_17 : decode cX12_takes 17 = .ok (.invokevirtual 156, 3) := by decide +kernel
theorem dX12_takes_20 : decode cX12_takes 20 = .ok (.ireturn, 1) := by decide +kernel
theorem dX12_takes_21 : decode cX12_takes 21 = .ok (.aload_n 0, 1) := by decide +kernel
theorem dX12_takes_22 : decode cX12_takes 22 = .ok (.dup, 1) := by decide +kernel
theorem dX12_takes_23 : decode cX12_takes 23 = .ok (.getfield 141, 3) := by decide +kernel
theorem dX12_takes_26 : decode cX12_takes 26 = .ok (.iconst 1, 1) := by decide +kernel
theorem dX12_takes_27 : decode cX12_takes 27 = .ok (.iadd, 1) := by decide +kernel
theorem dX12_takes_28 : decode cX12_takes 28 = .ok (.putfield 141, 3) := by decide +kernel
theorem dX12_takes_31 : decode cX12_takes 31 = .ok (.iconst 1, 1) := by decide +kernel
theorem dX12_takes_32 : decode cX12_takes 32 = .ok (.ireturn, 1) := by decide +kernel
theorem dX12_isDigit_0 : decode cX12_isDigit 0 = .ok (.aload_n 0, 1) := by decide +kernel
theorem dX12_isDigit_1 : decode cX12_isDigit 1 = .ok (.getfield 141, 3) := by decide +kernel
theorem dX12_isDigit_4 : decode cX12_isDigit 4 = .ok (.aload_n 0, 1) := by decide +kernel
theorem dX12_isDigit_5 : decode cX12_isDigit 5 = .ok (.getfield 144, 3) := by decide +kernel
theorem dX12_isDigit_8 : decode cX12_isDigit 8 = .ok (.if_icmp .ge 45, 3) := by decide +kernel
theorem dX12_isDigit_11 : decode cX12_isDigit 11 = .ok (.aload_n 0, 1) := by decide +kernel
theorem dX12_isDigit_12 : decode cX12_isDigit 12 = .ok (.getfield 23, 3) := by decide +kernel
theorem dX12_isDigit_15 : decode cX12_isDigit 15 = .ok (.aload_n 0, 1) := by decide +kernel
theorem dX12_isDigit_16 : decode cX12_isDigit 16 = .ok (.getfield 147, 3) := by decide +kernel
theorem dX12_isDigit_19 : decode cX12_isDigit 19 = .ok (.aload_n 0, 1) := by decide +kernel
theorem dX12_isDigit_20 : decode cX12_isDigit 20 = .ok (.getfield 141, 3) := by decide +kernel
theorem dX12_isDigit_23 : decode cX12_isDigit 23 = .ok (.iadd, 1) := by decide +kernel
theorem dX12_isDigit_24 : decode cX12_isDigit 24 = .ok (.baload, 1) := by decide +kernel
theorem dX12_isDigit_25 : decode cX12_isDigit 25 = .ok (.bipush 48, 2) := by decide +kernel
theorem dX12_isDigit_27 : decode cX12_isDigit 27 = .ok (.if_icmp .lt 26, 3) := by decide +kernel
theorem dX12_isDigit_30 : decode cX12_isDigit 30 = .ok (.aload_n 0, 1) := by decide +kernel
theorem dX12_isDigit_31 : decode cX12_isDigit 31 = .ok (.getfield 23, 3) := by decide +kernel
theorem dX12_isDigit_34 : decode cX12_isDigit 34 = .ok (.aload_n 0, 1) := by decide +kernel
theorem dX12_isDigit_35 : decode cX12_isDigit 35 = .ok (.getfield 147, 3) := by decide +kernel
theorem dX12_isDigit_38 : decode cX12_isDigit 38 = .ok (.aload_n 0, 1) := by decide +kernel
theorem dX12_isDigit_39 : decode cX12_isDigit 39 = .ok (.getfield 141, 3) := by decide +kernel
theorem dX12_isDigit_42 : decode cX12_isDigit 42 = .ok (.iadd, 1) := by decide +kernel
theorem dX12_isDigit_43 : decode cX12_isDigit 43 = .ok (.baload, 1) := by decide +kernel
theorem dX12_isDigit_44 : decode cX12_isDigit 44 = .ok (.bipush 57, 2) := by decide +kernel
theorem dX12_isDigit_46 : decode cX12_isDigit 46 = .ok (.if_icmp .gt 7, 3) := by decide +kernel
theorem dX12_isDigit_49 : decode cX12_isDigit 49 = .ok (.iconst 1, 1) := by decide +kernel
theorem dX12_isDigit_50 : decode cX12_isDigit 50 = .ok (.goto 4, 3) := by decide +kernel
theorem dX12_isDigit_53 : decode cX12_isDigit 53 = .ok (.iconst 0, 1) := by decide +kernel
theorem dX12_isDigit_54 : decode cX12_isDigit 54 = .ok (.ireturn, 1) := by decide +kernel
theorem dX12_within_0 : decode cX12_within 0 = .ok (.ldc2_w 163, 3) := by decide +kernel
theorem dX12_within_3 : decode cX12_within 3 = .ok (.ldc2_w 165, 3) := by decide +kernel
theorem dX12_within_6 : decode cX12_within 6 = .ok (.lload_n 0, 1) := by decide +kernel
theorem dX12_within_7 : decode cX12_within 7 = .ok (.invokestatic 167, 3) := by decide +kernel
theorem dX12_within_10 : decode cX12_within 10 = .ok (.invokestatic 170, 3) := by decide +kernel
theorem dX12_within_13 : decode cX12_within 13 = .ok (.l2i, 1) := by decide +kernel
theorem dX12_within_14 : decode cX12_within 14 = .ok (.ireturn, 1) := by decide +kernel
theorem dX12_atom_0 : decode cX12_atom 0 = .ok (.aload_n 0, 1) := by decide +kernel
theorem dX12_atom_1 : decode cX12_atom 1 = .ok (.invokevirtual 160, 3) := by decide +kernel
theorem dX12_atom_4 : decode cX12_atom 4 = .ok (.istore_n 1, 1) := by decide +kernel
theorem dX12_atom_5 : decode cX12_atom 5 = .ok (.ldc 32, 2) := by decide +kernel
theorem dX12_atom_7 : decode cX12_atom 7 = .ok (.iload_n 1, 1) := by decide +kernel
theorem dX12_atom_8 : decode cX12_atom 8 = .ok (.invokestatic 173, 3) := by decide +kernel
theorem dX12_atom_11 : decode cX12_atom 11 = .ok (.ifCond .eq 20, 3) := by decide +kernel
theorem dX12_atom_14 : decode cX12_atom 14 = .ok (.aload_n 0, 1) := by decide +kernel
theorem dX12_atom_15 : decode cX12_atom 15 = .ok (.dup, 1) := by decide +kernel
theorem dX12_atom_16 : decode cX12_atom 16 = .ok (.getfield 141, 3) := by decide +kernel
theorem dX12_atom_19 : decode cX12_atom 19 = .ok (.iconst 1, 1) := by decide +kernel
theorem dX12_atom_20 : decode cX12_atom 20 = .ok (.iadd, 1) := by decide +kernel
theorem dX12_atom_21 : decode cX12_atom 21 = .ok (.putfield 141, 3) := by decide +kernel
theorem dX12_atom_24 : decode cX12_atom 24 = .ok (.aload_n 0, 1) := by decide +kernel
theorem dX12_atom_25 : decode cX12_atom 25 = .ok (.getfield 20, 3) := by decide +kernel
theorem dX12_atom_28 : decode cX12_atom 28 = .ok (.iload_n 1, 1) := by decide +kernel
theorem dX12_atom_29 : decode cX12_atom 29 = .ok (.iaload, 1) := by decide +kernel
theorem dX12_atom_30 : decode cX12_atom 30 = .ok (.ireturn, 1) := by decide +kernel
theorem dX12_atom_31 : decode cX12_atom 31 = .ok (.iload_n 1, 1) := by decide +kernel
theorem dX12_atom_32 : decode cX12_atom 32 = .ok (.bipush 91, 2) := by decide +kernel
theorem dX12_atom_34 : decode cX12_atom 34 = .ok (.if_icmp .ne 40, 3) := by decide +kernel
theorem dX12_atom_37 : decode cX12_atom 37 = .ok (.aload_n 0, 1) := by decide +kernel
theorem dX12_atom_38 : decode cX12_atom 38 = .ok (.invokevirtual 177, 3) := by decide +kernel
theorem dX12_atom_41 : decode cX12_atom 41 = .ok (.ifCond .ne 5, 3) := by decide +kernel
theorem dX12_atom_44 : decode cX12_atom 44 = .ok (.iconst 0, 1) := by decide +kernel
theorem dX12_atom_45 : decode cX12_atom 45 = .ok (.ireturn, 1) := by decide +kernel
theorem dX12_atom_46 : decode cX12_atom 46 = .ok (.aload_n 0, 1) := by decide +kernel
theorem dX12_atom_47 : decode cX12_atom 47 = .ok (.invokevirtual 180, 3) := by decide +kernel
theorem dX12_atom_50 : decode cX12_atom 50 = .ok (.istore_n 2, 1) := by decide +kernel
theorem dX12_atom_51 : decode cX12_atom 51 = .ok (.aload_n 0, 1) := by decide +kernel
theorem dX12_atom_52 : decode cX12_atom 52 = .ok (.bipush 93, 2) := by decide +kernel
theorem dX12_atom_54 : decode cX12_atom 54 = .ok (.invokevirtual 183, 3) := by decide +kernel
theorem dX12_atom_57 : decode cX12_atom 57 = .ok (.ifCond .ne 5, 3) := by decide +kernel
theorem dX12_atom_60 : decode cX12_atom 60 = .ok (.iconst 0, 1) := by decide +kernel
theorem dX12_atom_61 : decode cX12_atom 61 = .ok (.ireturn, 1) := by decide +kernel
theorem dX12_atom_62 : decode cX12_atom 62 = .ok (.aload_n 0, 1) := by decide +kernel
theorem dX12_atom_63 : decode cX12_atom 63 = .ok (.dup, 1) := by decide +kernel
theorem dX12_atom_64 : decode cX12_atom 64 = .ok (.getfield 153, 3) := by decide +kernel
theorem dX12_atom_67 : decode cX12_atom 67 = .ok (.iconst 1, 1) := by decide +kernel
theorem dX12_atom_68 : decode cX12_atom 68 = .ok (.isub, 1) := by decide +kernel
theorem dX12_atom_69 : decode cX12_atom 69 = .ok (.putfield 153, 3) := by decide +kernel
theorem dX12_atom_72 : decode cX12_atom 72 = .ok (.iload_n 2, 1) := by decide +kernel
theorem dX12_atom_73 : decode cX12_atom 73 = .ok (.ireturn, 1) := by decide +kernel
theorem dX12_atom_74 : decode cX12_atom 74 = .ok (.aload_n 0, 1) := by decide +kernel
theorem dX12_atom_75 : decode cX12_atom 75 = .ok (.invokevirtual 187, 3) := by decide +kernel
theorem dX12_atom_78 : decode cX12_atom 78 = .ok (.ifCond .ne 8, 3) := by decide +kernel
theorem dX12_atom_81 : decode cX12_atom 81 = .ok (.aload_n 0, 1) := by decide +kernel
theorem dX12_atom_82 : decode cX12_atom 82 = .ok (.invokevirtual 156, 3) := by decide +kernel
theorem dX12_atom_85 : decode cX12_atom 85 = .ok (.pop, 1) := by decide +kernel
theorem dX12_atom_86 : decode cX12_atom 86 = .ok (.iconst 0, 1) := by decide +kernel
theorem dX12_atom_87 : decode cX12_atom 87 = .ok (.istore_n 2, 1) := by decide +kernel
theorem dX12_atom_88 : decode cX12_atom 88 = .ok (.iconst 0, 1) := by decide +kernel
theorem dX12_atom_89 : decode cX12_atom 89 = .ok (.istore_n 3, 1) := by decide +kernel
theorem dX12_atom_90 : decode cX12_atom 90 = .ok (.aload_n 0, 1) := by decide +kernel
theorem dX12_atom_91 : decode cX12_atom 91 = .ok (.invokevirtual 187, 3) := by decide +kernel
theorem dX12_atom_94 : decode cX12_atom 94 = .ok (.ifCond .eq 62, 3) := by decide +kernel
theorem dX12_atom_97 : decode cX12_atom 97 = .ok (.aload_n 0, 1) := by decide +kernel
theorem dX12_atom_98 : decode cX12_atom 98 = .ok (.getfield 150, 3) := by decide +kernel
theorem dX12_atom_101 : decode cX12_atom 101 = .ok (.iconst (-1), 1) := by decide +kernel
theorem dX12_atom_102 : decode cX12_atom 102 = .ok (.if_icmp .ne 54, 3) := by decide +kernel
theorem dX12_atom_105 : decode cX12_atom 105 = .ok (.iload_n 3, 1) := by decide +kernel
theorem dX12_atom_106 : decode cX12_atom 106 = .ok (.iconst 4, 1) := by decide +kernel
theorem dX12_atom_107 : decode cX12_atom 107 = .ok (.if_icmp .ne 10, 3) := by decide +kernel
theorem dX12_atom_110 : decode cX12_atom 110 = .ok (.aload_n 0, 1) := by decide +kernel
theorem dX12_atom_111 : decode cX12_atom 111 = .ok (.invokevirtual 156, 3) := by decide +kernel
theorem dX12_atom_114 : decode cX12_atom 114 = .ok (.pop, 1) := by decide +kernel
theorem dX12_atom_115 : decode cX12_atom 115 = .ok (.iconst 0, 1) := by decide +kernel
theorem dX12_atom_116 : decode cX12_atom 116 = .ok (.ireturn, 1) := by decide +kernel
theorem dX12_atom_117 : decode cX12_atom 117 = .ok (.bipush 10, 2) := by decide +kernel
theorem dX12_atom_119 : decode cX12_atom 119 = .ok (.iload_n 2, 1) := by decide +kernel
theorem dX12_atom_120 : decode cX12_atom 120 = .ok (.imul, 1) := by decide +kernel
theorem dX12_atom_121 : decode cX12_atom 121 = .ok (.aload_n 0, 1) := by decide +kernel
theorem dX12_atom_122 : decode cX12_atom 122 = .ok (.getfield 23, 3) := by decide +kernel
theorem dX12_atom_125 : decode cX12_atom 125 = .ok (.aload_n 0, 1) := by decide +kernel
theorem dX12_atom_126 : decode cX12_atom 126 = .ok (.getfield 147, 3) := by decide +kernel
theorem dX12_atom_129 : decode cX12_atom 129 = .ok (.aload_n 0, 1) := by decide +kernel
theorem dX12_atom_130 : decode cX12_atom 130 = .ok (.getfield 141, 3) := by decide +kernel
theorem dX12_atom_133 : decode cX12_atom 133 = .ok (.iadd, 1) := by decide +kernel
theorem dX12_atom_134 : decode cX12_atom 134 = .ok (.baload, 1) := by decide +kernel
theorem dX12_atom_135 : decode cX12_atom 135 = .ok (.iadd, 1) := by decide +kernel
theorem dX12_atom_136 : decode cX12_atom 136 = .ok (.bipush 48, 2) := by decide +kernel
theorem dX12_atom_138 : decode cX12_atom 138 = .ok (.isub, 1) := by decide +kernel
theorem dX12_atom_139 : decode cX12_atom 139 = .ok (.istore_n 2, 1) := by decide +kernel
theorem dX12_atom_140 : decode cX12_atom 140 = .ok (.aload_n 0, 1) := by decide +kernel
theorem dX12_atom_141 : decode cX12_atom 141 = .ok (.dup, 1) := by decide +kernel
theorem dX12_atom_142 : decode cX12_atom 142 = .ok (.getfield 141, 3) := by decide +kernel
theorem dX12_atom_145 : decode cX12_atom 145 = .ok (.iconst 1, 1) := by decide +kernel
theorem dX12_atom_146 : decode cX12_atom 146 = .ok (.iadd, 1) := by decide +kernel
theorem dX12_atom_147 : decode cX12_atom 147 = .ok (.putfield 141, 3) := by decide +kernel
theorem dX12_atom_150 : decode cX12_atom 150 = .ok (.iinc 3 1, 3) := by decide +kernel
theorem dX12_atom_153 : decode cX12_atom 153 = .ok (.goto (-63), 3) := by decide +kernel
theorem dX12_atom_156 : decode cX12_atom 156 = .ok (.iload_n 2, 1) := by decide +kernel
theorem dX12_atom_157 : decode cX12_atom 157 = .ok (.ireturn, 1) := by decide +kernel
theorem dX12_term_0 : decode cX12_term 0 = .ok (.aload_n 0, 1) := by decide +kernel
theorem dX12_term_1 : decode cX12_term 1 = .ok (.invokevirtual 190, 3) := by decide +kernel
theorem dX12_term_4 : decode cX12_term 4 = .ok (.istore_n 1, 1) := by decide +kernel
theorem dX12_term_5 : decode cX12_term 5 = .ok (.aload_n 0, 1) := by decide +kernel
theorem dX12_term_6 : decode cX12_term 6 = .ok (.getfield 150, 3) := by decide +kernel
theorem dX12_term_9 : decode cX12_term 9 = .ok (.iconst (-1), 1) := by decide +kernel
theorem dX12_term_10 : decode cX12_term 10 = .ok (.if_icmp .ne 84, 3) := by decide +kernel
theorem dX12_term_13 : decode cX12_term 13 = .ok (.aload_n 0, 1) := by decide +kernel
theorem dX12_term_14 : decode cX12_term 14 = .ok (.invokevirtual 160, 3) := by decide +kernel
theorem dX12_term_17 : decode cX12_term 17 = .ok (.bipush 42, 2) := by decide +kernel
theorem dX12_term_19 : decode cX12_term 19 = .ok (.if_icmp .eq 12, 3) := by decide +kernel
theorem dX12_term_22 : decode cX12_term 22 = .ok (.aload_n 0, 1) := by decide +kernel
theorem dX12_term_23 : decode cX12_term 23 = .ok (.invokevirtual 160, 3) := by decide +kernel
theorem dX12_term_26 : decode cX12_term 26 = .ok (.bipush 47, 2) := by decide +kernel
theorem dX12_term_28 : decode cX12_term 28 = .ok (.if_icmp .ne 66, 3) := by decide +kernel
theorem dX12_term_31 : decode cX12_term 31 = .ok (.aload_n 0, 1) := by decide +kernel
theorem dX12_term_32 : decode cX12_term 32 = .ok (.invokevirtual 160, 3) := by decide +kernel
theorem dX12_term_35 : decode cX12_term 35 = .ok (.bipush 42, 2) := by decide +kernel
theorem dX12_term_37 : decode cX12_term 37 = .ok (.if_icmp .ne 7, 3) := by decide +kernel
theorem dX12_term_40 : decode cX12_term 40 = .ok (.iconst 1, 1) := by decide +kernel
theorem dX12_term_41 : decode cX12_term 41 = .ok (.goto 4, 3) := by decide +kernel
theorem dX12_term_44 : decode cX12_term 44 = .ok (.iconst 0, 1) := by decide +kernel
theorem dX12_term_45 : decode cX12_term 45 = .ok (.istore_n 2, 1) := by decide +kernel
theorem dX12_term_46 : decode cX12_term 46 = .ok (.aload_n 0, 1) := by decide +kernel
theorem dX12_term_47 : decode cX12_term 47 = .ok (.dup, 1) := by decide +kernel
theorem dX12_term_48 : decode cX12_term 48 = .ok (.getfield 141, 3) := by decide +kernel
theorem dX12_term_51 : decode cX12_term 51 = .ok (.iconst 1, 1) := by decide +kernel
theorem dX12_term_52 : decode cX12_term 52 = .ok (.iadd, 1) := by decide +kernel
theorem dX12_term_53 : decode cX12_term 53 = .ok (.putfield 141, 3) := by decide +kernel
theorem dX12_term_56 : decode cX12_term 56 = .ok (.aload_n 0, 1) := by decide +kernel
theorem dX12_term_57 : decode cX12_term 57 = .ok (.invokevirtual 190, 3) := by decide +kernel
theorem dX12_term_60 : decode cX12_term 60 = .ok (.i2l, 1) := by decide +kernel
theorem dX12_term_61 : decode cX12_term 61 = .ok (.lstore_n 3, 1) := by decide +kernel
theorem dX12_term_62 : decode cX12_term 62 = .ok (.iload_n 2, 1) := by decide +kernel
theorem dX12_term_63 : decode cX12_term 63 = .ok (.ifCond .eq 10, 3) := by decide +kernel
theorem dX12_term_66 : decode cX12_term 66 = .ok (.iload_n 1, 1) := by decide +kernel
theorem dX12_term_67 : decode cX12_term 67 = .ok (.i2l, 1) := by decide +kernel
theorem dX12_term_68 : decode cX12_term 68 = .ok (.lload_n 3, 1) := by decide +kernel
theorem dX12_term_69 : decode cX12_term 69 = .ok (.lmul, 1) := by decide +kernel
theorem dX12_term_70 : decode cX12_term 70 = .ok (.goto 17, 3) := by decide +kernel
theorem dX12_term_73 : decode cX12_term 73 = .ok (.lload_n 3, 1) := by decide +kernel
theorem dX12_term_74 : decode cX12_term 74 = .ok (.lconst 0, 1) := by decide +kernel
theorem dX12_term_75 : decode cX12_term 75 = .ok (.lcmp, 1) := by decide +kernel
theorem dX12_term_76 : decode cX12_term 76 = .ok (.ifCond .ne 7, 3) := by decide +kernel
theorem dX12_term_79 : decode cX12_term 79 = .ok (.lconst 0, 1) := by decide +kernel
theorem dX12_term_80 : decode cX12_term 80 = .ok (.goto 7, 3) := by decide +kernel
theorem dX12_term_83 : decode cX12_term 83 = .ok (.iload_n 1, 1) := by decide +kernel
theorem dX12_term_84 : decode cX12_term 84 = .ok (.i2l, 1) := by decide +kernel
theorem dX12_term_85 : decode cX12_term 85 = .ok (.lload_n 3, 1) := by decide +kernel
theorem dX12_term_86 : decode cX12_term 86 = .ok (.ldiv, 1) := by decide +kernel
theorem dX12_term_87 : decode cX12_term 87 = .ok (.invokestatic 193, 3) := by decide +kernel
theorem dX12_term_90 : decode cX12_term 90 = .ok (.istore_n 1, 1) := by decide +kernel
theorem dX12_term_91 : decode cX12_term 91 = .ok (.goto (-86), 3) := by decide +kernel
theorem dX12_term_94 : decode cX12_term 94 = .ok (.iload_n 1, 1) := by decide +kernel
theorem dX12_term_95 : decode cX12_term 95 = .ok (.ireturn, 1) := by decide +kernel
theorem dX12_sum_0 : decode cX12_sum 0 = .ok (.aload_n 0, 1) := by decide +kernel
theorem dX12_sum_1 : decode cX12_sum 1 = .ok (.invokevirtual 197, 3) := by decide +kernel
theorem dX12_sum_4 : decode cX12_sum 4 = .ok (.istore_n 1, 1) := by decide +kernel
theorem dX12_sum_5 : decode cX12_sum 5 = .ok (.aload_n 0, 1) := by decide +kernel
theorem dX12_sum_6 : decode cX12_sum 6 = .ok (.getfield 150, 3) := by decide +kernel
theorem dX12_sum_9 : decode cX12_sum 9 = .ok (.iconst (-1), 1) := by decide +kernel
theorem dX12_sum_10 : decode cX12_sum 10 = .ok (.if_icmp .ne 74, 3) := by decide +kernel
theorem dX12_sum_13 : decode cX12_sum 13 = .ok (.aload_n 0, 1) := by decide +kernel
theorem dX12_sum_14 : decode cX12_sum 14 = .ok (.invokevirtual 160, 3) := by decide +kernel
theorem dX12_sum_17 : decode cX12_sum 17 = .ok (.bipush 43, 2) := by decide +kernel
theorem dX12_sum_19 : decode cX12_sum 19 = .ok (.if_icmp .eq 12, 3) := by decide +kernel
theorem dX12_sum_22 : decode cX12_sum 22 = .ok (.aload_n 0, 1) := by decide +kernel
theorem dX12_sum_23 : decode cX12_sum 23 = .ok (.invokevirtual 160, 3) := by decide +kernel
theorem dX12_sum_26 : decode cX12_sum 26 = .ok (.bipush 45, 2) := by decide +kernel
theorem dX12_sum_28 : decode cX12_sum 28 = .ok (.if_icmp .ne 56, 3) := by decide +kernel
theorem dX12_sum_31 : decode cX12_sum 31 = .ok (.aload_n 0, 1) := by decide +kernel
theorem dX12_sum_32 : decode cX12_sum 32 = .ok (.invokevirtual 160, 3) := by decide +kernel
theorem dX12_sum_35 : decode cX12_sum 35 = .ok (.bipush 43, 2) := by decide +kernel
theorem dX12_sum_37 : decode cX12_sum 37 = .ok (.if_icmp .ne 7, 3) := by decide +kernel
theorem dX12_sum_40 : decode cX12_sum 40 = .ok (.iconst 1, 1) := by decide +kernel
theorem dX12_sum_41 : decode cX12_sum 41 = .ok (.goto 4, 3) := by decide +kernel
theorem dX12_sum_44 : decode cX12_sum 44 = .ok (.iconst 0, 1) := by decide +kernel
theorem dX12_sum_45 : decode cX12_sum 45 = .ok (.istore_n 2, 1) := by decide +kernel
theorem dX12_sum_46 : decode cX12_sum 46 = .ok (.aload_n 0, 1) := by decide +kernel
theorem dX12_sum_47 : decode cX12_sum 47 = .ok (.dup, 1) := by decide +kernel
theorem dX12_sum_48 : decode cX12_sum 48 = .ok (.getfield 141, 3) := by decide +kernel
theorem dX12_sum_51 : decode cX12_sum 51 = .ok (.iconst 1, 1) := by decide +kernel
theorem dX12_sum_52 : decode cX12_sum 52 = .ok (.iadd, 1) := by decide +kernel
theorem dX12_sum_53 : decode cX12_sum 53 = .ok (.putfield 141, 3) := by decide +kernel
theorem dX12_sum_56 : decode cX12_sum 56 = .ok (.aload_n 0, 1) := by decide +kernel
theorem dX12_sum_57 : decode cX12_sum 57 = .ok (.invokevirtual 197, 3) := by decide +kernel
theorem dX12_sum_60 : decode cX12_sum 60 = .ok (.i2l, 1) := by decide +kernel
theorem dX12_sum_61 : decode cX12_sum 61 = .ok (.lstore_n 3, 1) := by decide +kernel
theorem dX12_sum_62 : decode cX12_sum 62 = .ok (.iload_n 2, 1) := by decide +kernel
theorem dX12_sum_63 : decode cX12_sum 63 = .ok (.ifCond .eq 10, 3) := by decide +kernel
theorem dX12_sum_66 : decode cX12_sum 66 = .ok (.iload_n 1, 1) := by decide +kernel
theorem dX12_sum_67 : decode cX12_sum 67 = .ok (.i2l, 1) := by decide +kernel
theorem dX12_sum_68 : decode cX12_sum 68 = .ok (.lload_n 3, 1) := by decide +kernel
theorem dX12_sum_69 : decode cX12_sum 69 = .ok (.ladd, 1) := by decide +kernel
theorem dX12_sum_70 : decode cX12_sum 70 = .ok (.goto 7, 3) := by decide +kernel
theorem dX12_sum_73 : decode cX12_sum 73 = .ok (.iload_n 1, 1) := by decide +kernel
theorem dX12_sum_74 : decode cX12_sum 74 = .ok (.i2l, 1) := by decide +kernel
theorem dX12_sum_75 : decode cX12_sum 75 = .ok (.lload_n 3, 1) := by decide +kernel
theorem dX12_sum_76 : decode cX12_sum 76 = .ok (.lsub, 1) := by decide +kernel
theorem dX12_sum_77 : decode cX12_sum 77 = .ok (.invokestatic 193, 3) := by decide +kernel
theorem dX12_sum_80 : decode cX12_sum 80 = .ok (.istore_n 1, 1) := by decide +kernel
theorem dX12_sum_81 : decode cX12_sum 81 = .ok (.goto (-76), 3) := by decide +kernel
theorem dX12_sum_84 : decode cX12_sum 84 = .ok (.iload_n 1, 1) := by decide +kernel
theorem dX12_sum_85 : decode cX12_sum 85 = .ok (.ireturn, 1) := by decide +kernel
theorem dX12_isSign_0 : decode cX12_isSign 0 = .ok (.iload_n 0, 1) := by decide +kernel
theorem dX12_isSign_1 : decode cX12_isSign 1 = .ok (.bipush 61, 2) := by decide +kernel
theorem dX12_isSign_3 : decode cX12_isSign 3 = .ok (.if_icmp .eq 15, 3) := by decide +kernel
theorem dX12_isSign_6 : decode cX12_isSign 6 = .ok (.iload_n 0, 1) := by decide +kernel
theorem dX12_isSign_7 : decode cX12_isSign 7 = .ok (.bipush 60, 2) := by decide +kernel
theorem dX12_isSign_9 : decode cX12_isSign 9 = .ok (.if_icmp .eq 9, 3) := by decide +kernel
theorem dX12_isSign_12 : decode cX12_isSign 12 = .ok (.iload_n 0, 1) := by decide +kernel
theorem dX12_isSign_13 : decode cX12_isSign 13 = .ok (.bipush 62, 2) := by decide +kernel
theorem dX12_isSign_15 : decode cX12_isSign 15 = .ok (.if_icmp .ne 7, 3) := by decide +kernel
theorem dX12_isSign_18 : decode cX12_isSign 18 = .ok (.iconst 1, 1) := by decide +kernel
theorem dX12_isSign_19 : decode cX12_isSign 19 = .ok (.goto 4, 3) := by decide +kernel
theorem dX12_isSign_22 : decode cX12_isSign 22 = .ok (.iconst 0, 1) := by decide +kernel
theorem dX12_isSign_23 : decode cX12_isSign 23 = .ok (.ireturn, 1) := by decide +kernel
theorem dX12_compares_0 : decode cX12_compares 0 = .ok (.iload_n 1, 1) := by decide +kernel
theorem dX12_compares_1 : decode cX12_compares 1 = .ok (.ifCond .eq 7, 3) := by decide +kernel
theorem dX12_compares_4 : decode cX12_compares 4 = .ok (.iload_n 2, 1) := by decide +kernel
theorem dX12_compares_5 : decode cX12_compares 5 = .ok (.goto 7, 3) := by decide +kernel
theorem dX12_compares_8 : decode cX12_compares 8 = .ok (.aload_n 0, 1) := by decide +kernel
theorem dX12_compares_9 : decode cX12_compares 9 = .ok (.invokevirtual 180, 3) := by decide +kernel
theorem dX12_compares_12 : decode cX12_compares 12 = .ok (.istore_n 3, 1) := by decide +kernel
theorem dX12_compares_13 : decode cX12_compares 13 = .ok (.aload_n 0, 1) := by decide +kernel
theorem dX12_compares_14 : decode cX12_compares 14 = .ok (.getfield 150, 3) := by decide +kernel
theorem dX12_compares_17 : decode cX12_compares 17 = .ok (.iconst (-1), 1) := by decide +kernel
theorem dX12_compares_18 : decode cX12_compares 18 = .ok (.if_icmp .eq 5, 3) := by decide +kernel
theorem dX12_compares_21 : decode cX12_compares 21 = .ok (.iconst 0, 1) := by decide +kernel
theorem dX12_compares_22 : decode cX12_compares 22 = .ok (.ireturn, 1) := by decide +kernel
theorem dX12_compares_23 : decode cX12_compares 23 = .ok (.aload_n 0, 1) := by decide +kernel
theorem dX12_compares_24 : decode cX12_compares 24 = .ok (.invokevirtual 160, 3) := by decide +kernel
theorem dX12_compares_27 : decode cX12_compares 27 = .ok (.istore 4, 2) := by decide +kernel
theorem dX12_compares_29 : decode cX12_compares 29 = .ok (.iload 4, 2) := by decide +kernel
theorem dX12_compares_31 : decode cX12_compares 31 = .ok (.invokestatic 200, 3) := by decide +kernel
theorem dX12_compares_34 : decode cX12_compares 34 = .ok (.ifCond .ne 8, 3) := by decide +kernel
theorem dX12_compares_37 : decode cX12_compares 37 = .ok (.aload_n 0, 1) := by decide +kernel
theorem dX12_compares_38 : decode cX12_compares 38 = .ok (.invokevirtual 156, 3) := by decide +kernel
theorem dX12_compares_41 : decode cX12_compares 41 = .ok (.ireturn, 1) := by decide +kernel
theorem dX12_compares_42 : decode cX12_compares 42 = .ok (.aload_n 0, 1) := by decide +kernel
theorem dX12_compares_43 : decode cX12_compares 43 = .ok (.dup, 1) := by decide +kernel
theorem dX12_compares_44 : decode cX12_compares 44 = .ok (.getfield 141, 3) := by decide +kernel
theorem dX12_compares_47 : decode cX12_compares 47 = .ok (.iconst 1, 1) := by decide +kernel
theorem dX12_compares_48 : decode cX12_compares 48 = .ok (.iadd, 1) := by decide +kernel
theorem dX12_compares_49 : decode cX12_compares 49 = .ok (.putfield 141, 3) := by decide +kernel
theorem dX12_compares_52 : decode cX12_compares 52 = .ok (.aload_n 0, 1) := by decide +kernel
theorem dX12_compares_53 : decode cX12_compares 53 = .ok (.invokevirtual 180, 3) := by decide +kernel
theorem dX12_compares_56 : decode cX12_compares 56 = .ok (.istore 5, 2) := by decide +kernel
theorem dX12_compares_58 : decode cX12_compares 58 = .ok (.iload 4, 2) := by decide +kernel
theorem dX12_compares_60 : decode cX12_compares 60 = .ok (.bipush 61, 2) := by decide +kernel
theorem dX12_compares_62 : decode cX12_compares 62 = .ok (.if_icmp .ne 17, 3) := by decide +kernel
theorem dX12_compares_65 : decode cX12_compares 65 = .ok (.iload_n 3, 1) := by decide +kernel
theorem dX12_compares_66 : decode cX12_compares 66 = .ok (.iload 5, 2) := by decide +kernel
theorem dX12_compares_68 : decode cX12_compares 68 = .ok (.if_icmp .ne 7, 3) := by decide +kernel
theorem dX12_compares_71 : decode cX12_compares 71 = .ok (.iconst 1, 1) := by decide +kernel
theorem dX12_compares_72 : decode cX12_compares 72 = .ok (.goto 39, 3) := by decide +kernel
theorem dX12_compares_75 : decode cX12_compares 75 = .ok (.iconst 0, 1) := by decide +kernel
theorem dX12_compares_76 : decode cX12_compares 76 = .ok (.goto 35, 3) := by decide +kernel
theorem dX12_compares_79 : decode cX12_compares 79 = .ok (.iload 4, 2) := by decide +kernel
theorem dX12_compares_81 : decode cX12_compares 81 = .ok (.bipush 60, 2) := by decide +kernel
theorem dX12_compares_83 : decode cX12_compares 83 = .ok (.if_icmp .ne 17, 3) := by decide +kernel
theorem dX12_compares_86 : decode cX12_compares 86 = .ok (.iload_n 3, 1) := by decide +kernel
theorem dX12_compares_87 : decode cX12_compares 87 = .ok (.iload 5, 2) := by decide +kernel
theorem dX12_compares_89 : decode cX12_compares 89 = .ok (.if_icmp .ge 7, 3) := by decide +kernel
theorem dX12_compares_92 : decode cX12_compares 92 = .ok (.iconst 1, 1) := by decide +kernel
theorem dX12_compares_93 : decode cX12_compares 93 = .ok (.goto 18, 3) := by decide +kernel
theorem dX12_compares_96 : decode cX12_compares 96 = .ok (.iconst 0, 1) := by decide +kernel
theorem dX12_compares_97 : decode cX12_compares 97 = .ok (.goto 14, 3) := by decide +kernel
theorem dX12_compares_100 : decode cX12_compares 100 = .ok (.iload_n 3, 1) := by decide +kernel
theorem dX12_compares_101 : decode cX12_compares 101 = .ok (.iload 5, 2) := by decide +kernel
theorem dX12_compares_103 : decode cX12_compares 103 = .ok (.if_icmp .le 7, 3) := by decide +kernel
theorem dX12_compares_106 : decode cX12_compares 106 = .ok (.iconst 1, 1) := by decide +kernel
theorem dX12_compares_107 : decode cX12_compares 107 = .ok (.goto 4, 3) := by decide +kernel
theorem dX12_compares_110 : decode cX12_compares 110 = .ok (.iconst 0, 1) := by decide +kernel
theorem dX12_compares_111 : decode cX12_compares 111 = .ok (.ireturn, 1) := by decide +kernel
theorem dX12_unit_0 : decode cX12_unit 0 = .ok (.aload_n 0, 1) := by decide +kernel
theorem dX12_unit_1 : decode cX12_unit 1 = .ok (.invokevirtual 160, 3) := by decide +kernel
theorem dX12_unit_4 : decode cX12_unit 4 = .ok (.istore_n 1, 1) := by decide +kernel
theorem dX12_unit_5 : decode cX12_unit 5 = .ok (.iload_n 1, 1) := by decide +kernel
theorem dX12_unit_6 : decode cX12_unit 6 = .ok (.bipush 33, 2) := by decide +kernel
theorem dX12_unit_8 : decode cX12_unit 8 = .ok (.if_icmp .ne 37, 3) := by decide +kernel
theorem dX12_unit_11 : decode cX12_unit 11 = .ok (.aload_n 0, 1) := by decide +kernel
theorem dX12_unit_12 : decode cX12_unit 12 = .ok (.invokevirtual 177, 3) := by decide +kernel
theorem dX12_unit_15 : decode cX12_unit 15 = .ok (.ifCond .ne 5, 3) := by decide +kernel
theorem dX12_unit_18 : decode cX12_unit 18 = .ok (.iconst 0, 1) := by decide +kernel
theorem dX12_unit_19 : decode cX12_unit 19 = .ok (.ireturn, 1) := by decide +kernel
theorem dX12_unit_20 : decode cX12_unit 20 = .ok (.aload_n 0, 1) := by decide +kernel
theorem dX12_unit_21 : decode cX12_unit 21 = .ok (.invokevirtual 203, 3) := by decide +kernel
theorem dX12_unit_24 : decode cX12_unit 24 = .ok (.istore_n 2, 1) := by decide +kernel
theorem dX12_unit_25 : decode cX12_unit 25 = .ok (.aload_n 0, 1) := by decide +kernel
theorem dX12_unit_26 : decode cX12_unit 26 = .ok (.dup, 1) := by decide +kernel
theorem dX12_unit_27 : decode cX12_unit 27 = .ok (.getfield 153, 3) := by decide +kernel
theorem dX12_unit_30 : decode cX12_unit 30 = .ok (.iconst 1, 1) := by decide +kernel
theorem dX12_unit_31 : decode cX12_unit 31 = .ok (.isub, 1) := by decide +kernel
theorem dX12_unit_32 : decode cX12_unit 32 = .ok (.putfield 153, 3) := by decide +kernel
theorem dX12_unit_35 : decode cX12_unit 35 = .ok (.iload_n 2, 1) := by decide +kernel
theorem dX12_unit_36 : decode cX12_unit 36 = .ok (.ifCond .ne 7, 3) := by decide +kernel
theorem dX12_unit_39 : decode cX12_unit 39 = .ok (.iconst 1, 1) := by decide +kernel
theorem dX12_unit_40 : decode cX12_unit 40 = .ok (.goto 4, 3) := by decide +kernel
theorem dX12_unit_43 : decode cX12_unit 43 = .ok (.iconst 0, 1) := by decide +kernel
theorem dX12_unit_44 : decode cX12_unit 44 = .ok (.ireturn, 1) := by decide +kernel
theorem dX12_unit_45 : decode cX12_unit 45 = .ok (.iload_n 1, 1) := by decide +kernel
theorem dX12_unit_46 : decode cX12_unit 46 = .ok (.bipush 40, 2) := by decide +kernel
theorem dX12_unit_48 : decode cX12_unit 48 = .ok (.if_icmp .ne 42, 3) := by decide +kernel
theorem dX12_unit_51 : decode cX12_unit 51 = .ok (.aload_n 0, 1) := by decide +kernel
theorem dX12_unit_52 : decode cX12_unit 52 = .ok (.invokevirtual 177, 3) := by decide +kernel
theorem dX12_unit_55 : decode cX12_unit 55 = .ok (.ifCond .ne 5, 3) := by decide +kernel
theorem dX12_unit_58 : decode cX12_unit 58 = .ok (.iconst 0, 1) := by decide +kernel
theorem dX12_unit_59 : decode cX12_unit 59 = .ok (.ireturn, 1) := by decide +kernel
theorem dX12_unit_60 : decode cX12_unit 60 = .ok (.aload_n 0, 1) := by decide +kernel
theorem dX12_unit_61 : decode cX12_unit 61 = .ok (.iconst 0, 1) := by decide +kernel
theorem dX12_unit_62 : decode cX12_unit 62 = .ok (.iconst 0, 1) := by decide +kernel
theorem dX12_unit_63 : decode cX12_unit 63 = .ok (.invokevirtual 206, 3) := by decide +kernel
theorem dX12_unit_66 : decode cX12_unit 66 = .ok (.istore_n 2, 1) := by decide +kernel
theorem dX12_unit_67 : decode cX12_unit 67 = .ok (.aload_n 0, 1) := by decide +kernel
theorem dX12_unit_68 : decode cX12_unit 68 = .ok (.bipush 41, 2) := by decide +kernel
theorem dX12_unit_70 : decode cX12_unit 70 = .ok (.invokevirtual 183, 3) := by decide +kernel
theorem dX12_unit_73 : decode cX12_unit 73 = .ok (.ifCond .ne 5, 3) := by decide +kernel
theorem dX12_unit_76 : decode cX12_unit 76 = .ok (.iconst 0, 1) := by decide +kernel
theorem dX12_unit_77 : decode cX12_unit 77 = .ok (.ireturn, 1) := by decide +kernel
theorem dX12_unit_78 : decode cX12_unit 78 = .ok (.aload_n 0, 1) := by decide +kernel
theorem dX12_unit_79 : decode cX12_unit 79 = .ok (.dup, 1) := by decide +kernel
theorem dX12_unit_80 : decode cX12_unit 80 = .ok (.getfield 153, 3) := by decide +kernel
theorem dX12_unit_83 : decode cX12_unit 83 = .ok (.iconst 1, 1) := by decide +kernel
theorem dX12_unit_84 : decode cX12_unit 84 = .ok (.isub, 1) := by decide +kernel
theorem dX12_unit_85 : decode cX12_unit 85 = .ok (.putfield 153, 3) := by decide +kernel
theorem dX12_unit_88 : decode cX12_unit 88 = .ok (.iload_n 2, 1) := by decide +kernel
theorem dX12_unit_89 : decode cX12_unit 89 = .ok (.ireturn, 1) := by decide +kernel
theorem dX12_unit_90 : decode cX12_unit 90 = .ok (.aload_n 0, 1) := by decide +kernel
theorem dX12_unit_91 : decode cX12_unit 91 = .ok (.iconst 0, 1) := by decide +kernel
theorem dX12_unit_92 : decode cX12_unit 92 = .ok (.iconst 0, 1) := by decide +kernel
theorem dX12_unit_93 : decode cX12_unit 93 = .ok (.invokevirtual 210, 3) := by decide +kernel
theorem dX12_unit_96 : decode cX12_unit 96 = .ok (.ireturn, 1) := by decide +kernel
theorem dX12_part_0 : decode cX12_part 0 = .ok (.iload_n 1, 1) := by decide +kernel
theorem dX12_part_1 : decode cX12_part 1 = .ok (.ifCond .eq 12, 3) := by decide +kernel
theorem dX12_part_4 : decode cX12_part 4 = .ok (.aload_n 0, 1) := by decide +kernel
theorem dX12_part_5 : decode cX12_part 5 = .ok (.iconst 1, 1) := by decide +kernel
theorem dX12_part_6 : decode cX12_part 6 = .ok (.iload_n 2, 1) := by decide +kernel
theorem dX12_part_7 : decode cX12_part 7 = .ok (.invokevirtual 210, 3) := by decide +kernel
theorem dX12_part_10 : decode cX12_part 10 = .ok (.goto 7, 3) := by decide +kernel
theorem dX12_part_13 : decode cX12_part 13 = .ok (.aload_n 0, 1) := by decide +kernel
theorem dX12_part_14 : decode cX12_part 14 = .ok (.invokevirtual 203, 3) := by decide +kernel
theorem dX12_part_17 : decode cX12_part 17 = .ok (.istore_n 3, 1) := by decide +kernel
theorem dX12_part_18 : decode cX12_part 18 = .ok (.aload_n 0, 1) := by decide +kernel
theorem dX12_part_19 : decode cX12_part 19 = .ok (.getfield 150, 3) := by decide +kernel
theorem dX12_part_22 : decode cX12_part 22 = .ok (.iconst (-1), 1) := by decide +kernel
theorem dX12_part_23 : decode cX12_part 23 = .ok (.if_icmp .ne 46, 3) := by decide +kernel
theorem dX12_part_26 : decode cX12_part 26 = .ok (.aload_n 0, 1) := by decide +kernel
theorem dX12_part_27 : decode cX12_part 27 = .ok (.invokevirtual 160, 3) := by decide +kernel
theorem dX12_part_30 : decode cX12_part 30 = .ok (.bipush 38, 2) := by decide +kernel
theorem dX12_part_32 : decode cX12_part 32 = .ok (.if_icmp .ne 37, 3) := by decide +kernel
theorem dX12_part_35 : decode cX12_part 35 = .ok (.aload_n 0, 1) := by decide +kernel
theorem dX12_part_36 : decode cX12_part 36 = .ok (.dup, 1) := by decide +kernel
theorem dX12_part_37 : decode cX12_part 37 = .ok (.getfield 141, 3) := by decide +kernel
theorem dX12_part_40 : decode cX12_part 40 = .ok (.iconst 1, 1) := by decide +kernel
theorem dX12_part_41 : decode cX12_part 41 = .ok (.iadd, 1) := by decide +kernel
theorem dX12_part_42 : decode cX12_part 42 = .ok (.putfield 141, 3) := by decide +kernel
theorem dX12_part_45 : decode cX12_part 45 = .ok (.aload_n 0, 1) := by decide +kernel
theorem dX12_part_46 : decode cX12_part 46 = .ok (.invokevirtual 203, 3) := by decide +kernel
theorem dX12_part_49 : decode cX12_part 49 = .ok (.istore 4, 2) := by decide +kernel
theorem dX12_part_51 : decode cX12_part 51 = .ok (.iload_n 3, 1) := by decide +kernel
theorem dX12_part_52 : decode cX12_part 52 = .ok (.ifCond .eq 12, 3) := by decide +kernel
theorem dX12_part_55 : decode cX12_part 55 = .ok (.iload 4, 2) := by decide +kernel
theorem dX12_part_57 : decode cX12_part 57 = .ok (.ifCond .eq 7, 3) := by decide +kernel
theorem dX12_part_60 : decode cX12_part 60 = .ok (.iconst 1, 1) := by decide +kernel
theorem dX12_part_61 : decode cX12_part 61 = .ok (.goto 4, 3) := by decide +kernel
theorem dX12_part_64 : decode cX12_part 64 = .ok (.iconst 0, 1) := by decide +kernel
theorem dX12_part_65 : decode cX12_part 65 = .ok (.istore_n 3, 1) := by decide +kernel
theorem dX12_part_66 : decode cX12_part 66 = .ok (.goto (-48), 3) := by decide +kernel
theorem dX12_part_69 : decode cX12_part 69 = .ok (.iload_n 3, 1) := by decide +kernel
theorem dX12_part_70 : decode cX12_part 70 = .ok (.ireturn, 1) := by decide +kernel
theorem dX12_condition_0 : decode cX12_condition 0 = .ok (.aload_n 0, 1) := by decide +kernel
theorem dX12_condition_1 : decode cX12_condition 1 = .ok (.iload_n 1, 1) := by decide +kernel
theorem dX12_condition_2 : decode cX12_condition 2 = .ok (.iload_n 2, 1) := by decide +kernel
theorem dX12_condition_3 : decode cX12_condition 3 = .ok (.invokevirtual 213, 3) := by decide +kernel
theorem dX12_condition_6 : decode cX12_condition 6 = .ok (.istore_n 3, 1) := by decide +kernel
theorem dX12_condition_7 : decode cX12_condition 7 = .ok (.aload_n 0, 1) := by decide +kernel
theorem dX12_condition_8 : decode cX12_condition 8 = .ok (.getfield 150, 3) := by decide +kernel
theorem dX12_condition_11 : decode cX12_condition 11 = .ok (.iconst (-1), 1) := by decide +kernel
theorem dX12_condition_12 : decode cX12_condition 12 = .ok (.if_icmp .ne 48, 3) := by decide +kernel
theorem dX12_condition_15 : decode cX12_condition 15 = .ok (.aload_n 0, 1) := by decide +kernel
theorem dX12_condition_16 : decode cX12_condition 16 = .ok (.invokevirtual 160, 3) := by decide +kernel
theorem dX12_condition_19 : decode cX12_condition 19 = .ok (.bipush 124, 2) := by decide +kernel
theorem dX12_condition_21 : decode cX12_condition 21 = .ok (.if_icmp .ne 39, 3) := by decide +kernel
theorem dX12_condition_24 : decode cX12_condition 24 = .ok (.aload_n 0, 1) := by decide +kernel
theorem dX12_condition_25 : decode cX12_condition 25 = .ok (.dup, 1) := by decide +kernel
theorem dX12_condition_26 : decode cX12_condition 26 = .ok (.getfield 141, 3) := by decide +kernel
theorem dX12_condition_29 : decode cX12_condition 29 = .ok (.iconst 1, 1) := by decide +kernel
theorem dX12_condition_30 : decode cX12_condition 30 = .ok (.iadd, 1) := by decide +kernel
theorem dX12_condition_31 : decode cX12_condition 31 = .ok (.putfield 141, 3) := by decide +kernel
theorem dX12_condition_34 : decode cX12_condition 34 = .ok (.aload_n 0, 1) := by decide +kernel
theorem dX12_condition_35 : decode cX12_condition 35 = .ok (.iconst 0, 1) := by decide +kernel
theorem dX12_condition_36 : decode cX12_condition 36 = .ok (.iconst 0, 1) := by decide +kernel
theorem dX12_condition_37 : decode cX12_condition 37 = .ok (.invokevirtual 213, 3) := by decide +kernel
theorem dX12_condition_40 : decode cX12_condition 40 = .ok (.istore 4, 2) := by decide +kernel
theorem dX12_condition_42 : decode cX12_condition 42 = .ok (.iload_n 3, 1) := by decide +kernel
theorem dX12_condition_43 : decode cX12_condition 43 = .ok (.ifCond .ne 8, 3) := by decide +kernel
theorem dX12_condition_46 : decode cX12_condition 46 = .ok (.iload 4, 2) := by decide +kernel
theorem dX12_condition_48 : decode cX12_condition 48 = .ok (.ifCond .eq 7, 3) := by decide +kernel
theorem dX12_condition_51 : decode cX12_condition 51 = .ok (.iconst 1, 1) := by decide +kernel
theorem dX12_condition_52 : decode cX12_condition 52 = .ok (.goto 4, 3) := by decide +kernel
theorem dX12_condition_55 : decode cX12_condition 55 = .ok (.iconst 0, 1) := by decide +kernel
theorem dX12_condition_56 : decode cX12_condition 56 = .ok (.istore_n 3, 1) := by decide +kernel
theorem dX12_condition_57 : decode cX12_condition 57 = .ok (.goto (-50), 3) := by decide +kernel
theorem dX12_condition_60 : decode cX12_condition 60 = .ok (.iload_n 3, 1) := by decide +kernel
theorem dX12_condition_61 : decode cX12_condition 61 = .ok (.ireturn, 1) := by decide +kernel
theorem dX12_clause_0 : decode cX12_clause 0 = .ok (.aload_n 0, 1) := by decide +kernel
theorem dX12_clause_1 : decode cX12_clause 1 = .ok (.invokevirtual 160, 3) := by decide +kernel
theorem dX12_clause_4 : decode cX12_clause 4 = .ok (.istore_n 1, 1) := by decide +kernel
theorem dX12_clause_5 : decode cX12_clause 5 = .ok (.ldc 26, 2) := by decide +kernel
theorem dX12_clause_7 : decode cX12_clause 7 = .ok (.iload_n 1, 1) := by decide +kernel
theorem dX12_clause_8 : decode cX12_clause 8 = .ok (.invokestatic 173, 3) := by decide +kernel
theorem dX12_clause_11 : decode cX12_clause 11 = .ok (.ifCond .ne 9, 3) := by decide +kernel
theorem dX12_clause_14 : decode cX12_clause 14 = .ok (.aload_n 0, 1) := by decide +kernel
theorem dX12_clause_15 : decode cX12_clause 15 = .ok (.invokevirtual 156, 3) := by decide +kernel
theorem dX12_clause_18 : decode cX12_clause 18 = .ok (.pop, 1) := by decide +kernel
theorem dX12_clause_19 : decode cX12_clause 19 = .ok (.return_, 1) := by decide +kernel
theorem dX12_clause_20 : decode cX12_clause 20 = .ok (.aload_n 0, 1) := by decide +kernel
theorem dX12_clause_21 : decode cX12_clause 21 = .ok (.dup, 1) := by decide +kernel
theorem dX12_clause_22 : decode cX12_clause 22 = .ok (.getfield 141, 3) := by decide +kernel
theorem dX12_clause_25 : decode cX12_clause 25 = .ok (.iconst 1, 1) := by decide +kernel
theorem dX12_clause_26 : decode cX12_clause 26 = .ok (.iadd, 1) := by decide +kernel
theorem dX12_clause_27 : decode cX12_clause 27 = .ok (.putfield 141, 3) := by decide +kernel
theorem dX12_clause_30 : decode cX12_clause 30 = .ok (.aload_n 0, 1) := by decide +kernel
theorem dX12_clause_31 : decode cX12_clause 31 = .ok (.bipush 58, 2) := by decide +kernel
theorem dX12_clause_33 : decode cX12_clause 33 = .ok (.invokevirtual 183, 3) := by decide +kernel
theorem dX12_clause_36 : decode cX12_clause 36 = .ok (.ifCond .ne 4, 3) := by decide +kernel
theorem dX12_clause_39 : decode cX12_clause 39 = .ok (.return_, 1) := by decide +kernel
theorem dX12_clause_40 : decode cX12_clause 40 = .ok (.iconst 1, 1) := by decide +kernel
theorem dX12_clause_41 : decode cX12_clause 41 = .ok (.istore_n 2, 1) := by decide +kernel
theorem dX12_clause_42 : decode cX12_clause 42 = .ok (.iconst 0, 1) := by decide +kernel
theorem dX12_clause_43 : decode cX12_clause 43 = .ok (.istore_n 3, 1) := by decide +kernel
theorem dX12_clause_44 : decode cX12_clause 44 = .ok (.aload_n 0, 1) := by decide +kernel
theorem dX12_clause_45 : decode cX12_clause 45 = .ok (.invokevirtual 160, 3) := by decide +kernel
theorem dX12_clause_48 : decode cX12_clause 48 = .ok (.istore 4, 2) := by decide +kernel
theorem dX12_clause_50 : decode cX12_clause 50 = .ok (.iload 4, 2) := by decide +kernel
theorem dX12_clause_52 : decode cX12_clause 52 = .ok (.bipush 33, 2) := by decide +kernel
theorem dX12_clause_54 : decode cX12_clause 54 = .ok (.if_icmp .eq 10, 3) := by decide +kernel
theorem dX12_clause_57 : decode cX12_clause 57 = .ok (.iload 4, 2) := by decide +kernel
theorem dX12_clause_59 : decode cX12_clause 59 = .ok (.bipush 40, 2) := by decide +kernel
theorem dX12_clause_61 : decode cX12_clause 61 = .ok (.if_icmp .ne 28, 3) := by decide +kernel
theorem dX12_clause_64 : decode cX12_clause 64 = .ok (.aload_n 0, 1) := by decide +kernel
theorem dX12_clause_65 : decode cX12_clause 65 = .ok (.iconst 0, 1) := by decide +kernel
theorem dX12_clause_66 : decode cX12_clause 66 = .ok (.iconst 0, 1) := by decide +kernel
theorem dX12_clause_67 : decode cX12_clause 67 = .ok (.invokevirtual 206, 3) := by decide +kernel
theorem dX12_clause_70 : decode cX12_clause 70 = .ok (.istore_n 2, 1) := by decide +kernel
theorem dX12_clause_71 : decode cX12_clause 71 = .ok (.aload_n 0, 1) := by decide +kernel
theorem dX12_clause_72 : decode cX12_clause 72 = .ok (.bipush 63, 2) := by decide +kernel
theorem dX12_clause_74 : decode cX12_clause 74 = .ok (.invokevirtual 183, 3) := by decide +kernel
theorem dX12_clause_77 : decode cX12_clause 77 = .ok (.ifCond .ne 4, 3) := by decide +kernel
theorem dX12_clause_80 : decode cX12_clause 80 = .ok (.return_, 1) := by decide +kernel
theorem dX12_clause_81 : decode cX12_clause 81 = .ok (.aload_n 0, 1) := by decide +kernel
theorem dX12_clause_82 : decode cX12_clause 82 = .ok (.invokevirtual 180, 3) := by decide +kernel
theorem dX12_clause_85 : decode cX12_clause 85 = .ok (.istore_n 3, 1) := by decide +kernel
theorem dX12_clause_86 : decode cX12_clause 86 = .ok (.goto 48, 3) := by decide +kernel
theorem dX12_clause_89 : decode cX12_clause 89 = .ok (.aload_n 0, 1) := by decide +kernel
theorem dX12_clause_90 : decode cX12_clause 90 = .ok (.invokevirtual 180, 3) := by decide +kernel
theorem dX12_clause_93 : decode cX12_clause 93 = .ok (.istore_n 3, 1) := by decide +kernel
theorem dX12_clause_94 : decode cX12_clause 94 = .ok (.aload_n 0, 1) := by decide +kernel
theorem dX12_clause_95 : decode cX12_clause 95 = .ok (.getfield 150, 3) := by decide +kernel
theorem dX12_clause_98 : decode cX12_clause 98 = .ok (.iconst (-1), 1) := by decide +kernel
theorem dX12_clause_99 : decode cX12_clause 99 = .ok (.if_icmp .ne 35, 3) := by decide +kernel
theorem dX12_clause_102 : decode cX12_clause 102 = .ok (.aload_n 0, 1) := by decide +kernel
theorem dX12_clause_103 : decode cX12_clause 103 = .ok (.invokevirtual 160, 3) := by decide +kernel
theorem dX12_clause_106 : decode cX12_clause 106 = .ok (.invokestatic 200, 3) := by decide +kernel
theorem dX12_clause_109 : decode cX12_clause 109 = .ok (.ifCond .eq 25, 3) := by decide +kernel
theorem dX12_clause_112 : decode cX12_clause 112 = .ok (.aload_n 0, 1) := by decide +kernel
theorem dX12_clause_113 : decode cX12_clause 113 = .ok (.iconst 1, 1) := by decide +kernel
theorem dX12_clause_114 : decode cX12_clause 114 = .ok (.iload_n 3, 1) := by decide +kernel
theorem dX12_clause_115 : decode cX12_clause 115 = .ok (.invokevirtual 206, 3) := by decide +kernel
theorem dX12_clause_118 : decode cX12_clause 118 = .ok (.istore_n 2, 1) := by decide +kernel
theorem dX12_clause_119 : decode cX12_clause 119 = .ok (.aload_n 0, 1) := by decide +kernel
theorem dX12_clause_120 : decode cX12_clause 120 = .ok (.bipush 63, 2) := by decide +kernel
theorem dX12_clause_122 : decode cX12_clause 122 = .ok (.invokevirtual 183, 3) := by decide +kernel
theorem dX12_clause_125 : decode cX12_clause 125 = .ok (.ifCond .ne 4, 3) := by decide +kernel
theorem dX12_clause_128 : decode cX12_clause 128 = .ok (.return_, 1) := by decide +kernel
theorem dX12_clause_129 : decode cX12_clause 129 = .ok (.aload_n 0, 1) := by decide +kernel
theorem dX12_clause_130 : decode cX12_clause 130 = .ok (.invokevirtual 180, 3) := by decide +kernel
theorem dX12_clause_133 : decode cX12_clause 133 = .ok (.istore_n 3, 1) := by decide +kernel
theorem dX12_clause_134 : decode cX12_clause 134 = .ok (.aload_n 0, 1) := by decide +kernel
theorem dX12_clause_135 : decode cX12_clause 135 = .ok (.getfield 150, 3) := by decide +kernel
theorem dX12_clause_138 : decode cX12_clause 138 = .ok (.iconst (-1), 1) := by decide +kernel
theorem dX12_clause_139 : decode cX12_clause 139 = .ok (.if_icmp .ne 22, 3) := by decide +kernel
theorem dX12_clause_142 : decode cX12_clause 142 = .ok (.aload_n 0, 1) := by decide +kernel
theorem dX12_clause_143 : decode cX12_clause 143 = .ok (.getfield 216, 3) := by decide +kernel
theorem dX12_clause_146 : decode cX12_clause 146 = .ok (.ifCond .ne 15, 3) := by decide +kernel
theorem dX12_clause_149 : decode cX12_clause 149 = .ok (.iload_n 1, 1) := by decide +kernel
theorem dX12_clause_150 : decode cX12_clause 150 = .ok (.aload_n 0, 1) := by decide +kernel
theorem dX12_clause_151 : decode cX12_clause 151 = .ok (.getfield 220, 3) := by decide +kernel
theorem dX12_clause_154 : decode cX12_clause 154 = .ok (.if_icmp .ne 7, 3) := by decide +kernel
theorem dX12_clause_157 : decode cX12_clause 157 = .ok (.iload_n 2, 1) := by decide +kernel
theorem dX12_clause_158 : decode cX12_clause 158 = .ok (.ifCond .ne 4, 3) := by decide +kernel
theorem dX12_clause_161 : decode cX12_clause 161 = .ok (.return_, 1) := by decide +kernel
theorem dX12_clause_162 : decode cX12_clause 162 = .ok (.aload_n 0, 1) := by decide +kernel
theorem dX12_clause_163 : decode cX12_clause 163 = .ok (.iconst 1, 1) := by decide +kernel
theorem dX12_clause_164 : decode cX12_clause 164 = .ok (.putfield 216, 3) := by decide +kernel
theorem dX12_clause_167 : decode cX12_clause 167 = .ok (.aload_n 0, 1) := by decide +kernel
theorem dX12_clause_168 : decode cX12_clause 168 = .ok (.iload_n 3, 1) := by decide +kernel
theorem dX12_clause_169 : decode cX12_clause 169 = .ok (.putfield 223, 3) := by decide +kernel
theorem dX12_clause_172 : decode cX12_clause 172 = .ok (.return_, 1) := by decide +kernel
theorem dX12_opens_0 : decode cX12_opens 0 = .ok (.aload_n 0, 1) := by decide +kernel
theorem dX12_opens_1 : decode cX12_opens 1 = .ok (.aload_n 1, 1) := by decide +kernel
theorem dX12_opens_2 : decode cX12_opens 2 = .ok (.putfield 23, 3) := by decide +kernel
theorem dX12_opens_5 : decode cX12_opens 5 = .ok (.aload_n 0, 1) := by decide +kernel
theorem dX12_opens_6 : decode cX12_opens 6 = .ok (.iload_n 2, 1) := by decide +kernel
theorem dX12_opens_7 : decode cX12_opens 7 = .ok (.putfield 147, 3) := by decide +kernel
theorem dX12_opens_10 : decode cX12_opens 10 = .ok (.aload_n 0, 1) := by decide +kernel
theorem dX12_opens_11 : decode cX12_opens 11 = .ok (.iload_n 3, 1) := by decide +kernel
theorem dX12_opens_12 : decode cX12_opens 12 = .ok (.putfield 144, 3) := by decide +kernel
theorem dX12_opens_15 : decode cX12_opens 15 = .ok (.aload_n 0, 1) := by decide +kernel
theorem dX12_opens_16 : decode cX12_opens 16 = .ok (.iconst 0, 1) := by decide +kernel
theorem dX12_opens_17 : decode cX12_opens 17 = .ok (.putfield 141, 3) := by decide +kernel
theorem dX12_opens_20 : decode cX12_opens 20 = .ok (.aload_n 0, 1) := by decide +kernel
theorem dX12_opens_21 : decode cX12_opens 21 = .ok (.iconst (-1), 1) := by decide +kernel
theorem dX12_opens_22 : decode cX12_opens 22 = .ok (.putfield 150, 3) := by decide +kernel
theorem dX12_opens_25 : decode cX12_opens 25 = .ok (.return_, 1) := by decide +kernel
theorem dX12_goThrough_0 : decode cX12_goThrough 0 = .ok (.aload_n 0, 1) := by decide +kernel
theorem dX12_goThrough_1 : decode cX12_goThrough 1 = .ok (.aload_n 1, 1) := by decide +kernel
theorem dX12_goThrough_2 : decode cX12_goThrough 2 = .ok (.iload_n 2, 1) := by decide +kernel
theorem dX12_goThrough_3 : decode cX12_goThrough 3 = .ok (.iload_n 3, 1) := by decide +kernel
theorem dX12_goThrough_4 : decode cX12_goThrough 4 = .ok (.invokevirtual 226, 3) := by decide +kernel
theorem dX12_goThrough_7 : decode cX12_goThrough 7 = .ok (.aload_n 0, 1) := by decide +kernel
theorem dX12_goThrough_8 : decode cX12_goThrough 8 = .ok (.bipush 121, 2) := by decide +kernel
theorem dX12_goThrough_10 : decode cX12_goThrough 10 = .ok (.putfield 220, 3) := by decide +kernel
theorem dX12_goThrough_13 : decode cX12_goThrough 13 = .ok (.aload_n 0, 1) := by decide +kernel
theorem dX12_goThrough_14 : decode cX12_goThrough 14 = .ok (.iconst 0, 1) := by decide +kernel
theorem dX12_goThrough_15 : decode cX12_goThrough 15 = .ok (.putfield 153, 3) := by decide +kernel
theorem dX12_goThrough_18 : decode cX12_goThrough 18 = .ok (.aload_n 0, 1) := by decide +kernel
theorem dX12_goThrough_19 : decode cX12_goThrough 19 = .ok (.iconst 0, 1) := by decide +kernel
theorem dX12_goThrough_20 : decode cX12_goThrough 20 = .ok (.putfield 216, 3) := by decide +kernel
theorem dX12_goThrough_23 : decode cX12_goThrough 23 = .ok (.aload_n 0, 1) := by decide +kernel
theorem dX12_goThrough_24 : decode cX12_goThrough 24 = .ok (.iconst 0, 1) := by decide +kernel
theorem dX12_goThrough_25 : decode cX12_goThrough 25 = .ok (.putfield 223, 3) := by decide +kernel
theorem dX12_goThrough_28 : decode cX12_goThrough 28 = .ok (.aload_n 0, 1) := by decide +kernel
theorem dX12_goThrough_29 : decode cX12_goThrough 29 = .ok (.invokevirtual 230, 3) := by decide +kernel
theorem dX12_goThrough_32 : decode cX12_goThrough 32 = .ok (.aload_n 0, 1) := by decide +kernel
theorem dX12_goThrough_33 : decode cX12_goThrough 33 = .ok (.getfield 150, 3) := by decide +kernel
theorem dX12_goThrough_36 : decode cX12_goThrough 36 = .ok (.iconst (-1), 1) := by decide +kernel
theorem dX12_goThrough_37 : decode cX12_goThrough 37 = .ok (.if_icmp .ne 29, 3) := by decide +kernel
theorem dX12_goThrough_40 : decode cX12_goThrough 40 = .ok (.aload_n 0, 1) := by decide +kernel
theorem dX12_goThrough_41 : decode cX12_goThrough 41 = .ok (.invokevirtual 160, 3) := by decide +kernel
theorem dX12_goThrough_44 : decode cX12_goThrough 44 = .ok (.bipush 59, 2) := by decide +kernel
theorem dX12_goThrough_46 : decode cX12_goThrough 46 = .ok (.if_icmp .ne 20, 3) := by decide +kernel
theorem dX12_goThrough_49 : decode cX12_goThrough 49 = .ok (.aload_n 0, 1) := by decide +kernel
theorem dX12_goThrough_50 : decode cX12_goThrough 50 = .ok (.dup, 1) := by decide +kernel
theorem dX12_goThrough_51 : decode cX12_goThrough 51 = .ok (.getfield 141, 3) := by decide +kernel
theorem dX12_goThrough_54 : decode cX12_goThrough 54 = .ok (.iconst 1, 1) := by decide +kernel
theorem dX12_goThrough_55 : decode cX12_goThrough 55 = .ok (.iadd, 1) := by decide +kernel
theorem dX12_goThrough_56 : decode cX12_goThrough 56 = .ok (.putfield 141, 3) := by decide +kernel
theorem dX12_goThrough_59 : decode cX12_goThrough 59 = .ok (.aload_n 0, 1) := by decide +kernel
theorem dX12_goThrough_60 : decode cX12_goThrough 60 = .ok (.invokevirtual 230, 3) := by decide +kernel
theorem dX12_goThrough_63 : decode cX12_goThrough 63 = .ok (.goto (-31), 3) := by decide +kernel
theorem dX12_goThrough_66 : decode cX12_goThrough 66 = .ok (.aload_n 0, 1) := by decide +kernel
theorem dX12_goThrough_67 : decode cX12_goThrough 67 = .ok (.getfield 150, 3) := by decide +kernel
theorem dX12_goThrough_70 : decode cX12_goThrough 70 = .ok (.iconst (-1), 1) := by decide +kernel
theorem dX12_goThrough_71 : decode cX12_goThrough 71 = .ok (.if_icmp .ne 16, 3) := by decide +kernel
theorem dX12_goThrough_74 : decode cX12_goThrough 74 = .ok (.aload_n 0, 1) := by decide +kernel
theorem dX12_goThrough_75 : decode cX12_goThrough 75 = .ok (.invokevirtual 160, 3) := by decide +kernel
theorem dX12_goThrough_78 : decode cX12_goThrough 78 = .ok (.iconst (-1), 1) := by decide +kernel
theorem dX12_goThrough_79 : decode cX12_goThrough 79 = .ok (.if_icmp .eq 8, 3) := by decide +kernel
theorem dX12_goThrough_82 : decode cX12_goThrough 82 = .ok (.aload_n 0, 1) := by decide +kernel
theorem dX12_goThrough_83 : decode cX12_goThrough 83 = .ok (.invokevirtual 156, 3) := by decide +kernel
theorem dX12_goThrough_86 : decode cX12_goThrough 86 = .ok (.pop, 1) := by decide +kernel
theorem dX12_goThrough_87 : decode cX12_goThrough 87 = .ok (.return_, 1) := by decide +kernel
theorem dX12_here_0 : decode cX12_here 0 = .ok (.aload_n 0, 1) := by decide +kernel
theorem dX12_here_1 : decode cX12_here 1 = .ok (.getfield 141, 3) := by decide +kernel
theorem dX12_here_4 : decode cX12_here 4 = .ok (.aload_n 0, 1) := by decide +kernel
theorem dX12_here_5 : decode cX12_here 5 = .ok (.getfield 144, 3) := by decide +kernel
theorem dX12_here_8 : decode cX12_here 8 = .ok (.if_icmp .ge 24, 3) := by decide +kernel
theorem dX12_here_11 : decode cX12_here 11 = .ok (.aload_n 0, 1) := by decide +kernel
theorem dX12_here_12 : decode cX12_here 12 = .ok (.getfield 23, 3) := by decide +kernel
theorem dX12_here_15 : decode cX12_here 15 = .ok (.aload_n 0, 1) := by decide +kernel
theorem dX12_here_16 : decode cX12_here 16 = .ok (.getfield 147, 3) := by decide +kernel
theorem dX12_here_19 : decode cX12_here 19 = .ok (.aload_n 0, 1) := by decide +kernel
theorem dX12_here_20 : decode cX12_here 20 = .ok (.getfield 141, 3) := by decide +kernel
theorem dX12_here_23 : decode cX12_here 23 = .ok (.iadd, 1) := by decide +kernel
theorem dX12_here_24 : decode cX12_here 24 = .ok (.baload, 1) := by decide +kernel
theorem dX12_here_25 : decode cX12_here 25 = .ok (.sipush 255, 3) := by decide +kernel
theorem dX12_here_28 : decode cX12_here 28 = .ok (.iand, 1) := by decide +kernel
theorem dX12_here_29 : decode cX12_here 29 = .ok (.goto 4, 3) := by decide +kernel
theorem dX12_here_32 : decode cX12_here 32 = .ok (.iconst (-1), 1) := by decide +kernel
theorem dX12_here_33 : decode cX12_here 33 = .ok (.ireturn, 1) := by decide +kernel
theorem dX12_placeOf_0 : decode cX12_placeOf 0 = .ok (.iconst 0, 1) := by decide +kernel
theorem dX12_placeOf_1 : decode cX12_placeOf 1 = .ok (.istore_n 2, 1) := by decide +kernel
theorem dX12_placeOf_2 : decode cX12_placeOf 2 = .ok (.iload_n 2, 1) := by decide +kernel
theorem dX12_placeOf_3 : decode cX12_placeOf 3 = .ok (.aload_n 0, 1) := by decide +kernel
theorem dX12_placeOf_4 : decode cX12_placeOf 4 = .ok (.invokevirtual 121, 3) := by decide +kernel
theorem dX12_placeOf_7 : decode cX12_placeOf 7 = .ok (.if_icmp .ge 20, 3) := by decide +kernel
theorem dX12_placeOf_10 : decode cX12_placeOf 10 = .ok (.aload_n 0, 1) := by decide +kernel
theorem dX12_placeOf_11 : decode cX12_placeOf 11 = .ok (.iload_n 2, 1) := by decide +kernel
theorem dX12_placeOf_12 : decode cX12_placeOf 12 = .ok (.invokevirtual 127, 3) := by decide +kernel
theorem dX12_placeOf_15 : decode cX12_placeOf 15 = .ok (.iload_n 1, 1) := by decide +kernel
theorem dX12_placeOf_16 : decode cX12_placeOf 16 = .ok (.if_icmp .ne 5, 3) := by decide +kernel
theorem dX12_placeOf_19 : decode cX12_placeOf 19 = .ok (.iload_n 2, 1) := by decide +kernel
theorem dX12_placeOf_20 : decode cX12_placeOf 20 = .ok (.ireturn, 1) := by decide +kernel
theorem dX12_placeOf_21 : decode cX12_placeOf 21 = .ok (.iinc 2 1, 3) := by decide +kernel
theorem dX12_placeOf_24 : decode cX12_placeOf 24 = .ok (.goto (-22), 3) := by decide +kernel
theorem dX12_placeOf_27 : decode cX12_placeOf 27 = .ok (.iconst (-1), 1) := by decide +kernel
theorem dX12_placeOf_28 : decode cX12_placeOf 28 = .ok (.ireturn, 1) := by decide +kernel
theorem dX12_number_0 : decode cX12_number 0 = .ok (.aload_n 0, 1) := by decide +kernel
theorem dX12_number_1 : decode cX12_number 1 = .ok (.dup, 1) := by decide +kernel
theorem dX12_number_2 : decode cX12_number 2 = .ok (.getfield 141, 3) := by decide +kernel
theorem dX12_number_5 : decode cX12_number 5 = .ok (.iconst 1, 1) := by decide +kernel
theorem dX12_number_6 : decode cX12_number 6 = .ok (.iadd, 1) := by decide +kernel
theorem dX12_number_7 : decode cX12_number 7 = .ok (.putfield 141, 3) := by decide +kernel
theorem dX12_number_10 : decode cX12_number 10 = .ok (.aload_n 0, 1) := by decide +kernel
theorem dX12_number_11 : decode cX12_number 11 = .ok (.invokevirtual 160, 3) := by decide +kernel
theorem dX12_number_14 : decode cX12_number 14 = .ok (.istore_n 3, 1) := by decide +kernel
theorem dX12_number_15 : decode cX12_number 15 = .ok (.aload_n 0, 1) := by decide +kernel
theorem dX12_number_16 : decode cX12_number 16 = .ok (.invokevirtual 187, 3) := by decide +kernel
theorem dX12_number_19 : decode cX12_number 19 = .ok (.ifCond .ne 10, 3) := by decide +kernel
theorem dX12_number_22 : decode cX12_number 22 = .ok (.aload_n 0, 1) := by decide +kernel
theorem dX12_number_23 : decode cX12_number 23 = .ok (.invokevirtual 156, 3) := by decide +kernel
theorem dX12_number_26 : decode cX12_number 26 = .ok (.pop, 1) := by decide +kernel
theorem dX12_number_27 : decode cX12_number 27 = .ok (.iconst (-1), 1) := by decide +kernel
theorem dX12_number_28 : decode cX12_number 28 = .ok (.ireturn, 1) := by decide +kernel
theorem dX12_number_29 : decode cX12_number 29 = .ok (.iload_n 3, 1) := by decide +kernel
theorem dX12_number_30 : decode cX12_number 30 = .ok (.bipush 48, 2) := by decide +kernel
theorem dX12_number_32 : decode cX12_number 32 = .ok (.isub, 1) := by decide +kernel
theorem dX12_number_33 : decode cX12_number 33 = .ok (.istore 4, 2) := by decide +kernel
theorem dX12_number_35 : decode cX12_number 35 = .ok (.aload_n 0, 1) := by decide +kernel
theorem dX12_number_36 : decode cX12_number 36 = .ok (.dup, 1) := by decide +kernel
theorem dX12_number_37 : decode cX12_number 37 = .ok (.getfield 141, 3) := by decide +kernel
theorem dX12_number_40 : decode cX12_number 40 = .ok (.iconst 1, 1) := by decide +kernel
theorem dX12_number_41 : decode cX12_number 41 = .ok (.iadd, 1) := by decide +kernel
theorem dX12_number_42 : decode cX12_number 42 = .ok (.putfield 141, 3) := by decide +kernel
theorem dX12_number_45 : decode cX12_number 45 = .ok (.aload_n 0, 1) := by decide +kernel
theorem dX12_number_46 : decode cX12_number 46 = .ok (.invokevirtual 187, 3) := by decide +kernel
theorem dX12_number_49 : decode cX12_number 49 = .ok (.ifCond .eq 28, 3) := by decide +kernel
theorem dX12_number_52 : decode cX12_number 52 = .ok (.bipush 10, 2) := by decide +kernel
theorem dX12_number_54 : decode cX12_number 54 = .ok (.iload 4, 2) := by decide +kernel
theorem dX12_number_56 : decode cX12_number 56 = .ok (.imul, 1) := by decide +kernel
theorem dX12_number_57 : decode cX12_number 57 = .ok (.aload_n 0, 1) := by decide +kernel
theorem dX12_number_58 : decode cX12_number 58 = .ok (.invokevirtual 233, 3) := by decide +kernel
theorem dX12_number_61 : decode cX12_number 61 = .ok (.iadd, 1) := by decide +kernel
theorem dX12_number_62 : decode cX12_number 62 = .ok (.bipush 48, 2) := by decide +kernel
theorem dX12_number_64 : decode cX12_number 64 = .ok (.isub, 1) := by decide +kernel
theorem dX12_number_65 : decode cX12_number 65 = .ok (.istore 4, 2) := by decide +kernel
theorem dX12_number_67 : decode cX12_number 67 = .ok (.aload_n 0, 1) := by decide +kernel
theorem dX12_number_68 : decode cX12_number 68 = .ok (.dup, 1) := by decide +kernel
theorem dX12_number_69 : decode cX12_number 69 = .ok (.getfield 141, 3) := by decide +kernel
theorem dX12_number_72 : decode cX12_number 72 = .ok (.iconst 1, 1) := by decide +kernel
theorem dX12_number_73 : decode cX12_number 73 = .ok (.iadd, 1) := by decide +kernel
theorem dX12_number_74 : decode cX12_number 74 = .ok (.putfield 141, 3) := by decide +kernel
theorem dX12_number_77 : decode cX12_number 77 = .ok (.aload_n 0, 1) := by decide +kernel
theorem dX12_number_78 : decode cX12_number 78 = .ok (.invokevirtual 187, 3) := by decide +kernel
theorem dX12_number_81 : decode cX12_number 81 = .ok (.ifCond .eq 10, 3) := by decide +kernel
theorem dX12_number_84 : decode cX12_number 84 = .ok (.aload_n 0, 1) := by decide +kernel
theorem dX12_number_85 : decode cX12_number 85 = .ok (.invokevirtual 156, 3) := by decide +kernel
theorem dX12_number_88 : decode cX12_number 88 = .ok (.pop, 1) := by decide +kernel
theorem dX12_number_89 : decode cX12_number 89 = .ok (.iconst (-1), 1) := by decide +kernel
theorem dX12_number_90 : decode cX12_number 90 = .ok (.ireturn, 1) := by decide +kernel
theorem dX12_number_91 : decode cX12_number 91 = .ok (.iload 4, 2) := by decide +kernel
theorem dX12_number_93 : decode cX12_number 93 = .ok (.i2l, 1) := by decide +kernel
theorem dX12_number_94 : decode cX12_number 94 = .ok (.iload_n 1, 1) := by decide +kernel
theorem dX12_number_95 : decode cX12_number 95 = .ok (.i2l, 1) := by decide +kernel
theorem dX12_number_96 : decode cX12_number 96 = .ok (.iload_n 2, 1) := by decide +kernel
theorem dX12_number_97 : decode cX12_number 97 = .ok (.i2l, 1) := by decide +kernel
theorem dX12_number_98 : decode cX12_number 98 = .ok (.invokestatic 236, 3) := by decide +kernel
theorem dX12_number_101 : decode cX12_number 101 = .ok (.ifCond .ne 20, 3) := by decide +kernel
theorem dX12_number_104 : decode cX12_number 104 = .ok (.aload_n 0, 1) := by decide +kernel
theorem dX12_number_105 : decode cX12_number 105 = .ok (.dup, 1) := by decide +kernel
theorem dX12_number_106 : decode cX12_number 106 = .ok (.getfield 141, 3) := by decide +kernel
theorem dX12_number_109 : decode cX12_number 109 = .ok (.iconst 1, 1) := by decide +kernel
theorem dX12_number_110 : decode cX12_number 110 = .ok (.isub, 1) := by decide +kernel
theorem dX12_number_111 : decode cX12_number 111 = .ok (.putfield 141, 3) := by decide +kernel
theorem dX12_number_114 : decode cX12_number 114 = .ok (.aload_n 0, 1) := by decide +kernel
theorem dX12_number_115 : decode cX12_number 115 = .ok (.invokevirtual 156, 3) := by decide +kernel
theorem dX12_number_118 : decode cX12_number 118 = .ok (.pop, 1) := by decide +kernel
theorem dX12_number_119 : decode cX12_number 119 = .ok (.iconst (-1), 1) := by decide +kernel
theorem dX12_number_120 : decode cX12_number 120 = .ok (.ireturn, 1) := by decide +kernel
theorem dX12_number_121 : decode cX12_number 121 = .ok (.iload 4, 2) := by decide +kernel
theorem dX12_number_123 : decode cX12_number 123 = .ok (.ireturn, 1) := by decide +kernel
theorem dX12_leastOf_0 : decode cX12_leastOf 0 = .ok (.iload_n 1, 1) := by decide +kernel
theorem dX12_leastOf_1 : decode cX12_leastOf 1 = .ok (.bipush 119, 2) := by decide +kernel
theorem dX12_leastOf_3 : decode cX12_leastOf 3 = .ok (.if_icmp .ne 13, 3) := by decide +kernel
theorem dX12_leastOf_6 : decode cX12_leastOf 6 = .ok (.iload_n 2, 1) := by decide +kernel
theorem dX12_leastOf_7 : decode cX12_leastOf 7 = .ok (.ifCond .ne 7, 3) := by decide +kernel
theorem dX12_leastOf_10 : decode cX12_leastOf 10 = .ok (.iconst 0, 1) := by decide +kernel
theorem dX12_leastOf_11 : decode cX12_leastOf 11 = .ok (.goto 4, 3) := by decide +kernel
theorem dX12_leastOf_14 : decode cX12_leastOf 14 = .ok (.iconst 1, 1) := by decide +kernel
theorem dX12_leastOf_15 : decode cX12_leastOf 15 = .ok (.ireturn, 1) := by decide +kernel
theorem dX12_leastOf_16 : decode cX12_leastOf 16 = .ok (.iload_n 1, 1) := by decide +kernel
theorem dX12_leastOf_17 : decode cX12_leastOf 17 = .ok (.bipush 114, 2) := by decide +kernel
theorem dX12_leastOf_19 : decode cX12_leastOf 19 = .ok (.if_icmp .ne 14, 3) := by decide +kernel
theorem dX12_leastOf_22 : decode cX12_leastOf 22 = .ok (.iload_n 2, 1) := by decide +kernel
theorem dX12_leastOf_23 : decode cX12_leastOf 23 = .ok (.iconst 1, 1) := by decide +kernel
theorem dX12_leastOf_24 : decode cX12_leastOf 24 = .ok (.if_icmp .ne 7, 3) := by decide +kernel
theorem dX12_leastOf_27 : decode cX12_leastOf 27 = .ok (.iconst 0, 1) := by decide +kernel
theorem dX12_leastOf_28 : decode cX12_leastOf 28 = .ok (.goto 4, 3) := by decide +kernel
theorem dX12_leastOf_31 : decode cX12_leastOf 31 = .ok (.iconst 1, 1) := by decide +kernel
theorem dX12_leastOf_32 : decode cX12_leastOf 32 = .ok (.ireturn, 1) := by decide +kernel
theorem dX12_leastOf_33 : decode cX12_leastOf 33 = .ok (.iload_n 2, 1) := by decide +kernel
theorem dX12_leastOf_34 : decode cX12_leastOf 34 = .ok (.iconst 2, 1) := by decide +kernel
theorem dX12_leastOf_35 : decode cX12_leastOf 35 = .ok (.if_icmp .ne 7, 3) := by decide +kernel
theorem dX12_leastOf_38 : decode cX12_leastOf 38 = .ok (.iconst 0, 1) := by decide +kernel
theorem dX12_leastOf_39 : decode cX12_leastOf 39 = .ok (.goto 4, 3) := by decide +kernel
theorem dX12_leastOf_42 : decode cX12_leastOf 42 = .ok (.iconst 1, 1) := by decide +kernel
theorem dX12_leastOf_43 : decode cX12_leastOf 43 = .ok (.ireturn, 1) := by decide +kernel
theorem dX12_mostOf_0 : decode cX12_mostOf 0 = .ok (.iload_n 1, 1) := by decide +kernel
theorem dX12_mostOf_1 : decode cX12_mostOf 1 = .ok (.bipush 119, 2) := by decide +kernel
theorem dX12_mostOf_3 : decode cX12_mostOf 3 = .ok (.if_icmp .ne 19, 3) := by decide +kernel
theorem dX12_mostOf_6 : decode cX12_mostOf 6 = .ok (.iload_n 2, 1) := by decide +kernel
theorem dX12_mostOf_7 : decode cX12_mostOf 7 = .ok (.ifCond .ne 12, 3) := by decide +kernel
theorem dX12_mostOf_10 : decode cX12_mostOf 10 = .ok (.aload_n 0, 1) := by decide +kernel
theorem dX12_mostOf_11 : decode cX12_mostOf 11 = .ok (.getfield 240, 3) := by decide +kernel
theorem dX12_mostOf_14 : decode cX12_mostOf 14 = .ok (.iconst 1, 1) := by decide +kernel
theorem dX12_mostOf_15 : decode cX12_mostOf 15 = .ok (.isub, 1) := by decide +kernel
theorem dX12_mostOf_16 : decode cX12_mostOf 16 = .ok (.goto 5, 3) := by decide +kernel
theorem dX12_mostOf_19 : decode cX12_mostOf 19 = .ok (.bipush 20, 2) := by decide +kernel
theorem dX12_mostOf_21 : decode cX12_mostOf 21 = .ok (.ireturn, 1) := by decide +kernel
theorem dX12_mostOf_22 : decode cX12_mostOf 22 = .ok (.iload_n 1, 1) := by decide +kernel
theorem dX12_mostOf_23 : decode cX12_mostOf 23 = .ok (.bipush 114, 2) := by decide +kernel
theorem dX12_mostOf_25 : decode cX12_mostOf 25 = .ok (.if_icmp .ne 24, 3) := by decide +kernel
theorem dX12_mostOf_28 : decode cX12_mostOf 28 = .ok (.iload_n 2, 1) := by decide +kernel
theorem dX12_mostOf_29 : decode cX12_mostOf 29 = .ok (.ifCond .ne 8, 3) := by decide +kernel
theorem dX12_mostOf_32 : decode cX12_mostOf 32 = .ok (.bipush 9, 2) := by decide +kernel
theorem dX12_mostOf_34 : decode cX12_mostOf 34 = .ok (.goto 14, 3) := by decide +kernel
theorem dX12_mostOf_37 : decode cX12_mostOf 37 = .ok (.iload_n 2, 1) := by decide +kernel
theorem dX12_mostOf_38 : decode cX12_mostOf 38 = .ok (.iconst 1, 1) := by decide +kernel
theorem dX12_mostOf_39 : decode cX12_mostOf 39 = .ok (.if_icmp .ne 8, 3) := by decide +kernel
theorem dX12_mostOf_42 : decode cX12_mostOf 42 = .ok (.bipush 99, 2) := by decide +kernel
theorem dX12_mostOf_44 : decode cX12_mostOf 44 = .ok (.goto 4, 3) := by decide +kernel
theorem dX12_mostOf_47 : decode cX12_mostOf 47 = .ok (.iconst 3, 1) := by decide +kernel
theorem dX12_mostOf_48 : decode cX12_mostOf 48 = .ok (.ireturn, 1) := by decide +kernel
theorem dX12_mostOf_49 : decode cX12_mostOf 49 = .ok (.iload_n 2, 1) := by decide +kernel
theorem dX12_mostOf_50 : decode cX12_mostOf 50 = .ok (.ifCond .ne 8, 3) := by decide +kernel
theorem dX12_mostOf_53 : decode cX12_mostOf 53 = .ok (.bipush 9, 2) := by decide +kernel
theorem dX12_mostOf_55 : decode cX12_mostOf 55 = .ok (.goto 15, 3) := by decide +kernel
theorem dX12_mostOf_58 : decode cX12_mostOf 58 = .ok (.iload_n 2, 1) := by decide +kernel
theorem dX12_mostOf_59 : decode cX12_mostOf 59 = .ok (.iconst 1, 1) := by decide +kernel
theorem dX12_mostOf_60 : decode cX12_mostOf 60 = .ok (.if_icmp .ne 8, 3) := by decide +kernel
theorem dX12_mostOf_63 : decode cX12_mostOf 63 = .ok (.bipush 20, 2) := by decide +kernel
theorem dX12_mostOf_65 : decode cX12_mostOf 65 = .ok (.goto 5, 3) := by decide +kernel
theorem dX12_mostOf_68 : decode cX12_mostOf 68 = .ok (.bipush 99, 2) := by decide +kernel
theorem dX12_mostOf_70 : decode cX12_mostOf 70 = .ok (.ireturn, 1) := by decide +kernel
theorem dX12_lay_0 : decode cX12_lay 0 = .ok (.iload_n 1, 1) := by decide +kernel
theorem dX12_lay_1 : decode cX12_lay 1 = .ok (.bipush 119, 2) := by decide +kernel
theorem dX12_lay_3 : decode cX12_lay 3 = .ok (.if_icmp .ne 17, 3) := by decide +kernel
theorem dX12_lay_6 : decode cX12_lay 6 = .ok (.iload_n 2, 1) := by decide +kernel
theorem dX12_lay_7 : decode cX12_lay 7 = .ok (.ifCond .ne 13, 3) := by decide +kernel
theorem dX12_lay_10 : decode cX12_lay 10 = .ok (.aload_n 0, 1) := by decide +kernel
theorem dX12_lay_11 : decode cX12_lay 11 = .ok (.getfield 49, 3) := by decide +kernel
theorem dX12_lay_14 : decode cX12_lay 14 = .ok (.aload_n 0, 1) := by decide +kernel
theorem dX12_lay_15 : decode cX12_lay 15 = .ok (.getfield 240, 3) := by decide +kernel
theorem dX12_lay_18 : decode cX12_lay 18 = .ok (.iload_n 3, 1) := by decide +kernel
theorem dX12_lay_19 : decode cX12_lay 19 = .ok (.iastore, 1) := by decide +kernel
theorem dX12_lay_20 : decode cX12_lay 20 = .ok (.iload_n 1, 1) := by decide +kernel
theorem dX12_lay_21 : decode cX12_lay 21 = .ok (.bipush 119, 2) := by decide +kernel
theorem dX12_lay_23 : decode cX12_lay 23 = .ok (.if_icmp .ne 18, 3) := by decide +kernel
theorem dX12_lay_26 : decode cX12_lay 26 = .ok (.iload_n 2, 1) := by decide +kernel
theorem dX12_lay_27 : decode cX12_lay 27 = .ok (.iconst 1, 1) := by decide +kernel
theorem dX12_lay_28 : decode cX12_lay 28 = .ok (.if_icmp .ne 13, 3) := by decide +kernel
theorem dX12_lay_31 : decode cX12_lay 31 = .ok (.aload_n 0, 1) := by decide +kernel
theorem dX12_lay_32 : decode cX12_lay 32 = .ok (.getfield 52, 3) := by decide +kernel
theorem dX12_lay_35 : decode cX12_lay 35 = .ok (.aload_n 0, 1) := by decide +kernel
theorem dX12_lay_36 : decode cX12_lay 36 = .ok (.getfield 240, 3) := by decide +kernel
theorem dX12_lay_39 : decode cX12_lay 39 = .ok (.iload_n 3, 1) := by decide +kernel
theorem dX12_lay_40 : decode cX12_lay 40 = .ok (.iastore, 1) := by decide +kernel
theorem dX12_lay_41 : decode cX12_lay 41 = .ok (.iload_n 1, 1) := by decide +kernel
theorem dX12_lay_42 : decode cX12_lay 42 = .ok (.bipush 114, 2) := by decide +kernel
theorem dX12_lay_44 : decode cX12_lay 44 = .ok (.if_icmp .ne 17, 3) := by decide +kernel
theorem dX12_lay_47 : decode cX12_lay 47 = .ok (.aload_n 0, 1) := by decide +kernel
theorem dX12_lay_48 : decode cX12_lay 48 = .ok (.getfield 55, 3) := by decide +kernel
theorem dX12_lay_51 : decode cX12_lay 51 = .ok (.iconst 3, 1) := by decide +kernel
theorem dX12_lay_52 : decode cX12_lay 52 = .ok (.aload_n 0, 1) := by decide +kernel
theorem dX12_lay_53 : decode cX12_lay 53 = .ok (.getfield 243, 3) := by decide +kernel
theorem dX12_lay_56 : decode cX12_lay 56 = .ok (.imul, 1) := by decide +kernel
theorem dX12_lay_57 : decode cX12_lay 57 = .ok (.iload_n 2, 1) := by decide +kernel
theorem dX12_lay_58 : decode cX12_lay 58 = .ok (.iadd, 1) := by decide +kernel
theorem dX12_lay_59 : decode cX12_lay 59 = .ok (.iload_n 3, 1) := by decide +kernel
theorem dX12_lay_60 : decode cX12_lay 60 = .ok (.iastore, 1) := by decide +kernel
theorem dX12_lay_61 : decode cX12_lay 61 = .ok (.iload_n 1, 1) := by decide +kernel
theorem dX12_lay_62 : decode cX12_lay 62 = .ok (.bipush 99, 2) := by decide +kernel
theorem dX12_lay_64 : decode cX12_lay 64 = .ok (.if_icmp .ne 10, 3) := by decide +kernel
theorem dX12_lay_67 : decode cX12_lay 67 = .ok (.aload_n 0, 1) := by decide +kernel
theorem dX12_lay_68 : decode cX12_lay 68 = .ok (.getfield 58, 3) := by decide +kernel
theorem dX12_lay_71 : decode cX12_lay 71 = .ok (.iload_n 2, 1) := by decide +kernel
theorem dX12_lay_72 : decode cX12_lay 72 = .ok (.iload_n 3, 1) := by decide +kernel
theorem dX12_lay_73 : decode cX12_lay 73 = .ok (.iastore, 1) := by decide +kernel
theorem dX12_lay_74 : decode cX12_lay 74 = .ok (.return_, 1) := by decide +kernel
theorem dX12_readClause_0 : decode cX12_readClause 0 = .ok (.aload_n 0, 1) := by decide +kernel
theorem dX12_readClause_1 : decode cX12_readClause 1 = .ok (.invokevirtual 160, 3) := by decide +kernel
theorem dX12_readClause_4 : decode cX12_readClause 4 = .ok (.istore_n 1, 1) := by decide +kernel
theorem dX12_readClause_5 : decode cX12_readClause 5 = .ok (.iload_n 1, 1) := by decide +kernel
theorem dX12_readClause_6 : decode cX12_readClause 6 = .ok (.bipush 119, 2) := by decide +kernel
theorem dX12_readClause_8 : decode cX12_readClause 8 = .ok (.if_icmp .ne 12, 3) := by decide +kernel
theorem dX12_readClause_11 : decode cX12_readClause 11 = .ok (.aload_n 0, 1) := by decide +kernel
theorem dX12_readClause_12 : decode cX12_readClause 12 = .ok (.getfield 240, 3) := by decide +kernel
theorem dX12_readClause_15 : decode cX12_readClause 15 = .ok (.bipush 9, 2) := by decide +kernel
theorem dX12_readClause_17 : decode cX12_readClause 17 = .ok (.if_icmp .lt 31, 3) := by decide +kernel
theorem dX12_readClause_20 : decode cX12_readClause 20 = .ok (.iload_n 1, 1) := by decide +kernel
theorem dX12_readClause_21 : decode cX12_readClause 21 = .ok (.bipush 114, 2) := by decide +kernel
theorem dX12_readClause_23 : decode cX12_readClause 23 = .ok (.if_icmp .ne 12, 3) := by decide +kernel
theorem dX12_readClause_26 : decode cX12_readClause 26 = .ok (.aload_n 0, 1) := by decide +kernel
theorem dX12_readClause_27 : decode cX12_readClause 27 = .ok (.getfield 243, 3) := by decide +kernel
theorem dX12_readClause_30 : decode cX12_readClause 30 = .ok (.bipush 6, 2) := by decide +kernel
theorem dX12_readClause_32 : decode cX12_readClause 32 = .ok (.if_icmp .lt 16, 3) := by decide +kernel
theorem dX12_readClause_35 : decode cX12_readClause 35 = .ok (.iload_n 1, 1) := by decide +kernel
theorem dX12_readClause_36 : decode cX12_readClause 36 = .ok (.bipush 99, 2) := by decide +kernel
theorem dX12_readClause_38 : decode cX12_readClause 38 = .ok (.if_icmp .ne 14, 3) := by decide +kernel
theorem dX12_readClause_41 : decode cX12_readClause 41 = .ok (.aload_n 0, 1) := by decide +kernel
theorem dX12_readClause_42 : decode cX12_readClause 42 = .ok (.getfield 246, 3) := by decide +kernel
theorem dX12_readClause_45 : decode cX12_readClause 45 = .ok (.ifCond .ne 7, 3) := by decide +kernel
theorem dX12_readClause_48 : decode cX12_readClause 48 = .ok (.iconst 1, 1) := by decide +kernel
theorem dX12_readClause_49 : decode cX12_readClause 49 = .ok (.goto 4, 3) := by decide +kernel
theorem dX12_readClause_52 : decode cX12_readClause 52 = .ok (.iconst 0, 1) := by decide +kernel
theorem dX12_readClause_53 : decode cX12_readClause 53 = .ok (.istore_n 2, 1) := by decide +kernel
theorem dX12_readClause_54 : decode cX12_readClause 54 = .ok (.iload_n 2, 1) := by decide +kernel
theorem dX12_readClause_55 : decode cX12_readClause 55 = .ok (.ifCond .ne 9, 3) := by decide +kernel
theorem dX12_readClause_58 : decode cX12_readClause 58 = .ok (.aload_n 0, 1) := by decide +kernel
theorem dX12_readClause_59 : decode cX12_readClause 59 = .ok (.invokevirtual 156, 3) := by decide +kernel
theorem dX12_readClause_62 : decode cX12_readClause 62 = .ok (.pop, 1) := by decide +kernel
theorem dX12_readClause_63 : decode cX12_readClause 63 = .ok (.return_, 1) := by decide +kernel
theorem dX12_readClause_64 : decode cX12_readClause 64 = .ok (.aload_n 0, 1) := by decide +kernel
theorem dX12_readClause_65 : decode cX12_readClause 65 = .ok (.dup, 1) := by decide +kernel
theorem dX12_readClause_66 : decode cX12_readClause 66 = .ok (.getfield 141, 3) := by decide +kernel
theorem dX12_readClause_69 : decode cX12_readClause 69 = .ok (.iconst 1, 1) := by decide +kernel
theorem dX12_readClause_70 : decode cX12_readClause 70 = .ok (.iadd, 1) := by decide +kernel
theorem dX12_readClause_71 : decode cX12_readClause 71 = .ok (.putfield 141, 3) := by decide +kernel
theorem dX12_readClause_74 : decode cX12_readClause 74 = .ok (.iload_n 1, 1) := by decide +kernel
theorem dX12_readClause_75 : decode cX12_readClause 75 = .ok (.bipush 119, 2) := by decide +kernel
theorem dX12_readClause_77 : decode cX12_readClause 77 = .ok (.if_icmp .ne 29, 3) := by decide +kernel
theorem dX12_readClause_80 : decode cX12_readClause 80 = .ok (.aload_n 0, 1) := by decide +kernel
theorem dX12_readClause_81 : decode cX12_readClause 81 = .ok (.dup, 1) := by decide +kernel
theorem dX12_readClause_82 : decode cX12_readClause 82 = .ok (.getfield 240, 3) := by decide +kernel
theorem dX12_readClause_85 : decode cX12_readClause 85 = .ok (.iconst 1, 1) := by decide +kernel
theorem dX12_readClause_86 : decode cX12_readClause 86 = .ok (.iadd, 1) := by decide +kernel
theorem dX12_readClause_87 : decode cX12_readClause 87 = .ok (.putfield 240, 3) := by decide +kernel
theorem dX12_readClause_90 : decode cX12_readClause 90 = .ok (.aload_n 0, 1) := by decide +kernel
theorem dX12_readClause_91 : decode cX12_readClause 91 = .ok (.bipush 119, 2) := by decide +kernel
theorem dX12_readClause_93 : decode cX12_readClause 93 = .ok (.iconst 0, 1) := by decide +kernel
theorem dX12_readClause_94 : decode cX12_readClause 94 = .ok (.iconst 0, 1) := by decide +kernel
theorem dX12_readClause_95 : decode cX12_readClause 95 = .ok (.invokevirtual 249, 3) := by decide +kernel
theorem dX12_readClause_98 : decode cX12_readClause 98 = .ok (.aload_n 0, 1) := by decide +kernel
theorem dX12_readClause_99 : decode cX12_readClause 99 = .ok (.bipush 119, 2) := by decide +kernel
theorem dX12_readClause_101 : decode cX12_readClause 101 = .ok (.iconst 1, 1) := by decide +kernel
theorem dX12_readClause_102 : decode cX12_readClause 102 = .ok (.iconst 1, 1) := by decide +kernel
theorem dX12_readClause_103 : decode cX12_readClause 103 = .ok (.invokevirtual 249, 3) := by decide +kernel
theorem dX12_readClause_106 : decode cX12_readClause 106 = .ok (.iload_n 1, 1) := by decide +kernel
theorem dX12_readClause_107 : decode cX12_readClause 107 = .ok (.bipush 114, 2) := by decide +kernel
theorem dX12_readClause_109 : decode cX12_readClause 109 = .ok (.if_icmp .ne 28, 3) := by decide +kernel
theorem dX12_readClause_112 : decode cX12_readClause 112 = .ok (.aload_n 0, 1) := by decide +kernel
theorem dX12_readClause_113 : decode cX12_readClause 113 = .ok (.bipush 114, 2) := by decide +kernel
theorem dX12_readClause_115 : decode cX12_readClause 115 = .ok (.iconst 0, 1) := by decide +kernel
theorem dX12_readClause_116 : decode cX12_readClause 116 = .ok (.iconst 1, 1) := by decide +kernel
theorem dX12_readClause_117 : decode cX12_readClause 117 = .ok (.invokevirtual 249, 3) := by decide +kernel
theorem dX12_readClause_120 : decode cX12_readClause 120 = .ok (.aload_n 0, 1) := by decide +kernel
theorem dX12_readClause_121 : decode cX12_readClause 121 = .ok (.bipush 114, 2) := by decide +kernel
theorem dX12_readClause_123 : decode cX12_readClause 123 = .ok (.iconst 1, 1) := by decide +kernel
theorem dX12_readClause_124 : decode cX12_readClause 124 = .ok (.bipush 99, 2) := by decide +kernel
theorem dX12_readClause_126 : decode cX12_readClause 126 = .ok (.invokevirtual 249, 3) := by decide +kernel
theorem dX12_readClause_129 : decode cX12_readClause 129 = .ok (.aload_n 0, 1) := by decide +kernel
theorem dX12_readClause_130 : decode cX12_readClause 130 = .ok (.bipush 114, 2) := by decide +kernel
theorem dX12_readClause_132 : decode cX12_readClause 132 = .ok (.iconst 2, 1) := by decide +kernel
theorem dX12_readClause_133 : decode cX12_readClause 133 = .ok (.iconst 1, 1) := by decide +kernel
theorem dX12_readClause_134 : decode cX12_readClause 134 = .ok (.invokevirtual 249, 3) := by decide +kernel
theorem dX12_readClause_137 : decode cX12_readClause 137 = .ok (.iload_n 1, 1) := by decide +kernel
theorem dX12_readClause_138 : decode cX12_readClause 138 = .ok (.bipush 99, 2) := by decide +kernel
theorem dX12_readClause_140 : decode cX12_readClause 140 = .ok (.if_icmp .ne 8, 3) := by decide +kernel
theorem dX12_readClause_143 : decode cX12_readClause 143 = .ok (.aload_n 0, 1) := by decide +kernel
theorem dX12_readClause_144 : decode cX12_readClause 144 = .ok (.iconst 1, 1) := by decide +kernel
theorem dX12_readClause_145 : decode cX12_readClause 145 = .ok (.putfield 246, 3) := by decide +kernel
theorem dX12_readClause_148 : decode cX12_readClause 148 = .ok (.iload_n 1, 1) := by decide +kernel
theorem dX12_readClause_149 : decode cX12_readClause 149 = .ok (.bipush 119, 2) := by decide +kernel
theorem dX12_readClause_151 : decode cX12_readClause 151 = .ok (.if_icmp .ne 8, 3) := by decide +kernel
theorem dX12_readClause_154 : decode cX12_readClause 154 = .ok (.ldc 253, 2) := by decide +kernel
theorem dX12_readClause_156 : decode cX12_readClause 156 = .ok (.goto 17, 3) := by decide +kernel
theorem dX12_readClause_159 : decode cX12_readClause 159 = .ok (.iload_n 1, 1) := by decide +kernel
theorem dX12_readClause_160 : decode cX12_readClause 160 = .ok (.bipush 114, 2) := by decide +kernel
theorem dX12_readClause_162 : decode cX12_readClause 162 = .ok (.if_icmp .ne 8, 3) := by decide +kernel
theorem dX12_readClause_165 : decode cX12_readClause 165 = .ok (.ldc 255, 2) := by decide +kernel
theorem dX12_readClause_167 : decode cX12_readClause 167 = .ok (.goto 6, 3) := by decide +kernel
theorem dX12_readClause_170 : decode cX12_readClause 170 = .ok (.ldc_w 257, 3) := by decide +kernel
theorem dX12_readClause_173 : decode cX12_readClause 173 = .ok (.astore_n 3, 1) := by decide +kernel
theorem dX12_readClause_174 : decode cX12_readClause 174 = .ok (.iconst 0, 1) := by decide +kernel
theorem dX12_readClause_175 : decode cX12_readClause 175 = .ok (.istore 4, 2) := by decide +kernel
theorem dX12_readClause_177 : decode cX12_readClause 177 = .ok (.aload_n 3, 1) := by decide +kernel
theorem dX12_readClause_178 : decode cX12_readClause 178 = .ok (.aload_n 0, 1) := by decide +kernel
theorem dX12_readClause_179 : decode cX12_readClause 179 = .ok (.invokevirtual 160, 3) := by decide +kernel
theorem dX12_readClause_182 : decode cX12_readClause 182 = .ok (.invokestatic 259, 3) := by decide +kernel
theorem dX12_readClause_185 : decode cX12_readClause 185 = .ok (.istore 5, 2) := by decide +kernel
theorem dX12_readClause_187 : decode cX12_readClause 187 = .ok (.iload 5, 2) := by decide +kernel
theorem dX12_readClause_189 : decode cX12_readClause 189 = .ok (.iconst (-1), 1) := by decide +kernel
theorem dX12_readClause_190 : decode cX12_readClause 190 = .ok (.if_icmp .eq 87, 3) := by decide +kernel
theorem dX12_readClause_193 : decode cX12_readClause 193 = .ok (.aload_n 0, 1) := by decide +kernel
theorem dX12_readClause_194 : decode cX12_readClause 194 = .ok (.getfield 150, 3) := by decide +kernel
theorem dX12_readClause_197 : decode cX12_readClause 197 = .ok (.iconst (-1), 1) := by decide +kernel
theorem dX12_readClause_198 : decode cX12_readClause 198 = .ok (.if_icmp .ne 79, 3) := by decide +kernel
theorem dX12_readClause_201 : decode cX12_readClause 201 = .ok (.iload 4, 2) := by decide +kernel
theorem dX12_readClause_203 : decode cX12_readClause 203 = .ok (.iload 5, 2) := by decide +kernel
theorem dX12_readClause_205 : decode cX12_readClause 205 = .ok (.invokestatic 263, 3) := by decide +kernel
theorem dX12_readClause_208 : decode cX12_readClause 208 = .ok (.ifCond .eq 9, 3) := by decide +kernel
theorem dX12_readClause_211 : decode cX12_readClause 211 = .ok (.aload_n 0, 1) := by decide +kernel
theorem dX12_readClause_212 : decode cX12_readClause 212 = .ok (.invokevirtual 156, 3) := by decide +kernel
theorem dX12_readClause_215 : decode cX12_readClause 215 = .ok (.pop, 1) := by decide +kernel
theorem dX12_readClause_216 : decode cX12_readClause 216 = .ok (.return_, 1) := by decide +kernel
theorem dX12_readClause_217 : decode cX12_readClause 217 = .ok (.iload 4, 2) := by decide +kernel
theorem dX12_readClause_219 : decode cX12_readClause 219 = .ok (.iconst 1, 1) := by decide +kernel
theorem dX12_readClause_220 : decode cX12_readClause 220 = .ok (.iload 5, 2) := by decide +kernel
theorem dX12_readClause_222 : decode cX12_readClause 222 = .ok (.ishl, 1) := by decide +kernel
theorem dX12_readClause_223 : decode cX12_readClause 223 = .ok (.ior, 1) := by decide +kernel
theorem dX12_readClause_224 : decode cX12_readClause 224 = .ok (.istore 4, 2) := by decide +kernel
theorem dX12_readClause_226 : decode cX12_readClause 226 = .ok (.aload_n 0, 1) := by decide +kernel
theorem dX12_readClause_227 : decode cX12_readClause 227 = .ok (.aload_n 0, 1) := by decide +kernel
theorem dX12_readClause_228 : decode cX12_readClause 228 = .ok (.iload_n 1, 1) := by decide +kernel
theorem dX12_readClause_229 : decode cX12_readClause 229 = .ok (.iload 5, 2) := by decide +kernel
theorem dX12_readClause_231 : decode cX12_readClause 231 = .ok (.invokevirtual 267, 3) := by decide +kernel
theorem dX12_readClause_234 : decode cX12_readClause 234 = .ok (.aload_n 0, 1) := by decide +kernel
theorem dX12_readClause_235 : decode cX12_readClause 235 = .ok (.iload_n 1, 1) := by decide +kernel
theorem dX12_readClause_236 : decode cX12_readClause 236 = .ok (.iload 5, 2) := by decide +kernel
theorem dX12_readClause_238 : decode cX12_readClause 238 = .ok (.invokevirtual 271, 3) := by decide +kernel
theorem dX12_readClause_241 : decode cX12_readClause 241 = .ok (.invokevirtual 274, 3) := by decide +kernel
theorem dX12_readClause_244 : decode cX12_readClause 244 = .ok (.istore 6, 2) := by decide +kernel
theorem dX12_readClause_246 : decode cX12_readClause 246 = .ok (.aload_n 0, 1) := by decide +kernel
theorem dX12_readClause_247 : decode cX12_readClause 247 = .ok (.getfield 150, 3) := by decide +kernel
theorem dX12_readClause_250 : decode cX12_readClause 250 = .ok (.iconst (-1), 1) := by decide +kernel
theorem dX12_readClause_251 : decode cX12_readClause 251 = .ok (.if_icmp .eq 4, 3) := by decide +kernel
theorem dX12_readClause_254 : decode cX12_readClause 254 = .ok (.return_, 1) := by decide +kernel
theorem dX12_readClause_255 : decode cX12_readClause 255 = .ok (.aload_n 0, 1) := by decide +kernel
theorem dX12_readClause_256 : decode cX12_readClause 256 = .ok (.iload_n 1, 1) := by decide +kernel
theorem dX12_readClause_257 : decode cX12_readClause 257 = .ok (.iload 5, 2) := by decide +kernel
theorem dX12_readClause_259 : decode cX12_readClause 259 = .ok (.iload 6, 2) := by decide +kernel
theorem dX12_readClause_261 : decode cX12_readClause 261 = .ok (.invokevirtual 249, 3) := by decide +kernel
theorem dX12_readClause_264 : decode cX12_readClause 264 = .ok (.aload_n 3, 1) := by decide +kernel
theorem dX12_readClause_265 : decode cX12_readClause 265 = .ok (.aload_n 0, 1) := by decide +kernel
theorem dX12_readClause_266 : decode cX12_readClause 266 = .ok (.invokevirtual 160, 3) := by decide +kernel
theorem dX12_readClause_269 : decode cX12_readClause 269 = .ok (.invokestatic 259, 3) := by decide +kernel
theorem dX12_readClause_272 : decode cX12_readClause 272 = .ok (.istore 5, 2) := by decide +kernel
theorem dX12_readClause_274 : decode cX12_readClause 274 = .ok (.goto (-87), 3) := by decide +kernel
theorem dX12_readClause_277 : decode cX12_readClause 277 = .ok (.iload_n 1, 1) := by decide +kernel
theorem dX12_readClause_278 : decode cX12_readClause 278 = .ok (.bipush 114, 2) := by decide +kernel
theorem dX12_readClause_280 : decode cX12_readClause 280 = .ok (.if_icmp .ne 13, 3) := by decide +kernel
theorem dX12_readClause_283 : decode cX12_readClause 283 = .ok (.aload_n 0, 1) := by decide +kernel
theorem dX12_readClause_284 : decode cX12_readClause 284 = .ok (.dup, 1) := by decide +kernel
theorem dX12_readClause_285 : decode cX12_readClause 285 = .ok (.getfield 243, 3) := by decide +kernel
theorem dX12_readClause_288 : decode cX12_readClause 288 = .ok (.iconst 1, 1) := by decide +kernel
theorem dX12_readClause_289 : decode cX12_readClause 289 = .ok (.iadd, 1) := by decide +kernel
theorem dX12_readClause_290 : decode cX12_readClause 290 = .ok (.putfield 243, 3) := by decide +kernel
theorem dX12_readClause_293 : decode cX12_readClause 293 = .ok (.return_, 1) := by decide +kernel
theorem dX12_isWhole_0 : decode cX12_isWhole 0 = .ok (.iconst 0, 1) := by decide +kernel
theorem dX12_isWhole_1 : decode cX12_isWhole 1 = .ok (.istore_n 1, 1) := by decide +kernel
theorem dX12_isWhole_2 : decode cX12_isWhole 2 = .ok (.iload_n 1, 1) := by decide +kernel
theorem dX12_isWhole_3 : decode cX12_isWhole 3 = .ok (.aload_n 0, 1) := by decide +kernel
theorem dX12_isWhole_4 : decode cX12_isWhole 4 = .ok (.getfield 243, 3) := by decide +kernel
theorem dX12_isWhole_7 : decode cX12_isWhole 7 = .ok (.if_icmp .ge 26, 3) := by decide +kernel
theorem dX12_isWhole_10 : decode cX12_isWhole 10 = .ok (.aload_n 0, 1) := by decide +kernel
theorem dX12_isWhole_11 : decode cX12_isWhole 11 = .ok (.getfield 55, 3) := by decide +kernel
theorem dX12_isWhole_14 : decode cX12_isWhole 14 = .ok (.iconst 3, 1) := by decide +kernel
theorem dX12_isWhole_15 : decode cX12_isWhole 15 = .ok (.iload_n 1, 1) := by decide +kernel
theorem dX12_isWhole_16 : decode cX12_isWhole 16 = .ok (.imul, 1) := by decide +kernel
theorem dX12_isWhole_17 : decode cX12_isWhole 17 = .ok (.iaload, 1) := by decide +kernel
theorem dX12_isWhole_18 : decode cX12_isWhole 18 = .ok (.aload_n 0, 1) := by decide +kernel
theorem dX12_isWhole_19 : decode cX12_isWhole 19 = .ok (.getfield 240, 3) := by decide +kernel
theorem dX12_isWhole_22 : decode cX12_isWhole 22 = .ok (.if_icmp .le 5, 3) := by decide +kernel
theorem dX12_isWhole_25 : decode cX12_isWhole 25 = .ok (.iconst 0, 1) := by decide +kernel
theorem dX12_isWhole_26 : decode cX12_isWhole 26 = .ok (.ireturn, 1) := by decide +kernel
theorem dX12_isWhole_27 : decode cX12_isWhole 27 = .ok (.iinc 1 1, 3) := by decide +kernel
theorem dX12_isWhole_30 : decode cX12_isWhole 30 = .ok (.goto (-28), 3) := by decide +kernel
theorem dX12_isWhole_33 : decode cX12_isWhole 33 = .ok (.aload_n 0, 1) := by decide +kernel
theorem dX12_isWhole_34 : decode cX12_isWhole 34 = .ok (.getfield 240, 3) := by decide +kernel
theorem dX12_isWhole_37 : decode cX12_isWhole 37 = .ok (.ifCond .le 14, 3) := by decide +kernel
theorem dX12_isWhole_40 : decode cX12_isWhole 40 = .ok (.aload_n 0, 1) := by decide +kernel
theorem dX12_isWhole_41 : decode cX12_isWhole 41 = .ok (.getfield 243, 3) := by decide +kernel
theorem dX12_isWhole_44 : decode cX12_isWhole 44 = .ok (.ifCond .le 7, 3) := by decide +kernel
theorem dX12_isWhole_47 : decode cX12_isWhole 47 = .ok (.iconst 1, 1) := by decide +kernel
theorem dX12_isWhole_48 : decode cX12_isWhole 48 = .ok (.goto 4, 3) := by decide +kernel
theorem dX12_isWhole_51 : decode cX12_isWhole 51 = .ok (.iconst 0, 1) := by decide +kernel
theorem dX12_isWhole_52 : decode cX12_isWhole 52 = .ok (.ireturn, 1) := by decide +kernel
theorem dX12_readRoad_0 : decode cX12_readRoad 0 = .ok (.aload_n 0, 1) := by decide +kernel
theorem dX12_readRoad_1 : decode cX12_readRoad 1 = .ok (.aload_n 0, 1) := by decide +kernel
theorem dX12_readRoad_2 : decode cX12_readRoad 2 = .ok (.getfield 9, 3) := by decide +kernel
theorem dX12_readRoad_5 : decode cX12_readRoad 5 = .ok (.iconst 0, 1) := by decide +kernel
theorem dX12_readRoad_6 : decode cX12_readRoad 6 = .ok (.aload_n 0, 1) := by decide +kernel
theorem dX12_readRoad_7 : decode cX12_readRoad 7 = .ok (.getfield 131, 3) := by decide +kernel
theorem dX12_readRoad_10 : decode cX12_readRoad 10 = .ok (.invokevirtual 226, 3) := by decide +kernel
theorem dX12_readRoad_13 : decode cX12_readRoad 13 = .ok (.aload_n 0, 1) := by decide +kernel
theorem dX12_readRoad_14 : decode cX12_readRoad 14 = .ok (.iconst 0, 1) := by decide +kernel
theorem dX12_readRoad_15 : decode cX12_readRoad 15 = .ok (.putfield 240, 3) := by decide +kernel
theorem dX12_readRoad_18 : decode cX12_readRoad 18 = .ok (.aload_n 0, 1) := by decide +kernel
theorem dX12_readRoad_19 : decode cX12_readRoad 19 = .ok (.iconst 0, 1) := by decide +kernel
theorem dX12_readRoad_20 : decode cX12_readRoad 20 = .ok (.putfield 243, 3) := by decide +kernel
theorem dX12_readRoad_23 : decode cX12_readRoad 23 = .ok (.aload_n 0, 1) := by decide +kernel
theorem dX12_readRoad_24 : decode cX12_readRoad 24 = .ok (.iconst 0, 1) := by decide +kernel
theorem dX12_readRoad_25 : decode cX12_readRoad 25 = .ok (.putfield 246, 3) := by decide +kernel
theorem dX12_readRoad_28 : decode cX12_readRoad 28 = .ok (.aload_n 0, 1) := by decide +kernel
theorem dX12_readRoad_29 : decode cX12_readRoad 29 = .ok (.getfield 58, 3) := by decide +kernel
theorem dX12_readRoad_32 : decode cX12_readRoad 32 = .ok (.iconst 0, 1) := by decide +kernel
theorem dX12_readRoad_33 : decode cX12_readRoad 33 = .ok (.iconst 4, 1) := by decide +kernel
theorem dX12_readRoad_34 : decode cX12_readRoad 34 = .ok (.iastore, 1) := by decide +kernel
theorem dX12_readRoad_35 : decode cX12_readRoad 35 = .ok (.aload_n 0, 1) := by decide +kernel
theorem dX12_readRoad_36 : decode cX12_readRoad 36 = .ok (.getfield 58, 3) := by decide +kernel
theorem dX12_readRoad_39 : decode cX12_readRoad 39 = .ok (.iconst 1, 1) := by decide +kernel
theorem dX12_readRoad_40 : decode cX12_readRoad 40 = .ok (.iconst 1, 1) := by decide +kernel
theorem dX12_readRoad_41 : decode cX12_readRoad 41 = .ok (.iastore, 1) := by decide +kernel
theorem dX12_readRoad_42 : decode cX12_readRoad 42 = .ok (.aload_n 0, 1) := by decide +kernel
theorem dX12_readRoad_43 : decode cX12_readRoad 43 = .ok (.getfield 58, 3) := by decide +kernel
theorem dX12_readRoad_46 : decode cX12_readRoad 46 = .ok (.iconst 2, 1) := by decide +kernel
theorem dX12_readRoad_47 : decode cX12_readRoad 47 = .ok (.bipush 99, 2) := by decide +kernel
theorem dX12_readRoad_49 : decode cX12_readRoad 49 = .ok (.iastore, 1) := by decide +kernel
theorem dX12_readRoad_50 : decode cX12_readRoad 50 = .ok (.iconst 1, 1) := by decide +kernel
theorem dX12_readRoad_51 : decode cX12_readRoad 51 = .ok (.istore_n 1, 1) := by decide +kernel
theorem dX12_readRoad_52 : decode cX12_readRoad 52 = .ok (.iload_n 1, 1) := by decide +kernel
theorem dX12_readRoad_53 : decode cX12_readRoad 53 = .ok (.ifCond .eq 55, 3) := by decide +kernel
theorem dX12_readRoad_56 : decode cX12_readRoad 56 = .ok (.aload_n 0, 1) := by decide +kernel
theorem dX12_readRoad_57 : decode cX12_readRoad 57 = .ok (.getfield 150, 3) := by decide +kernel
theorem dX12_readRoad_60 : decode cX12_readRoad 60 = .ok (.iconst (-1), 1) := by decide +kernel
theorem dX12_readRoad_61 : decode cX12_readRoad 61 = .ok (.if_icmp .ne 47, 3) := by decide +kernel
theorem dX12_readRoad_64 : decode cX12_readRoad 64 = .ok (.aload_n 0, 1) := by decide +kernel
theorem dX12_readRoad_65 : decode cX12_readRoad 65 = .ok (.invokevirtual 277, 3) := by decide +kernel
theorem dX12_readRoad_68 : decode cX12_readRoad 68 = .ok (.aload_n 0, 1) := by decide +kernel
theorem dX12_readRoad_69 : decode cX12_readRoad 69 = .ok (.getfield 150, 3) := by decide +kernel
theorem dX12_readRoad_72 : decode cX12_readRoad 72 = .ok (.iconst (-1), 1) := by decide +kernel
theorem dX12_readRoad_73 : decode cX12_readRoad 73 = .ok (.if_icmp .ne 16, 3) := by decide +kernel
theorem dX12_readRoad_76 : decode cX12_readRoad 76 = .ok (.aload_n 0, 1) := by decide +kernel
theorem dX12_readRoad_77 : decode cX12_readRoad 77 = .ok (.invokevirtual 160, 3) := by decide +kernel
theorem dX12_readRoad_80 : decode cX12_readRoad 80 = .ok (.bipush 59, 2) := by decide +kernel
theorem dX12_readRoad_82 : decode cX12_readRoad 82 = .ok (.if_icmp .ne 7, 3) := by decide +kernel
theorem dX12_readRoad_85 : decode cX12_readRoad 85 = .ok (.iconst 1, 1) := by decide +kernel
theorem dX12_readRoad_86 : decode cX12_readRoad 86 = .ok (.goto 4, 3) := by decide +kernel
theorem dX12_readRoad_89 : decode cX12_readRoad 89 = .ok (.iconst 0, 1) := by decide +kernel
theorem dX12_readRoad_90 : decode cX12_readRoad 90 = .ok (.istore_n 1, 1) := by decide +kernel
theorem dX12_readRoad_91 : decode cX12_readRoad 91 = .ok (.iload_n 1, 1) := by decide +kernel
theorem dX12_readRoad_92 : decode cX12_readRoad 92 = .ok (.ifCond .eq (-40), 3) := by decide +kernel
theorem dX12_readRoad_95 : decode cX12_readRoad 95 = .ok (.aload_n 0, 1) := by decide +kernel
theorem dX12_readRoad_96 : decode cX12_readRoad 96 = .ok (.dup, 1) := by decide +kernel
theorem dX12_readRoad_97 : decode cX12_readRoad 97 = .ok (.getfield 141, 3) := by decide +kernel
theorem dX12_readRoad_100 : decode cX12_readRoad 100 = .ok (.iconst 1, 1) := by decide +kernel
theorem dX12_readRoad_101 : decode cX12_readRoad 101 = .ok (.iadd, 1) := by decide +kernel
theorem dX12_readRoad_102 : decode cX12_readRoad 102 = .ok (.putfield 141, 3) := by decide +kernel
theorem dX12_readRoad_105 : decode cX12_readRoad 105 = .ok (.goto (-53), 3) := by decide +kernel
theorem dX12_readRoad_108 : decode cX12_readRoad 108 = .ok (.aload_n 0, 1) := by decide +kernel
theorem dX12_readRoad_109 : decode cX12_readRoad 109 = .ok (.getfield 150, 3) := by decide +kernel
theorem dX12_readRoad_112 : decode cX12_readRoad 112 = .ok (.iconst (-1), 1) := by decide +kernel
theorem dX12_readRoad_113 : decode cX12_readRoad 113 = .ok (.if_icmp .ne 23, 3) := by decide +kernel
theorem dX12_readRoad_116 : decode cX12_readRoad 116 = .ok (.aload_n 0, 1) := by decide +kernel
theorem dX12_readRoad_117 : decode cX12_readRoad 117 = .ok (.invokevirtual 160, 3) := by decide +kernel
theorem dX12_readRoad_120 : decode cX12_readRoad 120 = .ok (.iconst (-1), 1) := by decide +kernel
theorem dX12_readRoad_121 : decode cX12_readRoad 121 = .ok (.if_icmp .ne 10, 3) := by decide +kernel
theorem dX12_readRoad_124 : decode cX12_readRoad 124 = .ok (.aload_n 0, 1) := by decide +kernel
theorem dX12_readRoad_125 : decode cX12_readRoad 125 = .ok (.invokevirtual 280, 3) := by decide +kernel
theorem dX12_readRoad_128 : decode cX12_readRoad 128 = .ok (.ifCond .ne 8, 3) := by decide +kernel
theorem dX12_readRoad_131 : decode cX12_readRoad 131 = .ok (.aload_n 0, 1) := by decide +kernel
theorem dX12_readRoad_132 : decode cX12_readRoad 132 = .ok (.invokevirtual 156, 3) := by decide +kernel
theorem dX12_readRoad_135 : decode cX12_readRoad 135 = .ok (.pop, 1) := by decide +kernel
theorem dX12_readRoad_136 : decode cX12_readRoad 136 = .ok (.return_, 1) := by decide +kernel
theorem dX12_fault_0 : decode cX12_fault 0 = .ok (.aload_n 0, 1) := by decide +kernel
theorem dX12_fault_1 : decode cX12_fault 1 = .ok (.iconst 0, 1) := by decide +kernel
theorem dX12_fault_2 : decode cX12_fault 2 = .ok (.putfield 108, 3) := by decide +kernel
theorem dX12_fault_5 : decode cX12_fault 5 = .ok (.iload_n 1, 1) := by decide +kernel
theorem dX12_fault_6 : decode cX12_fault 6 = .ok (.i2l, 1) := by decide +kernel
theorem dX12_fault_7 : decode cX12_fault 7 = .ok (.lconst 0, 1) := by decide +kernel
theorem dX12_fault_8 : decode cX12_fault 8 = .ok (.lconst 1, 1) := by decide +kernel
theorem dX12_fault_9 : decode cX12_fault 9 = .ok (.invokestatic 236, 3) := by decide +kernel
theorem dX12_fault_12 : decode cX12_fault 12 = .ok (.ifCond .ne 6, 3) := by decide +kernel
theorem dX12_fault_15 : decode cX12_fault 15 = .ok (.bipush (-2), 2) := by decide +kernel
theorem dX12_fault_17 : decode cX12_fault 17 = .ok (.ireturn, 1) := by decide +kernel
theorem dX12_fault_18 : decode cX12_fault 18 = .ok (.iload_n 1, 1) := by decide +kernel
theorem dX12_fault_19 : decode cX12_fault 19 = .ok (.ifCond .ne 10, 3) := by decide +kernel
theorem dX12_fault_22 : decode cX12_fault 22 = .ok (.aload_n 0, 1) := by decide +kernel
theorem dX12_fault_23 : decode cX12_fault 23 = .ok (.invokevirtual 283, 3) := by decide +kernel
theorem dX12_fault_26 : decode cX12_fault 26 = .ok (.goto 16, 3) := by decide +kernel
theorem dX12_fault_29 : decode cX12_fault 29 = .ok (.aload_n 0, 1) := by decide +kernel
theorem dX12_fault_30 : decode cX12_fault 30 = .ok (.aload_n 0, 1) := by decide +kernel
theorem dX12_fault_31 : decode cX12_fault 31 = .ok (.getfield 9, 3) := by decide +kernel
theorem dX12_fault_34 : decode cX12_fault 34 = .ok (.iconst 0, 1) := by decide +kernel
theorem dX12_fault_35 : decode cX12_fault 35 = .ok (.aload_n 0, 1) := by decide +kernel
theorem dX12_fault_36 : decode cX12_fault 36 = .ok (.getfield 131, 3) := by decide +kernel
theorem dX12_fault_39 : decode cX12_fault 39 = .ok (.invokevirtual 286, 3) := by decide +kernel
theorem dX12_fault_42 : decode cX12_fault 42 = .ok (.aload_n 0, 1) := by decide +kernel
theorem dX12_fault_43 : decode cX12_fault 43 = .ok (.getfield 150, 3) := by decide +kernel
theorem dX12_fault_46 : decode cX12_fault 46 = .ok (.ireturn, 1) := by decide +kernel
theorem dX12_text_0 : decode cX12_text 0 = .ok (.aload_n 0, 1) := by decide +kernel
theorem dX12_text_1 : decode cX12_text 1 = .ok (.iconst 0, 1) := by decide +kernel
theorem dX12_text_2 : decode cX12_text 2 = .ok (.putfield 108, 3) := by decide +kernel
theorem dX12_text_5 : decode cX12_text 5 = .ok (.iload_n 1, 1) := by decide +kernel
theorem dX12_text_6 : decode cX12_text 6 = .ok (.i2l, 1) := by decide +kernel
theorem dX12_text_7 : decode cX12_text 7 = .ok (.lconst 0, 1) := by decide +kernel
theorem dX12_text_8 : decode cX12_text 8 = .ok (.lconst 1, 1) := by decide +kernel
theorem dX12_text_9 : decode cX12_text 9 = .ok (.invokestatic 236, 3) := by decide +kernel
theorem dX12_text_12 : decode cX12_text 12 = .ok (.ifCond .eq 25, 3) := by decide +kernel
theorem dX12_text_15 : decode cX12_text 15 = .ok (.iload_n 1, 1) := by decide +kernel
theorem dX12_text_16 : decode cX12_text 16 = .ok (.iconst 1, 1) := by decide +kernel
theorem dX12_text_17 : decode cX12_text 17 = .ok (.if_icmp .ne 11, 3) := by decide +kernel
theorem dX12_text_20 : decode cX12_text 20 = .ok (.aload_n 0, 1) := by decide +kernel
theorem dX12_text_21 : decode cX12_text 21 = .ok (.getfield 289, 3) := by decide +kernel
theorem dX12_text_24 : decode cX12_text 24 = .ok (.iconst 4, 1) := by decide +kernel
theorem dX12_text_25 : decode cX12_text 25 = .ok (.if_icmp .eq 12, 3) := by decide +kernel
theorem dX12_text_28 : decode cX12_text 28 = .ok (.aload_n 0, 1) := by decide +kernel
theorem dX12_text_29 : decode cX12_text 29 = .ok (.iload_n 1, 1) := by decide +kernel
theorem dX12_text_30 : decode cX12_text 30 = .ok (.invokevirtual 292, 3) := by decide +kernel
theorem dX12_text_33 : decode cX12_text 33 = .ok (.iconst (-1), 1) := by decide +kernel
theorem dX12_text_34 : decode cX12_text 34 = .ok (.if_icmp .eq 5, 3) := by decide +kernel
theorem dX12_text_37 : decode cX12_text 37 = .ok (.iconst (-1), 1) := by decide +kernel
theorem dX12_text_38 : decode cX12_text 38 = .ok (.ireturn, 1) := by decide +kernel
theorem dX12_text_39 : decode cX12_text 39 = .ok (.aload_n 0, 1) := by decide +kernel
theorem dX12_text_40 : decode cX12_text 40 = .ok (.getfield 131, 3) := by decide +kernel
theorem dX12_text_43 : decode cX12_text 43 = .ok (.istore_n 2, 1) := by decide +kernel
theorem dX12_text_44 : decode cX12_text 44 = .ok (.aload_n 0, 1) := by decide +kernel
theorem dX12_text_45 : decode cX12_text 45 = .ok (.iconst 0, 1) := by decide +kernel
theorem dX12_text_46 : decode cX12_text 46 = .ok (.putfield 131, 3) := by decide +kernel
theorem dX12_text_49 : decode cX12_text 49 = .ok (.iload_n 1, 1) := by decide +kernel
theorem dX12_text_50 : decode cX12_text 50 = .ok (.iconst 1, 1) := by decide +kernel
theorem dX12_text_51 : decode cX12_text 51 = .ok (.if_icmp .ne 64, 3) := by decide +kernel
theorem dX12_text_54 : decode cX12_text 54 = .ok (.iconst 0, 1) := by decide +kernel
theorem dX12_text_55 : decode cX12_text 55 = .ok (.istore_n 3, 1) := by decide +kernel
theorem dX12_text_56 : decode cX12_text 56 = .ok (.iload_n 3, 1) := by decide +kernel
theorem dX12_text_57 : decode cX12_text 57 = .ok (.iload_n 2, 1) := by decide +kernel
theorem dX12_text_58 : decode cX12_text 58 = .ok (.if_icmp .ge 30, 3) := by decide +kernel
theorem dX12_text_61 : decode cX12_text 61 = .ok (.aload_n 0, 1) := by decide +kernel
theorem dX12_text_62 : decode cX12_text 62 = .ok (.getfield 13, 3) := by decide +kernel
theorem dX12_text_65 : decode cX12_text 65 = .ok (.sipush 160, 3) := by decide +kernel
theorem dX12_text_68 : decode cX12_text 68 = .ok (.aload_n 0, 1) := by decide +kernel
theorem dX12_text_69 : decode cX12_text 69 = .ok (.getfield 289, 3) := by decide +kernel
theorem dX12_text_72 : decode cX12_text 72 = .ok (.imul, 1) := by decide +kernel
theorem dX12_text_73 : decode cX12_text 73 = .ok (.iload_n 3, 1) := by decide +kernel
theorem dX12_text_74 : decode cX12_text 74 = .ok (.iadd, 1) := by decide +kernel
theorem dX12_text_75 : decode cX12_text 75 = .ok (.aload_n 0, 1) := by decide +kernel
theorem dX12_text_76 : decode cX12_text 76 = .ok (.getfield 9, 3) := by decide +kernel
theorem dX12_text_79 : decode cX12_text 79 = .ok (.iload_n 3, 1) := by decide +kernel
theorem dX12_text_80 : decode cX12_text 80 = .ok (.baload, 1) := by decide +kernel
theorem dX12_text_81 : decode cX12_text 81 = .ok (.bastore, 1) := by decide +kernel
theorem dX12_text_82 : decode cX12_text 82 = .ok (.iinc 3 1, 3) := by decide +kernel
theorem dX12_text_85 : decode cX12_text 85 = .ok (.goto (-29), 3) := by decide +kernel
theorem dX12_text_88 : decode cX12_text 88 = .ok (.aload_n 0, 1) := by decide +kernel
theorem dX12_text_89 : decode cX12_text 89 = .ok (.getfield 16, 3) := by decide +kernel
theorem dX12_text_92 : decode cX12_text 92 = .ok (.aload_n 0, 1) := by decide +kernel
theorem dX12_text_93 : decode cX12_text 93 = .ok (.getfield 289, 3) := by decide +kernel
theorem dX12_text_96 : decode cX12_text 96 = .ok (.iload_n 2, 1) := by decide +kernel
theorem dX12_text_97 : decode cX12_text 97 = .ok (.iastore, 1) := by decide +kernel
theorem dX12_text_98 : decode cX12_text 98 = .ok (.aload_n 0, 1) := by decide +kernel
theorem dX12_text_99 : decode cX12_text 99 = .ok (.dup, 1) := by decide +kernel
theorem dX12_text_100 : decode cX12_text 100 = .ok (.getfield 289, 3) := by decide +kernel
theorem dX12_text_103 : decode cX12_text 103 = .ok (.iconst 1, 1) := by decide +kernel
theorem dX12_text_104 : decode cX12_text 104 = .ok (.iadd, 1) := by decide +kernel
theorem dX12_text_105 : decode cX12_text 105 = .ok (.putfield 289, 3) := by decide +kernel
theorem dX12_text_108 : decode cX12_text 108 = .ok (.aload_n 0, 1) := by decide +kernel
theorem dX12_text_109 : decode cX12_text 109 = .ok (.getfield 289, 3) := by decide +kernel
theorem dX12_text_112 : decode cX12_text 112 = .ok (.iconst 1, 1) := by decide +kernel
theorem dX12_text_113 : decode cX12_text 113 = .ok (.isub, 1) := by decide +kernel
theorem dX12_text_114 : decode cX12_text 114 = .ok (.ireturn, 1) := by decide +kernel
theorem dX12_text_115 : decode cX12_text 115 = .ok (.aload_n 0, 1) := by decide +kernel
theorem dX12_text_116 : decode cX12_text 116 = .ok (.aload_n 0, 1) := by decide +kernel
theorem dX12_text_117 : decode cX12_text 117 = .ok (.getfield 240, 3) := by decide +kernel
theorem dX12_text_120 : decode cX12_text 120 = .ok (.putfield 294, 3) := by decide +kernel
theorem dX12_text_123 : decode cX12_text 123 = .ok (.aload_n 0, 1) := by decide +kernel
theorem dX12_text_124 : decode cX12_text 124 = .ok (.aload_n 0, 1) := by decide +kernel
theorem dX12_text_125 : decode cX12_text 125 = .ok (.getfield 243, 3) := by decide +kernel
theorem dX12_text_128 : decode cX12_text 128 = .ok (.putfield 297, 3) := by decide +kernel
theorem dX12_text_131 : decode cX12_text 131 = .ok (.iconst 0, 1) := by decide +kernel
theorem dX12_text_132 : decode cX12_text 132 = .ok (.istore_n 3, 1) := by decide +kernel
theorem dX12_text_133 : decode cX12_text 133 = .ok (.iload_n 3, 1) := by decide +kernel
theorem dX12_text_134 : decode cX12_text 134 = .ok (.bipush 10, 2) := by decide +kernel
theorem dX12_text_136 : decode cX12_text 136 = .ok (.if_icmp .ge 33, 3) := by decide +kernel
theorem dX12_text_139 : decode cX12_text 139 = .ok (.aload_n 0, 1) := by decide +kernel
theorem dX12_text_140 : decode cX12_text 140 = .ok (.getfield 37, 3) := by decide +kernel
theorem dX12_text_143 : decode cX12_text 143 = .ok (.iload_n 3, 1) := by decide +kernel
theorem dX12_text_144 : decode cX12_text 144 = .ok (.aload_n 0, 1) := by decide +kernel
theorem dX12_text_145 : decode cX12_text 145 = .ok (.getfield 49, 3) := by decide +kernel
theorem dX12_text_148 : decode cX12_text 148 = .ok (.iload_n 3, 1) := by decide +kernel
theorem dX12_text_149 : decode cX12_text 149 = .ok (.iaload, 1) := by decide +kernel
theorem dX12_text_150 : decode cX12_text 150 = .ok (.iastore, 1) := by decide +kernel
theorem dX12_text_151 : decode cX12_text 151 = .ok (.aload_n 0, 1) := by decide +kernel
theorem dX12_text_152 : decode cX12_text 152 = .ok (.getfield 40, 3) := by decide +kernel
theorem dX12_text_155 : decode cX12_text 155 = .ok (.iload_n 3, 1) := by decide +kernel
theorem dX12_text_156 : decode cX12_text 156 = .ok (.aload_n 0, 1) := by decide +kernel
theorem dX12_text_157 : decode cX12_text 157 = .ok (.getfield 52, 3) := by decide +kernel
theorem dX12_text_160 : decode cX12_text 160 = .ok (.iload_n 3, 1) := by decide +kernel
theorem dX12_text_161 : decode cX12_text 161 = .ok (.iaload, 1) := by decide +kernel
theorem dX12_text_162 : decode cX12_text 162 = .ok (.iastore, 1) := by decide +kernel
theorem dX12_text_163 : decode cX12_text 163 = .ok (.iinc 3 1, 3) := by decide +kernel
theorem dX12_text_166 : decode cX12_text 166 = .ok (.goto (-33), 3) := by decide +kernel
theorem dX12_text_169 : decode cX12_text 169 = .ok (.iconst 0, 1) := by decide +kernel
theorem dX12_text_170 : decode cX12_text 170 = .ok (.istore_n 3, 1) := by decide +kernel
theorem dX12_text_171 : decode cX12_text 171 = .ok (.iload_n 3, 1) := by decide +kernel
theorem dX12_text_172 : decode cX12_text 172 = .ok (.bipush 18, 2) := by decide +kernel
theorem dX12_text_174 : decode cX12_text 174 = .ok (.if_icmp .ge 21, 3) := by decide +kernel
theorem dX12_text_177 : decode cX12_text 177 = .ok (.aload_n 0, 1) := by decide +kernel
theorem dX12_text_178 : decode cX12_text 178 = .ok (.getfield 43, 3) := by decide +kernel
theorem dX12_text_181 : decode cX12_text 181 = .ok (.iload_n 3, 1) := by decide +kernel
theorem dX12_text_182 : decode cX12_text 182 = .ok (.aload_n 0, 1) := by decide +kernel
theorem dX12_text_183 : decode cX12_text 183 = .ok (.getfield 55, 3) := by decide +kernel
theorem dX12_text_186 : decode cX12_text 186 = .ok (.iload_n 3, 1) := by decide +kernel
theorem dX12_text_187 : decode cX12_text 187 = .ok (.iaload, 1) := by decide +kernel
theorem dX12_text_188 : decode cX12_text 188 = .ok (.iastore, 1) := by decide +kernel
theorem dX12_text_189 : decode cX12_text 189 = .ok (.iinc 3 1, 3) := by decide +kernel
theorem dX12_text_192 : decode cX12_text 192 = .ok (.goto (-21), 3) := by decide +kernel
theorem dX12_text_195 : decode cX12_text 195 = .ok (.iconst 0, 1) := by decide +kernel
theorem dX12_text_196 : decode cX12_text 196 = .ok (.istore_n 3, 1) := by decide +kernel
theorem dX12_text_197 : decode cX12_text 197 = .ok (.iload_n 3, 1) := by decide +kernel
theorem dX12_text_198 : decode cX12_text 198 = .ok (.iconst 3, 1) := by decide +kernel
theorem dX12_text_199 : decode cX12_text 199 = .ok (.if_icmp .ge 21, 3) := by decide +kernel
theorem dX12_text_202 : decode cX12_text 202 = .ok (.aload_n 0, 1) := by decide +kernel
theorem dX12_text_203 : decode cX12_text 203 = .ok (.getfield 46, 3) := by decide +kernel
theorem dX12_text_206 : decode cX12_text 206 = .ok (.iload_n 3, 1) := by decide +kernel
theorem dX12_text_207 : decode cX12_text 207 = .ok (.aload_n 0, 1) := by decide +kernel
theorem dX12_text_208 : decode cX12_text 208 = .ok (.getfield 58, 3) := by decide +kernel
theorem dX12_text_211 : decode cX12_text 211 = .ok (.iload_n 3, 1) := by decide +kernel
theorem dX12_text_212 : decode cX12_text 212 = .ok (.iaload, 1) := by decide +kernel
theorem dX12_text_213 : decode cX12_text 213 = .ok (.iastore, 1) := by decide +kernel
theorem dX12_text_214 : decode cX12_text 214 = .ok (.iinc 3 1, 3) := by decide +kernel
theorem dX12_text_217 : decode cX12_text 217 = .ok (.goto (-20), 3) := by decide +kernel
theorem dX12_text_220 : decode cX12_text 220 = .ok (.iconst 0, 1) := by decide +kernel
theorem dX12_text_221 : decode cX12_text 221 = .ok (.istore_n 3, 1) := by decide +kernel
theorem dX12_text_222 : decode cX12_text 222 = .ok (.iload_n 3, 1) := by decide +kernel
theorem dX12_text_223 : decode cX12_text 223 = .ok (.bipush 6, 2) := by decide +kernel
theorem dX12_text_225 : decode cX12_text 225 = .ok (.if_icmp .ge 16, 3) := by decide +kernel
theorem dX12_text_228 : decode cX12_text 228 = .ok (.aload_n 0, 1) := by decide +kernel
theorem dX12_text_229 : decode cX12_text 229 = .ok (.getfield 90, 3) := by decide +kernel
theorem dX12_text_232 : decode cX12_text 232 = .ok (.iload_n 3, 1) := by decide +kernel
theorem dX12_text_233 : decode cX12_text 233 = .ok (.lconst 0, 1) := by decide +kernel
theorem dX12_text_234 : decode cX12_text 234 = .ok (.lastore, 1) := by decide +kernel
theorem dX12_text_235 : decode cX12_text 235 = .ok (.iinc 3 1, 3) := by decide +kernel
theorem dX12_text_238 : decode cX12_text 238 = .ok (.goto (-16), 3) := by decide +kernel
theorem dX12_text_241 : decode cX12_text 241 = .ok (.aload_n 0, 1) := by decide +kernel
theorem dX12_text_242 : decode cX12_text 242 = .ok (.iconst 0, 1) := by decide +kernel
theorem dX12_text_243 : decode cX12_text 243 = .ok (.putfield 300, 3) := by decide +kernel
theorem dX12_text_246 : decode cX12_text 246 = .ok (.aload_n 0, 1) := by decide +kernel
theorem dX12_text_247 : decode cX12_text 247 = .ok (.iconst 0, 1) := by decide +kernel
theorem dX12_text_248 : decode cX12_text 248 = .ok (.putfield 303, 3) := by decide +kernel
theorem dX12_text_251 : decode cX12_text 251 = .ok (.aload_n 0, 1) := by decide +kernel
theorem dX12_text_252 : decode cX12_text 252 = .ok (.iconst 0, 1) := by decide +kernel
theorem dX12_text_253 : decode cX12_text 253 = .ok (.putfield 306, 3) := by decide +kernel
theorem dX12_text_256 : decode cX12_text 256 = .ok (.aload_n 0, 1) := by decide +kernel
theorem dX12_text_257 : decode cX12_text 257 = .ok (.iconst 0, 1) := by decide +kernel
theorem dX12_text_258 : decode cX12_text 258 = .ok (.putfield 309, 3) := by decide +kernel
theorem dX12_text_261 : decode cX12_text 261 = .ok (.aload_n 0, 1) := by decide +kernel
theorem dX12_text_262 : decode cX12_text 262 = .ok (.getfield 297, 3) := by decide +kernel
theorem dX12_text_265 : decode cX12_text 265 = .ok (.ireturn, 1) := by decide +kernel
theorem dX12_isRider_0 : decode cX12_isRider 0 = .ok (.iload_n 1, 1) := by decide +kernel
theorem dX12_isRider_1 : decode cX12_isRider 1 = .ok (.ifCond .lt 15, 3) := by decide +kernel
theorem dX12_isRider_4 : decode cX12_isRider 4 = .ok (.iload_n 1, 1) := by decide +kernel
theorem dX12_isRider_5 : decode cX12_isRider 5 = .ok (.aload_n 0, 1) := by decide +kernel
theorem dX12_isRider_6 : decode cX12_isRider 6 = .ok (.getfield 297, 3) := by decide +kernel
theorem dX12_isRider_9 : decode cX12_isRider 9 = .ok (.if_icmp .ge 7, 3) := by decide +kernel
theorem dX12_isRider_12 : decode cX12_isRider 12 = .ok (.iconst 1, 1) := by decide +kernel
theorem dX12_isRider_13 : decode cX12_isRider 13 = .ok (.goto 4, 3) := by decide +kernel
theorem dX12_isRider_16 : decode cX12_isRider 16 = .ok (.iconst 0, 1) := by decide +kernel
theorem dX12_isRider_17 : decode cX12_isRider 17 = .ok (.ireturn, 1) := by decide +kernel
theorem dX12_isPlace_0 : decode cX12_isPlace 0 = .ok (.aload_n 0, 1) := by decide +kernel
theorem dX12_isPlace_1 : decode cX12_isPlace 1 = .ok (.getfield 297, 3) := by decide +kernel
theorem dX12_isPlace_4 : decode cX12_isPlace 4 = .ok (.ifCond .le 19, 3) := by decide +kernel
theorem dX12_isPlace_7 : decode cX12_isPlace 7 = .ok (.iload_n 1, 1) := by decide +kernel
theorem dX12_isPlace_8 : decode cX12_isPlace 8 = .ok (.ifCond .lt 15, 3) := by decide +kernel
theorem dX12_isPlace_11 : decode cX12_isPlace 11 = .ok (.iload_n 1, 1) := by decide +kernel
theorem dX12_isPlace_12 : decode cX12_isPlace 12 = .ok (.aload_n 0, 1) := by decide +kernel
theorem dX12_isPlace_13 : decode cX12_isPlace 13 = .ok (.getfield 294, 3) := by decide +kernel
theorem dX12_isPlace_16 : decode cX12_isPlace 16 = .ok (.if_icmp .gt 7, 3) := by decide +kernel
theorem dX12_isPlace_19 : decode cX12_isPlace 19 = .ok (.iconst 1, 1) := by decide +kernel
theorem dX12_isPlace_20 : decode cX12_isPlace 20 = .ok (.goto 4, 3) := by decide +kernel
theorem dX12_isPlace_23 : decode cX12_isPlace 23 = .ok (.iconst 0, 1) := by decide +kernel
theorem dX12_isPlace_24 : decode cX12_isPlace 24 = .ok (.ireturn, 1) := by decide +kernel
theorem dX12_isSet_0 : decode cX12_isSet 0 = .ok (.aload_n 0, 1) := by decide +kernel
theorem dX12_isSet_1 : decode cX12_isSet 1 = .ok (.getfield 297, 3) := by decide +kernel
theorem dX12_isSet_4 : decode cX12_isSet 4 = .ok (.ifCond .le 21, 3) := by decide +kernel
theorem dX12_isSet_7 : decode cX12_isSet 7 = .ok (.iload_n 1, 1) := by decide +kernel
theorem dX12_isSet_8 : decode cX12_isSet 8 = .ok (.ifCond .le 17, 3) := by decide +kernel
theorem dX12_isSet_11 : decode cX12_isSet 11 = .ok (.iload_n 1, 1) := by decide +kernel
theorem dX12_isSet_12 : decode cX12_isSet 12 = .ok (.iconst 1, 1) := by decide +kernel
theorem dX12_isSet_13 : decode cX12_isSet 13 = .ok (.aload_n 0, 1) := by decide +kernel
theorem dX12_isSet_14 : decode cX12_isSet 14 = .ok (.getfield 297, 3) := by decide +kernel
theorem dX12_isSet_17 : decode cX12_isSet 17 = .ok (.ishl, 1) := by decide +kernel
theorem dX12_isSet_18 : decode cX12_isSet 18 = .ok (.if_icmp .ge 7, 3) := by decide +kernel
theorem dX12_isSet_21 : decode cX12_isSet 21 = .ok (.iconst 1, 1) := by decide +kernel
theorem dX12_isSet_22 : decode cX12_isSet 22 = .ok (.goto 4, 3) := by decide +kernel
theorem dX12_isSet_25 : decode cX12_isSet 25 = .ok (.iconst 0, 1) := by decide +kernel
theorem dX12_isSet_26 : decode cX12_isSet 26 = .ok (.ireturn, 1) := by decide +kernel
theorem dX12_isLaw_0 : decode cX12_isLaw 0 = .ok (.aload_n 0, 1) := by decide +kernel
theorem dX12_isLaw_1 : decode cX12_isLaw 1 = .ok (.getfield 297, 3) := by decide +kernel
theorem dX12_isLaw_4 : decode cX12_isLaw 4 = .ok (.ifCond .le 23, 3) := by decide +kernel
theorem dX12_isLaw_7 : decode cX12_isLaw 7 = .ok (.iload_n 1, 1) := by decide +kernel
theorem dX12_isLaw_8 : decode cX12_isLaw 8 = .ok (.i2l, 1) := by decide +kernel
theorem dX12_isLaw_9 : decode cX12_isLaw 9 = .ok (.lconst 0, 1) := by decide +kernel
theorem dX12_isLaw_10 : decode cX12_isLaw 10 = .ok (.iconst 2, 1) := by decide +kernel
theorem dX12_isLaw_11 : decode cX12_isLaw 11 = .ok (.aload_n 0, 1) := by decide +kernel
theorem dX12_isLaw_12 : decode cX12_isLaw 12 = .ok (.getfield 289, 3) := by decide +kernel
theorem dX12_isLaw_15 : decode cX12_isLaw 15 = .ok (.iadd, 1) := by decide +kernel
theorem dX12_isLaw_16 : decode cX12_isLaw 16 = .ok (.i2l, 1) := by decide +kernel
theorem dX12_isLaw_17 : decode cX12_isLaw 17 = .ok (.invokestatic 236, 3) := by decide +kernel
theorem dX12_isLaw_20 : decode cX12_isLaw 20 = .ok (.ifCond .eq 7, 3) := by decide +kernel
theorem dX12_isLaw_23 : decode cX12_isLaw 23 = .ok (.iconst 1, 1) := by decide +kernel
theorem dX12_isLaw_24 : decode cX12_isLaw 24 = .ok (.goto 4, 3) := by decide +kernel
theorem dX12_isLaw_27 : decode cX12_isLaw 27 = .ok (.iconst 0, 1) := by decide +kernel
theorem dX12_isLaw_28 : decode cX12_isLaw 28 = .ok (.ireturn, 1) := by decide +kernel
theorem dX12_everybody_0 : decode cX12_everybody 0 = .ok (.iconst 1, 1) := by decide +kernel
theorem dX12_everybody_1 : decode cX12_everybody 1 = .ok (.aload_n 0, 1) := by decide +kernel
theorem dX12_everybody_2 : decode cX12_everybody 2 = .ok (.getfield 297, 3) := by decide +kernel
theorem dX12_everybody_5 : decode cX12_everybody 5 = .ok (.ishl, 1) := by decide +kernel
theorem dX12_everybody_6 : decode cX12_everybody 6 = .ok (.iconst 1, 1) := by decide +kernel
theorem dX12_everybody_7 : decode cX12_everybody 7 = .ok (.isub, 1) := by decide +kernel
theorem dX12_everybody_8 : decode cX12_everybody 8 = .ok (.ireturn, 1) := by decide +kernel
theorem dX12_isOn_0 : decode cX12_isOn 0 = .ok (.iconst 0, 1) := by decide +kernel
theorem dX12_isOn_1 : decode cX12_isOn 1 = .ok (.istore_n 3, 1) := by decide +kernel
theorem dX12_isOn_2 : decode cX12_isOn 2 = .ok (.iconst 0, 1) := by decide +kernel
theorem dX12_isOn_3 : decode cX12_isOn 3 = .ok (.istore 4, 2) := by decide +kernel
theorem dX12_isOn_5 : decode cX12_isOn 5 = .ok (.iload 4, 2) := by decide +kernel
theorem dX12_isOn_7 : decode cX12_isOn 7 = .ok (.aload_n 0, 1) := by decide +kernel
theorem dX12_isOn_8 : decode cX12_isOn 8 = .ok (.getfield 297, 3) := by decide +kernel
theorem dX12_isOn_11 : decode cX12_isOn 11 = .ok (.if_icmp .ge 64, 3) := by decide +kernel
theorem dX12_isOn_14 : decode cX12_isOn 14 = .ok (.iload_n 1, 1) := by decide +kernel
theorem dX12_isOn_15 : decode cX12_isOn 15 = .ok (.iload 4, 2) := by decide +kernel
theorem dX12_isOn_17 : decode cX12_isOn 17 = .ok (.invokestatic 263, 3) := by decide +kernel
theorem dX12_isOn_20 : decode cX12_isOn 20 = .ok (.ifCond .ne 6, 3) := by decide +kernel
theorem dX12_isOn_23 : decode cX12_isOn 23 = .ok (.goto 46, 3) := by decide +kernel
theorem dX12_isOn_26 : decode cX12_isOn 26 = .ok (.aload_n 0, 1) := by decide +kernel
theorem dX12_isOn_27 : decode cX12_isOn 27 = .ok (.getfield 43, 3) := by decide +kernel
theorem dX12_isOn_30 : decode cX12_isOn 30 = .ok (.iconst 3, 1) := by decide +kernel
theorem dX12_isOn_31 : decode cX12_isOn 31 = .ok (.iload 4, 2) := by decide +kernel
theorem dX12_isOn_33 : decode cX12_isOn 33 = .ok (.imul, 1) := by decide +kernel
theorem dX12_isOn_34 : decode cX12_isOn 34 = .ok (.iaload, 1) := by decide +kernel
theorem dX12_isOn_35 : decode cX12_isOn 35 = .ok (.istore 5, 2) := by decide +kernel
theorem dX12_isOn_37 : decode cX12_isOn 37 = .ok (.iload 5, 2) := by decide +kernel
theorem dX12_isOn_39 : decode cX12_isOn 39 = .ok (.iload_n 2, 1) := by decide +kernel
theorem dX12_isOn_40 : decode cX12_isOn 40 = .ok (.if_icmp .le 15, 3) := by decide +kernel
theorem dX12_isOn_43 : decode cX12_isOn 43 = .ok (.aload_n 0, 1) := by decide +kernel
theorem dX12_isOn_44 : decode cX12_isOn 44 = .ok (.getfield 37, 3) := by decide +kernel
theorem dX12_isOn_47 : decode cX12_isOn 47 = .ok (.iload 5, 2) := by decide +kernel
theorem dX12_isOn_49 : decode cX12_isOn 49 = .ok (.iaload, 1) := by decide +kernel
theorem dX12_isOn_50 : decode cX12_isOn 50 = .ok (.istore 5, 2) := by decide +kernel
theorem dX12_isOn_52 : decode cX12_isOn 52 = .ok (.goto (-15), 3) := by decide +kernel
theorem dX12_isOn_55 : decode cX12_isOn 55 = .ok (.iload_n 3, 1) := by decide +kernel
theorem dX12_isOn_56 : decode cX12_isOn 56 = .ok (.iload 5, 2) := by decide +kernel
theorem dX12_isOn_58 : decode cX12_isOn 58 = .ok (.iload_n 2, 1) := by decide +kernel
theorem dX12_isOn_59 : decode cX12_isOn 59 = .ok (.if_icmp .ne 7, 3) := by decide +kernel
theorem dX12_isOn_62 : decode cX12_isOn 62 = .ok (.iconst 1, 1) := by decide +kernel
theorem dX12_isOn_63 : decode cX12_isOn 63 = .ok (.goto 4, 3) := by decide +kernel
theorem dX12_isOn_66 : decode cX12_isOn 66 = .ok (.iconst 0, 1) := by decide +kernel
theorem dX12_isOn_67 : decode cX12_isOn 67 = .ok (.iadd, 1) := by decide +kernel
theorem dX12_isOn_68 : decode cX12_isOn 68 = .ok (.istore_n 3, 1) := by decide +kernel
theorem dX12_isOn_69 : decode cX12_isOn 69 = .ok (.iinc 4 1, 3) := by decide +kernel
theorem dX12_isOn_72 : decode cX12_isOn 72 = .ok (.goto (-67), 3) := by decide +kernel
theorem dX12_isOn_75 : decode cX12_isOn 75 = .ok (.iload_n 3, 1) := by decide +kernel
theorem dX12_isOn_76 : decode cX12_isOn 76 = .ok (.ireturn, 1) := by decide +kernel
theorem dX12_milesOf_0 : decode cX12_milesOf 0 = .ok (.iconst 0, 1) := by decide +kernel
theorem dX12_milesOf_1 : decode cX12_milesOf 1 = .ok (.istore_n 2, 1) := by decide +kernel
theorem dX12_milesOf_2 : decode cX12_milesOf 2 = .ok (.iconst 1, 1) := by decide +kernel
theorem dX12_milesOf_3 : decode cX12_milesOf 3 = .ok (.istore_n 3, 1) := by decide +kernel
theorem dX12_milesOf_4 : decode cX12_milesOf 4 = .ok (.iload_n 3, 1) := by decide +kernel
theorem dX12_milesOf_5 : decode cX12_milesOf 5 = .ok (.aload_n 0, 1) := by decide +kernel
theorem dX12_milesOf_6 : decode cX12_milesOf 6 = .ok (.getfield 294, 3) := by decide +kernel
theorem dX12_milesOf_9 : decode cX12_milesOf 9 = .ok (.if_icmp .gt 31, 3) := by decide +kernel
theorem dX12_milesOf_12 : decode cX12_milesOf 12 = .ok (.iload_n 2, 1) := by decide +kernel
theorem dX12_milesOf_13 : decode cX12_milesOf 13 = .ok (.aload_n 0, 1) := by decide +kernel
theorem dX12_milesOf_14 : decode cX12_milesOf 14 = .ok (.iload_n 1, 1) := by decide +kernel
theorem dX12_milesOf_15 : decode cX12_milesOf 15 = .ok (.iload_n 3, 1) := by decide +kernel
theorem dX12_milesOf_16 : decode cX12_milesOf 16 = .ok (.invokevirtual 312, 3) := by decide +kernel
theorem dX12_milesOf_19 : decode cX12_milesOf 19 = .ok (.ifCond .le 12, 3) := by decide +kernel
theorem dX12_milesOf_22 : decode cX12_milesOf 22 = .ok (.aload_n 0, 1) := by decide +kernel
theorem dX12_milesOf_23 : decode cX12_milesOf 23 = .ok (.getfield 40, 3) := by decide +kernel
theorem dX12_milesOf_26 : decode cX12_milesOf 26 = .ok (.iload_n 3, 1) := by decide +kernel
theorem dX12_milesOf_27 : decode cX12_milesOf 27 = .ok (.iaload, 1) := by decide +kernel
theorem dX12_milesOf_28 : decode cX12_milesOf 28 = .ok (.goto 4, 3) := by decide +kernel
theorem dX12_milesOf_31 : decode cX12_milesOf 31 = .ok (.iconst 0, 1) := by decide +kernel
theorem dX12_milesOf_32 : decode cX12_milesOf 32 = .ok (.iadd, 1) := by decide +kernel
theorem dX12_milesOf_33 : decode cX12_milesOf 33 = .ok (.istore_n 2, 1) := by decide +kernel
theorem dX12_milesOf_34 : decode cX12_milesOf 34 = .ok (.iinc 3 1, 3) := by decide +kernel
theorem dX12_milesOf_37 : decode cX12_milesOf 37 = .ok (.goto (-33), 3) := by decide +kernel
theorem dX12_milesOf_40 : decode cX12_milesOf 40 = .ok (.iload_n 2, 1) := by decide +kernel
theorem dX12_milesOf_41 : decode cX12_milesOf 41 = .ok (.ireturn, 1) := by decide +kernel
theorem dX12_costOf_0 : decode cX12_costOf 0 = .ok (.aload_n 0, 1) := by decide +kernel
theorem dX12_costOf_1 : decode cX12_costOf 1 = .ok (.iload_n 1, 1) := by decide +kernel
theorem dX12_costOf_2 : decode cX12_costOf 2 = .ok (.invokevirtual 315, 3) := by decide +kernel
theorem dX12_costOf_5 : decode cX12_costOf 5 = .ok (.istore_n 2, 1) := by decide +kernel
theorem dX12_costOf_6 : decode cX12_costOf 6 = .ok (.aload_n 0, 1) := by decide +kernel
theorem dX12_costOf_7 : decode cX12_costOf 7 = .ok (.getfield 46, 3) := by decide +kernel
theorem dX12_costOf_10 : decode cX12_costOf 10 = .ok (.iconst 1, 1) := by decide +kernel
theorem dX12_costOf_11 : decode cX12_costOf 11 = .ok (.iaload, 1) := by decide +kernel
theorem dX12_costOf_12 : decode cX12_costOf 12 = .ok (.iload_n 2, 1) := by decide +kernel
theorem dX12_costOf_13 : decode cX12_costOf 13 = .ok (.aload_n 0, 1) := by decide +kernel
theorem dX12_costOf_14 : decode cX12_costOf 14 = .ok (.getfield 46, 3) := by decide +kernel
theorem dX12_costOf_17 : decode cX12_costOf 17 = .ok (.iconst 2, 1) := by decide +kernel
theorem dX12_costOf_18 : decode cX12_costOf 18 = .ok (.iaload, 1) := by decide +kernel
theorem dX12_costOf_19 : decode cX12_costOf 19 = .ok (.ifCond .ne 7, 3) := by decide +kernel
theorem dX12_costOf_22 : decode cX12_costOf 22 = .ok (.iconst 0, 1) := by decide +kernel
theorem dX12_costOf_23 : decode cX12_costOf 23 = .ok (.goto 15, 3) := by decide +kernel
theorem dX12_costOf_26 : decode cX12_costOf 26 = .ok (.iconst 0, 1) := by decide +kernel
theorem dX12_costOf_27 : decode cX12_costOf 27 = .ok (.iload_n 2, 1) := by decide +kernel
theorem dX12_costOf_28 : decode cX12_costOf 28 = .ok (.aload_n 0, 1) := by decide +kernel
theorem dX12_costOf_29 : decode cX12_costOf 29 = .ok (.getfield 46, 3) := by decide +kernel
theorem dX12_costOf_32 : decode cX12_costOf 32 = .ok (.iconst 2, 1) := by decide +kernel
theorem dX12_costOf_33 : decode cX12_costOf 33 = .ok (.iaload, 1) := by decide +kernel
theorem dX12_costOf_34 : decode cX12_costOf 34 = .ok (.isub, 1) := by decide +kernel
theorem dX12_costOf_35 : decode cX12_costOf 35 = .ok (.invokestatic 318, 3) := by decide +kernel
theorem dX12_costOf_38 : decode cX12_costOf 38 = .ok (.iadd, 1) := by decide +kernel
theorem dX12_costOf_39 : decode cX12_costOf 39 = .ok (.imul, 1) := by decide +kernel
theorem dX12_costOf_40 : decode cX12_costOf 40 = .ok (.ireturn, 1) := by decide +kernel
theorem dX12_seatsOf_0 : decode cX12_seatsOf 0 = .ok (.iconst 0, 1) := by decide +kernel
theorem dX12_seatsOf_1 : decode cX12_seatsOf 1 = .ok (.istore_n 2, 1) := by decide +kernel
theorem dX12_seatsOf_2 : decode cX12_seatsOf 2 = .ok (.iconst 0, 1) := by decide +kernel
theorem dX12_seatsOf_3 : decode cX12_seatsOf 3 = .ok (.istore_n 3, 1) := by decide +kernel
theorem dX12_seatsOf_4 : decode cX12_seatsOf 4 = .ok (.iload_n 3, 1) := by decide +kernel
theorem dX12_seatsOf_5 : decode cX12_seatsOf 5 = .ok (.aload_n 0, 1) := by decide +kernel
theorem dX12_seatsOf_6 : decode cX12_seatsOf 6 = .ok (.getfield 297, 3) := by decide +kernel
theorem dX12_seatsOf_9 : decode cX12_seatsOf 9 = .ok (.if_icmp .ge 34, 3) := by decide +kernel
theorem dX12_seatsOf_12 : decode cX12_seatsOf 12 = .ok (.iload_n 2, 1) := by decide +kernel
theorem dX12_seatsOf_13 : decode cX12_seatsOf 13 = .ok (.iload_n 1, 1) := by decide +kernel
theorem dX12_seatsOf_14 : decode cX12_seatsOf 14 = .ok (.iload_n 3, 1) := by decide +kernel
theorem dX12_seatsOf_15 : decode cX12_seatsOf 15 = .ok (.invokestatic 263, 3) := by decide +kernel
theorem dX12_seatsOf_18 : decode cX12_seatsOf 18 = .ok (.ifCond .eq 16, 3) := by decide +kernel
theorem dX12_seatsOf_21 : decode cX12_seatsOf 21 = .ok (.aload_n 0, 1) := by decide +kernel
theorem dX12_seatsOf_22 : decode cX12_seatsOf 22 = .ok (.getfield 43, 3) := by decide +kernel
theorem dX12_seatsOf_25 : decode cX12_seatsOf 25 = .ok (.iconst 3, 1) := by decide +kernel
theorem dX12_seatsOf_26 : decode cX12_seatsOf 26 = .ok (.iload_n 3, 1) := by decide +kernel
theorem dX12_seatsOf_27 : decode cX12_seatsOf 27 = .ok (.imul, 1) := by decide +kernel
theorem dX12_seatsOf_28 : decode cX12_seatsOf 28 = .ok (.iconst 2, 1) := by decide +kernel
theorem dX12_seatsOf_29 : decode cX12_seatsOf 29 = .ok (.iadd, 1) := by decide +kernel
theorem dX12_seatsOf_30 : decode cX12_seatsOf 30 = .ok (.iaload, 1) := by decide +kernel
theorem dX12_seatsOf_31 : decode cX12_seatsOf 31 = .ok (.goto 4, 3) := by decide +kernel
theorem dX12_seatsOf_34 : decode cX12_seatsOf 34 = .ok (.iconst 0, 1) := by decide +kernel
theorem dX12_seatsOf_35 : decode cX12_seatsOf 35 = .ok (.iadd, 1) := by decide +kernel
theorem dX12_seatsOf_36 : decode cX12_seatsOf 36 = .ok (.istore_n 2, 1) := by decide +kernel
theorem dX12_seatsOf_37 : decode cX12_seatsOf 37 = .ok (.iinc 3 1, 3) := by decide +kernel
theorem dX12_seatsOf_40 : decode cX12_seatsOf 40 = .ok (.goto (-36), 3) := by decide +kernel
theorem dX12_seatsOf_43 : decode cX12_seatsOf 43 = .ok (.iload_n 2, 1) := by decide +kernel
theorem dX12_seatsOf_44 : decode cX12_seatsOf 44 = .ok (.ireturn, 1) := by decide +kernel
theorem dX12_apart_0 : decode cX12_apart 0 = .ok (.iload_n 1, 1) := by decide +kernel
theorem dX12_apart_1 : decode cX12_apart 1 = .ok (.istore_n 3, 1) := by decide +kernel
theorem dX12_apart_2 : decode cX12_apart 2 = .ok (.iload_n 2, 1) := by decide +kernel
theorem dX12_apart_3 : decode cX12_apart 3 = .ok (.istore 4, 2) := by decide +kernel
theorem dX12_apart_5 : decode cX12_apart 5 = .ok (.iconst 0, 1) := by decide +kernel
theorem dX12_apart_6 : decode cX12_apart 6 = .ok (.istore 5, 2) := by decide +kernel
theorem dX12_apart_8 : decode cX12_apart 8 = .ok (.iload_n 3, 1) := by decide +kernel
theorem dX12_apart_9 : decode cX12_apart 9 = .ok (.iload 4, 2) := by decide +kernel
theorem dX12_apart_11 : decode cX12_apart 11 = .ok (.if_icmp .eq 54, 3) := by decide +kernel
theorem dX12_apart_14 : decode cX12_apart 14 = .ok (.iload_n 3, 1) := by decide +kernel
theorem dX12_apart_15 : decode cX12_apart 15 = .ok (.iload 4, 2) := by decide +kernel
theorem dX12_apart_17 : decode cX12_apart 17 = .ok (.if_icmp .le 24, 3) := by decide +kernel
theorem dX12_apart_20 : decode cX12_apart 20 = .ok (.iload 5, 2) := by decide +kernel
theorem dX12_apart_22 : decode cX12_apart 22 = .ok (.aload_n 0, 1) := by decide +kernel
theorem dX12_apart_23 : decode cX12_apart 23 = .ok (.getfield 40, 3) := by decide +kernel
theorem dX12_apart_26 : decode cX12_apart 26 = .ok (.iload_n 3, 1) := by decide +kernel
theorem dX12_apart_27 : decode cX12_apart 27 = .ok (.iaload, 1) := by decide +kernel
theorem dX12_apart_28 : decode cX12_apart 28 = .ok (.iadd, 1) := by decide +kernel
theorem dX12_apart_29 : decode cX12_apart 29 = .ok (.istore 5, 2) := by decide +kernel
theorem dX12_apart_31 : decode cX12_apart 31 = .ok (.aload_n 0, 1) := by decide +kernel
theorem dX12_apart_32 : decode cX12_apart 32 = .ok (.getfield 37, 3) := by decide +kernel
theorem dX12_apart_35 : decode cX12_apart 35 = .ok (.iload_n 3, 1) := by decide +kernel
theorem dX12_apart_36 : decode cX12_apart 36 = .ok (.iaload, 1) := by decide +kernel
theorem dX12_apart_37 : decode cX12_apart 37 = .ok (.istore_n 3, 1) := by decide +kernel
theorem dX12_apart_38 : decode cX12_apart 38 = .ok (.goto (-30), 3) := by decide +kernel
theorem dX12_apart_41 : decode cX12_apart 41 = .ok (.iload 5, 2) := by decide +kernel
theorem dX12_apart_43 : decode cX12_apart 43 = .ok (.aload_n 0, 1) := by decide +kernel
theorem dX12_apart_44 : decode cX12_apart 44 = .ok (.getfield 40, 3) := by decide +kernel
theorem dX12_apart_47 : decode cX12_apart 47 = .ok (.iload 4, 2) := by decide +kernel
theorem dX12_apart_49 : decode cX12_apart 49 = .ok (.iaload, 1) := by decide +kernel
theorem dX12_apart_50 : decode cX12_apart 50 = .ok (.iadd, 1) := by decide +kernel
theorem dX12_apart_51 : decode cX12_apart 51 = .ok (.istore 5, 2) := by decide +kernel
theorem dX12_apart_53 : decode cX12_apart 53 = .ok (.aload_n 0, 1) := by decide +kernel
theorem dX12_apart_54 : decode cX12_apart 54 = .ok (.getfield 37, 3) := by decide +kernel
theorem dX12_apart_57 : decode cX12_apart 57 = .ok (.iload 4, 2) := by decide +kernel
theorem dX12_apart_59 : decode cX12_apart 59 = .ok (.iaload, 1) := by decide +kernel
theorem dX12_apart_60 : decode cX12_apart 60 = .ok (.istore 4, 2) := by decide +kernel
theorem dX12_apart_62 : decode cX12_apart 62 = .ok (.goto (-54), 3) := by decide +kernel
theorem dX12_apart_65 : decode cX12_apart 65 = .ok (.iload 5, 2) := by decide +kernel
theorem dX12_apart_67 : decode cX12_apart 67 = .ok (.ireturn, 1) := by decide +kernel
theorem dX12_rider_0 : decode cX12_rider 0 = .ok (.aload_n 0, 1) := by decide +kernel
theorem dX12_rider_1 : decode cX12_rider 1 = .ok (.aload_n 0, 1) := by decide +kernel
theorem dX12_rider_2 : decode cX12_rider 2 = .ok (.iload_n 1, 1) := by decide +kernel
theorem dX12_rider_3 : decode cX12_rider 3 = .ok (.invokevirtual 320, 3) := by decide +kernel
theorem dX12_rider_6 : decode cX12_rider 6 = .ok (.ifCond .eq 19, 3) := by decide +kernel
theorem dX12_rider_9 : decode cX12_rider 9 = .ok (.iload_n 2, 1) := by decide +kernel
theorem dX12_rider_10 : decode cX12_rider 10 = .ok (.i2l, 1) := by decide +kernel
theorem dX12_rider_11 : decode cX12_rider 11 = .ok (.lconst 0, 1) := by decide +kernel
theorem dX12_rider_12 : decode cX12_rider 12 = .ok (.ldc2_w 323, 3) := by decide +kernel
theorem dX12_rider_15 : decode cX12_rider 15 = .ok (.invokestatic 236, 3) := by decide +kernel
theorem dX12_rider_18 : decode cX12_rider 18 = .ok (.ifCond .eq 7, 3) := by decide +kernel
theorem dX12_rider_21 : decode cX12_rider 21 = .ok (.iconst 0, 1) := by decide +kernel
theorem dX12_rider_22 : decode cX12_rider 22 = .ok (.goto 4, 3) := by decide +kernel
theorem dX12_rider_25 : decode cX12_rider 25 = .ok (.iconst 1, 1) := by decide +kernel
theorem dX12_rider_26 : decode cX12_rider 26 = .ok (.putfield 108, 3) := by decide +kernel
theorem dX12_rider_29 : decode cX12_rider 29 = .ok (.aload_n 0, 1) := by decide +kernel
theorem dX12_rider_30 : decode cX12_rider 30 = .ok (.getfield 108, 3) := by decide +kernel
theorem dX12_rider_33 : decode cX12_rider 33 = .ok (.ifCond .le 5, 3) := by decide +kernel
theorem dX12_rider_36 : decode cX12_rider 36 = .ok (.iconst 0, 1) := by decide +kernel
theorem dX12_rider_37 : decode cX12_rider 37 = .ok (.ireturn, 1) := by decide +kernel
theorem dX12_rider_38 : decode cX12_rider 38 = .ok (.iload_n 2, 1) := by decide +kernel
theorem dX12_rider_39 : decode cX12_rider 39 = .ok (.iconst 3, 1) := by decide +kernel
theorem dX12_rider_40 : decode cX12_rider 40 = .ok (.if_icmp .ge 16, 3) := by decide +kernel
theorem dX12_rider_43 : decode cX12_rider 43 = .ok (.aload_n 0, 1) := by decide +kernel
theorem dX12_rider_44 : decode cX12_rider 44 = .ok (.getfield 43, 3) := by decide +kernel
theorem dX12_rider_47 : decode cX12_rider 47 = .ok (.iconst 3, 1) := by decide +kernel
theorem dX12_rider_48 : decode cX12_rider 48 = .ok (.iload_n 1, 1) := by decide +kernel
theorem dX12_rider_49 : decode cX12_rider 49 = .ok (.imul, 1) := by decide +kernel
theorem dX12_rider_50 : decode cX12_rider 50 = .ok (.iload_n 2, 1) := by decide +kernel
theorem dX12_rider_51 : decode cX12_rider 51 = .ok (.iadd, 1) := by decide +kernel
theorem dX12_rider_52 : decode cX12_rider 52 = .ok (.iaload, 1) := by decide +kernel
theorem dX12_rider_53 : decode cX12_rider 53 = .ok (.goto 25, 3) := by decide +kernel
theorem dX12_rider_56 : decode cX12_rider 56 = .ok (.iload_n 2, 1) := by decide +kernel
theorem dX12_rider_57 : decode cX12_rider 57 = .ok (.iconst 3, 1) := by decide +kernel
theorem dX12_rider_58 : decode cX12_rider 58 = .ok (.if_icmp .ne 13, 3) := by decide +kernel
theorem dX12_rider_61 : decode cX12_rider 61 = .ok (.aload_n 0, 1) := by decide +kernel
theorem dX12_rider_62 : decode cX12_rider 62 = .ok (.iconst 1, 1) := by decide +kernel
theorem dX12_rider_63 : decode cX12_rider 63 = .ok (.iload_n 1, 1) := by decide +kernel
theorem dX12_rider_64 : decode cX12_rider 64 = .ok (.ishl, 1) := by decide +kernel
theorem dX12_rider_65 : decode cX12_rider 65 = .ok (.invokevirtual 315, 3) := by decide +kernel
theorem dX12_rider_68 : decode cX12_rider 68 = .ok (.goto 10, 3) := by decide +kernel
theorem dX12_rider_71 : decode cX12_rider 71 = .ok (.aload_n 0, 1) := by decide +kernel
theorem dX12_rider_72 : decode cX12_rider 72 = .ok (.iconst 1, 1) := by decide +kernel
theorem dX12_rider_73 : decode cX12_rider 73 = .ok (.iload_n 1, 1) := by decide +kernel
theorem dX12_rider_74 : decode cX12_rider 74 = .ok (.ishl, 1) := by decide +kernel
theorem dX12_rider_75 : decode cX12_rider 75 = .ok (.invokevirtual 325, 3) := by decide +kernel
theorem dX12_rider_78 : decode cX12_rider 78 = .ok (.ireturn, 1) := by decide +kernel
theorem dX12_way_0 : decode cX12_way 0 = .ok (.aload_n 0, 1) := by decide +kernel
theorem dX12_way_1 : decode cX12_way 1 = .ok (.iconst 0, 1) := by decide +kernel
theorem dX12_way_2 : decode cX12_way 2 = .ok (.putfield 108, 3) := by decide +kernel
theorem dX12_way_5 : decode cX12_way 5 = .ok (.aload_n 0, 1) := by decide +kernel
theorem dX12_way_6 : decode cX12_way 6 = .ok (.iload_n 1, 1) := by decide +kernel
theorem dX12_way_7 : decode cX12_way 7 = .ok (.invokevirtual 328, 3) := by decide +kernel
theorem dX12_way_10 : decode cX12_way 10 = .ok (.ifCond .eq 17, 3) := by decide +kernel
theorem dX12_way_13 : decode cX12_way 13 = .ok (.iload_n 1, 1) := by decide +kernel
theorem dX12_way_14 : decode cX12_way 14 = .ok (.ifCond .eq 13, 3) := by decide +kernel
theorem dX12_way_17 : decode cX12_way 17 = .ok (.iload_n 2, 1) := by decide +kernel
theorem dX12_way_18 : decode cX12_way 18 = .ok (.i2l, 1) := by decide +kernel
theorem dX12_way_19 : decode cX12_way 19 = .ok (.lconst 0, 1) := by decide +kernel
theorem dX12_way_20 : decode cX12_way 20 = .ok (.lconst 1, 1) := by decide +kernel
theorem dX12_way_21 : decode cX12_way 21 = .ok (.invokestatic 236, 3) := by decide +kernel
theorem dX12_way_24 : decode cX12_way 24 = .ok (.ifCond .ne 5, 3) := by decide +kernel
theorem dX12_way_27 : decode cX12_way 27 = .ok (.iconst (-1), 1) := by decide +kernel
theorem dX12_way_28 : decode cX12_way 28 = .ok (.ireturn, 1) := by decide +kernel
theorem dX12_way_29 : decode cX12_way 29 = .ok (.iload_n 2, 1) := by decide +kernel
theorem dX12_way_30 : decode cX12_way 30 = .ok (.ifCond .ne 12, 3) := by decide +kernel
theorem dX12_way_33 : decode cX12_way 33 = .ok (.aload_n 0, 1) := by decide +kernel
theorem dX12_way_34 : decode cX12_way 34 = .ok (.getfield 37, 3) := by decide +kernel
theorem dX12_way_37 : decode cX12_way 37 = .ok (.iload_n 1, 1) := by decide +kernel
theorem dX12_way_38 : decode cX12_way 38 = .ok (.iaload, 1) := by decide +kernel
theorem dX12_way_39 : decode cX12_way 39 = .ok (.goto 9, 3) := by decide +kernel
theorem dX12_way_42 : decode cX12_way 42 = .ok (.aload_n 0, 1) := by decide +kernel
theorem dX12_way_43 : decode cX12_way 43 = .ok (.getfield 40, 3) := by decide +kernel
theorem dX12_way_46 : decode cX12_way 46 = .ok (.iload_n 1, 1) := by decide +kernel
theorem dX12_way_47 : decode cX12_way 47 = .ok (.iaload, 1) := by decide +kernel
theorem dX12_way_48 : decode cX12_way 48 = .ok (.ireturn, 1) := by decide +kernel
theorem dX12_between_0 : decode cX12_between 0 = .ok (.aload_n 0, 1) := by decide +kernel
theorem dX12_between_1 : decode cX12_between 1 = .ok (.iconst 0, 1) := by decide +kernel
theorem dX12_between_2 : decode cX12_between 2 = .ok (.putfield 108, 3) := by decide +kernel
theorem dX12_between_5 : decode cX12_between 5 = .ok (.aload_n 0, 1) := by decide +kernel
theorem dX12_between_6 : decode cX12_between 6 = .ok (.iload_n 1, 1) := by decide +kernel
theorem dX12_between_7 : decode cX12_between 7 = .ok (.invokevirtual 328, 3) := by decide +kernel
theorem dX12_between_10 : decode cX12_between 10 = .ok (.ifCond .eq 20, 3) := by decide +kernel
theorem dX12_between_13 : decode cX12_between 13 = .ok (.aload_n 0, 1) := by decide +kernel
theorem dX12_between_14 : decode cX12_between 14 = .ok (.iload_n 2, 1) := by decide +kernel
theorem dX12_between_15 : decode cX12_between 15 = .ok (.invokevirtual 328, 3) := by decide +kernel
theorem dX12_between_18 : decode cX12_between 18 = .ok (.ifCond .eq 12, 3) := by decide +kernel
theorem dX12_between_21 : decode cX12_between 21 = .ok (.aload_n 0, 1) := by decide +kernel
theorem dX12_between_22 : decode cX12_between 22 = .ok (.iload_n 1, 1) := by decide +kernel
theorem dX12_between_23 : decode cX12_between 23 = .ok (.iload_n 2, 1) := by decide +kernel
theorem dX12_between_24 : decode cX12_between 24 = .ok (.invokevirtual 331, 3) := by decide +kernel
theorem dX12_between_27 : decode cX12_between 27 = .ok (.goto 4, 3) := by decide +kernel
theorem dX12_between_30 : decode cX12_between 30 = .ok (.iconst (-1), 1) := by decide +kernel
theorem dX12_between_31 : decode cX12_between 31 = .ok (.ireturn, 1) := by decide +kernel
theorem dX12_move_0 : decode cX12_move 0 = .ok (.aload_n 0, 1) := by decide +kernel
theorem dX12_move_1 : decode cX12_move 1 = .ok (.iconst 0, 1) := by decide +kernel
theorem dX12_move_2 : decode cX12_move 2 = .ok (.putfield 108, 3) := by decide +kernel
theorem dX12_move_5 : decode cX12_move 5 = .ok (.aload_n 0, 1) := by decide +kernel
theorem dX12_move_6 : decode cX12_move 6 = .ok (.iload_n 1, 1) := by decide +kernel
theorem dX12_move_7 : decode cX12_move 7 = .ok (.invokevirtual 320, 3) := by decide +kernel
theorem dX12_move_10 : decode cX12_move 10 = .ok (.ifCond .eq 27, 3) := by decide +kernel
theorem dX12_move_13 : decode cX12_move 13 = .ok (.aload_n 0, 1) := by decide +kernel
theorem dX12_move_14 : decode cX12_move 14 = .ok (.iload_n 2, 1) := by decide +kernel
theorem dX12_move_15 : decode cX12_move 15 = .ok (.invokevirtual 328, 3) := by decide +kernel
theorem dX12_move_18 : decode cX12_move 18 = .ok (.ifCond .eq 19, 3) := by decide +kernel
theorem dX12_move_21 : decode cX12_move 21 = .ok (.iload_n 2, 1) := by decide +kernel
theorem dX12_move_22 : decode cX12_move 22 = .ok (.ifCond .eq 15, 3) := by decide +kernel
theorem dX12_move_25 : decode cX12_move 25 = .ok (.aload_n 0, 1) := by decide +kernel
theorem dX12_move_26 : decode cX12_move 26 = .ok (.getfield 43, 3) := by decide +kernel
theorem dX12_move_29 : decode cX12_move 29 = .ok (.iconst 3, 1) := by decide +kernel
theorem dX12_move_30 : decode cX12_move 30 = .ok (.iload_n 1, 1) := by decide +kernel
theorem dX12_move_31 : decode cX12_move 31 = .ok (.imul, 1) := by decide +kernel
theorem dX12_move_32 : decode cX12_move 32 = .ok (.iaload, 1) := by decide +kernel
theorem dX12_move_33 : decode cX12_move 33 = .ok (.iload_n 2, 1) := by decide +kernel
theorem dX12_move_34 : decode cX12_move 34 = .ok (.if_icmp .ne 5, 3) := by decide +kernel
theorem dX12_move_37 : decode cX12_move 37 = .ok (.iconst 0, 1) := by decide +kernel
theorem dX12_move_38 : decode cX12_move 38 = .ok (.ireturn, 1) := by decide +kernel
theorem dX12_move_39 : decode cX12_move 39 = .ok (.aload_n 0, 1) := by decide +kernel
theorem dX12_move_40 : decode cX12_move 40 = .ok (.getfield 43, 3) := by decide +kernel
theorem dX12_move_43 : decode cX12_move 43 = .ok (.iconst 3, 1) := by decide +kernel
theorem dX12_move_44 : decode cX12_move 44 = .ok (.iload_n 1, 1) := by decide +kernel
theorem dX12_move_45 : decode cX12_move 45 = .ok (.imul, 1) := by decide +kernel
theorem dX12_move_46 : decode cX12_move 46 = .ok (.iload_n 2, 1) := by decide +kernel
theorem dX12_move_47 : decode cX12_move 47 = .ok (.iastore, 1) := by decide +kernel
theorem dX12_move_48 : decode cX12_move 48 = .ok (.iconst 1, 1) := by decide +kernel
theorem dX12_move_49 : decode cX12_move 49 = .ok (.ireturn, 1) := by decide +kernel
theorem dX12_dig_0 : decode cX12_dig 0 = .ok (.aload_n 0, 1) := by decide +kernel
theorem dX12_dig_1 : decode cX12_dig 1 = .ok (.iconst 0, 1) := by decide +kernel
theorem dX12_dig_2 : decode cX12_dig 2 = .ok (.putfield 108, 3) := by decide +kernel
theorem dX12_dig_5 : decode cX12_dig 5 = .ok (.aload_n 0, 1) := by decide +kernel
theorem dX12_dig_6 : decode cX12_dig 6 = .ok (.iload_n 1, 1) := by decide +kernel
theorem dX12_dig_7 : decode cX12_dig 7 = .ok (.invokevirtual 328, 3) := by decide +kernel
theorem dX12_dig_10 : decode cX12_dig 10 = .ok (.ifCond .eq 19, 3) := by decide +kernel
theorem dX12_dig_13 : decode cX12_dig 13 = .ok (.iload_n 1, 1) := by decide +kernel
theorem dX12_dig_14 : decode cX12_dig 14 = .ok (.ifCond .eq 15, 3) := by decide +kernel
theorem dX12_dig_17 : decode cX12_dig 17 = .ok (.iload_n 2, 1) := by decide +kernel
theorem dX12_dig_18 : decode cX12_dig 18 = .ok (.i2l, 1) := by decide +kernel
theorem dX12_dig_19 : decode cX12_dig 19 = .ok (.lconst 1, 1) := by decide +kernel
theorem dX12_dig_20 : decode cX12_dig 20 = .ok (.ldc2_w 334, 3) := by decide +kernel
theorem dX12_dig_23 : decode cX12_dig 23 = .ok (.invokestatic 236, 3) := by decide +kernel
theorem dX12_dig_26 : decode cX12_dig 26 = .ok (.ifCond .ne 5, 3) := by decide +kernel
theorem dX12_dig_29 : decode cX12_dig 29 = .ok (.iconst 0, 1) := by decide +kernel
theorem dX12_dig_30 : decode cX12_dig 30 = .ok (.ireturn, 1) := by decide +kernel
theorem dX12_dig_31 : decode cX12_dig 31 = .ok (.aload_n 0, 1) := by decide +kernel
theorem dX12_dig_32 : decode cX12_dig 32 = .ok (.getfield 40, 3) := by decide +kernel
theorem dX12_dig_35 : decode cX12_dig 35 = .ok (.iload_n 1, 1) := by decide +kernel
theorem dX12_dig_36 : decode cX12_dig 36 = .ok (.iload_n 2, 1) := by decide +kernel
theorem dX12_dig_37 : decode cX12_dig 37 = .ok (.iastore, 1) := by decide +kernel
theorem dX12_dig_38 : decode cX12_dig 38 = .ok (.iconst 1, 1) := by decide +kernel
theorem dX12_dig_39 : decode cX12_dig 39 = .ok (.ireturn, 1) := by decide +kernel
theorem dX12_feet_0 : decode cX12_feet 0 = .ok (.aload_n 0, 1) := by decide +kernel
theorem dX12_feet_1 : decode cX12_feet 1 = .ok (.iconst 0, 1) := by decide +kernel
theorem dX12_feet_2 : decode cX12_feet 2 = .ok (.putfield 108, 3) := by decide +kernel
theorem dX12_feet_5 : decode cX12_feet 5 = .ok (.iload_n 1, 1) := by decide +kernel
theorem dX12_feet_6 : decode cX12_feet 6 = .ok (.i2l, 1) := by decide +kernel
theorem dX12_feet_7 : decode cX12_feet 7 = .ok (.lconst 0, 1) := by decide +kernel
theorem dX12_feet_8 : decode cX12_feet 8 = .ok (.ldc2_w 334, 3) := by decide +kernel
theorem dX12_feet_11 : decode cX12_feet 11 = .ok (.invokestatic 236, 3) := by decide +kernel
theorem dX12_feet_14 : decode cX12_feet 14 = .ok (.ifCond .ne 5, 3) := by decide +kernel
theorem dX12_feet_17 : decode cX12_feet 17 = .ok (.iconst 0, 1) := by decide +kernel
theorem dX12_feet_18 : decode cX12_feet 18 = .ok (.ireturn, 1) := by decide +kernel
theorem dX12_feet_19 : decode cX12_feet 19 = .ok (.aload_n 0, 1) := by decide +kernel
theorem dX12_feet_20 : decode cX12_feet 20 = .ok (.iload_n 1, 1) := by decide +kernel
theorem dX12_feet_21 : decode cX12_feet 21 = .ok (.putfield 61, 3) := by decide +kernel
theorem dX12_feet_24 : decode cX12_feet 24 = .ok (.iconst 1, 1) := by decide +kernel
theorem dX12_feet_25 : decode cX12_feet 25 = .ok (.ireturn, 1) := by decide +kernel
theorem dX12_cost_0 : decode cX12_cost 0 = .ok (.aload_n 0, 1) := by decide +kernel
theorem dX12_cost_1 : decode cX12_cost 1 = .ok (.iconst 0, 1) := by decide +kernel
theorem dX12_cost_2 : decode cX12_cost 2 = .ok (.putfield 108, 3) := by decide +kernel
theorem dX12_cost_5 : decode cX12_cost 5 = .ok (.aload_n 0, 1) := by decide +kernel
theorem dX12_cost_6 : decode cX12_cost 6 = .ok (.getfield 297, 3) := by decide +kernel
theorem dX12_cost_9 : decode cX12_cost 9 = .ok (.ifCond .eq 27, 3) := by decide +kernel
theorem dX12_cost_12 : decode cX12_cost 12 = .ok (.iload_n 1, 1) := by decide +kernel
theorem dX12_cost_13 : decode cX12_cost 13 = .ok (.ifCond .eq 11, 3) := by decide +kernel
theorem dX12_cost_16 : decode cX12_cost 16 = .ok (.aload_n 0, 1) := by decide +kernel
theorem dX12_cost_17 : decode cX12_cost 17 = .ok (.iload_n 1, 1) := by decide +kernel
theorem dX12_cost_18 : decode cX12_cost 18 = .ok (.invokevirtual 336, 3) := by decide +kernel
theorem dX12_cost_21 : decode cX12_cost 21 = .ok (.ifCond .eq 15, 3) := by decide +kernel
theorem dX12_cost_24 : decode cX12_cost 24 = .ok (.iload_n 2, 1) := by decide +kernel
theorem dX12_cost_25 : decode cX12_cost 25 = .ok (.i2l, 1) := by decide +kernel
theorem dX12_cost_26 : decode cX12_cost 26 = .ok (.lconst 0, 1) := by decide +kernel
theorem dX12_cost_27 : decode cX12_cost 27 = .ok (.ldc2_w 339, 3) := by decide +kernel
theorem dX12_cost_30 : decode cX12_cost 30 = .ok (.invokestatic 236, 3) := by decide +kernel
theorem dX12_cost_33 : decode cX12_cost 33 = .ok (.ifCond .ne 5, 3) := by decide +kernel
theorem dX12_cost_36 : decode cX12_cost 36 = .ok (.iconst (-1), 1) := by decide +kernel
theorem dX12_cost_37 : decode cX12_cost 37 = .ok (.ireturn, 1) := by decide +kernel
theorem dX12_cost_38 : decode cX12_cost 38 = .ok (.iload_n 2, 1) := by decide +kernel
theorem dX12_cost_39 : decode cX12_cost 39 = .ok (.ifCond .ne 11, 3) := by decide +kernel
theorem dX12_cost_42 : decode cX12_cost 42 = .ok (.aload_n 0, 1) := by decide +kernel
theorem dX12_cost_43 : decode cX12_cost 43 = .ok (.iload_n 1, 1) := by decide +kernel
theorem dX12_cost_44 : decode cX12_cost 44 = .ok (.invokevirtual 315, 3) := by decide +kernel
theorem dX12_cost_47 : decode cX12_cost 47 = .ok (.goto 21, 3) := by decide +kernel
theorem dX12_cost_50 : decode cX12_cost 50 = .ok (.iload_n 2, 1) := by decide +kernel
theorem dX12_cost_51 : decode cX12_cost 51 = .ok (.iconst 1, 1) := by decide +kernel
theorem dX12_cost_52 : decode cX12_cost 52 = .ok (.if_icmp .ne 11, 3) := by decide +kernel
theorem dX12_cost_55 : decode cX12_cost 55 = .ok (.aload_n 0, 1) := by decide +kernel
theorem dX12_cost_56 : decode cX12_cost 56 = .ok (.iload_n 1, 1) := by decide +kernel
theorem dX12_cost_57 : decode cX12_cost 57 = .ok (.invokevirtual 325, 3) := by decide +kernel
theorem dX12_cost_60 : decode cX12_cost 60 = .ok (.goto 8, 3) := by decide +kernel
theorem dX12_cost_63 : decode cX12_cost 63 = .ok (.aload_n 0, 1) := by decide +kernel
theorem dX12_cost_64 : decode cX12_cost 64 = .ok (.iload_n 1, 1) := by decide +kernel
theorem dX12_cost_65 : decode cX12_cost 65 = .ok (.invokevirtual 341, 3) := by decide +kernel
theorem dX12_cost_68 : decode cX12_cost 68 = .ok (.ireturn, 1) := by decide +kernel
theorem dX12_times_0 : decode cX12_times 0 = .ok (.iconst 1, 1) := by decide +kernel
theorem dX12_times_1 : decode cX12_times 1 = .ok (.istore_n 1, 1) := by decide +kernel
theorem dX12_times_2 : decode cX12_times 2 = .ok (.iconst 2, 1) := by decide +kernel
theorem dX12_times_3 : decode cX12_times 3 = .ok (.istore_n 2, 1) := by decide +kernel
theorem dX12_times_4 : decode cX12_times 4 = .ok (.iload_n 2, 1) := by decide +kernel
theorem dX12_times_5 : decode cX12_times 5 = .ok (.iload_n 0, 1) := by decide +kernel
theorem dX12_times_6 : decode cX12_times 6 = .ok (.if_icmp .gt 13, 3) := by decide +kernel
theorem dX12_times_9 : decode cX12_times 9 = .ok (.iload_n 1, 1) := by decide +kernel
theorem dX12_times_10 : decode cX12_times 10 = .ok (.iload_n 2, 1) := by decide +kernel
theorem dX12_times_11 : decode cX12_times 11 = .ok (.imul, 1) := by decide +kernel
theorem dX12_times_12 : decode cX12_times 12 = .ok (.istore_n 1, 1) := by decide +kernel
theorem dX12_times_13 : decode cX12_times 13 = .ok (.iinc 2 1, 3) := by decide +kernel
theorem dX12_times_16 : decode cX12_times 16 = .ok (.goto (-12), 3) := by decide +kernel
theorem dX12_times_19 : decode cX12_times 19 = .ok (.iload_n 1, 1) := by decide +kernel
theorem dX12_times_20 : decode cX12_times 20 = .ok (.ireturn, 1) := by decide +kernel
theorem dX12_layShares_0 : decode cX12_layShares 0 = .ok (.iload_n 1, 1) := by decide +kernel
theorem dX12_layShares_1 : decode cX12_layShares 1 = .ok (.invokestatic 344, 3) := by decide +kernel
theorem dX12_layShares_4 : decode cX12_layShares 4 = .ok (.istore_n 3, 1) := by decide +kernel
theorem dX12_layShares_5 : decode cX12_layShares 5 = .ok (.iconst 0, 1) := by decide +kernel
theorem dX12_layShares_6 : decode cX12_layShares 6 = .ok (.istore 4, 2) := by decide +kernel
theorem dX12_layShares_8 : decode cX12_layShares 8 = .ok (.iload 4, 2) := by decide +kernel
theorem dX12_layShares_10 : decode cX12_layShares 10 = .ok (.bipush 6, 2) := by decide +kernel
theorem dX12_layShares_12 : decode cX12_layShares 12 = .ok (.if_icmp .ge 17, 3) := by decide +kernel
theorem dX12_layShares_15 : decode cX12_layShares 15 = .ok (.aload_n 0, 1) := by decide +kernel
theorem dX12_layShares_16 : decode cX12_layShares 16 = .ok (.getfield 65, 3) := by decide +kernel
theorem dX12_layShares_19 : decode cX12_layShares 19 = .ok (.iload 4, 2) := by decide +kernel
theorem dX12_layShares_21 : decode cX12_layShares 21 = .ok (.lconst 0, 1) := by decide +kernel
theorem dX12_layShares_22 : decode cX12_layShares 22 = .ok (.lastore, 1) := by decide +kernel
theorem dX12_layShares_23 : decode cX12_layShares 23 = .ok (.iinc 4 1, 3) := by decide +kernel
theorem dX12_layShares_26 : decode cX12_layShares 26 = .ok (.goto (-18), 3) := by decide +kernel
theorem dX12_layShares_29 : decode cX12_layShares 29 = .ok (.iload_n 2, 1) := by decide +kernel
theorem dX12_layShares_30 : decode cX12_layShares 30 = .ok (.ifCond .ne 9, 3) := by decide +kernel
theorem dX12_layShares_33 : decode cX12_layShares 33 = .ok (.aload_n 0, 1) := by decide +kernel
theorem dX12_layShares_34 : decode cX12_layShares 34 = .ok (.iload_n 1, 1) := by decide +kernel
theorem dX12_layShares_35 : decode cX12_layShares 35 = .ok (.iload_n 3, 1) := by decide +kernel
theorem dX12_layShares_36 : decode cX12_layShares 36 = .ok (.invokevirtual 349, 3) := by decide +kernel
theorem dX12_layShares_39 : decode cX12_layShares 39 = .ok (.iload_n 2, 1) := by decide +kernel
theorem dX12_layShares_40 : decode cX12_layShares 40 = .ok (.iconst 1, 1) := by decide +kernel
theorem dX12_layShares_41 : decode cX12_layShares 41 = .ok (.if_icmp .ne 9, 3) := by decide +kernel
theorem dX12_layShares_44 : decode cX12_layShares 44 = .ok (.aload_n 0, 1) := by decide +kernel
theorem dX12_layShares_45 : decode cX12_layShares 45 = .ok (.iload_n 1, 1) := by decide +kernel
theorem dX12_layShares_46 : decode cX12_layShares 46 = .ok (.iload_n 3, 1) := by decide +kernel
theorem dX12_layShares_47 : decode cX12_layShares 47 = .ok (.invokevirtual 353, 3) := by decide +kernel
theorem dX12_layShares_50 : decode cX12_layShares 50 = .ok (.iload_n 2, 1) := by decide +kernel
theorem dX12_layShares_51 : decode cX12_layShares 51 = .ok (.iconst 1, 1) := by decide +kernel
theorem dX12_layShares_52 : decode cX12_layShares 52 = .ok (.if_icmp .le 10, 3) := by decide +kernel
theorem dX12_layShares_55 : decode cX12_layShares 55 = .ok (.aload_n 0, 1) := by decide +kernel
theorem dX12_layShares_56 : decode cX12_layShares 56 = .ok (.iload_n 1, 1) := by decide +kernel
theorem dX12_layShares_57 : decode cX12_layShares 57 = .ok (.iload_n 3, 1) := by decide +kernel
theorem dX12_layShares_58 : decode cX12_layShares 58 = .ok (.iload_n 2, 1) := by decide +kernel
theorem dX12_layShares_59 : decode cX12_layShares 59 = .ok (.invokevirtual 356, 3) := by decide +kernel
theorem dX12_layShares_62 : decode cX12_layShares 62 = .ok (.return_, 1) := by decide +kernel
theorem dX12_bySections_0 : decode cX12_bySections 0 = .ok (.aload_n 0, 1) := by decide +kernel
theorem dX12_bySections_1 : decode cX12_bySections 1 = .ok (.ldc2_w 359, 3) := by decide +kernel
theorem dX12_bySections_4 : decode cX12_bySections 4 = .ok (.putfield 361, 3) := by decide +kernel
theorem dX12_bySections_7 : decode cX12_bySections 7 = .ok (.aload_n 0, 1) := by decide +kernel
theorem dX12_bySections_8 : decode cX12_bySections 8 = .ok (.iload_n 1, 1) := by decide +kernel
theorem dX12_bySections_9 : decode cX12_bySections 9 = .ok (.invokevirtual 325, 3) := by decide +kernel
theorem dX12_bySections_12 : decode cX12_bySections 12 = .ok (.aload_n 0, 1) := by decide +kernel
theorem dX12_bySections_13 : decode cX12_bySections 13 = .ok (.getfield 46, 3) := by decide +kernel
theorem dX12_bySections_16 : decode cX12_bySections 16 = .ok (.iconst 1, 1) := by decide +kernel
theorem dX12_bySections_17 : decode cX12_bySections 17 = .ok (.iaload, 1) := by decide +kernel
theorem dX12_bySections_18 : decode cX12_bySections 18 = .ok (.aload_n 0, 1) := by decide +kernel
theorem dX12_bySections_19 : decode cX12_bySections 19 = .ok (.iload_n 1, 1) := by decide +kernel
theorem dX12_bySections_20 : decode cX12_bySections 20 = .ok (.invokevirtual 315, 3) := by decide +kernel
theorem dX12_bySections_23 : decode cX12_bySections 23 = .ok (.imul, 1) := by decide +kernel
theorem dX12_bySections_24 : decode cX12_bySections 24 = .ok (.isub, 1) := by decide +kernel
theorem dX12_bySections_25 : decode cX12_bySections 25 = .ok (.i2l, 1) := by decide +kernel
theorem dX12_bySections_26 : decode cX12_bySections 26 = .ok (.lstore_n 3, 1) := by decide +kernel
theorem dX12_bySections_27 : decode cX12_bySections 27 = .ok (.iconst 0, 1) := by decide +kernel
theorem dX12_bySections_28 : decode cX12_bySections 28 = .ok (.istore 5, 2) := by decide +kernel
theorem dX12_bySections_30 : decode cX12_bySections 30 = .ok (.iload 5, 2) := by decide +kernel
theorem dX12_bySections_32 : decode cX12_bySections 32 = .ok (.aload_n 0, 1) := by decide +kernel
theorem dX12_bySections_33 : decode cX12_bySections 33 = .ok (.getfield 297, 3) := by decide +kernel
theorem dX12_bySections_36 : decode cX12_bySections 36 = .ok (.if_icmp .ge 103, 3) := by decide +kernel
theorem dX12_bySections_39 : decode cX12_bySections 39 = .ok (.iload_n 1, 1) := by decide +kernel
theorem dX12_bySections_40 : decode cX12_bySections 40 = .ok (.iload 5, 2) := by decide +kernel
theorem dX12_bySections_42 : decode cX12_bySections 42 = .ok (.invokestatic 263, 3) := by decide +kernel
theorem dX12_bySections_45 : decode cX12_bySections 45 = .ok (.ifCond .ne 6, 3) := by decide +kernel
theorem dX12_bySections_48 : decode cX12_bySections 48 = .ok (.goto 85, 3) := by decide +kernel
theorem dX12_bySections_51 : decode cX12_bySections 51 = .ok (.aload_n 0, 1) := by decide +kernel
theorem dX12_bySections_52 : decode cX12_bySections 52 = .ok (.getfield 65, 3) := by decide +kernel
theorem dX12_bySections_55 : decode cX12_bySections 55 = .ok (.iload 5, 2) := by decide +kernel
theorem dX12_bySections_57 : decode cX12_bySections 57 = .ok (.lload_n 3, 1) := by decide +kernel
theorem dX12_bySections_58 : decode cX12_bySections 58 = .ok (.ldc2_w 359, 3) := by decide +kernel
theorem dX12_bySections_61 : decode cX12_bySections 61 = .ok (.lmul, 1) := by decide +kernel
theorem dX12_bySections_62 : decode cX12_bySections 62 = .ok (.iload_n 2, 1) := by decide +kernel
theorem dX12_bySections_63 : decode cX12_bySections 63 = .ok (.i2l, 1) := by decide +kernel
theorem dX12_bySections_64 : decode cX12_bySections 64 = .ok (.ldiv, 1) := by decide +kernel
theorem dX12_bySections_65 : decode cX12_bySections 65 = .ok (.lastore, 1) := by decide +kernel
theorem dX12_bySections_66 : decode cX12_bySections 66 = .ok (.aload_n 0, 1) := by decide +kernel
theorem dX12_bySections_67 : decode cX12_bySections 67 = .ok (.getfield 43, 3) := by decide +kernel
theorem dX12_bySections_70 : decode cX12_bySections 70 = .ok (.iconst 3, 1) := by decide +kernel
theorem dX12_bySections_71 : decode cX12_bySections 71 = .ok (.iload 5, 2) := by decide +kernel
theorem dX12_bySections_73 : decode cX12_bySections 73 = .ok (.imul, 1) := by decide +kernel
theorem dX12_bySections_74 : decode cX12_bySections 74 = .ok (.iaload, 1) := by decide +kernel
theorem dX12_bySections_75 : decode cX12_bySections 75 = .ok (.istore 6, 2) := by decide +kernel
theorem dX12_bySections_77 : decode cX12_bySections 77 = .ok (.iload 6, 2) := by decide +kernel
theorem dX12_bySections_79 : decode cX12_bySections 79 = .ok (.ifCond .le 54, 3) := by decide +kernel
theorem dX12_bySections_82 : decode cX12_bySections 82 = .ok (.aload_n 0, 1) := by decide +kernel
theorem dX12_bySections_83 : decode cX12_bySections 83 = .ok (.getfield 65, 3) := by decide +kernel
theorem dX12_bySections_86 : decode cX12_bySections 86 = .ok (.iload 5, 2) := by decide +kernel
theorem dX12_bySections_88 : decode cX12_bySections 88 = .ok (.dup2, 1) := by decide +kernel
theorem dX12_bySections_89 : decode cX12_bySections 89 = .ok (.laload, 1) := by decide +kernel
theorem dX12_bySections_90 : decode cX12_bySections 90 = .ok (.ldc2_w 359, 3) := by decide +kernel
theorem dX12_bySections_93 : decode cX12_bySections 93 = .ok (.aload_n 0, 1) := by decide +kernel
theorem dX12_bySections_94 : decode cX12_bySections 94 = .ok (.getfield 46, 3) := by decide +kernel
theorem dX12_bySections_97 : decode cX12_bySections 97 = .ok (.iconst 1, 1) := by decide +kernel
theorem dX12_bySections_98 : decode cX12_bySections 98 = .ok (.iaload, 1) := by decide +kernel
theorem dX12_bySections_99 : decode cX12_bySections 99 = .ok (.i2l, 1) := by decide +kernel
theorem dX12_bySections_100 : decode cX12_bySections 100 = .ok (.lmul, 1) := by decide +kernel
theorem dX12_bySections_101 : decode cX12_bySections 101 = .ok (.aload_n 0, 1) := by decide +kernel
theorem dX12_bySections_102 : decode cX12_bySections 102 = .ok (.getfield 40, 3) := by decide +kernel
theorem dX12_bySections_105 : decode cX12_bySections 105 = .ok (.iload 6, 2) := by decide +kernel
theorem dX12_bySections_107 : decode cX12_bySections 107 = .ok (.iaload, 1) := by decide +kernel
theorem dX12_bySections_108 : decode cX12_bySections 108 = .ok (.i2l, 1) := by decide +kernel
theorem dX12_bySections_109 : decode cX12_bySections 109 = .ok (.lmul, 1) := by decide +kernel
theorem dX12_bySections_110 : decode cX12_bySections 110 = .ok (.aload_n 0, 1) := by decide +kernel
theorem dX12_bySections_111 : decode cX12_bySections 111 = .ok (.iload_n 1, 1) := by decide +kernel
theorem dX12_bySections_112 : decode cX12_bySections 112 = .ok (.iload 6, 2) := by decide +kernel
theorem dX12_bySections_114 : decode cX12_bySections 114 = .ok (.invokevirtual 312, 3) := by decide +kernel
theorem dX12_bySections_117 : decode cX12_bySections 117 = .ok (.i2l, 1) := by decide +kernel
theorem dX12_bySections_118 : decode cX12_bySections 118 = .ok (.ldiv, 1) := by decide +kernel
theorem dX12_bySections_119 : decode cX12_bySections 119 = .ok (.ladd, 1) := by decide +kernel
theorem dX12_bySections_120 : decode cX12_bySections 120 = .ok (.lastore, 1) := by decide +kernel
theorem dX12_bySections_121 : decode cX12_bySections 121 = .ok (.aload_n 0, 1) := by decide +kernel
theorem dX12_bySections_122 : decode cX12_bySections 122 = .ok (.getfield 37, 3) := by decide +kernel
theorem dX12_bySections_125 : decode cX12_bySections 125 = .ok (.iload 6, 2) := by decide +kernel
theorem dX12_bySections_127 : decode cX12_bySections 127 = .ok (.iaload, 1) := by decide +kernel
theorem dX12_bySections_128 : decode cX12_bySections 128 = .ok (.istore 6, 2) := by decide +kernel
theorem dX12_bySections_130 : decode cX12_bySections 130 = .ok (.goto (-53), 3) := by decide +kernel
theorem dX12_bySections_133 : decode cX12_bySections 133 = .ok (.iinc 5 1, 3) := by decide +kernel
theorem dX12_bySections_136 : decode cX12_bySections 136 = .ok (.goto (-106), 3) := by decide +kernel
theorem dX12_bySections_139 : decode cX12_bySections 139 = .ok (.return_, 1) := by decide +kernel
theorem dX12_byOrders_0 : decode cX12_byOrders 0 = .ok (.aload_n 0, 1) := by decide +kernel
theorem dX12_byOrders_1 : decode cX12_byOrders 1 = .ok (.iload_n 2, 1) := by decide +kernel
theorem dX12_byOrders_2 : decode cX12_byOrders 2 = .ok (.invokestatic 365, 3) := by decide +kernel
theorem dX12_byOrders_5 : decode cX12_byOrders 5 = .ok (.i2l, 1) := by decide +kernel
theorem dX12_byOrders_6 : decode cX12_byOrders 6 = .ok (.putfield 361, 3) := by decide +kernel
theorem dX12_byOrders_9 : decode cX12_byOrders 9 = .ok (.iconst 0, 1) := by decide +kernel
theorem dX12_byOrders_10 : decode cX12_byOrders 10 = .ok (.istore_n 3, 1) := by decide +kernel
theorem dX12_byOrders_11 : decode cX12_byOrders 11 = .ok (.iload_n 3, 1) := by decide +kernel
theorem dX12_byOrders_12 : decode cX12_byOrders 12 = .ok (.iconst 1, 1) := by decide +kernel
theorem dX12_byOrders_13 : decode cX12_byOrders 13 = .ok (.aload_n 0, 1) := by decide +kernel
theorem dX12_byOrders_14 : decode cX12_byOrders 14 = .ok (.getfield 297, 3) := by decide +kernel
theorem dX12_byOrders_17 : decode cX12_byOrders 17 = .ok (.ishl, 1) := by decide +kernel
theorem dX12_byOrders_18 : decode cX12_byOrders 18 = .ok (.if_icmp .ge 107, 3) := by decide +kernel
theorem dX12_byOrders_21 : decode cX12_byOrders 21 = .ok (.iload_n 3, 1) := by decide +kernel
theorem dX12_byOrders_22 : decode cX12_byOrders 22 = .ok (.iload_n 1, 1) := by decide +kernel
theorem dX12_byOrders_23 : decode cX12_byOrders 23 = .ok (.iconst (-1), 1) := by decide +kernel
theorem dX12_byOrders_24 : decode cX12_byOrders 24 = .ok (.ixor, 1) := by decide +kernel
theorem dX12_byOrders_25 : decode cX12_byOrders 25 = .ok (.iand, 1) := by decide +kernel
theorem dX12_byOrders_26 : decode cX12_byOrders 26 = .ok (.ifCond .eq 6, 3) := by decide +kernel
theorem dX12_byOrders_29 : decode cX12_byOrders 29 = .ok (.goto 90, 3) := by decide +kernel
theorem dX12_byOrders_32 : decode cX12_byOrders 32 = .ok (.iload_n 3, 1) := by decide +kernel
theorem dX12_byOrders_33 : decode cX12_byOrders 33 = .ok (.invokestatic 344, 3) := by decide +kernel
theorem dX12_byOrders_36 : decode cX12_byOrders 36 = .ok (.istore 4, 2) := by decide +kernel
theorem dX12_byOrders_38 : decode cX12_byOrders 38 = .ok (.iconst 0, 1) := by decide +kernel
theorem dX12_byOrders_39 : decode cX12_byOrders 39 = .ok (.istore 5, 2) := by decide +kernel
theorem dX12_byOrders_41 : decode cX12_byOrders 41 = .ok (.iload 5, 2) := by decide +kernel
theorem dX12_byOrders_43 : decode cX12_byOrders 43 = .ok (.aload_n 0, 1) := by decide +kernel
theorem dX12_byOrders_44 : decode cX12_byOrders 44 = .ok (.getfield 297, 3) := by decide +kernel
theorem dX12_byOrders_47 : decode cX12_byOrders 47 = .ok (.if_icmp .ge 72, 3) := by decide +kernel
theorem dX12_byOrders_50 : decode cX12_byOrders 50 = .ok (.iload_n 1, 1) := by decide +kernel
theorem dX12_byOrders_51 : decode cX12_byOrders 51 = .ok (.iload 5, 2) := by decide +kernel
theorem dX12_byOrders_53 : decode cX12_byOrders 53 = .ok (.invokestatic 263, 3) := by decide +kernel
theorem dX12_byOrders_56 : decode cX12_byOrders 56 = .ok (.ifCond .eq 57, 3) := by decide +kernel
theorem dX12_byOrders_59 : decode cX12_byOrders 59 = .ok (.iload_n 3, 1) := by decide +kernel
theorem dX12_byOrders_60 : decode cX12_byOrders 60 = .ok (.iload 5, 2) := by decide +kernel
theorem dX12_byOrders_62 : decode cX12_byOrders 62 = .ok (.invokestatic 263, 3) := by decide +kernel
theorem dX12_byOrders_65 : decode cX12_byOrders 65 = .ok (.ifCond .ne 48, 3) := by decide +kernel
theorem dX12_byOrders_68 : decode cX12_byOrders 68 = .ok (.aload_n 0, 1) := by decide +kernel
theorem dX12_byOrders_69 : decode cX12_byOrders 69 = .ok (.getfield 65, 3) := by decide +kernel
theorem dX12_byOrders_72 : decode cX12_byOrders 72 = .ok (.iload 5, 2) := by decide +kernel
theorem dX12_byOrders_74 : decode cX12_byOrders 74 = .ok (.dup2, 1) := by decide +kernel
theorem dX12_byOrders_75 : decode cX12_byOrders 75 = .ok (.laload, 1) := by decide +kernel
theorem dX12_byOrders_76 : decode cX12_byOrders 76 = .ok (.iload 4, 2) := by decide +kernel
theorem dX12_byOrders_78 : decode cX12_byOrders 78 = .ok (.invokestatic 365, 3) := by decide +kernel
theorem dX12_byOrders_81 : decode cX12_byOrders 81 = .ok (.i2l, 1) := by decide +kernel
theorem dX12_byOrders_82 : decode cX12_byOrders 82 = .ok (.iload_n 2, 1) := by decide +kernel
theorem dX12_byOrders_83 : decode cX12_byOrders 83 = .ok (.iload 4, 2) := by decide +kernel
theorem dX12_byOrders_85 : decode cX12_byOrders 85 = .ok (.isub, 1) := by decide +kernel
theorem dX12_byOrders_86 : decode cX12_byOrders 86 = .ok (.iconst 1, 1) := by decide +kernel
theorem dX12_byOrders_87 : decode cX12_byOrders 87 = .ok (.isub, 1) := by decide +kernel
theorem dX12_byOrders_88 : decode cX12_byOrders 88 = .ok (.invokestatic 365, 3) := by decide +kernel
theorem dX12_byOrders_91 : decode cX12_byOrders 91 = .ok (.i2l, 1) := by decide +kernel
theorem dX12_byOrders_92 : decode cX12_byOrders 92 = .ok (.lmul, 1) := by decide +kernel
theorem dX12_byOrders_93 : decode cX12_byOrders 93 = .ok (.aload_n 0, 1) := by decide +kernel
theorem dX12_byOrders_94 : decode cX12_byOrders 94 = .ok (.iload_n 3, 1) := by decide +kernel
theorem dX12_byOrders_95 : decode cX12_byOrders 95 = .ok (.iconst 1, 1) := by decide +kernel
theorem dX12_byOrders_96 : decode cX12_byOrders 96 = .ok (.iload 5, 2) := by decide +kernel
theorem dX12_byOrders_98 : decode cX12_byOrders 98 = .ok (.ishl, 1) := by decide +kernel
theorem dX12_byOrders_99 : decode cX12_byOrders 99 = .ok (.ior, 1) := by decide +kernel
theorem dX12_byOrders_100 : decode cX12_byOrders 100 = .ok (.invokevirtual 325, 3) := by decide +kernel
theorem dX12_byOrders_103 : decode cX12_byOrders 103 = .ok (.aload_n 0, 1) := by decide +kernel
theorem dX12_byOrders_104 : decode cX12_byOrders 104 = .ok (.iload_n 3, 1) := by decide +kernel
theorem dX12_byOrders_105 : decode cX12_byOrders 105 = .ok (.invokevirtual 325, 3) := by decide +kernel
theorem dX12_byOrders_108 : decode cX12_byOrders 108 = .ok (.isub, 1) := by decide +kernel
theorem dX12_byOrders_109 : decode cX12_byOrders 109 = .ok (.i2l, 1) := by decide +kernel
theorem dX12_byOrders_110 : decode cX12_byOrders 110 = .ok (.lmul, 1) := by decide +kernel
theorem dX12_byOrders_111 : decode cX12_byOrders 111 = .ok (.ladd, 1) := by decide +kernel
theorem dX12_byOrders_112 : decode cX12_byOrders 112 = .ok (.lastore, 1) := by decide +kernel
theorem dX12_byOrders_113 : decode cX12_byOrders 113 = .ok (.iinc 5 1, 3) := by decide +kernel
theorem dX12_byOrders_116 : decode cX12_byOrders 116 = .ok (.goto (-75), 3) := by decide +kernel
theorem dX12_byOrders_119 : decode cX12_byOrders 119 = .ok (.iinc 3 1, 3) := by decide +kernel
theorem dX12_byOrders_122 : decode cX12_byOrders 122 = .ok (.goto (-111), 3) := by decide +kernel
theorem dX12_byOrders_125 : decode cX12_byOrders 125 = .ok (.return_, 1) := by decide +kernel
theorem dX12_weightOf_0 : decode cX12_weightOf 0 = .ok (.iload_n 3, 1) := by decide +kernel
theorem dX12_weightOf_1 : decode cX12_weightOf 1 = .ok (.iconst 2, 1) := by decide +kernel
theorem dX12_weightOf_2 : decode cX12_weightOf 2 = .ok (.if_icmp .ne 11, 3) := by decide +kernel
theorem dX12_weightOf_5 : decode cX12_weightOf 5 = .ok (.aload_n 0, 1) := by decide +kernel
theorem dX12_weightOf_6 : decode cX12_weightOf 6 = .ok (.iconst 1, 1) := by decide +kernel
theorem dX12_weightOf_7 : decode cX12_weightOf 7 = .ok (.iload_n 1, 1) := by decide +kernel
theorem dX12_weightOf_8 : decode cX12_weightOf 8 = .ok (.ishl, 1) := by decide +kernel
theorem dX12_weightOf_9 : decode cX12_weightOf 9 = .ok (.invokevirtual 325, 3) := by decide +kernel
theorem dX12_weightOf_12 : decode cX12_weightOf 12 = .ok (.ireturn, 1) := by decide +kernel
theorem dX12_weightOf_13 : decode cX12_weightOf 13 = .ok (.aload_n 0, 1) := by decide +kernel
theorem dX12_weightOf_14 : decode cX12_weightOf 14 = .ok (.getfield 20, 3) := by decide +kernel
theorem dX12_weightOf_17 : decode cX12_weightOf 17 = .ok (.bipush 109, 2) := by decide +kernel
theorem dX12_weightOf_19 : decode cX12_weightOf 19 = .ok (.aload_n 0, 1) := by decide +kernel
theorem dX12_weightOf_20 : decode cX12_weightOf 20 = .ok (.iconst 1, 1) := by decide +kernel
theorem dX12_weightOf_21 : decode cX12_weightOf 21 = .ok (.iload_n 1, 1) := by decide +kernel
theorem dX12_weightOf_22 : decode cX12_weightOf 22 = .ok (.ishl, 1) := by decide +kernel
theorem dX12_weightOf_23 : decode cX12_weightOf 23 = .ok (.invokevirtual 315, 3) := by decide +kernel
theorem dX12_weightOf_26 : decode cX12_weightOf 26 = .ok (.iastore, 1) := by decide +kernel
theorem dX12_weightOf_27 : decode cX12_weightOf 27 = .ok (.aload_n 0, 1) := by decide +kernel
theorem dX12_weightOf_28 : decode cX12_weightOf 28 = .ok (.getfield 20, 3) := by decide +kernel
theorem dX12_weightOf_31 : decode cX12_weightOf 31 = .ok (.bipush 115, 2) := by decide +kernel
theorem dX12_weightOf_33 : decode cX12_weightOf 33 = .ok (.aload_n 0, 1) := by decide +kernel
theorem dX12_weightOf_34 : decode cX12_weightOf 34 = .ok (.getfield 43, 3) := by decide +kernel
theorem dX12_weightOf_37 : decode cX12_weightOf 37 = .ok (.iconst 3, 1) := by decide +kernel
theorem dX12_weightOf_38 : decode cX12_weightOf 38 = .ok (.iload_n 1, 1) := by decide +kernel
theorem dX12_weightOf_39 : decode cX12_weightOf 39 = .ok (.imul, 1) := by decide +kernel
theorem dX12_weightOf_40 : decode cX12_weightOf 40 = .ok (.iconst 2, 1) := by decide +kernel
theorem dX12_weightOf_41 : decode cX12_weightOf 41 = .ok (.iadd, 1) := by decide +kernel
theorem dX12_weightOf_42 : decode cX12_weightOf 42 = .ok (.iaload, 1) := by decide +kernel
theorem dX12_weightOf_43 : decode cX12_weightOf 43 = .ok (.iastore, 1) := by decide +kernel
theorem dX12_weightOf_44 : decode cX12_weightOf 44 = .ok (.aload_n 0, 1) := by decide +kernel
theorem dX12_weightOf_45 : decode cX12_weightOf 45 = .ok (.getfield 20, 3) := by decide +kernel
theorem dX12_weightOf_48 : decode cX12_weightOf 48 = .ok (.bipush 119, 2) := by decide +kernel
theorem dX12_weightOf_50 : decode cX12_weightOf 50 = .ok (.aload_n 0, 1) := by decide +kernel
theorem dX12_weightOf_51 : decode cX12_weightOf 51 = .ok (.getfield 43, 3) := by decide +kernel
theorem dX12_weightOf_54 : decode cX12_weightOf 54 = .ok (.iconst 3, 1) := by decide +kernel
theorem dX12_weightOf_55 : decode cX12_weightOf 55 = .ok (.iload_n 1, 1) := by decide +kernel
theorem dX12_weightOf_56 : decode cX12_weightOf 56 = .ok (.imul, 1) := by decide +kernel
theorem dX12_weightOf_57 : decode cX12_weightOf 57 = .ok (.iconst 1, 1) := by decide +kernel
theorem dX12_weightOf_58 : decode cX12_weightOf 58 = .ok (.iadd, 1) := by decide +kernel
theorem dX12_weightOf_59 : decode cX12_weightOf 59 = .ok (.iaload, 1) := by decide +kernel
theorem dX12_weightOf_60 : decode cX12_weightOf 60 = .ok (.iastore, 1) := by decide +kernel
theorem dX12_weightOf_61 : decode cX12_weightOf 61 = .ok (.aload_n 0, 1) := by decide +kernel
theorem dX12_weightOf_62 : decode cX12_weightOf 62 = .ok (.getfield 20, 3) := by decide +kernel
theorem dX12_weightOf_65 : decode cX12_weightOf 65 = .ok (.bipush 110, 2) := by decide +kernel
theorem dX12_weightOf_67 : decode cX12_weightOf 67 = .ok (.iload_n 2, 1) := by decide +kernel
theorem dX12_weightOf_68 : decode cX12_weightOf 68 = .ok (.iastore, 1) := by decide +kernel
theorem dX12_weightOf_69 : decode cX12_weightOf 69 = .ok (.aload_n 0, 1) := by decide +kernel
theorem dX12_weightOf_70 : decode cX12_weightOf 70 = .ok (.getfield 20, 3) := by decide +kernel
theorem dX12_weightOf_73 : decode cX12_weightOf 73 = .ok (.bipush 112, 2) := by decide +kernel
theorem dX12_weightOf_75 : decode cX12_weightOf 75 = .ok (.aload_n 0, 1) := by decide +kernel
theorem dX12_weightOf_76 : decode cX12_weightOf 76 = .ok (.getfield 46, 3) := by decide +kernel
theorem dX12_weightOf_79 : decode cX12_weightOf 79 = .ok (.iconst 1, 1) := by decide +kernel
theorem dX12_weightOf_80 : decode cX12_weightOf 80 = .ok (.iaload, 1) := by decide +kernel
theorem dX12_weightOf_81 : decode cX12_weightOf 81 = .ok (.iastore, 1) := by decide +kernel
theorem dX12_weightOf_82 : decode cX12_weightOf 82 = .ok (.aload_n 0, 1) := by decide +kernel
theorem dX12_weightOf_83 : decode cX12_weightOf 83 = .ok (.getfield 20, 3) := by decide +kernel
theorem dX12_weightOf_86 : decode cX12_weightOf 86 = .ok (.bipush 107, 2) := by decide +kernel
theorem dX12_weightOf_88 : decode cX12_weightOf 88 = .ok (.iload_n 1, 1) := by decide +kernel
theorem dX12_weightOf_89 : decode cX12_weightOf 89 = .ok (.iastore, 1) := by decide +kernel
theorem dX12_weightOf_90 : decode cX12_weightOf 90 = .ok (.aload_n 0, 1) := by decide +kernel
theorem dX12_weightOf_91 : decode cX12_weightOf 91 = .ok (.aload_n 0, 1) := by decide +kernel
theorem dX12_weightOf_92 : decode cX12_weightOf 92 = .ok (.getfield 13, 3) := by decide +kernel
theorem dX12_weightOf_95 : decode cX12_weightOf 95 = .ok (.sipush 160, 3) := by decide +kernel
theorem dX12_weightOf_98 : decode cX12_weightOf 98 = .ok (.iload_n 3, 1) := by decide +kernel
theorem dX12_weightOf_99 : decode cX12_weightOf 99 = .ok (.iconst 3, 1) := by decide +kernel
theorem dX12_weightOf_100 : decode cX12_weightOf 100 = .ok (.isub, 1) := by decide +kernel
theorem dX12_weightOf_101 : decode cX12_weightOf 101 = .ok (.imul, 1) := by decide +kernel
theorem dX12_weightOf_102 : decode cX12_weightOf 102 = .ok (.aload_n 0, 1) := by decide +kernel
theorem dX12_weightOf_103 : decode cX12_weightOf 103 = .ok (.getfield 16, 3) := by decide +kernel
theorem dX12_weightOf_106 : decode cX12_weightOf 106 = .ok (.iload_n 3, 1) := by decide +kernel
theorem dX12_weightOf_107 : decode cX12_weightOf 107 = .ok (.iconst 3, 1) := by decide +kernel
theorem dX12_weightOf_108 : decode cX12_weightOf 108 = .ok (.isub, 1) := by decide +kernel
theorem dX12_weightOf_109 : decode cX12_weightOf 109 = .ok (.iaload, 1) := by decide +kernel
theorem dX12_weightOf_110 : decode cX12_weightOf 110 = .ok (.invokevirtual 286, 3) := by decide +kernel
theorem dX12_weightOf_113 : decode cX12_weightOf 113 = .ok (.iconst 0, 1) := by decide +kernel
theorem dX12_weightOf_114 : decode cX12_weightOf 114 = .ok (.sipush 1000, 3) := by decide +kernel
theorem dX12_weightOf_117 : decode cX12_weightOf 117 = .ok (.aload_n 0, 1) := by decide +kernel
theorem dX12_weightOf_118 : decode cX12_weightOf 118 = .ok (.getfield 223, 3) := by decide +kernel
theorem dX12_weightOf_121 : decode cX12_weightOf 121 = .ok (.invokestatic 368, 3) := by decide +kernel
theorem dX12_weightOf_124 : decode cX12_weightOf 124 = .ok (.invokestatic 318, 3) := by decide +kernel
theorem dX12_weightOf_127 : decode cX12_weightOf 127 = .ok (.ireturn, 1) := by decide +kernel
theorem dX12_byWeights_0 : decode cX12_byWeights 0 = .ok (.aload_n 0, 1) := by decide +kernel
theorem dX12_byWeights_1 : decode cX12_byWeights 1 = .ok (.lconst 0, 1) := by decide +kernel
theorem dX12_byWeights_2 : decode cX12_byWeights 2 = .ok (.putfield 361, 3) := by decide +kernel
theorem dX12_byWeights_5 : decode cX12_byWeights 5 = .ok (.iconst 0, 1) := by decide +kernel
theorem dX12_byWeights_6 : decode cX12_byWeights 6 = .ok (.istore 4, 2) := by decide +kernel
theorem dX12_byWeights_8 : decode cX12_byWeights 8 = .ok (.iload 4, 2) := by decide +kernel
theorem dX12_byWeights_10 : decode cX12_byWeights 10 = .ok (.aload_n 0, 1) := by decide +kernel
theorem dX12_byWeights_11 : decode cX12_byWeights 11 = .ok (.getfield 297, 3) := by decide +kernel
theorem dX12_byWeights_14 : decode cX12_byWeights 14 = .ok (.if_icmp .ge 53, 3) := by decide +kernel
theorem dX12_byWeights_17 : decode cX12_byWeights 17 = .ok (.iload_n 1, 1) := by decide +kernel
theorem dX12_byWeights_18 : decode cX12_byWeights 18 = .ok (.iload 4, 2) := by decide +kernel
theorem dX12_byWeights_20 : decode cX12_byWeights 20 = .ok (.invokestatic 263, 3) := by decide +kernel
theorem dX12_byWeights_23 : decode cX12_byWeights 23 = .ok (.ifCond .ne 6, 3) := by decide +kernel
theorem dX12_byWeights_26 : decode cX12_byWeights 26 = .ok (.goto 35, 3) := by decide +kernel
theorem dX12_byWeights_29 : decode cX12_byWeights 29 = .ok (.aload_n 0, 1) := by decide +kernel
theorem dX12_byWeights_30 : decode cX12_byWeights 30 = .ok (.getfield 65, 3) := by decide +kernel
theorem dX12_byWeights_33 : decode cX12_byWeights 33 = .ok (.iload 4, 2) := by decide +kernel
theorem dX12_byWeights_35 : decode cX12_byWeights 35 = .ok (.aload_n 0, 1) := by decide +kernel
theorem dX12_byWeights_36 : decode cX12_byWeights 36 = .ok (.iload 4, 2) := by decide +kernel
theorem dX12_byWeights_38 : decode cX12_byWeights 38 = .ok (.iload_n 2, 1) := by decide +kernel
theorem dX12_byWeights_39 : decode cX12_byWeights 39 = .ok (.iload_n 3, 1) := by decide +kernel
theorem dX12_byWeights_40 : decode cX12_byWeights 40 = .ok (.invokevirtual 370, 3) := by decide +kernel
theorem dX12_byWeights_43 : decode cX12_byWeights 43 = .ok (.i2l, 1) := by decide +kernel
theorem dX12_byWeights_44 : decode cX12_byWeights 44 = .ok (.lastore, 1) := by decide +kernel
theorem dX12_byWeights_45 : decode cX12_byWeights 45 = .ok (.aload_n 0, 1) := by decide +kernel
theorem dX12_byWeights_46 : decode cX12_byWeights 46 = .ok (.dup, 1) := by decide +kernel
theorem dX12_byWeights_47 : decode cX12_byWeights 47 = .ok (.getfield 361, 3) := by decide +kernel
theorem dX12_byWeights_50 : decode cX12_byWeights 50 = .ok (.aload_n 0, 1) := by decide +kernel
theorem dX12_byWeights_51 : decode cX12_byWeights 51 = .ok (.getfield 65, 3) := by decide +kernel
theorem dX12_byWeights_54 : decode cX12_byWeights 54 = .ok (.iload 4, 2) := by decide +kernel
theorem dX12_byWeights_56 : decode cX12_byWeights 56 = .ok (.laload, 1) := by decide +kernel
theorem dX12_byWeights_57 : decode cX12_byWeights 57 = .ok (.ladd, 1) := by decide +kernel
theorem dX12_byWeights_58 : decode cX12_byWeights 58 = .ok (.putfield 361, 3) := by decide +kernel
theorem dX12_byWeights_61 : decode cX12_byWeights 61 = .ok (.iinc 4 1, 3) := by decide +kernel
theorem dX12_byWeights_64 : decode cX12_byWeights 64 = .ok (.goto (-56), 3) := by decide +kernel
theorem dX12_byWeights_67 : decode cX12_byWeights 67 = .ok (.aload_n 0, 1) := by decide +kernel
theorem dX12_byWeights_68 : decode cX12_byWeights 68 = .ok (.getfield 361, 3) := by decide +kernel
theorem dX12_byWeights_71 : decode cX12_byWeights 71 = .ok (.lconst 0, 1) := by decide +kernel
theorem dX12_byWeights_72 : decode cX12_byWeights 72 = .ok (.lcmp, 1) := by decide +kernel
theorem dX12_byWeights_73 : decode cX12_byWeights 73 = .ok (.ifCond .ne 7, 3) := by decide +kernel
theorem dX12_byWeights_76 : decode cX12_byWeights 76 = .ok (.iconst 1, 1) := by decide +kernel
theorem dX12_byWeights_77 : decode cX12_byWeights 77 = .ok (.goto 4, 3) := by decide +kernel
theorem dX12_byWeights_80 : decode cX12_byWeights 80 = .ok (.iconst 0, 1) := by decide +kernel
theorem dX12_byWeights_81 : decode cX12_byWeights 81 = .ok (.istore 4, 2) := by decide +kernel
theorem dX12_byWeights_83 : decode cX12_byWeights 83 = .ok (.aload_n 0, 1) := by decide +kernel
theorem dX12_byWeights_84 : decode cX12_byWeights 84 = .ok (.iload_n 1, 1) := by decide +kernel
theorem dX12_byWeights_85 : decode cX12_byWeights 85 = .ok (.invokevirtual 325, 3) := by decide +kernel
theorem dX12_byWeights_88 : decode cX12_byWeights 88 = .ok (.i2l, 1) := by decide +kernel
theorem dX12_byWeights_89 : decode cX12_byWeights 89 = .ok (.lstore 5, 2) := by decide +kernel
theorem dX12_byWeights_91 : decode cX12_byWeights 91 = .ok (.iload 4, 2) := by decide +kernel
theorem dX12_byWeights_93 : decode cX12_byWeights 93 = .ok (.ifCond .eq 9, 3) := by decide +kernel
theorem dX12_byWeights_96 : decode cX12_byWeights 96 = .ok (.aload_n 0, 1) := by decide +kernel
theorem dX12_byWeights_97 : decode cX12_byWeights 97 = .ok (.iload_n 2, 1) := by decide +kernel
theorem dX12_byWeights_98 : decode cX12_byWeights 98 = .ok (.i2l, 1) := by decide +kernel
theorem dX12_byWeights_99 : decode cX12_byWeights 99 = .ok (.putfield 361, 3) := by decide +kernel
theorem dX12_byWeights_102 : decode cX12_byWeights 102 = .ok (.iconst 0, 1) := by decide +kernel
theorem dX12_byWeights_103 : decode cX12_byWeights 103 = .ok (.istore 7, 2) := by decide +kernel
theorem dX12_byWeights_105 : decode cX12_byWeights 105 = .ok (.iload 7, 2) := by decide +kernel
theorem dX12_byWeights_107 : decode cX12_byWeights 107 = .ok (.aload_n 0, 1) := by decide +kernel
theorem dX12_byWeights_108 : decode cX12_byWeights 108 = .ok (.getfield 297, 3) := by decide +kernel
theorem dX12_byWeights_111 : decode cX12_byWeights 111 = .ok (.if_icmp .ge 44, 3) := by decide +kernel
theorem dX12_byWeights_114 : decode cX12_byWeights 114 = .ok (.iload_n 1, 1) := by decide +kernel
theorem dX12_byWeights_115 : decode cX12_byWeights 115 = .ok (.iload 7, 2) := by decide +kernel
theorem dX12_byWeights_117 : decode cX12_byWeights 117 = .ok (.invokestatic 263, 3) := by decide +kernel
theorem dX12_byWeights_120 : decode cX12_byWeights 120 = .ok (.ifCond .eq 29, 3) := by decide +kernel
theorem dX12_byWeights_123 : decode cX12_byWeights 123 = .ok (.aload_n 0, 1) := by decide +kernel
theorem dX12_byWeights_124 : decode cX12_byWeights 124 = .ok (.getfield 65, 3) := by decide +kernel
theorem dX12_byWeights_127 : decode cX12_byWeights 127 = .ok (.iload 7, 2) := by decide +kernel
theorem dX12_byWeights_129 : decode cX12_byWeights 129 = .ok (.iload 4, 2) := by decide +kernel
theorem dX12_byWeights_131 : decode cX12_byWeights 131 = .ok (.ifCond .eq 7, 3) := by decide +kernel
theorem dX12_byWeights_134 : decode cX12_byWeights 134 = .ok (.lconst 1, 1) := by decide +kernel
theorem dX12_byWeights_135 : decode cX12_byWeights 135 = .ok (.goto 10, 3) := by decide +kernel
theorem dX12_byWeights_138 : decode cX12_byWeights 138 = .ok (.aload_n 0, 1) := by decide +kernel
theorem dX12_byWeights_139 : decode cX12_byWeights 139 = .ok (.getfield 65, 3) := by decide +kernel
theorem dX12_byWeights_142 : decode cX12_byWeights 142 = .ok (.iload 7, 2) := by decide +kernel
theorem dX12_byWeights_144 : decode cX12_byWeights 144 = .ok (.laload, 1) := by decide +kernel
theorem dX12_byWeights_145 : decode cX12_byWeights 145 = .ok (.lload 5, 2) := by decide +kernel
theorem dX12_byWeights_147 : decode cX12_byWeights 147 = .ok (.lmul, 1) := by decide +kernel
theorem dX12_byWeights_148 : decode cX12_byWeights 148 = .ok (.lastore, 1) := by decide +kernel
theorem dX12_byWeights_149 : decode cX12_byWeights 149 = .ok (.iinc 7 1, 3) := by decide +kernel
theorem dX12_byWeights_152 : decode cX12_byWeights 152 = .ok (.goto (-47), 3) := by decide +kernel
theorem dX12_byWeights_155 : decode cX12_byWeights 155 = .ok (.return_, 1) := by decide +kernel
theorem dX12_partOf_0 : decode cX12_partOf 0 = .ok (.lload_n 0, 1) := by decide +kernel
theorem dX12_partOf_1 : decode cX12_partOf 1 = .ok (.lload_n 2, 1) := by decide +kernel
theorem dX12_partOf_2 : decode cX12_partOf 2 = .ok (.invokestatic 117, 3) := by decide +kernel
theorem dX12_partOf_5 : decode cX12_partOf 5 = .ok (.lstore 5, 2) := by decide +kernel
theorem dX12_partOf_7 : decode cX12_partOf 7 = .ok (.iload 4, 2) := by decide +kernel
theorem dX12_partOf_9 : decode cX12_partOf 9 = .ok (.ifCond .ne 10, 3) := by decide +kernel
theorem dX12_partOf_12 : decode cX12_partOf 12 = .ok (.lload_n 0, 1) := by decide +kernel
theorem dX12_partOf_13 : decode cX12_partOf 13 = .ok (.lload 5, 2) := by decide +kernel
theorem dX12_partOf_15 : decode cX12_partOf 15 = .ok (.ldiv, 1) := by decide +kernel
theorem dX12_partOf_16 : decode cX12_partOf 16 = .ok (.goto 7, 3) := by decide +kernel
theorem dX12_partOf_19 : decode cX12_partOf 19 = .ok (.lload_n 2, 1) := by decide +kernel
theorem dX12_partOf_20 : decode cX12_partOf 20 = .ok (.lload 5, 2) := by decide +kernel
theorem dX12_partOf_22 : decode cX12_partOf 22 = .ok (.ldiv, 1) := by decide +kernel
theorem dX12_partOf_23 : decode cX12_partOf 23 = .ok (.lreturn, 1) := by decide +kernel
theorem dX12_share_0 : decode cX12_share 0 = .ok (.aload_n 0, 1) := by decide +kernel
theorem dX12_share_1 : decode cX12_share 1 = .ok (.iconst 0, 1) := by decide +kernel
theorem dX12_share_2 : decode cX12_share 2 = .ok (.putfield 108, 3) := by decide +kernel
theorem dX12_share_5 : decode cX12_share 5 = .ok (.aload_n 0, 1) := by decide +kernel
theorem dX12_share_6 : decode cX12_share 6 = .ok (.iload_n 1, 1) := by decide +kernel
theorem dX12_share_7 : decode cX12_share 7 = .ok (.invokevirtual 320, 3) := by decide +kernel
theorem dX12_share_10 : decode cX12_share 10 = .ok (.ifCond .eq 38, 3) := by decide +kernel
theorem dX12_share_13 : decode cX12_share 13 = .ok (.aload_n 0, 1) := by decide +kernel
theorem dX12_share_14 : decode cX12_share 14 = .ok (.iload_n 2, 1) := by decide +kernel
theorem dX12_share_15 : decode cX12_share 15 = .ok (.invokevirtual 336, 3) := by decide +kernel
theorem dX12_share_18 : decode cX12_share 18 = .ok (.ifCond .eq 30, 3) := by decide +kernel
theorem dX12_share_21 : decode cX12_share 21 = .ok (.iload_n 2, 1) := by decide +kernel
theorem dX12_share_22 : decode cX12_share 22 = .ok (.iload_n 1, 1) := by decide +kernel
theorem dX12_share_23 : decode cX12_share 23 = .ok (.invokestatic 263, 3) := by decide +kernel
theorem dX12_share_26 : decode cX12_share 26 = .ok (.ifCond .eq 22, 3) := by decide +kernel
theorem dX12_share_29 : decode cX12_share 29 = .ok (.aload_n 0, 1) := by decide +kernel
theorem dX12_share_30 : decode cX12_share 30 = .ok (.iload_n 3, 1) := by decide +kernel
theorem dX12_share_31 : decode cX12_share 31 = .ok (.invokevirtual 374, 3) := by decide +kernel
theorem dX12_share_34 : decode cX12_share 34 = .ok (.ifCond .eq 14, 3) := by decide +kernel
theorem dX12_share_37 : decode cX12_share 37 = .ok (.iload 4, 2) := by decide +kernel
theorem dX12_share_39 : decode cX12_share 39 = .ok (.i2l, 1) := by decide +kernel
theorem dX12_share_40 : decode cX12_share 40 = .ok (.lconst 0, 1) := by decide +kernel
theorem dX12_share_41 : decode cX12_share 41 = .ok (.lconst 1, 1) := by decide +kernel
theorem dX12_share_42 : decode cX12_share 42 = .ok (.invokestatic 236, 3) := by decide +kernel
theorem dX12_share_45 : decode cX12_share 45 = .ok (.ifCond .ne 7, 3) := by decide +kernel
theorem dX12_share_48 : decode cX12_share 48 = .ok (.ldc2_w 377, 3) := by decide +kernel
theorem dX12_share_51 : decode cX12_share 51 = .ok (.lreturn, 1) := by decide +kernel
theorem dX12_share_52 : decode cX12_share 52 = .ok (.aload_n 0, 1) := by decide +kernel
theorem dX12_share_53 : decode cX12_share 53 = .ok (.iload_n 2, 1) := by decide +kernel
theorem dX12_share_54 : decode cX12_share 54 = .ok (.iload_n 3, 1) := by decide +kernel
theorem dX12_share_55 : decode cX12_share 55 = .ok (.invokevirtual 379, 3) := by decide +kernel
theorem dX12_share_58 : decode cX12_share 58 = .ok (.aload_n 0, 1) := by decide +kernel
theorem dX12_share_59 : decode cX12_share 59 = .ok (.getfield 65, 3) := by decide +kernel
theorem dX12_share_62 : decode cX12_share 62 = .ok (.iload_n 1, 1) := by decide +kernel
theorem dX12_share_63 : decode cX12_share 63 = .ok (.laload, 1) := by decide +kernel
theorem dX12_share_64 : decode cX12_share 64 = .ok (.aload_n 0, 1) := by decide +kernel
theorem dX12_share_65 : decode cX12_share 65 = .ok (.getfield 361, 3) := by decide +kernel
theorem dX12_share_68 : decode cX12_share 68 = .ok (.iload 4, 2) := by decide +kernel
theorem dX12_share_70 : decode cX12_share 70 = .ok (.invokestatic 382, 3) := by decide +kernel
theorem dX12_share_73 : decode cX12_share 73 = .ok (.lreturn, 1) := by decide +kernel
theorem dX12_sharesOf_0 : decode cX12_sharesOf 0 = .ok (.lconst 0, 1) := by decide +kernel
theorem dX12_sharesOf_1 : decode cX12_sharesOf 1 = .ok (.lstore_n 2, 1) := by decide +kernel
theorem dX12_sharesOf_2 : decode cX12_sharesOf 2 = .ok (.iconst 0, 1) := by decide +kernel
theorem dX12_sharesOf_3 : decode cX12_sharesOf 3 = .ok (.istore 4, 2) := by decide +kernel
theorem dX12_sharesOf_5 : decode cX12_sharesOf 5 = .ok (.iload 4, 2) := by decide +kernel
theorem dX12_sharesOf_7 : decode cX12_sharesOf 7 = .ok (.aload_n 0, 1) := by decide +kernel
theorem dX12_sharesOf_8 : decode cX12_sharesOf 8 = .ok (.getfield 297, 3) := by decide +kernel
theorem dX12_sharesOf_11 : decode cX12_sharesOf 11 = .ok (.if_icmp .ge 32, 3) := by decide +kernel
theorem dX12_sharesOf_14 : decode cX12_sharesOf 14 = .ok (.lload_n 2, 1) := by decide +kernel
theorem dX12_sharesOf_15 : decode cX12_sharesOf 15 = .ok (.iload_n 1, 1) := by decide +kernel
theorem dX12_sharesOf_16 : decode cX12_sharesOf 16 = .ok (.iload 4, 2) := by decide +kernel
theorem dX12_sharesOf_18 : decode cX12_sharesOf 18 = .ok (.invokestatic 263, 3) := by decide +kernel
theorem dX12_sharesOf_21 : decode cX12_sharesOf 21 = .ok (.ifCond .eq 13, 3) := by decide +kernel
theorem dX12_sharesOf_24 : decode cX12_sharesOf 24 = .ok (.aload_n 0, 1) := by decide +kernel
theorem dX12_sharesOf_25 : decode cX12_sharesOf 25 = .ok (.getfield 65, 3) := by decide +kernel
theorem dX12_sharesOf_28 : decode cX12_sharesOf 28 = .ok (.iload 4, 2) := by decide +kernel
theorem dX12_sharesOf_30 : decode cX12_sharesOf 30 = .ok (.laload, 1) := by decide +kernel
theorem dX12_sharesOf_31 : decode cX12_sharesOf 31 = .ok (.goto 4, 3) := by decide +kernel
theorem dX12_sharesOf_34 : decode cX12_sharesOf 34 = .ok (.lconst 0, 1) := by decide +kernel
theorem dX12_sharesOf_35 : decode cX12_sharesOf 35 = .ok (.ladd, 1) := by decide +kernel
theorem dX12_sharesOf_36 : decode cX12_sharesOf 36 = .ok (.lstore_n 2, 1) := by decide +kernel
theorem dX12_sharesOf_37 : decode cX12_sharesOf 37 = .ok (.iinc 4 1, 3) := by decide +kernel
theorem dX12_sharesOf_40 : decode cX12_sharesOf 40 = .ok (.goto (-35), 3) := by decide +kernel
theorem dX12_sharesOf_43 : decode cX12_sharesOf 43 = .ok (.lload_n 2, 1) := by decide +kernel
theorem dX12_sharesOf_44 : decode cX12_sharesOf 44 = .ok (.lreturn, 1) := by decide +kernel
theorem dX12_worse_0 : decode cX12_worse 0 = .ok (.aload_n 0, 1) := by decide +kernel
theorem dX12_worse_1 : decode cX12_worse 1 = .ok (.iconst 0, 1) := by decide +kernel
theorem dX12_worse_2 : decode cX12_worse 2 = .ok (.putfield 108, 3) := by decide +kernel
theorem dX12_worse_5 : decode cX12_worse 5 = .ok (.aload_n 0, 1) := by decide +kernel
theorem dX12_worse_6 : decode cX12_worse 6 = .ok (.iload_n 1, 1) := by decide +kernel
theorem dX12_worse_7 : decode cX12_worse 7 = .ok (.invokevirtual 374, 3) := by decide +kernel
theorem dX12_worse_10 : decode cX12_worse 10 = .ok (.ifCond .eq 8, 3) := by decide +kernel
theorem dX12_worse_13 : decode cX12_worse 13 = .ok (.iload_n 2, 1) := by decide +kernel
theorem dX12_worse_14 : decode cX12_worse 14 = .ok (.iconst (-1), 1) := by decide +kernel
theorem dX12_worse_15 : decode cX12_worse 15 = .ok (.if_icmp .ge 5, 3) := by decide +kernel
theorem dX12_worse_18 : decode cX12_worse 18 = .ok (.iconst (-1), 1) := by decide +kernel
theorem dX12_worse_19 : decode cX12_worse 19 = .ok (.ireturn, 1) := by decide +kernel
theorem dX12_worse_20 : decode cX12_worse 20 = .ok (.aload_n 0, 1) := by decide +kernel
theorem dX12_worse_21 : decode cX12_worse 21 = .ok (.aload_n 0, 1) := by decide +kernel
theorem dX12_worse_22 : decode cX12_worse 22 = .ok (.invokevirtual 386, 3) := by decide +kernel
theorem dX12_worse_25 : decode cX12_worse 25 = .ok (.iload_n 1, 1) := by decide +kernel
theorem dX12_worse_26 : decode cX12_worse 26 = .ok (.invokevirtual 379, 3) := by decide +kernel
theorem dX12_worse_29 : decode cX12_worse 29 = .ok (.iconst 0, 1) := by decide +kernel
theorem dX12_worse_30 : decode cX12_worse 30 = .ok (.istore_n 3, 1) := by decide +kernel
theorem dX12_worse_31 : decode cX12_worse 31 = .ok (.iconst 1, 1) := by decide +kernel
theorem dX12_worse_32 : decode cX12_worse 32 = .ok (.istore 4, 2) := by decide +kernel
theorem dX12_worse_34 : decode cX12_worse 34 = .ok (.iload 4, 2) := by decide +kernel
theorem dX12_worse_36 : decode cX12_worse 36 = .ok (.aload_n 0, 1) := by decide +kernel
theorem dX12_worse_37 : decode cX12_worse 37 = .ok (.invokevirtual 386, 3) := by decide +kernel
theorem dX12_worse_40 : decode cX12_worse 40 = .ok (.if_icmp .gt 45, 3) := by decide +kernel
theorem dX12_worse_43 : decode cX12_worse 43 = .ok (.aload_n 0, 1) := by decide +kernel
theorem dX12_worse_44 : decode cX12_worse 44 = .ok (.iload 4, 2) := by decide +kernel
theorem dX12_worse_46 : decode cX12_worse 46 = .ok (.invokevirtual 389, 3) := by decide +kernel
theorem dX12_worse_49 : decode cX12_worse 49 = .ok (.aload_n 0, 1) := by decide +kernel
theorem dX12_worse_50 : decode cX12_worse 50 = .ok (.iload 4, 2) := by decide +kernel
theorem dX12_worse_52 : decode cX12_worse 52 = .ok (.invokevirtual 325, 3) := by decide +kernel
theorem dX12_worse_55 : decode cX12_worse 55 = .ok (.i2l, 1) := by decide +kernel
theorem dX12_worse_56 : decode cX12_worse 56 = .ok (.aload_n 0, 1) := by decide +kernel
theorem dX12_worse_57 : decode cX12_worse 57 = .ok (.getfield 361, 3) := by decide +kernel
theorem dX12_worse_60 : decode cX12_worse 60 = .ok (.lmul, 1) := by decide +kernel
theorem dX12_worse_61 : decode cX12_worse 61 = .ok (.lcmp, 1) := by decide +kernel
theorem dX12_worse_62 : decode cX12_worse 62 = .ok (.ifCond .gt 6, 3) := by decide +kernel
theorem dX12_worse_65 : decode cX12_worse 65 = .ok (.goto 14, 3) := by decide +kernel
theorem dX12_worse_68 : decode cX12_worse 68 = .ok (.iload_n 3, 1) := by decide +kernel
theorem dX12_worse_69 : decode cX12_worse 69 = .ok (.iload_n 2, 1) := by decide +kernel
theorem dX12_worse_70 : decode cX12_worse 70 = .ok (.if_icmp .ne 6, 3) := by decide +kernel
theorem dX12_worse_73 : decode cX12_worse 73 = .ok (.iload 4, 2) := by decide +kernel
theorem dX12_worse_75 : decode cX12_worse 75 = .ok (.ireturn, 1) := by decide +kernel
theorem dX12_worse_76 : decode cX12_worse 76 = .ok (.iinc 3 1, 3) := by decide +kernel
theorem dX12_worse_79 : decode cX12_worse 79 = .ok (.iinc 4 1, 3) := by decide +kernel
theorem dX12_worse_82 : decode cX12_worse 82 = .ok (.goto (-48), 3) := by decide +kernel
theorem dX12_worse_85 : decode cX12_worse 85 = .ok (.iload_n 2, 1) := by decide +kernel
theorem dX12_worse_86 : decode cX12_worse 86 = .ok (.iconst (-1), 1) := by decide +kernel
theorem dX12_worse_87 : decode cX12_worse 87 = .ok (.if_icmp .ne 7, 3) := by decide +kernel
theorem dX12_worse_90 : decode cX12_worse 90 = .ok (.iload_n 3, 1) := by decide +kernel
theorem dX12_worse_91 : decode cX12_worse 91 = .ok (.goto 4, 3) := by decide +kernel
theorem dX12_worse_94 : decode cX12_worse 94 = .ok (.iconst (-1), 1) := by decide +kernel
theorem dX12_worse_95 : decode cX12_worse 95 = .ok (.ireturn, 1) := by decide +kernel
theorem dX12_complaint_0 : decode cX12_complaint 0 = .ok (.aload_n 0, 1) := by decide +kernel
theorem dX12_complaint_1 : decode cX12_complaint 1 = .ok (.iconst 0, 1) := by decide +kernel
theorem dX12_complaint_2 : decode cX12_complaint 2 = .ok (.putfield 108, 3) := by decide +kernel
theorem dX12_complaint_5 : decode cX12_complaint 5 = .ok (.aload_n 0, 1) := by decide +kernel
theorem dX12_complaint_6 : decode cX12_complaint 6 = .ok (.iload_n 1, 1) := by decide +kernel
theorem dX12_complaint_7 : decode cX12_complaint 7 = .ok (.invokevirtual 374, 3) := by decide +kernel
theorem dX12_complaint_10 : decode cX12_complaint 10 = .ok (.ifCond .eq 23, 3) := by decide +kernel
theorem dX12_complaint_13 : decode cX12_complaint 13 = .ok (.iload_n 2, 1) := by decide +kernel
theorem dX12_complaint_14 : decode cX12_complaint 14 = .ok (.i2l, 1) := by decide +kernel
theorem dX12_complaint_15 : decode cX12_complaint 15 = .ok (.lconst 0, 1) := by decide +kernel
theorem dX12_complaint_16 : decode cX12_complaint 16 = .ok (.ldc2_w 339, 3) := by decide +kernel
theorem dX12_complaint_19 : decode cX12_complaint 19 = .ok (.invokestatic 236, 3) := by decide +kernel
theorem dX12_complaint_22 : decode cX12_complaint 22 = .ok (.ifCond .eq 11, 3) := by decide +kernel
theorem dX12_complaint_25 : decode cX12_complaint 25 = .ok (.aload_n 0, 1) := by decide +kernel
theorem dX12_complaint_26 : decode cX12_complaint 26 = .ok (.getfield 297, 3) := by decide +kernel
theorem dX12_complaint_29 : decode cX12_complaint 29 = .ok (.iconst 1, 1) := by decide +kernel
theorem dX12_complaint_30 : decode cX12_complaint 30 = .ok (.if_icmp .ne 7, 3) := by decide +kernel
theorem dX12_complaint_33 : decode cX12_complaint 33 = .ok (.ldc2_w 377, 3) := by decide +kernel
theorem dX12_complaint_36 : decode cX12_complaint 36 = .ok (.lreturn, 1) := by decide +kernel
theorem dX12_complaint_37 : decode cX12_complaint 37 = .ok (.aload_n 0, 1) := by decide +kernel
theorem dX12_complaint_38 : decode cX12_complaint 38 = .ok (.aload_n 0, 1) := by decide +kernel
theorem dX12_complaint_39 : decode cX12_complaint 39 = .ok (.invokevirtual 386, 3) := by decide +kernel
theorem dX12_complaint_42 : decode cX12_complaint 42 = .ok (.iload_n 1, 1) := by decide +kernel
theorem dX12_complaint_43 : decode cX12_complaint 43 = .ok (.invokevirtual 379, 3) := by decide +kernel
theorem dX12_complaint_46 : decode cX12_complaint 46 = .ok (.iconst 0, 1) := by decide +kernel
theorem dX12_complaint_47 : decode cX12_complaint 47 = .ok (.istore_n 3, 1) := by decide +kernel
theorem dX12_complaint_48 : decode cX12_complaint 48 = .ok (.lconst 0, 1) := by decide +kernel
theorem dX12_complaint_49 : decode cX12_complaint 49 = .ok (.lstore 4, 2) := by decide +kernel
theorem dX12_complaint_51 : decode cX12_complaint 51 = .ok (.iconst 1, 1) := by decide +kernel
theorem dX12_complaint_52 : decode cX12_complaint 52 = .ok (.istore 6, 2) := by decide +kernel
theorem dX12_complaint_54 : decode cX12_complaint 54 = .ok (.iload 6, 2) := by decide +kernel
theorem dX12_complaint_56 : decode cX12_complaint 56 = .ok (.aload_n 0, 1) := by decide +kernel
theorem dX12_complaint_57 : decode cX12_complaint 57 = .ok (.invokevirtual 386, 3) := by decide +kernel
theorem dX12_complaint_60 : decode cX12_complaint 60 = .ok (.if_icmp .ge 52, 3) := by decide +kernel
theorem dX12_complaint_63 : decode cX12_complaint 63 = .ok (.aload_n 0, 1) := by decide +kernel
theorem dX12_complaint_64 : decode cX12_complaint 64 = .ok (.iload 6, 2) := by decide +kernel
theorem dX12_complaint_66 : decode cX12_complaint 66 = .ok (.invokevirtual 389, 3) := by decide +kernel
theorem dX12_complaint_69 : decode cX12_complaint 69 = .ok (.aload_n 0, 1) := by decide +kernel
theorem dX12_complaint_70 : decode cX12_complaint 70 = .ok (.iload 6, 2) := by decide +kernel
theorem dX12_complaint_72 : decode cX12_complaint 72 = .ok (.invokevirtual 325, 3) := by decide +kernel
theorem dX12_complaint_75 : decode cX12_complaint 75 = .ok (.i2l, 1) := by decide +kernel
theorem dX12_complaint_76 : decode cX12_complaint 76 = .ok (.aload_n 0, 1) := by decide +kernel
theorem dX12_complaint_77 : decode cX12_complaint 77 = .ok (.getfield 361, 3) := by decide +kernel
theorem dX12_complaint_80 : decode cX12_complaint 80 = .ok (.lmul, 1) := by decide +kernel
theorem dX12_complaint_81 : decode cX12_complaint 81 = .ok (.lsub, 1) := by decide +kernel
theorem dX12_complaint_82 : decode cX12_complaint 82 = .ok (.lstore 7, 2) := by decide +kernel
theorem dX12_complaint_84 : decode cX12_complaint 84 = .ok (.iload_n 3, 1) := by decide +kernel
theorem dX12_complaint_85 : decode cX12_complaint 85 = .ok (.ifCond .le 14, 3) := by decide +kernel
theorem dX12_complaint_88 : decode cX12_complaint 88 = .ok (.lload 7, 2) := by decide +kernel
theorem dX12_complaint_90 : decode cX12_complaint 90 = .ok (.lload 4, 2) := by decide +kernel
theorem dX12_complaint_92 : decode cX12_complaint 92 = .ok (.lcmp, 1) := by decide +kernel
theorem dX12_complaint_93 : decode cX12_complaint 93 = .ok (.ifCond .gt 6, 3) := by decide +kernel
theorem dX12_complaint_96 : decode cX12_complaint 96 = .ok (.goto 10, 3) := by decide +kernel
theorem dX12_complaint_99 : decode cX12_complaint 99 = .ok (.iload 6, 2) := by decide +kernel
theorem dX12_complaint_101 : decode cX12_complaint 101 = .ok (.istore_n 3, 1) := by decide +kernel
theorem dX12_complaint_102 : decode cX12_complaint 102 = .ok (.lload 7, 2) := by decide +kernel
theorem dX12_complaint_104 : decode cX12_complaint 104 = .ok (.lstore 4, 2) := by decide +kernel
theorem dX12_complaint_106 : decode cX12_complaint 106 = .ok (.iinc 6 1, 3) := by decide +kernel
theorem dX12_complaint_109 : decode cX12_complaint 109 = .ok (.goto (-55), 3) := by decide +kernel
theorem dX12_complaint_112 : decode cX12_complaint 112 = .ok (.iload_n 2, 1) := by decide +kernel
theorem dX12_complaint_113 : decode cX12_complaint 113 = .ok (.ifCond .ne 8, 3) := by decide +kernel
theorem dX12_complaint_116 : decode cX12_complaint 116 = .ok (.iload_n 3, 1) := by decide +kernel
theorem dX12_complaint_117 : decode cX12_complaint 117 = .ok (.i2l, 1) := by decide +kernel
theorem dX12_complaint_118 : decode cX12_complaint 118 = .ok (.goto 15, 3) := by decide +kernel
theorem dX12_complaint_121 : decode cX12_complaint 121 = .ok (.lload 4, 2) := by decide +kernel
theorem dX12_complaint_123 : decode cX12_complaint 123 = .ok (.aload_n 0, 1) := by decide +kernel
theorem dX12_complaint_124 : decode cX12_complaint 124 = .ok (.getfield 361, 3) := by decide +kernel
theorem dX12_complaint_127 : decode cX12_complaint 127 = .ok (.iload_n 2, 1) := by decide +kernel
theorem dX12_complaint_128 : decode cX12_complaint 128 = .ok (.iconst 1, 1) := by decide +kernel
theorem dX12_complaint_129 : decode cX12_complaint 129 = .ok (.isub, 1) := by decide +kernel
theorem dX12_complaint_130 : decode cX12_complaint 130 = .ok (.invokestatic 382, 3) := by decide +kernel
theorem dX12_complaint_133 : decode cX12_complaint 133 = .ok (.lreturn, 1) := by decide +kernel
theorem dX12_rideAll_0 : decode cX12_rideAll 0 = .ok (.iconst 0, 1) := by decide +kernel
theorem dX12_rideAll_1 : decode cX12_rideAll 1 = .ok (.istore_n 2, 1) := by decide +kernel
theorem dX12_rideAll_2 : decode cX12_rideAll 2 = .ok (.iconst 0, 1) := by decide +kernel
theorem dX12_rideAll_3 : decode cX12_rideAll 3 = .ok (.istore_n 3, 1) := by decide +kernel
theorem dX12_rideAll_4 : decode cX12_rideAll 4 = .ok (.iconst 0, 1) := by decide +kernel
theorem dX12_rideAll_5 : decode cX12_rideAll 5 = .ok (.istore 4, 2) := by decide +kernel
theorem dX12_rideAll_7 : decode cX12_rideAll 7 = .ok (.iconst 0, 1) := by decide +kernel
theorem dX12_rideAll_8 : decode cX12_rideAll 8 = .ok (.istore 5, 2) := by decide +kernel
theorem dX12_rideAll_10 : decode cX12_rideAll 10 = .ok (.iconst 0, 1) := by decide +kernel
theorem dX12_rideAll_11 : decode cX12_rideAll 11 = .ok (.istore 6, 2) := by decide +kernel
theorem dX12_rideAll_13 : decode cX12_rideAll 13 = .ok (.iload 6, 2) := by decide +kernel
theorem dX12_rideAll_15 : decode cX12_rideAll 15 = .ok (.aload_n 0, 1) := by decide +kernel
theorem dX12_rideAll_16 : decode cX12_rideAll 16 = .ok (.getfield 393, 3) := by decide +kernel
theorem dX12_rideAll_19 : decode cX12_rideAll 19 = .ok (.if_icmp .ge 76, 3) := by decide +kernel
theorem dX12_rideAll_22 : decode cX12_rideAll 22 = .ok (.aload_n 0, 1) := by decide +kernel
theorem dX12_rideAll_23 : decode cX12_rideAll 23 = .ok (.getfield 69, 3) := by decide +kernel
theorem dX12_rideAll_26 : decode cX12_rideAll 26 = .ok (.iload 6, 2) := by decide +kernel
theorem dX12_rideAll_28 : decode cX12_rideAll 28 = .ok (.iaload, 1) := by decide +kernel
theorem dX12_rideAll_29 : decode cX12_rideAll 29 = .ok (.istore 7, 2) := by decide +kernel
theorem dX12_rideAll_31 : decode cX12_rideAll 31 = .ok (.iload_n 3, 1) := by decide +kernel
theorem dX12_rideAll_32 : decode cX12_rideAll 32 = .ok (.aload_n 0, 1) := by decide +kernel
theorem dX12_rideAll_33 : decode cX12_rideAll 33 = .ok (.iload_n 2, 1) := by decide +kernel
theorem dX12_rideAll_34 : decode cX12_rideAll 34 = .ok (.aload_n 0, 1) := by decide +kernel
theorem dX12_rideAll_35 : decode cX12_rideAll 35 = .ok (.getfield 43, 3) := by decide +kernel
theorem dX12_rideAll_38 : decode cX12_rideAll 38 = .ok (.iconst 3, 1) := by decide +kernel
theorem dX12_rideAll_39 : decode cX12_rideAll 39 = .ok (.iload 7, 2) := by decide +kernel
theorem dX12_rideAll_41 : decode cX12_rideAll 41 = .ok (.imul, 1) := by decide +kernel
theorem dX12_rideAll_42 : decode cX12_rideAll 42 = .ok (.iaload, 1) := by decide +kernel
theorem dX12_rideAll_43 : decode cX12_rideAll 43 = .ok (.invokevirtual 331, 3) := by decide +kernel
theorem dX12_rideAll_46 : decode cX12_rideAll 46 = .ok (.iadd, 1) := by decide +kernel
theorem dX12_rideAll_47 : decode cX12_rideAll 47 = .ok (.istore_n 3, 1) := by decide +kernel
theorem dX12_rideAll_48 : decode cX12_rideAll 48 = .ok (.aload_n 0, 1) := by decide +kernel
theorem dX12_rideAll_49 : decode cX12_rideAll 49 = .ok (.getfield 43, 3) := by decide +kernel
theorem dX12_rideAll_52 : decode cX12_rideAll 52 = .ok (.iconst 3, 1) := by decide +kernel
theorem dX12_rideAll_53 : decode cX12_rideAll 53 = .ok (.iload 7, 2) := by decide +kernel
theorem dX12_rideAll_55 : decode cX12_rideAll 55 = .ok (.imul, 1) := by decide +kernel
theorem dX12_rideAll_56 : decode cX12_rideAll 56 = .ok (.iaload, 1) := by decide +kernel
theorem dX12_rideAll_57 : decode cX12_rideAll 57 = .ok (.istore_n 2, 1) := by decide +kernel
theorem dX12_rideAll_58 : decode cX12_rideAll 58 = .ok (.aload_n 0, 1) := by decide +kernel
theorem dX12_rideAll_59 : decode cX12_rideAll 59 = .ok (.getfield 72, 3) := by decide +kernel
theorem dX12_rideAll_62 : decode cX12_rideAll 62 = .ok (.iload 7, 2) := by decide +kernel
theorem dX12_rideAll_64 : decode cX12_rideAll 64 = .ok (.iload_n 3, 1) := by decide +kernel
theorem dX12_rideAll_65 : decode cX12_rideAll 65 = .ok (.iastore, 1) := by decide +kernel
theorem dX12_rideAll_66 : decode cX12_rideAll 66 = .ok (.iload 4, 2) := by decide +kernel
theorem dX12_rideAll_68 : decode cX12_rideAll 68 = .ok (.iload_n 3, 1) := by decide +kernel
theorem dX12_rideAll_69 : decode cX12_rideAll 69 = .ok (.iadd, 1) := by decide +kernel
theorem dX12_rideAll_70 : decode cX12_rideAll 70 = .ok (.istore 4, 2) := by decide +kernel
theorem dX12_rideAll_72 : decode cX12_rideAll 72 = .ok (.iload 5, 2) := by decide +kernel
theorem dX12_rideAll_74 : decode cX12_rideAll 74 = .ok (.iload_n 3, 1) := by decide +kernel
theorem dX12_rideAll_75 : decode cX12_rideAll 75 = .ok (.aload_n 0, 1) := by decide +kernel
theorem dX12_rideAll_76 : decode cX12_rideAll 76 = .ok (.iconst 1, 1) := by decide +kernel
theorem dX12_rideAll_77 : decode cX12_rideAll 77 = .ok (.iload 7, 2) := by decide +kernel
theorem dX12_rideAll_79 : decode cX12_rideAll 79 = .ok (.ishl, 1) := by decide +kernel
theorem dX12_rideAll_80 : decode cX12_rideAll 80 = .ok (.invokevirtual 315, 3) := by decide +kernel
theorem dX12_rideAll_83 : decode cX12_rideAll 83 = .ok (.isub, 1) := by decide +kernel
theorem dX12_rideAll_84 : decode cX12_rideAll 84 = .ok (.invokestatic 318, 3) := by decide +kernel
theorem dX12_rideAll_87 : decode cX12_rideAll 87 = .ok (.istore 5, 2) := by decide +kernel
theorem dX12_rideAll_89 : decode cX12_rideAll 89 = .ok (.iinc 6 1, 3) := by decide +kernel
theorem dX12_rideAll_92 : decode cX12_rideAll 92 = .ok (.goto (-79), 3) := by decide +kernel
theorem dX12_rideAll_95 : decode cX12_rideAll 95 = .ok (.iload_n 1, 1) := by decide +kernel
theorem dX12_rideAll_96 : decode cX12_rideAll 96 = .ok (.ifCond .ne 7, 3) := by decide +kernel
theorem dX12_rideAll_99 : decode cX12_rideAll 99 = .ok (.iload_n 3, 1) := by decide +kernel
theorem dX12_rideAll_100 : decode cX12_rideAll 100 = .ok (.goto 15, 3) := by decide +kernel
theorem dX12_rideAll_103 : decode cX12_rideAll 103 = .ok (.iload_n 1, 1) := by decide +kernel
theorem dX12_rideAll_104 : decode cX12_rideAll 104 = .ok (.iconst 1, 1) := by decide +kernel
theorem dX12_rideAll_105 : decode cX12_rideAll 105 = .ok (.if_icmp .ne 8, 3) := by decide +kernel
theorem dX12_rideAll_108 : decode cX12_rideAll 108 = .ok (.iload 4, 2) := by decide +kernel
theorem dX12_rideAll_110 : decode cX12_rideAll 110 = .ok (.goto 5, 3) := by decide +kernel
theorem dX12_rideAll_113 : decode cX12_rideAll 113 = .ok (.iload 5, 2) := by decide +kernel
theorem dX12_rideAll_115 : decode cX12_rideAll 115 = .ok (.ireturn, 1) := by decide +kernel
theorem dX12_goOrders_0 : decode cX12_goOrders 0 = .ok (.iload_n 1, 1) := by decide +kernel
theorem dX12_goOrders_1 : decode cX12_goOrders 1 = .ok (.ifCond .ne 40, 3) := by decide +kernel
theorem dX12_goOrders_4 : decode cX12_goOrders 4 = .ok (.aload_n 0, 1) := by decide +kernel
theorem dX12_goOrders_5 : decode cX12_goOrders 5 = .ok (.iload_n 3, 1) := by decide +kernel
theorem dX12_goOrders_6 : decode cX12_goOrders 6 = .ok (.invokevirtual 396, 3) := by decide +kernel
theorem dX12_goOrders_9 : decode cX12_goOrders 9 = .ok (.istore 4, 2) := by decide +kernel
theorem dX12_goOrders_11 : decode cX12_goOrders 11 = .ok (.aload_n 0, 1) := by decide +kernel
theorem dX12_goOrders_12 : decode cX12_goOrders 12 = .ok (.getfield 399, 3) := by decide +kernel
theorem dX12_goOrders_15 : decode cX12_goOrders 15 = .ok (.iconst (-1), 1) := by decide +kernel
theorem dX12_goOrders_16 : decode cX12_goOrders 16 = .ok (.if_icmp .eq 13, 3) := by decide +kernel
theorem dX12_goOrders_19 : decode cX12_goOrders 19 = .ok (.iload 4, 2) := by decide +kernel
theorem dX12_goOrders_21 : decode cX12_goOrders 21 = .ok (.aload_n 0, 1) := by decide +kernel
theorem dX12_goOrders_22 : decode cX12_goOrders 22 = .ok (.getfield 402, 3) := by decide +kernel
theorem dX12_goOrders_25 : decode cX12_goOrders 25 = .ok (.if_icmp .lt 4, 3) := by decide +kernel
theorem dX12_goOrders_28 : decode cX12_goOrders 28 = .ok (.return_, 1) := by decide +kernel
theorem dX12_goOrders_29 : decode cX12_goOrders 29 = .ok (.aload_n 0, 1) := by decide +kernel
theorem dX12_goOrders_30 : decode cX12_goOrders 30 = .ok (.iload_n 2, 1) := by decide +kernel
theorem dX12_goOrders_31 : decode cX12_goOrders 31 = .ok (.putfield 399, 3) := by decide +kernel
theorem dX12_goOrders_34 : decode cX12_goOrders 34 = .ok (.aload_n 0, 1) := by decide +kernel
theorem dX12_goOrders_35 : decode cX12_goOrders 35 = .ok (.iload 4, 2) := by decide +kernel
theorem dX12_goOrders_37 : decode cX12_goOrders 37 = .ok (.putfield 402, 3) := by decide +kernel
theorem dX12_goOrders_40 : decode cX12_goOrders 40 = .ok (.return_, 1) := by decide +kernel
theorem dX12_goOrders_41 : decode cX12_goOrders 41 = .ok (.iconst 0, 1) := by decide +kernel
theorem dX12_goOrders_42 : decode cX12_goOrders 42 = .ok (.istore 4, 2) := by decide +kernel
theorem dX12_goOrders_44 : decode cX12_goOrders 44 = .ok (.iload 4, 2) := by decide +kernel
theorem dX12_goOrders_46 : decode cX12_goOrders 46 = .ok (.aload_n 0, 1) := by decide +kernel
theorem dX12_goOrders_47 : decode cX12_goOrders 47 = .ok (.getfield 297, 3) := by decide +kernel
theorem dX12_goOrders_50 : decode cX12_goOrders 50 = .ok (.if_icmp .ge 72, 3) := by decide +kernel
theorem dX12_goOrders_53 : decode cX12_goOrders 53 = .ok (.iload_n 1, 1) := by decide +kernel
theorem dX12_goOrders_54 : decode cX12_goOrders 54 = .ok (.iload 4, 2) := by decide +kernel
theorem dX12_goOrders_56 : decode cX12_goOrders 56 = .ok (.invokestatic 263, 3) := by decide +kernel
theorem dX12_goOrders_59 : decode cX12_goOrders 59 = .ok (.ifCond .ne 6, 3) := by decide +kernel
theorem dX12_goOrders_62 : decode cX12_goOrders 62 = .ok (.goto 54, 3) := by decide +kernel
theorem dX12_goOrders_65 : decode cX12_goOrders 65 = .ok (.aload_n 0, 1) := by decide +kernel
theorem dX12_goOrders_66 : decode cX12_goOrders 66 = .ok (.getfield 69, 3) := by decide +kernel
theorem dX12_goOrders_69 : decode cX12_goOrders 69 = .ok (.aload_n 0, 1) := by decide +kernel
theorem dX12_goOrders_70 : decode cX12_goOrders 70 = .ok (.getfield 393, 3) := by decide +kernel
theorem dX12_goOrders_73 : decode cX12_goOrders 73 = .ok (.iload 4, 2) := by decide +kernel
theorem dX12_goOrders_75 : decode cX12_goOrders 75 = .ok (.iastore, 1) := by decide +kernel
theorem dX12_goOrders_76 : decode cX12_goOrders 76 = .ok (.aload_n 0, 1) := by decide +kernel
theorem dX12_goOrders_77 : decode cX12_goOrders 77 = .ok (.dup, 1) := by decide +kernel
theorem dX12_goOrders_78 : decode cX12_goOrders 78 = .ok (.getfield 393, 3) := by decide +kernel
theorem dX12_goOrders_81 : decode cX12_goOrders 81 = .ok (.iconst 1, 1) := by decide +kernel
theorem dX12_goOrders_82 : decode cX12_goOrders 82 = .ok (.iadd, 1) := by decide +kernel
theorem dX12_goOrders_83 : decode cX12_goOrders 83 = .ok (.putfield 393, 3) := by decide +kernel
theorem dX12_goOrders_86 : decode cX12_goOrders 86 = .ok (.aload_n 0, 1) := by decide +kernel
theorem dX12_goOrders_87 : decode cX12_goOrders 87 = .ok (.iload_n 1, 1) := by decide +kernel
theorem dX12_goOrders_88 : decode cX12_goOrders 88 = .ok (.iconst 1, 1) := by decide +kernel
theorem dX12_goOrders_89 : decode cX12_goOrders 89 = .ok (.iload 4, 2) := by decide +kernel
theorem dX12_goOrders_91 : decode cX12_goOrders 91 = .ok (.ishl, 1) := by decide +kernel
theorem dX12_goOrders_92 : decode cX12_goOrders 92 = .ok (.iconst (-1), 1) := by decide +kernel
theorem dX12_goOrders_93 : decode cX12_goOrders 93 = .ok (.ixor, 1) := by decide +kernel
theorem dX12_goOrders_94 : decode cX12_goOrders 94 = .ok (.iand, 1) := by decide +kernel
theorem dX12_goOrders_95 : decode cX12_goOrders 95 = .ok (.bipush 10, 2) := by decide +kernel
theorem dX12_goOrders_97 : decode cX12_goOrders 97 = .ok (.iload_n 2, 1) := by decide +kernel
theorem dX12_goOrders_98 : decode cX12_goOrders 98 = .ok (.imul, 1) := by decide +kernel
theorem dX12_goOrders_99 : decode cX12_goOrders 99 = .ok (.iload 4, 2) := by decide +kernel
theorem dX12_goOrders_101 : decode cX12_goOrders 101 = .ok (.iadd, 1) := by decide +kernel
theorem dX12_goOrders_102 : decode cX12_goOrders 102 = .ok (.iload_n 3, 1) := by decide +kernel
theorem dX12_goOrders_103 : decode cX12_goOrders 103 = .ok (.invokevirtual 405, 3) := by decide +kernel
theorem dX12_goOrders_106 : decode cX12_goOrders 106 = .ok (.aload_n 0, 1) := by decide +kernel
theorem dX12_goOrders_107 : decode cX12_goOrders 107 = .ok (.dup, 1) := by decide +kernel
theorem dX12_goOrders_108 : decode cX12_goOrders 108 = .ok (.getfield 393, 3) := by decide +kernel
theorem dX12_goOrders_111 : decode cX12_goOrders 111 = .ok (.iconst 1, 1) := by decide +kernel
theorem dX12_goOrders_112 : decode cX12_goOrders 112 = .ok (.isub, 1) := by decide +kernel
theorem dX12_goOrders_113 : decode cX12_goOrders 113 = .ok (.putfield 393, 3) := by decide +kernel
theorem dX12_goOrders_116 : decode cX12_goOrders 116 = .ok (.iinc 4 1, 3) := by decide +kernel
theorem dX12_goOrders_119 : decode cX12_goOrders 119 = .ok (.goto (-75), 3) := by decide +kernel
theorem dX12_goOrders_122 : decode cX12_goOrders 122 = .ok (.return_, 1) := by decide +kernel
theorem dX12_order_0 : decode cX12_order 0 = .ok (.aload_n 0, 1) := by decide +kernel
theorem dX12_order_1 : decode cX12_order 1 = .ok (.iconst 0, 1) := by decide +kernel
theorem dX12_order_2 : decode cX12_order 2 = .ok (.putfield 108, 3) := by decide +kernel
theorem dX12_order_5 : decode cX12_order 5 = .ok (.aload_n 0, 1) := by decide +kernel
theorem dX12_order_6 : decode cX12_order 6 = .ok (.iload_n 1, 1) := by decide +kernel
theorem dX12_order_7 : decode cX12_order 7 = .ok (.invokevirtual 336, 3) := by decide +kernel
theorem dX12_order_10 : decode cX12_order 10 = .ok (.ifCond .eq 25, 3) := by decide +kernel
theorem dX12_order_13 : decode cX12_order 13 = .ok (.iload_n 2, 1) := by decide +kernel
theorem dX12_order_14 : decode cX12_order 14 = .ok (.i2l, 1) := by decide +kernel
theorem dX12_order_15 : decode cX12_order 15 = .ok (.lconst 0, 1) := by decide +kernel
theorem dX12_order_16 : decode cX12_order 16 = .ok (.ldc2_w 339, 3) := by decide +kernel
theorem dX12_order_19 : decode cX12_order 19 = .ok (.invokestatic 236, 3) := by decide +kernel
theorem dX12_order_22 : decode cX12_order 22 = .ok (.ifCond .eq 13, 3) := by decide +kernel
theorem dX12_order_25 : decode cX12_order 25 = .ok (.iload_n 3, 1) := by decide +kernel
theorem dX12_order_26 : decode cX12_order 26 = .ok (.i2l, 1) := by decide +kernel
theorem dX12_order_27 : decode cX12_order 27 = .ok (.lconst 0, 1) := by decide +kernel
theorem dX12_order_28 : decode cX12_order 28 = .ok (.lconst 1, 1) := by decide +kernel
theorem dX12_order_29 : decode cX12_order 29 = .ok (.invokestatic 236, 3) := by decide +kernel
theorem dX12_order_32 : decode cX12_order 32 = .ok (.ifCond .ne 5, 3) := by decide +kernel
theorem dX12_order_35 : decode cX12_order 35 = .ok (.iconst (-1), 1) := by decide +kernel
theorem dX12_order_36 : decode cX12_order 36 = .ok (.ireturn, 1) := by decide +kernel
theorem dX12_order_37 : decode cX12_order 37 = .ok (.aload_n 0, 1) := by decide +kernel
theorem dX12_order_38 : decode cX12_order 38 = .ok (.iconst 0, 1) := by decide +kernel
theorem dX12_order_39 : decode cX12_order 39 = .ok (.putfield 393, 3) := by decide +kernel
theorem dX12_order_42 : decode cX12_order 42 = .ok (.aload_n 0, 1) := by decide +kernel
theorem dX12_order_43 : decode cX12_order 43 = .ok (.iconst (-1), 1) := by decide +kernel
theorem dX12_order_44 : decode cX12_order 44 = .ok (.putfield 399, 3) := by decide +kernel
theorem dX12_order_47 : decode cX12_order 47 = .ok (.aload_n 0, 1) := by decide +kernel
theorem dX12_order_48 : decode cX12_order 48 = .ok (.iload_n 1, 1) := by decide +kernel
theorem dX12_order_49 : decode cX12_order 49 = .ok (.iconst 0, 1) := by decide +kernel
theorem dX12_order_50 : decode cX12_order 50 = .ok (.iload_n 2, 1) := by decide +kernel
theorem dX12_order_51 : decode cX12_order 51 = .ok (.invokevirtual 405, 3) := by decide +kernel
theorem dX12_order_54 : decode cX12_order 54 = .ok (.iload_n 3, 1) := by decide +kernel
theorem dX12_order_55 : decode cX12_order 55 = .ok (.ifCond .ne 10, 3) := by decide +kernel
theorem dX12_order_58 : decode cX12_order 58 = .ok (.aload_n 0, 1) := by decide +kernel
theorem dX12_order_59 : decode cX12_order 59 = .ok (.getfield 399, 3) := by decide +kernel
theorem dX12_order_62 : decode cX12_order 62 = .ok (.goto 7, 3) := by decide +kernel
theorem dX12_order_65 : decode cX12_order 65 = .ok (.aload_n 0, 1) := by decide +kernel
theorem dX12_order_66 : decode cX12_order 66 = .ok (.getfield 402, 3) := by decide +kernel
theorem dX12_order_69 : decode cX12_order 69 = .ok (.ireturn, 1) := by decide +kernel
theorem dX12_ride_0 : decode cX12_ride 0 = .ok (.aload_n 0, 1) := by decide +kernel
theorem dX12_ride_1 : decode cX12_ride 1 = .ok (.iconst 0, 1) := by decide +kernel
theorem dX12_ride_2 : decode cX12_ride 2 = .ok (.putfield 108, 3) := by decide +kernel
theorem dX12_ride_5 : decode cX12_ride 5 = .ok (.aload_n 0, 1) := by decide +kernel
theorem dX12_ride_6 : decode cX12_ride 6 = .ok (.iload_n 1, 1) := by decide +kernel
theorem dX12_ride_7 : decode cX12_ride 7 = .ok (.invokevirtual 336, 3) := by decide +kernel
theorem dX12_ride_10 : decode cX12_ride 10 = .ok (.ifCond .eq 23, 3) := by decide +kernel
theorem dX12_ride_13 : decode cX12_ride 13 = .ok (.aload_n 0, 1) := by decide +kernel
theorem dX12_ride_14 : decode cX12_ride 14 = .ok (.iload_n 3, 1) := by decide +kernel
theorem dX12_ride_15 : decode cX12_ride 15 = .ok (.invokevirtual 320, 3) := by decide +kernel
theorem dX12_ride_18 : decode cX12_ride 18 = .ok (.ifCond .eq 15, 3) := by decide +kernel
theorem dX12_ride_21 : decode cX12_ride 21 = .ok (.iload_n 1, 1) := by decide +kernel
theorem dX12_ride_22 : decode cX12_ride 22 = .ok (.iload_n 3, 1) := by decide +kernel
theorem dX12_ride_23 : decode cX12_ride 23 = .ok (.invokestatic 263, 3) := by decide +kernel
theorem dX12_ride_26 : decode cX12_ride 26 = .ok (.ifCond .eq 7, 3) := by decide +kernel
theorem dX12_ride_29 : decode cX12_ride 29 = .ok (.iload_n 2, 1) := by decide +kernel
theorem dX12_ride_30 : decode cX12_ride 30 = .ok (.ifCond .ge 5, 3) := by decide +kernel
theorem dX12_ride_33 : decode cX12_ride 33 = .ok (.iconst (-1), 1) := by decide +kernel
theorem dX12_ride_34 : decode cX12_ride 34 = .ok (.ireturn, 1) := by decide +kernel
theorem dX12_ride_35 : decode cX12_ride 35 = .ok (.iload_n 2, 1) := by decide +kernel
theorem dX12_ride_36 : decode cX12_ride 36 = .ok (.istore 4, 2) := by decide +kernel
theorem dX12_ride_38 : decode cX12_ride 38 = .ok (.iload_n 1, 1) := by decide +kernel
theorem dX12_ride_39 : decode cX12_ride 39 = .ok (.istore 5, 2) := by decide +kernel
theorem dX12_ride_41 : decode cX12_ride 41 = .ok (.aload_n 0, 1) := by decide +kernel
theorem dX12_ride_42 : decode cX12_ride 42 = .ok (.iload_n 1, 1) := by decide +kernel
theorem dX12_ride_43 : decode cX12_ride 43 = .ok (.invokestatic 344, 3) := by decide +kernel
theorem dX12_ride_46 : decode cX12_ride 46 = .ok (.putfield 393, 3) := by decide +kernel
theorem dX12_ride_49 : decode cX12_ride 49 = .ok (.aload_n 0, 1) := by decide +kernel
theorem dX12_ride_50 : decode cX12_ride 50 = .ok (.getfield 393, 3) := by decide +kernel
theorem dX12_ride_53 : decode cX12_ride 53 = .ok (.iconst 1, 1) := by decide +kernel
theorem dX12_ride_54 : decode cX12_ride 54 = .ok (.isub, 1) := by decide +kernel
theorem dX12_ride_55 : decode cX12_ride 55 = .ok (.istore 6, 2) := by decide +kernel
theorem dX12_ride_57 : decode cX12_ride 57 = .ok (.iload 6, 2) := by decide +kernel
theorem dX12_ride_59 : decode cX12_ride 59 = .ok (.ifCond .lt 75, 3) := by decide +kernel
theorem dX12_ride_62 : decode cX12_ride 62 = .ok (.aload_n 0, 1) := by decide +kernel
theorem dX12_ride_63 : decode cX12_ride 63 = .ok (.getfield 69, 3) := by decide +kernel
theorem dX12_ride_66 : decode cX12_ride 66 = .ok (.iload 6, 2) := by decide +kernel
theorem dX12_ride_68 : decode cX12_ride 68 = .ok (.iload 4, 2) := by decide +kernel
theorem dX12_ride_70 : decode cX12_ride 70 = .ok (.bipush 10, 2) := by decide +kernel
theorem dX12_ride_72 : decode cX12_ride 72 = .ok (.irem, 1) := by decide +kernel
theorem dX12_ride_73 : decode cX12_ride 73 = .ok (.iastore, 1) := by decide +kernel
theorem dX12_ride_74 : decode cX12_ride 74 = .ok (.iload 4, 2) := by decide +kernel
theorem dX12_ride_76 : decode cX12_ride 76 = .ok (.bipush 10, 2) := by decide +kernel
theorem dX12_ride_78 : decode cX12_ride 78 = .ok (.idiv, 1) := by decide +kernel
theorem dX12_ride_79 : decode cX12_ride 79 = .ok (.istore 4, 2) := by decide +kernel
theorem dX12_ride_81 : decode cX12_ride 81 = .ok (.aload_n 0, 1) := by decide +kernel
theorem dX12_ride_82 : decode cX12_ride 82 = .ok (.aload_n 0, 1) := by decide +kernel
theorem dX12_ride_83 : decode cX12_ride 83 = .ok (.getfield 69, 3) := by decide +kernel
theorem dX12_ride_86 : decode cX12_ride 86 = .ok (.iload 6, 2) := by decide +kernel
theorem dX12_ride_88 : decode cX12_ride 88 = .ok (.iaload, 1) := by decide +kernel
theorem dX12_ride_89 : decode cX12_ride 89 = .ok (.invokevirtual 320, 3) := by decide +kernel
theorem dX12_ride_92 : decode cX12_ride 92 = .ok (.ifCond .eq 18, 3) := by decide +kernel
theorem dX12_ride_95 : decode cX12_ride 95 = .ok (.iload 5, 2) := by decide +kernel
theorem dX12_ride_97 : decode cX12_ride 97 = .ok (.aload_n 0, 1) := by decide +kernel
theorem dX12_ride_98 : decode cX12_ride 98 = .ok (.getfield 69, 3) := by decide +kernel
theorem dX12_ride_101 : decode cX12_ride 101 = .ok (.iload 6, 2) := by decide +kernel
theorem dX12_ride_103 : decode cX12_ride 103 = .ok (.iaload, 1) := by decide +kernel
theorem dX12_ride_104 : decode cX12_ride 104 = .ok (.invokestatic 263, 3) := by decide +kernel
theorem dX12_ride_107 : decode cX12_ride 107 = .ok (.ifCond .ne 5, 3) := by decide +kernel
theorem dX12_ride_110 : decode cX12_ride 110 = .ok (.iconst (-1), 1) := by decide +kernel
theorem dX12_ride_111 : decode cX12_ride 111 = .ok (.ireturn, 1) := by decide +kernel
theorem dX12_ride_112 : decode cX12_ride 112 = .ok (.iload 5, 2) := by decide +kernel
theorem dX12_ride_114 : decode cX12_ride 114 = .ok (.iconst 1, 1) := by decide +kernel
theorem dX12_ride_115 : decode cX12_ride 115 = .ok (.aload_n 0, 1) := by decide +kernel
theorem dX12_ride_116 : decode cX12_ride 116 = .ok (.getfield 69, 3) := by decide +kernel
theorem dX12_ride_119 : decode cX12_ride 119 = .ok (.iload 6, 2) := by decide +kernel
theorem dX12_ride_121 : decode cX12_ride 121 = .ok (.iaload, 1) := by decide +kernel
theorem dX12_ride_122 : decode cX12_ride 122 = .ok (.ishl, 1) := by decide +kernel
theorem dX12_ride_123 : decode cX12_ride 123 = .ok (.iconst (-1), 1) := by decide +kernel
theorem dX12_ride_124 : decode cX12_ride 124 = .ok (.ixor, 1) := by decide +kernel
theorem dX12_ride_125 : decode cX12_ride 125 = .ok (.iand, 1) := by decide +kernel
theorem dX12_ride_126 : decode cX12_ride 126 = .ok (.istore 5, 2) := by decide +kernel
theorem dX12_ride_128 : decode cX12_ride 128 = .ok (.iinc 6 (-1), 3) := by decide +kernel
theorem dX12_ride_131 : decode cX12_ride 131 = .ok (.goto (-74), 3) := by decide +kernel
theorem dX12_ride_134 : decode cX12_ride 134 = .ok (.iload 4, 2) := by decide +kernel
theorem dX12_ride_136 : decode cX12_ride 136 = .ok (.ifCond .eq 5, 3) := by decide +kernel
theorem dX12_ride_139 : decode cX12_ride 139 = .ok (.iconst (-1), 1) := by decide +kernel
theorem dX12_ride_140 : decode cX12_ride 140 = .ok (.ireturn, 1) := by decide +kernel
theorem dX12_ride_141 : decode cX12_ride 141 = .ok (.aload_n 0, 1) := by decide +kernel
theorem dX12_ride_142 : decode cX12_ride 142 = .ok (.iconst 0, 1) := by decide +kernel
theorem dX12_ride_143 : decode cX12_ride 143 = .ok (.invokevirtual 396, 3) := by decide +kernel
theorem dX12_ride_146 : decode cX12_ride 146 = .ok (.pop, 1) := by decide +kernel
theorem dX12_ride_147 : decode cX12_ride 147 = .ok (.aload_n 0, 1) := by decide +kernel
theorem dX12_ride_148 : decode cX12_ride 148 = .ok (.getfield 72, 3) := by decide +kernel
theorem dX12_ride_151 : decode cX12_ride 151 = .ok (.iload_n 3, 1) := by decide +kernel
theorem dX12_ride_152 : decode cX12_ride 152 = .ok (.iaload, 1) := by decide +kernel
theorem dX12_ride_153 : decode cX12_ride 153 = .ok (.ireturn, 1) := by decide +kernel
theorem dX12_digitsNow_0 : decode cX12_digitsNow 0 = .ok (.iconst 0, 1) := by decide +kernel
theorem dX12_digitsNow_1 : decode cX12_digitsNow 1 = .ok (.istore_n 1, 1) := by decide +kernel
theorem dX12_digitsNow_2 : decode cX12_digitsNow 2 = .ok (.iconst 0, 1) := by decide +kernel
theorem dX12_digitsNow_3 : decode cX12_digitsNow 3 = .ok (.istore_n 2, 1) := by decide +kernel
theorem dX12_digitsNow_4 : decode cX12_digitsNow 4 = .ok (.iload_n 2, 1) := by decide +kernel
theorem dX12_digitsNow_5 : decode cX12_digitsNow 5 = .ok (.aload_n 0, 1) := by decide +kernel
theorem dX12_digitsNow_6 : decode cX12_digitsNow 6 = .ok (.getfield 297, 3) := by decide +kernel
theorem dX12_digitsNow_9 : decode cX12_digitsNow 9 = .ok (.if_icmp .ge 21, 3) := by decide +kernel
theorem dX12_digitsNow_12 : decode cX12_digitsNow 12 = .ok (.bipush 10, 2) := by decide +kernel
theorem dX12_digitsNow_14 : decode cX12_digitsNow 14 = .ok (.iload_n 1, 1) := by decide +kernel
theorem dX12_digitsNow_15 : decode cX12_digitsNow 15 = .ok (.imul, 1) := by decide +kernel
theorem dX12_digitsNow_16 : decode cX12_digitsNow 16 = .ok (.aload_n 0, 1) := by decide +kernel
theorem dX12_digitsNow_17 : decode cX12_digitsNow 17 = .ok (.getfield 75, 3) := by decide +kernel
theorem dX12_digitsNow_20 : decode cX12_digitsNow 20 = .ok (.iload_n 2, 1) := by decide +kernel
theorem dX12_digitsNow_21 : decode cX12_digitsNow 21 = .ok (.iaload, 1) := by decide +kernel
theorem dX12_digitsNow_22 : decode cX12_digitsNow 22 = .ok (.iadd, 1) := by decide +kernel
theorem dX12_digitsNow_23 : decode cX12_digitsNow 23 = .ok (.istore_n 1, 1) := by decide +kernel
theorem dX12_digitsNow_24 : decode cX12_digitsNow 24 = .ok (.iinc 2 1, 3) := by decide +kernel
theorem dX12_digitsNow_27 : decode cX12_digitsNow 27 = .ok (.goto (-23), 3) := by decide +kernel
theorem dX12_digitsNow_30 : decode cX12_digitsNow 30 = .ok (.iload_n 1, 1) := by decide +kernel
theorem dX12_digitsNow_31 : decode cX12_digitsNow 31 = .ok (.ireturn, 1) := by decide +kernel
theorem dX12_hasRoom_0 : decode cX12_hasRoom 0 = .ok (.aload_n 0, 1) := by decide +kernel
theorem dX12_hasRoom_1 : decode cX12_hasRoom 1 = .ok (.iconst 1, 1) := by decide +kernel
theorem dX12_hasRoom_2 : decode cX12_hasRoom 2 = .ok (.iload_n 1, 1) := by decide +kernel
theorem dX12_hasRoom_3 : decode cX12_hasRoom 3 = .ok (.ishl, 1) := by decide +kernel
theorem dX12_hasRoom_4 : decode cX12_hasRoom 4 = .ok (.invokevirtual 341, 3) := by decide +kernel
theorem dX12_hasRoom_7 : decode cX12_hasRoom 7 = .ok (.aload_n 0, 1) := by decide +kernel
theorem dX12_hasRoom_8 : decode cX12_hasRoom 8 = .ok (.getfield 46, 3) := by decide +kernel
theorem dX12_hasRoom_11 : decode cX12_hasRoom 11 = .ok (.iconst 0, 1) := by decide +kernel
theorem dX12_hasRoom_12 : decode cX12_hasRoom 12 = .ok (.iaload, 1) := by decide +kernel
theorem dX12_hasRoom_13 : decode cX12_hasRoom 13 = .ok (.if_icmp .gt 7, 3) := by decide +kernel
theorem dX12_hasRoom_16 : decode cX12_hasRoom 16 = .ok (.iconst 1, 1) := by decide +kernel
theorem dX12_hasRoom_17 : decode cX12_hasRoom 17 = .ok (.goto 4, 3) := by decide +kernel
theorem dX12_hasRoom_20 : decode cX12_hasRoom 20 = .ok (.iconst 0, 1) := by decide +kernel
theorem dX12_hasRoom_21 : decode cX12_hasRoom 21 = .ok (.ireturn, 1) := by decide +kernel
theorem dX12_goCoaches_0 : decode cX12_goCoaches 0 = .ok (.iload_n 1, 1) := by decide +kernel
theorem dX12_goCoaches_1 : decode cX12_goCoaches 1 = .ok (.aload_n 0, 1) := by decide +kernel
theorem dX12_goCoaches_2 : decode cX12_goCoaches 2 = .ok (.getfield 297, 3) := by decide +kernel
theorem dX12_goCoaches_5 : decode cX12_goCoaches 5 = .ok (.if_icmp .ne 21, 3) := by decide +kernel
theorem dX12_goCoaches_8 : decode cX12_goCoaches 8 = .ok (.iload_n 3, 1) := by decide +kernel
theorem dX12_goCoaches_9 : decode cX12_goCoaches 9 = .ok (.ifCond .eq 11, 3) := by decide +kernel
theorem dX12_goCoaches_12 : decode cX12_goCoaches 12 = .ok (.aload_n 0, 1) := by decide +kernel
theorem dX12_goCoaches_13 : decode cX12_goCoaches 13 = .ok (.iload_n 2, 1) := by decide +kernel
theorem dX12_goCoaches_14 : decode cX12_goCoaches 14 = .ok (.invokevirtual 408, 3) := by decide +kernel
theorem dX12_goCoaches_17 : decode cX12_goCoaches 17 = .ok (.goto 8, 3) := by decide +kernel
theorem dX12_goCoaches_20 : decode cX12_goCoaches 20 = .ok (.aload_n 0, 1) := by decide +kernel
theorem dX12_goCoaches_21 : decode cX12_goCoaches 21 = .ok (.iload_n 2, 1) := by decide +kernel
theorem dX12_goCoaches_22 : decode cX12_goCoaches 22 = .ok (.invokevirtual 411, 3) := by decide +kernel
theorem dX12_goCoaches_25 : decode cX12_goCoaches 25 = .ok (.return_, 1) := by decide +kernel
theorem dX12_goCoaches_26 : decode cX12_goCoaches 26 = .ok (.iconst 0, 1) := by decide +kernel
theorem dX12_goCoaches_27 : decode cX12_goCoaches 27 = .ok (.istore 4, 2) := by decide +kernel
theorem dX12_goCoaches_29 : decode cX12_goCoaches 29 = .ok (.iload 4, 2) := by decide +kernel
theorem dX12_goCoaches_31 : decode cX12_goCoaches 31 = .ok (.iload_n 2, 1) := by decide +kernel
theorem dX12_goCoaches_32 : decode cX12_goCoaches 32 = .ok (.if_icmp .gt 93, 3) := by decide +kernel
theorem dX12_goCoaches_35 : decode cX12_goCoaches 35 = .ok (.aload_n 0, 1) := by decide +kernel
theorem dX12_goCoaches_36 : decode cX12_goCoaches 36 = .ok (.aload_n 0, 1) := by decide +kernel
theorem dX12_goCoaches_37 : decode cX12_goCoaches 37 = .ok (.getfield 78, 3) := by decide +kernel
theorem dX12_goCoaches_40 : decode cX12_goCoaches 40 = .ok (.iload 4, 2) := by decide +kernel
theorem dX12_goCoaches_42 : decode cX12_goCoaches 42 = .ok (.iaload, 1) := by decide +kernel
theorem dX12_goCoaches_43 : decode cX12_goCoaches 43 = .ok (.iconst 1, 1) := by decide +kernel
theorem dX12_goCoaches_44 : decode cX12_goCoaches 44 = .ok (.iload_n 1, 1) := by decide +kernel
theorem dX12_goCoaches_45 : decode cX12_goCoaches 45 = .ok (.ishl, 1) := by decide +kernel
theorem dX12_goCoaches_46 : decode cX12_goCoaches 46 = .ok (.ior, 1) := by decide +kernel
theorem dX12_goCoaches_47 : decode cX12_goCoaches 47 = .ok (.invokevirtual 341, 3) := by decide +kernel
theorem dX12_goCoaches_50 : decode cX12_goCoaches 50 = .ok (.aload_n 0, 1) := by decide +kernel
theorem dX12_goCoaches_51 : decode cX12_goCoaches 51 = .ok (.getfield 46, 3) := by decide +kernel
theorem dX12_goCoaches_54 : decode cX12_goCoaches 54 = .ok (.iconst 0, 1) := by decide +kernel
theorem dX12_goCoaches_55 : decode cX12_goCoaches 55 = .ok (.iaload, 1) := by decide +kernel
theorem dX12_goCoaches_56 : decode cX12_goCoaches 56 = .ok (.if_icmp .le 6, 3) := by decide +kernel
theorem dX12_goCoaches_59 : decode cX12_goCoaches 59 = .ok (.goto 60, 3) := by decide +kernel
theorem dX12_goCoaches_62 : decode cX12_goCoaches 62 = .ok (.aload_n 0, 1) := by decide +kernel
theorem dX12_goCoaches_63 : decode cX12_goCoaches 63 = .ok (.getfield 78, 3) := by decide +kernel
theorem dX12_goCoaches_66 : decode cX12_goCoaches 66 = .ok (.iload 4, 2) := by decide +kernel
theorem dX12_goCoaches_68 : decode cX12_goCoaches 68 = .ok (.dup2, 1) := by decide +kernel
theorem dX12_goCoaches_69 : decode cX12_goCoaches 69 = .ok (.iaload, 1) := by decide +kernel
theorem dX12_goCoaches_70 : decode cX12_goCoaches 70 = .ok (.iconst 1, 1) := by decide +kernel
theorem dX12_goCoaches_71 : decode cX12_goCoaches 71 = .ok (.iload_n 1, 1) := by decide +kernel
theorem dX12_goCoaches_72 : decode cX12_goCoaches 72 = .ok (.ishl, 1) := by decide +kernel
theorem dX12_goCoaches_73 : decode cX12_goCoaches 73 = .ok (.ior, 1) := by decide +kernel
theorem dX12_goCoaches_74 : decode cX12_goCoaches 74 = .ok (.iastore, 1) := by decide +kernel
theorem dX12_goCoaches_75 : decode cX12_goCoaches 75 = .ok (.aload_n 0, 1) := by decide +kernel
theorem dX12_goCoaches_76 : decode cX12_goCoaches 76 = .ok (.getfield 75, 3) := by decide +kernel
theorem dX12_goCoaches_79 : decode cX12_goCoaches 79 = .ok (.iload_n 1, 1) := by decide +kernel
theorem dX12_goCoaches_80 : decode cX12_goCoaches 80 = .ok (.iload 4, 2) := by decide +kernel
theorem dX12_goCoaches_82 : decode cX12_goCoaches 82 = .ok (.iastore, 1) := by decide +kernel
theorem dX12_goCoaches_83 : decode cX12_goCoaches 83 = .ok (.aload_n 0, 1) := by decide +kernel
theorem dX12_goCoaches_84 : decode cX12_goCoaches 84 = .ok (.iload_n 1, 1) := by decide +kernel
theorem dX12_goCoaches_85 : decode cX12_goCoaches 85 = .ok (.iconst 1, 1) := by decide +kernel
theorem dX12_goCoaches_86 : decode cX12_goCoaches 86 = .ok (.iadd, 1) := by decide +kernel
theorem dX12_goCoaches_87 : decode cX12_goCoaches 87 = .ok (.iload 4, 2) := by decide +kernel
theorem dX12_goCoaches_89 : decode cX12_goCoaches 89 = .ok (.iload_n 2, 1) := by decide +kernel
theorem dX12_goCoaches_90 : decode cX12_goCoaches 90 = .ok (.if_icmp .ne 9, 3) := by decide +kernel
theorem dX12_goCoaches_93 : decode cX12_goCoaches 93 = .ok (.iload_n 2, 1) := by decide +kernel
theorem dX12_goCoaches_94 : decode cX12_goCoaches 94 = .ok (.iconst 1, 1) := by decide +kernel
theorem dX12_goCoaches_95 : decode cX12_goCoaches 95 = .ok (.iadd, 1) := by decide +kernel
theorem dX12_goCoaches_96 : decode cX12_goCoaches 96 = .ok (.goto 4, 3) := by decide +kernel
theorem dX12_goCoaches_99 : decode cX12_goCoaches 99 = .ok (.iload_n 2, 1) := by decide +kernel
theorem dX12_goCoaches_100 : decode cX12_goCoaches 100 = .ok (.iload_n 3, 1) := by decide +kernel
theorem dX12_goCoaches_101 : decode cX12_goCoaches 101 = .ok (.invokevirtual 414, 3) := by decide +kernel
theorem dX12_goCoaches_104 : decode cX12_goCoaches 104 = .ok (.aload_n 0, 1) := by decide +kernel
theorem dX12_goCoaches_105 : decode cX12_goCoaches 105 = .ok (.getfield 78, 3) := by decide +kernel
theorem dX12_goCoaches_108 : decode cX12_goCoaches 108 = .ok (.iload 4, 2) := by decide +kernel
theorem dX12_goCoaches_110 : decode cX12_goCoaches 110 = .ok (.dup2, 1) := by decide +kernel
theorem dX12_goCoaches_111 : decode cX12_goCoaches 111 = .ok (.iaload, 1) := by decide +kernel
theorem dX12_goCoaches_112 : decode cX12_goCoaches 112 = .ok (.iconst 1, 1) := by decide +kernel
theorem dX12_goCoaches_113 : decode cX12_goCoaches 113 = .ok (.iload_n 1, 1) := by decide +kernel
theorem dX12_goCoaches_114 : decode cX12_goCoaches 114 = .ok (.ishl, 1) := by decide +kernel
theorem dX12_goCoaches_115 : decode cX12_goCoaches 115 = .ok (.iconst (-1), 1) := by decide +kernel
theorem dX12_goCoaches_116 : decode cX12_goCoaches 116 = .ok (.ixor, 1) := by decide +kernel
theorem dX12_goCoaches_117 : decode cX12_goCoaches 117 = .ok (.iand, 1) := by decide +kernel
theorem dX12_goCoaches_118 : decode cX12_goCoaches 118 = .ok (.iastore, 1) := by decide +kernel
theorem dX12_goCoaches_119 : decode cX12_goCoaches 119 = .ok (.iinc 4 1, 3) := by decide +kernel
theorem dX12_goCoaches_122 : decode cX12_goCoaches 122 = .ok (.goto (-93), 3) := by decide +kernel
theorem dX12_goCoaches_125 : decode cX12_goCoaches 125 = .ok (.return_, 1) := by decide +kernel
theorem dX12_judgeCost_0 : decode cX12_judgeCost 0 = .ok (.iconst 0, 1) := by decide +kernel
theorem dX12_judgeCost_1 : decode cX12_judgeCost 1 = .ok (.istore_n 2, 1) := by decide +kernel
theorem dX12_judgeCost_2 : decode cX12_judgeCost 2 = .ok (.iconst 0, 1) := by decide +kernel
theorem dX12_judgeCost_3 : decode cX12_judgeCost 3 = .ok (.istore_n 3, 1) := by decide +kernel
theorem dX12_judgeCost_4 : decode cX12_judgeCost 4 = .ok (.iload_n 3, 1) := by decide +kernel
theorem dX12_judgeCost_5 : decode cX12_judgeCost 5 = .ok (.iload_n 1, 1) := by decide +kernel
theorem dX12_judgeCost_6 : decode cX12_judgeCost 6 = .ok (.if_icmp .ge 22, 3) := by decide +kernel
theorem dX12_judgeCost_9 : decode cX12_judgeCost 9 = .ok (.iload_n 2, 1) := by decide +kernel
theorem dX12_judgeCost_10 : decode cX12_judgeCost 10 = .ok (.aload_n 0, 1) := by decide +kernel
theorem dX12_judgeCost_11 : decode cX12_judgeCost 11 = .ok (.aload_n 0, 1) := by decide +kernel
theorem dX12_judgeCost_12 : decode cX12_judgeCost 12 = .ok (.getfield 78, 3) := by decide +kernel
theorem dX12_judgeCost_15 : decode cX12_judgeCost 15 = .ok (.iload_n 3, 1) := by decide +kernel
theorem dX12_judgeCost_16 : decode cX12_judgeCost 16 = .ok (.iaload, 1) := by decide +kernel
theorem dX12_judgeCost_17 : decode cX12_judgeCost 17 = .ok (.invokevirtual 325, 3) := by decide +kernel
theorem dX12_judgeCost_20 : decode cX12_judgeCost 20 = .ok (.iadd, 1) := by decide +kernel
theorem dX12_judgeCost_21 : decode cX12_judgeCost 21 = .ok (.istore_n 2, 1) := by decide +kernel
theorem dX12_judgeCost_22 : decode cX12_judgeCost 22 = .ok (.iinc 3 1, 3) := by decide +kernel
theorem dX12_judgeCost_25 : decode cX12_judgeCost 25 = .ok (.goto (-21), 3) := by decide +kernel
theorem dX12_judgeCost_28 : decode cX12_judgeCost 28 = .ok (.aload_n 0, 1) := by decide +kernel
theorem dX12_judgeCost_29 : decode cX12_judgeCost 29 = .ok (.getfield 399, 3) := by decide +kernel
theorem dX12_judgeCost_32 : decode cX12_judgeCost 32 = .ok (.iconst (-1), 1) := by decide +kernel
theorem dX12_judgeCost_33 : decode cX12_judgeCost 33 = .ok (.if_icmp .eq 12, 3) := by decide +kernel
theorem dX12_judgeCost_36 : decode cX12_judgeCost 36 = .ok (.iload_n 2, 1) := by decide +kernel
theorem dX12_judgeCost_37 : decode cX12_judgeCost 37 = .ok (.aload_n 0, 1) := by decide +kernel
theorem dX12_judgeCost_38 : decode cX12_judgeCost 38 = .ok (.getfield 402, 3) := by decide +kernel
theorem dX12_judgeCost_41 : decode cX12_judgeCost 41 = .ok (.if_icmp .lt 4, 3) := by decide +kernel
theorem dX12_judgeCost_44 : decode cX12_judgeCost 44 = .ok (.return_, 1) := by decide +kernel
theorem dX12_judgeCost_45 : decode cX12_judgeCost 45 = .ok (.aload_n 0, 1) := by decide +kernel
theorem dX12_judgeCost_46 : decode cX12_judgeCost 46 = .ok (.aload_n 0, 1) := by decide +kernel
theorem dX12_judgeCost_47 : decode cX12_judgeCost 47 = .ok (.invokevirtual 418, 3) := by decide +kernel
theorem dX12_judgeCost_50 : decode cX12_judgeCost 50 = .ok (.putfield 399, 3) := by decide +kernel
theorem dX12_judgeCost_53 : decode cX12_judgeCost 53 = .ok (.aload_n 0, 1) := by decide +kernel
theorem dX12_judgeCost_54 : decode cX12_judgeCost 54 = .ok (.iload_n 2, 1) := by decide +kernel
theorem dX12_judgeCost_55 : decode cX12_judgeCost 55 = .ok (.putfield 402, 3) := by decide +kernel
theorem dX12_judgeCost_58 : decode cX12_judgeCost 58 = .ok (.return_, 1) := by decide +kernel
theorem dX12_paysLess_0 : decode cX12_paysLess 0 = .ok (.aload_n 0, 1) := by decide +kernel
theorem dX12_paysLess_1 : decode cX12_paysLess 1 = .ok (.iload_n 2, 1) := by decide +kernel
theorem dX12_paysLess_2 : decode cX12_paysLess 2 = .ok (.aload_n 0, 1) := by decide +kernel
theorem dX12_paysLess_3 : decode cX12_paysLess 3 = .ok (.getfield 421, 3) := by decide +kernel
theorem dX12_paysLess_6 : decode cX12_paysLess 6 = .ok (.invokevirtual 379, 3) := by decide +kernel
theorem dX12_paysLess_9 : decode cX12_paysLess 9 = .ok (.aload_n 0, 1) := by decide +kernel
theorem dX12_paysLess_10 : decode cX12_paysLess 10 = .ok (.getfield 65, 3) := by decide +kernel
theorem dX12_paysLess_13 : decode cX12_paysLess 13 = .ok (.iload_n 1, 1) := by decide +kernel
theorem dX12_paysLess_14 : decode cX12_paysLess 14 = .ok (.laload, 1) := by decide +kernel
theorem dX12_paysLess_15 : decode cX12_paysLess 15 = .ok (.lstore 4, 2) := by decide +kernel
theorem dX12_paysLess_17 : decode cX12_paysLess 17 = .ok (.aload_n 0, 1) := by decide +kernel
theorem dX12_paysLess_18 : decode cX12_paysLess 18 = .ok (.getfield 361, 3) := by decide +kernel
theorem dX12_paysLess_21 : decode cX12_paysLess 21 = .ok (.lstore 6, 2) := by decide +kernel
theorem dX12_paysLess_23 : decode cX12_paysLess 23 = .ok (.aload_n 0, 1) := by decide +kernel
theorem dX12_paysLess_24 : decode cX12_paysLess 24 = .ok (.iload_n 3, 1) := by decide +kernel
theorem dX12_paysLess_25 : decode cX12_paysLess 25 = .ok (.aload_n 0, 1) := by decide +kernel
theorem dX12_paysLess_26 : decode cX12_paysLess 26 = .ok (.getfield 421, 3) := by decide +kernel
theorem dX12_paysLess_29 : decode cX12_paysLess 29 = .ok (.invokevirtual 379, 3) := by decide +kernel
theorem dX12_paysLess_32 : decode cX12_paysLess 32 = .ok (.aload_n 0, 1) := by decide +kernel
theorem dX12_paysLess_33 : decode cX12_paysLess 33 = .ok (.getfield 65, 3) := by decide +kernel
theorem dX12_paysLess_36 : decode cX12_paysLess 36 = .ok (.iload_n 1, 1) := by decide +kernel
theorem dX12_paysLess_37 : decode cX12_paysLess 37 = .ok (.laload, 1) := by decide +kernel
theorem dX12_paysLess_38 : decode cX12_paysLess 38 = .ok (.lload 6, 2) := by decide +kernel
theorem dX12_paysLess_40 : decode cX12_paysLess 40 = .ok (.lmul, 1) := by decide +kernel
theorem dX12_paysLess_41 : decode cX12_paysLess 41 = .ok (.lload 4, 2) := by decide +kernel
theorem dX12_paysLess_43 : decode cX12_paysLess 43 = .ok (.aload_n 0, 1) := by decide +kernel
theorem dX12_paysLess_44 : decode cX12_paysLess 44 = .ok (.getfield 361, 3) := by decide +kernel
theorem dX12_paysLess_47 : decode cX12_paysLess 47 = .ok (.lmul, 1) := by decide +kernel
theorem dX12_paysLess_48 : decode cX12_paysLess 48 = .ok (.lcmp, 1) := by decide +kernel
theorem dX12_paysLess_49 : decode cX12_paysLess 49 = .ok (.ifCond .ge 7, 3) := by decide +kernel
theorem dX12_paysLess_52 : decode cX12_paysLess 52 = .ok (.iconst 1, 1) := by decide +kernel
theorem dX12_paysLess_53 : decode cX12_paysLess 53 = .ok (.goto 4, 3) := by decide +kernel
theorem dX12_paysLess_56 : decode cX12_paysLess 56 = .ok (.iconst 0, 1) := by decide +kernel
theorem dX12_paysLess_57 : decode cX12_paysLess 57 = .ok (.ireturn, 1) := by decide +kernel
theorem dX12_judgeSteady_0 : decode cX12_judgeSteady 0 = .ok (.iconst 0, 1) := by decide +kernel
theorem dX12_judgeSteady_1 : decode cX12_judgeSteady 1 = .ok (.istore_n 2, 1) := by decide +kernel
theorem dX12_judgeSteady_2 : decode cX12_judgeSteady 2 = .ok (.iload_n 2, 1) := by decide +kernel
theorem dX12_judgeSteady_3 : decode cX12_judgeSteady 3 = .ok (.aload_n 0, 1) := by decide +kernel
theorem dX12_judgeSteady_4 : decode cX12_judgeSteady 4 = .ok (.getfield 297, 3) := by decide +kernel
theorem dX12_judgeSteady_7 : decode cX12_judgeSteady 7 = .ok (.if_icmp .ge 102, 3) := by decide +kernel
theorem dX12_judgeSteady_10 : decode cX12_judgeSteady 10 = .ok (.aload_n 0, 1) := by decide +kernel
theorem dX12_judgeSteady_11 : decode cX12_judgeSteady 11 = .ok (.getfield 78, 3) := by decide +kernel
theorem dX12_judgeSteady_14 : decode cX12_judgeSteady 14 = .ok (.aload_n 0, 1) := by decide +kernel
theorem dX12_judgeSteady_15 : decode cX12_judgeSteady 15 = .ok (.getfield 75, 3) := by decide +kernel
theorem dX12_judgeSteady_18 : decode cX12_judgeSteady 18 = .ok (.iload_n 2, 1) := by decide +kernel
theorem dX12_judgeSteady_19 : decode cX12_judgeSteady 19 = .ok (.iaload, 1) := by decide +kernel
theorem dX12_judgeSteady_20 : decode cX12_judgeSteady 20 = .ok (.iaload, 1) := by decide +kernel
theorem dX12_judgeSteady_21 : decode cX12_judgeSteady 21 = .ok (.istore_n 3, 1) := by decide +kernel
theorem dX12_judgeSteady_22 : decode cX12_judgeSteady 22 = .ok (.iconst 0, 1) := by decide +kernel
theorem dX12_judgeSteady_23 : decode cX12_judgeSteady 23 = .ok (.istore 4, 2) := by decide +kernel
theorem dX12_judgeSteady_25 : decode cX12_judgeSteady 25 = .ok (.iload 4, 2) := by decide +kernel
theorem dX12_judgeSteady_27 : decode cX12_judgeSteady 27 = .ok (.iload_n 1, 1) := by decide +kernel
theorem dX12_judgeSteady_28 : decode cX12_judgeSteady 28 = .ok (.if_icmp .gt 75, 3) := by decide +kernel
theorem dX12_judgeSteady_31 : decode cX12_judgeSteady 31 = .ok (.iload 4, 2) := by decide +kernel
theorem dX12_judgeSteady_33 : decode cX12_judgeSteady 33 = .ok (.iload_n 1, 1) := by decide +kernel
theorem dX12_judgeSteady_34 : decode cX12_judgeSteady 34 = .ok (.if_icmp .ne 9, 3) := by decide +kernel
theorem dX12_judgeSteady_37 : decode cX12_judgeSteady 37 = .ok (.iconst 1, 1) := by decide +kernel
theorem dX12_judgeSteady_38 : decode cX12_judgeSteady 38 = .ok (.iload_n 2, 1) := by decide +kernel
theorem dX12_judgeSteady_39 : decode cX12_judgeSteady 39 = .ok (.ishl, 1) := by decide +kernel
theorem dX12_judgeSteady_40 : decode cX12_judgeSteady 40 = .ok (.goto 14, 3) := by decide +kernel
theorem dX12_judgeSteady_43 : decode cX12_judgeSteady 43 = .ok (.aload_n 0, 1) := by decide +kernel
theorem dX12_judgeSteady_44 : decode cX12_judgeSteady 44 = .ok (.getfield 78, 3) := by decide +kernel
theorem dX12_judgeSteady_47 : decode cX12_judgeSteady 47 = .ok (.iload 4, 2) := by decide +kernel
theorem dX12_judgeSteady_49 : decode cX12_judgeSteady 49 = .ok (.iaload, 1) := by decide +kernel
theorem dX12_judgeSteady_50 : decode cX12_judgeSteady 50 = .ok (.iconst 1, 1) := by decide +kernel
theorem dX12_judgeSteady_51 : decode cX12_judgeSteady 51 = .ok (.iload_n 2, 1) := by decide +kernel
theorem dX12_judgeSteady_52 : decode cX12_judgeSteady 52 = .ok (.ishl, 1) := by decide +kernel
theorem dX12_judgeSteady_53 : decode cX12_judgeSteady 53 = .ok (.ior, 1) := by decide +kernel
theorem dX12_judgeSteady_54 : decode cX12_judgeSteady 54 = .ok (.istore 5, 2) := by decide +kernel
theorem dX12_judgeSteady_56 : decode cX12_judgeSteady 56 = .ok (.iload 4, 2) := by decide +kernel
theorem dX12_judgeSteady_58 : decode cX12_judgeSteady 58 = .ok (.aload_n 0, 1) := by decide +kernel
theorem dX12_judgeSteady_59 : decode cX12_judgeSteady 59 = .ok (.getfield 75, 3) := by decide +kernel
theorem dX12_judgeSteady_62 : decode cX12_judgeSteady 62 = .ok (.iload_n 2, 1) := by decide +kernel
theorem dX12_judgeSteady_63 : decode cX12_judgeSteady 63 = .ok (.iaload, 1) := by decide +kernel
theorem dX12_judgeSteady_64 : decode cX12_judgeSteady 64 = .ok (.if_icmp .eq 33, 3) := by decide +kernel
theorem dX12_judgeSteady_67 : decode cX12_judgeSteady 67 = .ok (.aload_n 0, 1) := by decide +kernel
theorem dX12_judgeSteady_68 : decode cX12_judgeSteady 68 = .ok (.iload 5, 2) := by decide +kernel
theorem dX12_judgeSteady_70 : decode cX12_judgeSteady 70 = .ok (.invokevirtual 341, 3) := by decide +kernel
theorem dX12_judgeSteady_73 : decode cX12_judgeSteady 73 = .ok (.aload_n 0, 1) := by decide +kernel
theorem dX12_judgeSteady_74 : decode cX12_judgeSteady 74 = .ok (.getfield 46, 3) := by decide +kernel
theorem dX12_judgeSteady_77 : decode cX12_judgeSteady 77 = .ok (.iconst 0, 1) := by decide +kernel
theorem dX12_judgeSteady_78 : decode cX12_judgeSteady 78 = .ok (.iaload, 1) := by decide +kernel
theorem dX12_judgeSteady_79 : decode cX12_judgeSteady 79 = .ok (.if_icmp .le 6, 3) := by decide +kernel
theorem dX12_judgeSteady_82 : decode cX12_judgeSteady 82 = .ok (.goto 15, 3) := by decide +kernel
theorem dX12_judgeSteady_85 : decode cX12_judgeSteady 85 = .ok (.aload_n 0, 1) := by decide +kernel
theorem dX12_judgeSteady_86 : decode cX12_judgeSteady 86 = .ok (.iload_n 2, 1) := by decide +kernel
theorem dX12_judgeSteady_87 : decode cX12_judgeSteady 87 = .ok (.iload_n 3, 1) := by decide +kernel
theorem dX12_judgeSteady_88 : decode cX12_judgeSteady 88 = .ok (.iload 5, 2) := by decide +kernel
theorem dX12_judgeSteady_90 : decode cX12_judgeSteady 90 = .ok (.invokevirtual 424, 3) := by decide +kernel
theorem dX12_judgeSteady_93 : decode cX12_judgeSteady 93 = .ok (.ifCond .eq 4, 3) := by decide +kernel
theorem dX12_judgeSteady_96 : decode cX12_judgeSteady 96 = .ok (.return_, 1) := by decide +kernel
theorem dX12_judgeSteady_97 : decode cX12_judgeSteady 97 = .ok (.iinc 4 1, 3) := by decide +kernel
theorem dX12_judgeSteady_100 : decode cX12_judgeSteady 100 = .ok (.goto (-75), 3) := by decide +kernel
theorem dX12_judgeSteady_103 : decode cX12_judgeSteady 103 = .ok (.iinc 2 1, 3) := by decide +kernel
theorem dX12_judgeSteady_106 : decode cX12_judgeSteady 106 = .ok (.goto (-104), 3) := by decide +kernel
theorem dX12_judgeSteady_109 : decode cX12_judgeSteady 109 = .ok (.aload_n 0, 1) := by decide +kernel
theorem dX12_judgeSteady_110 : decode cX12_judgeSteady 110 = .ok (.getfield 428, 3) := by decide +kernel
theorem dX12_judgeSteady_113 : decode cX12_judgeSteady 113 = .ok (.aload_n 0, 1) := by decide +kernel
theorem dX12_judgeSteady_114 : decode cX12_judgeSteady 114 = .ok (.getfield 431, 3) := by decide +kernel
theorem dX12_judgeSteady_117 : decode cX12_judgeSteady 117 = .ok (.if_icmp .ne 11, 3) := by decide +kernel
theorem dX12_judgeSteady_120 : decode cX12_judgeSteady 120 = .ok (.aload_n 0, 1) := by decide +kernel
theorem dX12_judgeSteady_121 : decode cX12_judgeSteady 121 = .ok (.aload_n 0, 1) := by decide +kernel
theorem dX12_judgeSteady_122 : decode cX12_judgeSteady 122 = .ok (.invokevirtual 418, 3) := by decide +kernel
theorem dX12_judgeSteady_125 : decode cX12_judgeSteady 125 = .ok (.putfield 434, 3) := by decide +kernel
theorem dX12_judgeSteady_128 : decode cX12_judgeSteady 128 = .ok (.aload_n 0, 1) := by decide +kernel
theorem dX12_judgeSteady_129 : decode cX12_judgeSteady 129 = .ok (.dup, 1) := by decide +kernel
theorem dX12_judgeSteady_130 : decode cX12_judgeSteady 130 = .ok (.getfield 428, 3) := by decide +kernel
theorem dX12_judgeSteady_133 : decode cX12_judgeSteady 133 = .ok (.iconst 1, 1) := by decide +kernel
theorem dX12_judgeSteady_134 : decode cX12_judgeSteady 134 = .ok (.iadd, 1) := by decide +kernel
theorem dX12_judgeSteady_135 : decode cX12_judgeSteady 135 = .ok (.putfield 428, 3) := by decide +kernel
theorem dX12_judgeSteady_138 : decode cX12_judgeSteady 138 = .ok (.return_, 1) := by decide +kernel
theorem dX12_beginCoaches_0 : decode cX12_beginCoaches 0 = .ok (.iconst 0, 1) := by decide +kernel
theorem dX12_beginCoaches_1 : decode cX12_beginCoaches 1 = .ok (.istore_n 1, 1) := by decide +kernel
theorem dX12_beginCoaches_2 : decode cX12_beginCoaches 2 = .ok (.iload_n 1, 1) := by decide +kernel
theorem dX12_beginCoaches_3 : decode cX12_beginCoaches 3 = .ok (.bipush 6, 2) := by decide +kernel
theorem dX12_beginCoaches_5 : decode cX12_beginCoaches 5 = .ok (.if_icmp .gt 16, 3) := by decide +kernel
theorem dX12_beginCoaches_8 : decode cX12_beginCoaches 8 = .ok (.aload_n 0, 1) := by decide +kernel
theorem dX12_beginCoaches_9 : decode cX12_beginCoaches 9 = .ok (.getfield 78, 3) := by decide +kernel
theorem dX12_beginCoaches_12 : decode cX12_beginCoaches 12 = .ok (.iload_n 1, 1) := by decide +kernel
theorem dX12_beginCoaches_13 : decode cX12_beginCoaches 13 = .ok (.iconst 0, 1) := by decide +kernel
theorem dX12_beginCoaches_14 : decode cX12_beginCoaches 14 = .ok (.iastore, 1) := by decide +kernel
theorem dX12_beginCoaches_15 : decode cX12_beginCoaches 15 = .ok (.iinc 1 1, 3) := by decide +kernel
theorem dX12_beginCoaches_18 : decode cX12_beginCoaches 18 = .ok (.goto (-16), 3) := by decide +kernel
theorem dX12_beginCoaches_21 : decode cX12_beginCoaches 21 = .ok (.return_, 1) := by decide +kernel
theorem dX12_coaches_0 : decode cX12_coaches 0 = .ok (.aload_n 0, 1) := by decide +kernel
theorem dX12_coaches_1 : decode cX12_coaches 1 = .ok (.iconst 0, 1) := by decide +kernel
theorem dX12_coaches_2 : decode cX12_coaches 2 = .ok (.putfield 108, 3) := by decide +kernel
theorem dX12_coaches_5 : decode cX12_coaches 5 = .ok (.aload_n 0, 1) := by decide +kernel
theorem dX12_coaches_6 : decode cX12_coaches 6 = .ok (.getfield 297, 3) := by decide +kernel
theorem dX12_coaches_9 : decode cX12_coaches 9 = .ok (.ifCond .eq 13, 3) := by decide +kernel
theorem dX12_coaches_12 : decode cX12_coaches 12 = .ok (.iload_n 1, 1) := by decide +kernel
theorem dX12_coaches_13 : decode cX12_coaches 13 = .ok (.i2l, 1) := by decide +kernel
theorem dX12_coaches_14 : decode cX12_coaches 14 = .ok (.lconst 0, 1) := by decide +kernel
theorem dX12_coaches_15 : decode cX12_coaches 15 = .ok (.lconst 1, 1) := by decide +kernel
theorem dX12_coaches_16 : decode cX12_coaches 16 = .ok (.invokestatic 236, 3) := by decide +kernel
theorem dX12_coaches_19 : decode cX12_coaches 19 = .ok (.ifCond .ne 5, 3) := by decide +kernel
theorem dX12_coaches_22 : decode cX12_coaches 22 = .ok (.iconst (-1), 1) := by decide +kernel
theorem dX12_coaches_23 : decode cX12_coaches 23 = .ok (.ireturn, 1) := by decide +kernel
theorem dX12_coaches_24 : decode cX12_coaches 24 = .ok (.iconst 0, 1) := by decide +kernel
theorem dX12_coaches_25 : decode cX12_coaches 25 = .ok (.istore_n 2, 1) := by decide +kernel
theorem dX12_coaches_26 : decode cX12_coaches 26 = .ok (.iload_n 2, 1) := by decide +kernel
theorem dX12_coaches_27 : decode cX12_coaches 27 = .ok (.aload_n 0, 1) := by decide +kernel
theorem dX12_coaches_28 : decode cX12_coaches 28 = .ok (.getfield 297, 3) := by decide +kernel
theorem dX12_coaches_31 : decode cX12_coaches 31 = .ok (.if_icmp .ge 19, 3) := by decide +kernel
theorem dX12_coaches_34 : decode cX12_coaches 34 = .ok (.aload_n 0, 1) := by decide +kernel
theorem dX12_coaches_35 : decode cX12_coaches 35 = .ok (.iload_n 2, 1) := by decide +kernel
theorem dX12_coaches_36 : decode cX12_coaches 36 = .ok (.invokevirtual 437, 3) := by decide +kernel
theorem dX12_coaches_39 : decode cX12_coaches 39 = .ok (.ifCond .ne 5, 3) := by decide +kernel
theorem dX12_coaches_42 : decode cX12_coaches 42 = .ok (.iconst (-1), 1) := by decide +kernel
theorem dX12_coaches_43 : decode cX12_coaches 43 = .ok (.ireturn, 1) := by decide +kernel
theorem dX12_coaches_44 : decode cX12_coaches 44 = .ok (.iinc 2 1, 3) := by decide +kernel
theorem dX12_coaches_47 : decode cX12_coaches 47 = .ok (.goto (-21), 3) := by decide +kernel
theorem dX12_coaches_50 : decode cX12_coaches 50 = .ok (.aload_n 0, 1) := by decide +kernel
theorem dX12_coaches_51 : decode cX12_coaches 51 = .ok (.invokevirtual 440, 3) := by decide +kernel
theorem dX12_coaches_54 : decode cX12_coaches 54 = .ok (.aload_n 0, 1) := by decide +kernel
theorem dX12_coaches_55 : decode cX12_coaches 55 = .ok (.iconst (-1), 1) := by decide +kernel
theorem dX12_coaches_56 : decode cX12_coaches 56 = .ok (.putfield 399, 3) := by decide +kernel
theorem dX12_coaches_59 : decode cX12_coaches 59 = .ok (.aload_n 0, 1) := by decide +kernel
theorem dX12_coaches_60 : decode cX12_coaches 60 = .ok (.iconst 0, 1) := by decide +kernel
theorem dX12_coaches_61 : decode cX12_coaches 61 = .ok (.iconst 0, 1) := by decide +kernel
theorem dX12_coaches_62 : decode cX12_coaches 62 = .ok (.iconst 0, 1) := by decide +kernel
theorem dX12_coaches_63 : decode cX12_coaches 63 = .ok (.invokevirtual 414, 3) := by decide +kernel
theorem dX12_coaches_66 : decode cX12_coaches 66 = .ok (.iload_n 1, 1) := by decide +kernel
theorem dX12_coaches_67 : decode cX12_coaches 67 = .ok (.ifCond .ne 10, 3) := by decide +kernel
theorem dX12_coaches_70 : decode cX12_coaches 70 = .ok (.aload_n 0, 1) := by decide +kernel
theorem dX12_coaches_71 : decode cX12_coaches 71 = .ok (.getfield 399, 3) := by decide +kernel
theorem dX12_coaches_74 : decode cX12_coaches 74 = .ok (.goto 7, 3) := by decide +kernel
theorem dX12_coaches_77 : decode cX12_coaches 77 = .ok (.aload_n 0, 1) := by decide +kernel
theorem dX12_coaches_78 : decode cX12_coaches 78 = .ok (.getfield 402, 3) := by decide +kernel
theorem dX12_coaches_81 : decode cX12_coaches 81 = .ok (.ireturn, 1) := by decide +kernel
theorem dX12_steady_0 : decode cX12_steady 0 = .ok (.aload_n 0, 1) := by decide +kernel
theorem dX12_steady_1 : decode cX12_steady 1 = .ok (.iconst 0, 1) := by decide +kernel
theorem dX12_steady_2 : decode cX12_steady 2 = .ok (.putfield 108, 3) := by decide +kernel
theorem dX12_steady_5 : decode cX12_steady 5 = .ok (.aload_n 0, 1) := by decide +kernel
theorem dX12_steady_6 : decode cX12_steady 6 = .ok (.iload_n 1, 1) := by decide +kernel
theorem dX12_steady_7 : decode cX12_steady 7 = .ok (.invokevirtual 374, 3) := by decide +kernel
theorem dX12_steady_10 : decode cX12_steady 10 = .ok (.ifCond .eq 8, 3) := by decide +kernel
theorem dX12_steady_13 : decode cX12_steady 13 = .ok (.iload_n 2, 1) := by decide +kernel
theorem dX12_steady_14 : decode cX12_steady 14 = .ok (.iconst (-1), 1) := by decide +kernel
theorem dX12_steady_15 : decode cX12_steady 15 = .ok (.if_icmp .ge 5, 3) := by decide +kernel
theorem dX12_steady_18 : decode cX12_steady 18 = .ok (.iconst (-1), 1) := by decide +kernel
theorem dX12_steady_19 : decode cX12_steady 19 = .ok (.ireturn, 1) := by decide +kernel
theorem dX12_steady_20 : decode cX12_steady 20 = .ok (.aload_n 0, 1) := by decide +kernel
theorem dX12_steady_21 : decode cX12_steady 21 = .ok (.invokevirtual 440, 3) := by decide +kernel
theorem dX12_steady_24 : decode cX12_steady 24 = .ok (.aload_n 0, 1) := by decide +kernel
theorem dX12_steady_25 : decode cX12_steady 25 = .ok (.iload_n 1, 1) := by decide +kernel
theorem dX12_steady_26 : decode cX12_steady 26 = .ok (.putfield 421, 3) := by decide +kernel
theorem dX12_steady_29 : decode cX12_steady 29 = .ok (.aload_n 0, 1) := by decide +kernel
theorem dX12_steady_30 : decode cX12_steady 30 = .ok (.iload_n 2, 1) := by decide +kernel
theorem dX12_steady_31 : decode cX12_steady 31 = .ok (.putfield 431, 3) := by decide +kernel
theorem dX12_steady_34 : decode cX12_steady 34 = .ok (.aload_n 0, 1) := by decide +kernel
theorem dX12_steady_35 : decode cX12_steady 35 = .ok (.iconst 0, 1) := by decide +kernel
theorem dX12_steady_36 : decode cX12_steady 36 = .ok (.putfield 428, 3) := by decide +kernel
theorem dX12_steady_39 : decode cX12_steady 39 = .ok (.aload_n 0, 1) := by decide +kernel
theorem dX12_steady_40 : decode cX12_steady 40 = .ok (.iconst (-1), 1) := by decide +kernel
theorem dX12_steady_41 : decode cX12_steady 41 = .ok (.putfield 434, 3) := by decide +kernel
theorem dX12_steady_44 : decode cX12_steady 44 = .ok (.aload_n 0, 1) := by decide +kernel
theorem dX12_steady_45 : decode cX12_steady 45 = .ok (.iconst 0, 1) := by decide +kernel
theorem dX12_steady_46 : decode cX12_steady 46 = .ok (.iconst 0, 1) := by decide +kernel
theorem dX12_steady_47 : decode cX12_steady 47 = .ok (.iconst 1, 1) := by decide +kernel
theorem dX12_steady_48 : decode cX12_steady 48 = .ok (.invokevirtual 414, 3) := by decide +kernel
theorem dX12_steady_51 : decode cX12_steady 51 = .ok (.iload_n 2, 1) := by decide +kernel
theorem dX12_steady_52 : decode cX12_steady 52 = .ok (.iconst (-1), 1) := by decide +kernel
theorem dX12_steady_53 : decode cX12_steady 53 = .ok (.if_icmp .ne 10, 3) := by decide +kernel
theorem dX12_steady_56 : decode cX12_steady 56 = .ok (.aload_n 0, 1) := by decide +kernel
theorem dX12_steady_57 : decode cX12_steady 57 = .ok (.getfield 428, 3) := by decide +kernel
theorem dX12_steady_60 : decode cX12_steady 60 = .ok (.goto 7, 3) := by decide +kernel
theorem dX12_steady_63 : decode cX12_steady 63 = .ok (.aload_n 0, 1) := by decide +kernel
theorem dX12_steady_64 : decode cX12_steady 64 = .ok (.getfield 434, 3) := by decide +kernel
theorem dX12_steady_67 : decode cX12_steady 67 = .ok (.ireturn, 1) := by decide +kernel
theorem dX12_left_0 : decode cX12_left 0 = .ok (.aload_n 0, 1) := by decide +kernel
theorem dX12_left_1 : decode cX12_left 1 = .ok (.iconst 0, 1) := by decide +kernel
theorem dX12_left_2 : decode cX12_left 2 = .ok (.putfield 108, 3) := by decide +kernel
theorem dX12_left_5 : decode cX12_left 5 = .ok (.aload_n 0, 1) := by decide +kernel
theorem dX12_left_6 : decode cX12_left 6 = .ok (.iload_n 1, 1) := by decide +kernel
theorem dX12_left_7 : decode cX12_left 7 = .ok (.invokevirtual 374, 3) := by decide +kernel
theorem dX12_left_10 : decode cX12_left 10 = .ok (.ifCond .ne 5, 3) := by decide +kernel
theorem dX12_left_13 : decode cX12_left 13 = .ok (.iconst (-1), 1) := by decide +kernel
theorem dX12_left_14 : decode cX12_left 14 = .ok (.ireturn, 1) := by decide +kernel
theorem dX12_left_15 : decode cX12_left 15 = .ok (.aload_n 0, 1) := by decide +kernel
theorem dX12_left_16 : decode cX12_left 16 = .ok (.invokevirtual 386, 3) := by decide +kernel
theorem dX12_left_19 : decode cX12_left 19 = .ok (.istore_n 2, 1) := by decide +kernel
theorem dX12_left_20 : decode cX12_left 20 = .ok (.iconst 1, 1) := by decide +kernel
theorem dX12_left_21 : decode cX12_left 21 = .ok (.istore_n 3, 1) := by decide +kernel
theorem dX12_left_22 : decode cX12_left 22 = .ok (.iload_n 3, 1) := by decide +kernel
theorem dX12_left_23 : decode cX12_left 23 = .ok (.ifCond .eq 102, 3) := by decide +kernel
theorem dX12_left_26 : decode cX12_left 26 = .ok (.iload_n 2, 1) := by decide +kernel
theorem dX12_left_27 : decode cX12_left 27 = .ok (.ifCond .eq 98, 3) := by decide +kernel
theorem dX12_left_30 : decode cX12_left 30 = .ok (.aload_n 0, 1) := by decide +kernel
theorem dX12_left_31 : decode cX12_left 31 = .ok (.iload_n 2, 1) := by decide +kernel
theorem dX12_left_32 : decode cX12_left 32 = .ok (.iload_n 1, 1) := by decide +kernel
theorem dX12_left_33 : decode cX12_left 33 = .ok (.invokevirtual 379, 3) := by decide +kernel
theorem dX12_left_36 : decode cX12_left 36 = .ok (.iconst 0, 1) := by decide +kernel
theorem dX12_left_37 : decode cX12_left 37 = .ok (.istore 4, 2) := by decide +kernel
theorem dX12_left_39 : decode cX12_left 39 = .ok (.iconst 0, 1) := by decide +kernel
theorem dX12_left_40 : decode cX12_left 40 = .ok (.istore 5, 2) := by decide +kernel
theorem dX12_left_42 : decode cX12_left 42 = .ok (.iload 5, 2) := by decide +kernel
theorem dX12_left_44 : decode cX12_left 44 = .ok (.aload_n 0, 1) := by decide +kernel
theorem dX12_left_45 : decode cX12_left 45 = .ok (.getfield 297, 3) := by decide +kernel
theorem dX12_left_48 : decode cX12_left 48 = .ok (.if_icmp .ge 59, 3) := by decide +kernel
theorem dX12_left_51 : decode cX12_left 51 = .ok (.iload 4, 2) := by decide +kernel
theorem dX12_left_53 : decode cX12_left 53 = .ok (.iload_n 2, 1) := by decide +kernel
theorem dX12_left_54 : decode cX12_left 54 = .ok (.iload 5, 2) := by decide +kernel
theorem dX12_left_56 : decode cX12_left 56 = .ok (.invokestatic 263, 3) := by decide +kernel
theorem dX12_left_59 : decode cX12_left 59 = .ok (.ifCond .eq 38, 3) := by decide +kernel
theorem dX12_left_62 : decode cX12_left 62 = .ok (.aload_n 0, 1) := by decide +kernel
theorem dX12_left_63 : decode cX12_left 63 = .ok (.getfield 65, 3) := by decide +kernel
theorem dX12_left_66 : decode cX12_left 66 = .ok (.iload 5, 2) := by decide +kernel
theorem dX12_left_68 : decode cX12_left 68 = .ok (.laload, 1) := by decide +kernel
theorem dX12_left_69 : decode cX12_left 69 = .ok (.aload_n 0, 1) := by decide +kernel
theorem dX12_left_70 : decode cX12_left 70 = .ok (.getfield 43, 3) := by decide +kernel
theorem dX12_left_73 : decode cX12_left 73 = .ok (.iconst 3, 1) := by decide +kernel
theorem dX12_left_74 : decode cX12_left 74 = .ok (.iload 5, 2) := by decide +kernel
theorem dX12_left_76 : decode cX12_left 76 = .ok (.imul, 1) := by decide +kernel
theorem dX12_left_77 : decode cX12_left 77 = .ok (.iconst 1, 1) := by decide +kernel
theorem dX12_left_78 : decode cX12_left 78 = .ok (.iadd, 1) := by decide +kernel
theorem dX12_left_79 : decode cX12_left 79 = .ok (.iaload, 1) := by decide +kernel
theorem dX12_left_80 : decode cX12_left 80 = .ok (.i2l, 1) := by decide +kernel
theorem dX12_left_81 : decode cX12_left 81 = .ok (.aload_n 0, 1) := by decide +kernel
theorem dX12_left_82 : decode cX12_left 82 = .ok (.getfield 361, 3) := by decide +kernel
theorem dX12_left_85 : decode cX12_left 85 = .ok (.lmul, 1) := by decide +kernel
theorem dX12_left_86 : decode cX12_left 86 = .ok (.lcmp, 1) := by decide +kernel
theorem dX12_left_87 : decode cX12_left 87 = .ok (.ifCond .gt 10, 3) := by decide +kernel
theorem dX12_left_90 : decode cX12_left 90 = .ok (.iconst 1, 1) := by decide +kernel
theorem dX12_left_91 : decode cX12_left 91 = .ok (.iload 5, 2) := by decide +kernel
theorem dX12_left_93 : decode cX12_left 93 = .ok (.ishl, 1) := by decide +kernel
theorem dX12_left_94 : decode cX12_left 94 = .ok (.goto 4, 3) := by decide +kernel
theorem dX12_left_97 : decode cX12_left 97 = .ok (.iconst 0, 1) := by decide +kernel
theorem dX12_left_98 : decode cX12_left 98 = .ok (.ior, 1) := by decide +kernel
theorem dX12_left_99 : decode cX12_left 99 = .ok (.istore 4, 2) := by decide +kernel
theorem dX12_left_101 : decode cX12_left 101 = .ok (.iinc 5 1, 3) := by decide +kernel
theorem dX12_left_104 : decode cX12_left 104 = .ok (.goto (-62), 3) := by decide +kernel
theorem dX12_left_107 : decode cX12_left 107 = .ok (.iload 4, 2) := by decide +kernel
theorem dX12_left_109 : decode cX12_left 109 = .ok (.iload_n 2, 1) := by decide +kernel
theorem dX12_left_110 : decode cX12_left 110 = .ok (.if_icmp .eq 7, 3) := by decide +kernel
theorem dX12_left_113 : decode cX12_left 113 = .ok (.iconst 1, 1) := by decide +kernel
theorem dX12_left_114 : decode cX12_left 114 = .ok (.goto 4, 3) := by decide +kernel
theorem dX12_left_117 : decode cX12_left 117 = .ok (.iconst 0, 1) := by decide +kernel
theorem dX12_left_118 : decode cX12_left 118 = .ok (.istore_n 3, 1) := by decide +kernel
theorem dX12_left_119 : decode cX12_left 119 = .ok (.iload 4, 2) := by decide +kernel
theorem dX12_left_121 : decode cX12_left 121 = .ok (.istore_n 2, 1) := by decide +kernel
theorem dX12_left_122 : decode cX12_left 122 = .ok (.goto (-100), 3) := by decide +kernel
theorem dX12_left_125 : decode cX12_left 125 = .ok (.iload_n 2, 1) := by decide +kernel
theorem dX12_left_126 : decode cX12_left 126 = .ok (.ireturn, 1) := by decide +kernel
theorem dX12_lie_0 : decode cX12_lie 0 = .ok (.aload_n 0, 1) := by decide +kernel
theorem dX12_lie_1 : decode cX12_lie 1 = .ok (.iconst 0, 1) := by decide +kernel
theorem dX12_lie_2 : decode cX12_lie 2 = .ok (.putfield 108, 3) := by decide +kernel
theorem dX12_lie_5 : decode cX12_lie 5 = .ok (.aload_n 0, 1) := by decide +kernel
theorem dX12_lie_6 : decode cX12_lie 6 = .ok (.iload_n 1, 1) := by decide +kernel
theorem dX12_lie_7 : decode cX12_lie 7 = .ok (.invokevirtual 320, 3) := by decide +kernel
theorem dX12_lie_10 : decode cX12_lie 10 = .ok (.ifCond .eq 23, 3) := by decide +kernel
theorem dX12_lie_13 : decode cX12_lie 13 = .ok (.aload_n 0, 1) := by decide +kernel
theorem dX12_lie_14 : decode cX12_lie 14 = .ok (.iload_n 2, 1) := by decide +kernel
theorem dX12_lie_15 : decode cX12_lie 15 = .ok (.invokevirtual 374, 3) := by decide +kernel
theorem dX12_lie_18 : decode cX12_lie 18 = .ok (.ifCond .eq 15, 3) := by decide +kernel
theorem dX12_lie_21 : decode cX12_lie 21 = .ok (.iload_n 3, 1) := by decide +kernel
theorem dX12_lie_22 : decode cX12_lie 22 = .ok (.i2l, 1) := by decide +kernel
theorem dX12_lie_23 : decode cX12_lie 23 = .ok (.lconst 0, 1) := by decide +kernel
theorem dX12_lie_24 : decode cX12_lie 24 = .ok (.ldc2_w 339, 3) := by decide +kernel
theorem dX12_lie_27 : decode cX12_lie 27 = .ok (.invokestatic 236, 3) := by decide +kernel
theorem dX12_lie_30 : decode cX12_lie 30 = .ok (.ifCond .ne 7, 3) := by decide +kernel
theorem dX12_lie_33 : decode cX12_lie 33 = .ok (.ldc2_w 377, 3) := by decide +kernel
theorem dX12_lie_36 : decode cX12_lie 36 = .ok (.lreturn, 1) := by decide +kernel
theorem dX12_lie_37 : decode cX12_lie 37 = .ok (.aload_n 0, 1) := by decide +kernel
theorem dX12_lie_38 : decode cX12_lie 38 = .ok (.getfield 43, 3) := by decide +kernel
theorem dX12_lie_41 : decode cX12_lie 41 = .ok (.iconst 3, 1) := by decide +kernel
theorem dX12_lie_42 : decode cX12_lie 42 = .ok (.iload_n 1, 1) := by decide +kernel
theorem dX12_lie_43 : decode cX12_lie 43 = .ok (.imul, 1) := by decide +kernel
theorem dX12_lie_44 : decode cX12_lie 44 = .ok (.iaload, 1) := by decide +kernel
theorem dX12_lie_45 : decode cX12_lie 45 = .ok (.istore 4, 2) := by decide +kernel
theorem dX12_lie_47 : decode cX12_lie 47 = .ok (.aload_n 0, 1) := by decide +kernel
theorem dX12_lie_48 : decode cX12_lie 48 = .ok (.aload_n 0, 1) := by decide +kernel
theorem dX12_lie_49 : decode cX12_lie 49 = .ok (.invokevirtual 386, 3) := by decide +kernel
theorem dX12_lie_52 : decode cX12_lie 52 = .ok (.iload_n 2, 1) := by decide +kernel
theorem dX12_lie_53 : decode cX12_lie 53 = .ok (.invokevirtual 379, 3) := by decide +kernel
theorem dX12_lie_56 : decode cX12_lie 56 = .ok (.aload_n 0, 1) := by decide +kernel
theorem dX12_lie_57 : decode cX12_lie 57 = .ok (.getfield 65, 3) := by decide +kernel
theorem dX12_lie_60 : decode cX12_lie 60 = .ok (.iload_n 1, 1) := by decide +kernel
theorem dX12_lie_61 : decode cX12_lie 61 = .ok (.laload, 1) := by decide +kernel
theorem dX12_lie_62 : decode cX12_lie 62 = .ok (.lstore 5, 2) := by decide +kernel
theorem dX12_lie_64 : decode cX12_lie 64 = .ok (.aload_n 0, 1) := by decide +kernel
theorem dX12_lie_65 : decode cX12_lie 65 = .ok (.getfield 361, 3) := by decide +kernel
theorem dX12_lie_68 : decode cX12_lie 68 = .ok (.lstore 7, 2) := by decide +kernel
theorem dX12_lie_70 : decode cX12_lie 70 = .ok (.iload 4, 2) := by decide +kernel
theorem dX12_lie_72 : decode cX12_lie 72 = .ok (.istore 9, 2) := by decide +kernel
theorem dX12_lie_74 : decode cX12_lie 74 = .ok (.lload 5, 2) := by decide +kernel
theorem dX12_lie_76 : decode cX12_lie 76 = .ok (.lstore 10, 2) := by decide +kernel
theorem dX12_lie_78 : decode cX12_lie 78 = .ok (.lload 7, 2) := by decide +kernel
theorem dX12_lie_80 : decode cX12_lie 80 = .ok (.lstore 12, 2) := by decide +kernel
theorem dX12_lie_82 : decode cX12_lie 82 = .ok (.iconst 1, 1) := by decide +kernel
theorem dX12_lie_83 : decode cX12_lie 83 = .ok (.istore 14, 2) := by decide +kernel
theorem dX12_lie_85 : decode cX12_lie 85 = .ok (.iload 14, 2) := by decide +kernel
theorem dX12_lie_87 : decode cX12_lie 87 = .ok (.aload_n 0, 1) := by decide +kernel
theorem dX12_lie_88 : decode cX12_lie 88 = .ok (.getfield 294, 3) := by decide +kernel
theorem dX12_lie_91 : decode cX12_lie 91 = .ok (.if_icmp .gt 90, 3) := by decide +kernel
theorem dX12_lie_94 : decode cX12_lie 94 = .ok (.aload_n 0, 1) := by decide +kernel
theorem dX12_lie_95 : decode cX12_lie 95 = .ok (.getfield 43, 3) := by decide +kernel
theorem dX12_lie_98 : decode cX12_lie 98 = .ok (.iconst 3, 1) := by decide +kernel
theorem dX12_lie_99 : decode cX12_lie 99 = .ok (.iload_n 1, 1) := by decide +kernel
theorem dX12_lie_100 : decode cX12_lie 100 = .ok (.imul, 1) := by decide +kernel
theorem dX12_lie_101 : decode cX12_lie 101 = .ok (.iload 14, 2) := by decide +kernel
theorem dX12_lie_103 : decode cX12_lie 103 = .ok (.iastore, 1) := by decide +kernel
theorem dX12_lie_104 : decode cX12_lie 104 = .ok (.aload_n 0, 1) := by decide +kernel
theorem dX12_lie_105 : decode cX12_lie 105 = .ok (.aload_n 0, 1) := by decide +kernel
theorem dX12_lie_106 : decode cX12_lie 106 = .ok (.invokevirtual 386, 3) := by decide +kernel
theorem dX12_lie_109 : decode cX12_lie 109 = .ok (.iload_n 2, 1) := by decide +kernel
theorem dX12_lie_110 : decode cX12_lie 110 = .ok (.invokevirtual 379, 3) := by decide +kernel
theorem dX12_lie_113 : decode cX12_lie 113 = .ok (.aload_n 0, 1) := by decide +kernel
theorem dX12_lie_114 : decode cX12_lie 114 = .ok (.getfield 65, 3) := by decide +kernel
theorem dX12_lie_117 : decode cX12_lie 117 = .ok (.iload_n 1, 1) := by decide +kernel
theorem dX12_lie_118 : decode cX12_lie 118 = .ok (.laload, 1) := by decide +kernel
theorem dX12_lie_119 : decode cX12_lie 119 = .ok (.aload_n 0, 1) := by decide +kernel
theorem dX12_lie_120 : decode cX12_lie 120 = .ok (.getfield 61, 3) := by decide +kernel
theorem dX12_lie_123 : decode cX12_lie 123 = .ok (.i2l, 1) := by decide +kernel
theorem dX12_lie_124 : decode cX12_lie 124 = .ok (.aload_n 0, 1) := by decide +kernel
theorem dX12_lie_125 : decode cX12_lie 125 = .ok (.iload 14, 2) := by decide +kernel
theorem dX12_lie_127 : decode cX12_lie 127 = .ok (.iload 4, 2) := by decide +kernel
theorem dX12_lie_129 : decode cX12_lie 129 = .ok (.invokevirtual 331, 3) := by decide +kernel
theorem dX12_lie_132 : decode cX12_lie 132 = .ok (.i2l, 1) := by decide +kernel
theorem dX12_lie_133 : decode cX12_lie 133 = .ok (.lmul, 1) := by decide +kernel
theorem dX12_lie_134 : decode cX12_lie 134 = .ok (.aload_n 0, 1) := by decide +kernel
theorem dX12_lie_135 : decode cX12_lie 135 = .ok (.getfield 361, 3) := by decide +kernel
theorem dX12_lie_138 : decode cX12_lie 138 = .ok (.lmul, 1) := by decide +kernel
theorem dX12_lie_139 : decode cX12_lie 139 = .ok (.ladd, 1) := by decide +kernel
theorem dX12_lie_140 : decode cX12_lie 140 = .ok (.lstore 15, 2) := by decide +kernel
theorem dX12_lie_142 : decode cX12_lie 142 = .ok (.lload 15, 2) := by decide +kernel
theorem dX12_lie_144 : decode cX12_lie 144 = .ok (.lload 12, 2) := by decide +kernel
theorem dX12_lie_146 : decode cX12_lie 146 = .ok (.lmul, 1) := by decide +kernel
theorem dX12_lie_147 : decode cX12_lie 147 = .ok (.lload 10, 2) := by decide +kernel
theorem dX12_lie_149 : decode cX12_lie 149 = .ok (.aload_n 0, 1) := by decide +kernel
theorem dX12_lie_150 : decode cX12_lie 150 = .ok (.getfield 361, 3) := by decide +kernel
theorem dX12_lie_153 : decode cX12_lie 153 = .ok (.lmul, 1) := by decide +kernel
theorem dX12_lie_154 : decode cX12_lie 154 = .ok (.lcmp, 1) := by decide +kernel
theorem dX12_lie_155 : decode cX12_lie 155 = .ok (.ifCond .lt 6, 3) := by decide +kernel
theorem dX12_lie_158 : decode cX12_lie 158 = .ok (.goto 17, 3) := by decide +kernel
theorem dX12_lie_161 : decode cX12_lie 161 = .ok (.iload 14, 2) := by decide +kernel
theorem dX12_lie_163 : decode cX12_lie 163 = .ok (.istore 9, 2) := by decide +kernel
theorem dX12_lie_165 : decode cX12_lie 165 = .ok (.lload 15, 2) := by decide +kernel
theorem dX12_lie_167 : decode cX12_lie 167 = .ok (.lstore 10, 2) := by decide +kernel
theorem dX12_lie_169 : decode cX12_lie 169 = .ok (.aload_n 0, 1) := by decide +kernel
theorem dX12_lie_170 : decode cX12_lie 170 = .ok (.getfield 361, 3) := by decide +kernel
theorem dX12_lie_173 : decode cX12_lie 173 = .ok (.lstore 12, 2) := by decide +kernel
theorem dX12_lie_175 : decode cX12_lie 175 = .ok (.iinc 14 1, 3) := by decide +kernel
theorem dX12_lie_178 : decode cX12_lie 178 = .ok (.goto (-93), 3) := by decide +kernel
theorem dX12_lie_181 : decode cX12_lie 181 = .ok (.aload_n 0, 1) := by decide +kernel
theorem dX12_lie_182 : decode cX12_lie 182 = .ok (.getfield 43, 3) := by decide +kernel
theorem dX12_lie_185 : decode cX12_lie 185 = .ok (.iconst 3, 1) := by decide +kernel
theorem dX12_lie_186 : decode cX12_lie 186 = .ok (.iload_n 1, 1) := by decide +kernel
theorem dX12_lie_187 : decode cX12_lie 187 = .ok (.imul, 1) := by decide +kernel
theorem dX12_lie_188 : decode cX12_lie 188 = .ok (.iload 4, 2) := by decide +kernel
theorem dX12_lie_190 : decode cX12_lie 190 = .ok (.iastore, 1) := by decide +kernel
theorem dX12_lie_191 : decode cX12_lie 191 = .ok (.iload_n 3, 1) := by decide +kernel
theorem dX12_lie_192 : decode cX12_lie 192 = .ok (.ifCond .ne 9, 3) := by decide +kernel
theorem dX12_lie_195 : decode cX12_lie 195 = .ok (.iload 9, 2) := by decide +kernel
theorem dX12_lie_197 : decode cX12_lie 197 = .ok (.i2l, 1) := by decide +kernel
theorem dX12_lie_198 : decode cX12_lie 198 = .ok (.goto 25, 3) := by decide +kernel
theorem dX12_lie_201 : decode cX12_lie 201 = .ok (.lload 5, 2) := by decide +kernel
theorem dX12_lie_203 : decode cX12_lie 203 = .ok (.lload 12, 2) := by decide +kernel
theorem dX12_lie_205 : decode cX12_lie 205 = .ok (.lmul, 1) := by decide +kernel
theorem dX12_lie_206 : decode cX12_lie 206 = .ok (.lload 10, 2) := by decide +kernel
theorem dX12_lie_208 : decode cX12_lie 208 = .ok (.lload 7, 2) := by decide +kernel
theorem dX12_lie_210 : decode cX12_lie 210 = .ok (.lmul, 1) := by decide +kernel
theorem dX12_lie_211 : decode cX12_lie 211 = .ok (.lsub, 1) := by decide +kernel
theorem dX12_lie_212 : decode cX12_lie 212 = .ok (.lload 7, 2) := by decide +kernel
theorem dX12_lie_214 : decode cX12_lie 214 = .ok (.lload 12, 2) := by decide +kernel
theorem dX12_lie_216 : decode cX12_lie 216 = .ok (.lmul, 1) := by decide +kernel
theorem dX12_lie_217 : decode cX12_lie 217 = .ok (.iload_n 3, 1) := by decide +kernel
theorem dX12_lie_218 : decode cX12_lie 218 = .ok (.iconst 1, 1) := by decide +kernel
theorem dX12_lie_219 : decode cX12_lie 219 = .ok (.isub, 1) := by decide +kernel
theorem dX12_lie_220 : decode cX12_lie 220 = .ok (.invokestatic 382, 3) := by decide +kernel
theorem dX12_lie_223 : decode cX12_lie 223 = .ok (.lreturn, 1) := by decide +kernel
theorem dX12_bridge_0 : decode cX12_bridge 0 = .ok (.aload_n 0, 1) := by decide +kernel
theorem dX12_bridge_1 : decode cX12_bridge 1 = .ok (.iconst 0, 1) := by decide +kernel
theorem dX12_bridge_2 : decode cX12_bridge 2 = .ok (.putfield 108, 3) := by decide +kernel
theorem dX12_bridge_5 : decode cX12_bridge 5 = .ok (.aload_n 0, 1) := by decide +kernel
theorem dX12_bridge_6 : decode cX12_bridge 6 = .ok (.getfield 297, 3) := by decide +kernel
theorem dX12_bridge_9 : decode cX12_bridge 9 = .ok (.ifCond .eq 13, 3) := by decide +kernel
theorem dX12_bridge_12 : decode cX12_bridge 12 = .ok (.iload_n 1, 1) := by decide +kernel
theorem dX12_bridge_13 : decode cX12_bridge 13 = .ok (.i2l, 1) := by decide +kernel
theorem dX12_bridge_14 : decode cX12_bridge 14 = .ok (.lconst 0, 1) := by decide +kernel
theorem dX12_bridge_15 : decode cX12_bridge 15 = .ok (.lconst 1, 1) := by decide +kernel
theorem dX12_bridge_16 : decode cX12_bridge 16 = .ok (.invokestatic 236, 3) := by decide +kernel
theorem dX12_bridge_19 : decode cX12_bridge 19 = .ok (.ifCond .ne 5, 3) := by decide +kernel
theorem dX12_bridge_22 : decode cX12_bridge 22 = .ok (.iconst (-1), 1) := by decide +kernel
theorem dX12_bridge_23 : decode cX12_bridge 23 = .ok (.ireturn, 1) := by decide +kernel
theorem dX12_bridge_24 : decode cX12_bridge 24 = .ok (.iconst (-1), 1) := by decide +kernel
theorem dX12_bridge_25 : decode cX12_bridge 25 = .ok (.istore_n 2, 1) := by decide +kernel
theorem dX12_bridge_26 : decode cX12_bridge 26 = .ok (.iconst 0, 1) := by decide +kernel
theorem dX12_bridge_27 : decode cX12_bridge 27 = .ok (.istore_n 3, 1) := by decide +kernel
theorem dX12_bridge_28 : decode cX12_bridge 28 = .ok (.iconst 1, 1) := by decide +kernel
theorem dX12_bridge_29 : decode cX12_bridge 29 = .ok (.istore 4, 2) := by decide +kernel
theorem dX12_bridge_31 : decode cX12_bridge 31 = .ok (.iload 4, 2) := by decide +kernel
theorem dX12_bridge_33 : decode cX12_bridge 33 = .ok (.aload_n 0, 1) := by decide +kernel
theorem dX12_bridge_34 : decode cX12_bridge 34 = .ok (.getfield 294, 3) := by decide +kernel
theorem dX12_bridge_37 : decode cX12_bridge 37 = .ok (.if_icmp .gt 65, 3) := by decide +kernel
theorem dX12_bridge_40 : decode cX12_bridge 40 = .ok (.aload_n 0, 1) := by decide +kernel
theorem dX12_bridge_41 : decode cX12_bridge 41 = .ok (.getfield 40, 3) := by decide +kernel
theorem dX12_bridge_44 : decode cX12_bridge 44 = .ok (.iload 4, 2) := by decide +kernel
theorem dX12_bridge_46 : decode cX12_bridge 46 = .ok (.iaload, 1) := by decide +kernel
theorem dX12_bridge_47 : decode cX12_bridge 47 = .ok (.istore 5, 2) := by decide +kernel
theorem dX12_bridge_49 : decode cX12_bridge 49 = .ok (.aload_n 0, 1) := by decide +kernel
theorem dX12_bridge_50 : decode cX12_bridge 50 = .ok (.getfield 40, 3) := by decide +kernel
theorem dX12_bridge_53 : decode cX12_bridge 53 = .ok (.iload 4, 2) := by decide +kernel
theorem dX12_bridge_55 : decode cX12_bridge 55 = .ok (.iconst 1, 1) := by decide +kernel
theorem dX12_bridge_56 : decode cX12_bridge 56 = .ok (.iastore, 1) := by decide +kernel
theorem dX12_bridge_57 : decode cX12_bridge 57 = .ok (.aload_n 0, 1) := by decide +kernel
theorem dX12_bridge_58 : decode cX12_bridge 58 = .ok (.aload_n 0, 1) := by decide +kernel
theorem dX12_bridge_59 : decode cX12_bridge 59 = .ok (.invokevirtual 386, 3) := by decide +kernel
theorem dX12_bridge_62 : decode cX12_bridge 62 = .ok (.invokevirtual 325, 3) := by decide +kernel
theorem dX12_bridge_65 : decode cX12_bridge 65 = .ok (.istore 6, 2) := by decide +kernel
theorem dX12_bridge_67 : decode cX12_bridge 67 = .ok (.aload_n 0, 1) := by decide +kernel
theorem dX12_bridge_68 : decode cX12_bridge 68 = .ok (.getfield 40, 3) := by decide +kernel
theorem dX12_bridge_71 : decode cX12_bridge 71 = .ok (.iload 4, 2) := by decide +kernel
theorem dX12_bridge_73 : decode cX12_bridge 73 = .ok (.iload 5, 2) := by decide +kernel
theorem dX12_bridge_75 : decode cX12_bridge 75 = .ok (.iastore, 1) := by decide +kernel
theorem dX12_bridge_76 : decode cX12_bridge 76 = .ok (.iload_n 2, 1) := by decide +kernel
theorem dX12_bridge_77 : decode cX12_bridge 77 = .ok (.iconst (-1), 1) := by decide +kernel
theorem dX12_bridge_78 : decode cX12_bridge 78 = .ok (.if_icmp .eq 12, 3) := by decide +kernel
theorem dX12_bridge_81 : decode cX12_bridge 81 = .ok (.iload 6, 2) := by decide +kernel
theorem dX12_bridge_83 : decode cX12_bridge 83 = .ok (.iload_n 3, 1) := by decide +kernel
theorem dX12_bridge_84 : decode cX12_bridge 84 = .ok (.if_icmp .lt 6, 3) := by decide +kernel
theorem dX12_bridge_87 : decode cX12_bridge 87 = .ok (.goto 9, 3) := by decide +kernel
theorem dX12_bridge_90 : decode cX12_bridge 90 = .ok (.iload 4, 2) := by decide +kernel
theorem dX12_bridge_92 : decode cX12_bridge 92 = .ok (.istore_n 2, 1) := by decide +kernel
theorem dX12_bridge_93 : decode cX12_bridge 93 = .ok (.iload 6, 2) := by decide +kernel
theorem dX12_bridge_95 : decode cX12_bridge 95 = .ok (.istore_n 3, 1) := by decide +kernel
theorem dX12_bridge_96 : decode cX12_bridge 96 = .ok (.iinc 4 1, 3) := by decide +kernel
theorem dX12_bridge_99 : decode cX12_bridge 99 = .ok (.goto (-68), 3) := by decide +kernel
theorem dX12_bridge_102 : decode cX12_bridge 102 = .ok (.iload_n 1, 1) := by decide +kernel
theorem dX12_bridge_103 : decode cX12_bridge 103 = .ok (.ifCond .ne 7, 3) := by decide +kernel
theorem dX12_bridge_106 : decode cX12_bridge 106 = .ok (.iload_n 2, 1) := by decide +kernel
theorem dX12_bridge_107 : decode cX12_bridge 107 = .ok (.goto 4, 3) := by decide +kernel
theorem dX12_bridge_110 : decode cX12_bridge 110 = .ok (.iload_n 3, 1) := by decide +kernel
theorem dX12_bridge_111 : decode cX12_bridge 111 = .ok (.ireturn, 1) := by decide +kernel
theorem dX12_see_0 : decode cX12_see 0 = .ok (.aload_n 0, 1) := by decide +kernel
theorem dX12_see_1 : decode cX12_see 1 = .ok (.iconst 0, 1) := by decide +kernel
theorem dX12_see_2 : decode cX12_see 2 = .ok (.putfield 108, 3) := by decide +kernel
theorem dX12_see_5 : decode cX12_see 5 = .ok (.aload_n 0, 1) := by decide +kernel
theorem dX12_see_6 : decode cX12_see 6 = .ok (.iload_n 1, 1) := by decide +kernel
theorem dX12_see_7 : decode cX12_see 7 = .ok (.invokevirtual 320, 3) := by decide +kernel
theorem dX12_see_10 : decode cX12_see 10 = .ok (.ifCond .eq 36, 3) := by decide +kernel
theorem dX12_see_13 : decode cX12_see 13 = .ok (.iload_n 2, 1) := by decide +kernel
theorem dX12_see_14 : decode cX12_see 14 = .ok (.i2l, 1) := by decide +kernel
theorem dX12_see_15 : decode cX12_see 15 = .ok (.lconst 0, 1) := by decide +kernel
theorem dX12_see_16 : decode cX12_see 16 = .ok (.ldc2_w 443, 3) := by decide +kernel
theorem dX12_see_19 : decode cX12_see 19 = .ok (.invokestatic 236, 3) := by decide +kernel
theorem dX12_see_22 : decode cX12_see 22 = .ok (.ifCond .eq 24, 3) := by decide +kernel
theorem dX12_see_25 : decode cX12_see 25 = .ok (.iload_n 3, 1) := by decide +kernel
theorem dX12_see_26 : decode cX12_see 26 = .ok (.i2l, 1) := by decide +kernel
theorem dX12_see_27 : decode cX12_see 27 = .ok (.lconst 1, 1) := by decide +kernel
theorem dX12_see_28 : decode cX12_see 28 = .ok (.ldc2_w 445, 3) := by decide +kernel
theorem dX12_see_31 : decode cX12_see 31 = .ok (.invokestatic 236, 3) := by decide +kernel
theorem dX12_see_34 : decode cX12_see 34 = .ok (.ifCond .eq 12, 3) := by decide +kernel
theorem dX12_see_37 : decode cX12_see 37 = .ok (.aload_n 0, 1) := by decide +kernel
theorem dX12_see_38 : decode cX12_see 38 = .ok (.getfield 300, 3) := by decide +kernel
theorem dX12_see_41 : decode cX12_see 41 = .ok (.bipush 10, 2) := by decide +kernel
theorem dX12_see_43 : decode cX12_see 43 = .ok (.if_icmp .ne 5, 3) := by decide +kernel
theorem dX12_see_46 : decode cX12_see 46 = .ok (.iconst (-1), 1) := by decide +kernel
theorem dX12_see_47 : decode cX12_see 47 = .ok (.ireturn, 1) := by decide +kernel
theorem dX12_see_48 : decode cX12_see 48 = .ok (.aload_n 0, 1) := by decide +kernel
theorem dX12_see_49 : decode cX12_see 49 = .ok (.getfield 81, 3) := by decide +kernel
theorem dX12_see_52 : decode cX12_see 52 = .ok (.aload_n 0, 1) := by decide +kernel
theorem dX12_see_53 : decode cX12_see 53 = .ok (.getfield 300, 3) := by decide +kernel
theorem dX12_see_56 : decode cX12_see 56 = .ok (.iload_n 1, 1) := by decide +kernel
theorem dX12_see_57 : decode cX12_see 57 = .ok (.iastore, 1) := by decide +kernel
theorem dX12_see_58 : decode cX12_see 58 = .ok (.aload_n 0, 1) := by decide +kernel
theorem dX12_see_59 : decode cX12_see 59 = .ok (.getfield 84, 3) := by decide +kernel
theorem dX12_see_62 : decode cX12_see 62 = .ok (.aload_n 0, 1) := by decide +kernel
theorem dX12_see_63 : decode cX12_see 63 = .ok (.getfield 300, 3) := by decide +kernel
theorem dX12_see_66 : decode cX12_see 66 = .ok (.iload_n 2, 1) := by decide +kernel
theorem dX12_see_67 : decode cX12_see 67 = .ok (.iastore, 1) := by decide +kernel
theorem dX12_see_68 : decode cX12_see 68 = .ok (.aload_n 0, 1) := by decide +kernel
theorem dX12_see_69 : decode cX12_see 69 = .ok (.getfield 87, 3) := by decide +kernel
theorem dX12_see_72 : decode cX12_see 72 = .ok (.aload_n 0, 1) := by decide +kernel
theorem dX12_see_73 : decode cX12_see 73 = .ok (.getfield 300, 3) := by decide +kernel
theorem dX12_see_76 : decode cX12_see 76 = .ok (.iload_n 3, 1) := by decide +kernel
theorem dX12_see_77 : decode cX12_see 77 = .ok (.iastore, 1) := by decide +kernel
theorem dX12_see_78 : decode cX12_see 78 = .ok (.aload_n 0, 1) := by decide +kernel
theorem dX12_see_79 : decode cX12_see 79 = .ok (.dup, 1) := by decide +kernel
theorem dX12_see_80 : decode cX12_see 80 = .ok (.getfield 300, 3) := by decide +kernel
theorem dX12_see_83 : decode cX12_see 83 = .ok (.iconst 1, 1) := by decide +kernel
theorem dX12_see_84 : decode cX12_see 84 = .ok (.iadd, 1) := by decide +kernel
theorem dX12_see_85 : decode cX12_see 85 = .ok (.putfield 300, 3) := by decide +kernel
theorem dX12_see_88 : decode cX12_see 88 = .ok (.aload_n 0, 1) := by decide +kernel
theorem dX12_see_89 : decode cX12_see 89 = .ok (.getfield 300, 3) := by decide +kernel
theorem dX12_see_92 : decode cX12_see 92 = .ok (.ireturn, 1) := by decide +kernel
theorem dX12_fits_0 : decode cX12_fits 0 = .ok (.aload_n 0, 1) := by decide +kernel
theorem dX12_fits_1 : decode cX12_fits 1 = .ok (.iconst 0, 1) := by decide +kernel
theorem dX12_fits_2 : decode cX12_fits 2 = .ok (.putfield 108, 3) := by decide +kernel
theorem dX12_fits_5 : decode cX12_fits 5 = .ok (.aload_n 0, 1) := by decide +kernel
theorem dX12_fits_6 : decode cX12_fits 6 = .ok (.iload_n 1, 1) := by decide +kernel
theorem dX12_fits_7 : decode cX12_fits 7 = .ok (.invokevirtual 320, 3) := by decide +kernel
theorem dX12_fits_10 : decode cX12_fits 10 = .ok (.ifCond .ne 5, 3) := by decide +kernel
theorem dX12_fits_13 : decode cX12_fits 13 = .ok (.iconst (-1), 1) := by decide +kernel
theorem dX12_fits_14 : decode cX12_fits 14 = .ok (.ireturn, 1) := by decide +kernel
theorem dX12_fits_15 : decode cX12_fits 15 = .ok (.aload_n 0, 1) := by decide +kernel
theorem dX12_fits_16 : decode cX12_fits 16 = .ok (.getfield 43, 3) := by decide +kernel
theorem dX12_fits_19 : decode cX12_fits 19 = .ok (.iconst 3, 1) := by decide +kernel
theorem dX12_fits_20 : decode cX12_fits 20 = .ok (.iload_n 1, 1) := by decide +kernel
theorem dX12_fits_21 : decode cX12_fits 21 = .ok (.imul, 1) := by decide +kernel
theorem dX12_fits_22 : decode cX12_fits 22 = .ok (.iaload, 1) := by decide +kernel
theorem dX12_fits_23 : decode cX12_fits 23 = .ok (.istore_n 2, 1) := by decide +kernel
theorem dX12_fits_24 : decode cX12_fits 24 = .ok (.iconst 0, 1) := by decide +kernel
theorem dX12_fits_25 : decode cX12_fits 25 = .ok (.istore_n 3, 1) := by decide +kernel
theorem dX12_fits_26 : decode cX12_fits 26 = .ok (.iconst 1, 1) := by decide +kernel
theorem dX12_fits_27 : decode cX12_fits 27 = .ok (.istore 4, 2) := by decide +kernel
theorem dX12_fits_29 : decode cX12_fits 29 = .ok (.iload 4, 2) := by decide +kernel
theorem dX12_fits_31 : decode cX12_fits 31 = .ok (.aload_n 0, 1) := by decide +kernel
theorem dX12_fits_32 : decode cX12_fits 32 = .ok (.getfield 294, 3) := by decide +kernel
theorem dX12_fits_35 : decode cX12_fits 35 = .ok (.if_icmp .gt 115, 3) := by decide +kernel
theorem dX12_fits_38 : decode cX12_fits 38 = .ok (.aload_n 0, 1) := by decide +kernel
theorem dX12_fits_39 : decode cX12_fits 39 = .ok (.getfield 43, 3) := by decide +kernel
theorem dX12_fits_42 : decode cX12_fits 42 = .ok (.iconst 3, 1) := by decide +kernel
theorem dX12_fits_43 : decode cX12_fits 43 = .ok (.iload_n 1, 1) := by decide +kernel
theorem dX12_fits_44 : decode cX12_fits 44 = .ok (.imul, 1) := by decide +kernel
theorem dX12_fits_45 : decode cX12_fits 45 = .ok (.iload 4, 2) := by decide +kernel
theorem dX12_fits_47 : decode cX12_fits 47 = .ok (.iastore, 1) := by decide +kernel
theorem dX12_fits_48 : decode cX12_fits 48 = .ok (.aload_n 0, 1) := by decide +kernel
theorem dX12_fits_49 : decode cX12_fits 49 = .ok (.aload_n 0, 1) := by decide +kernel
theorem dX12_fits_50 : decode cX12_fits 50 = .ok (.invokevirtual 386, 3) := by decide +kernel
theorem dX12_fits_53 : decode cX12_fits 53 = .ok (.iconst 0, 1) := by decide +kernel
theorem dX12_fits_54 : decode cX12_fits 54 = .ok (.invokevirtual 379, 3) := by decide +kernel
theorem dX12_fits_57 : decode cX12_fits 57 = .ok (.iconst 1, 1) := by decide +kernel
theorem dX12_fits_58 : decode cX12_fits 58 = .ok (.istore 5, 2) := by decide +kernel
theorem dX12_fits_60 : decode cX12_fits 60 = .ok (.iconst 0, 1) := by decide +kernel
theorem dX12_fits_61 : decode cX12_fits 61 = .ok (.istore 6, 2) := by decide +kernel
theorem dX12_fits_63 : decode cX12_fits 63 = .ok (.iload 6, 2) := by decide +kernel
theorem dX12_fits_65 : decode cX12_fits 65 = .ok (.aload_n 0, 1) := by decide +kernel
theorem dX12_fits_66 : decode cX12_fits 66 = .ok (.getfield 300, 3) := by decide +kernel
theorem dX12_fits_69 : decode cX12_fits 69 = .ok (.if_icmp .ge 59, 3) := by decide +kernel
theorem dX12_fits_72 : decode cX12_fits 72 = .ok (.iload 5, 2) := by decide +kernel
theorem dX12_fits_74 : decode cX12_fits 74 = .ok (.ifCond .eq 45, 3) := by decide +kernel
theorem dX12_fits_77 : decode cX12_fits 77 = .ok (.aload_n 0, 1) := by decide +kernel
theorem dX12_fits_78 : decode cX12_fits 78 = .ok (.getfield 65, 3) := by decide +kernel
theorem dX12_fits_81 : decode cX12_fits 81 = .ok (.aload_n 0, 1) := by decide +kernel
theorem dX12_fits_82 : decode cX12_fits 82 = .ok (.getfield 81, 3) := by decide +kernel
theorem dX12_fits_85 : decode cX12_fits 85 = .ok (.iload 6, 2) := by decide +kernel
theorem dX12_fits_87 : decode cX12_fits 87 = .ok (.iaload, 1) := by decide +kernel
theorem dX12_fits_88 : decode cX12_fits 88 = .ok (.laload, 1) := by decide +kernel
theorem dX12_fits_89 : decode cX12_fits 89 = .ok (.aload_n 0, 1) := by decide +kernel
theorem dX12_fits_90 : decode cX12_fits 90 = .ok (.getfield 87, 3) := by decide +kernel
theorem dX12_fits_93 : decode cX12_fits 93 = .ok (.iload 6, 2) := by decide +kernel
theorem dX12_fits_95 : decode cX12_fits 95 = .ok (.iaload, 1) := by decide +kernel
theorem dX12_fits_96 : decode cX12_fits 96 = .ok (.i2l, 1) := by decide +kernel
theorem dX12_fits_97 : decode cX12_fits 97 = .ok (.lmul, 1) := by decide +kernel
theorem dX12_fits_98 : decode cX12_fits 98 = .ok (.aload_n 0, 1) := by decide +kernel
theorem dX12_fits_99 : decode cX12_fits 99 = .ok (.getfield 84, 3) := by decide +kernel
theorem dX12_fits_102 : decode cX12_fits 102 = .ok (.iload 6, 2) := by decide +kernel
theorem dX12_fits_104 : decode cX12_fits 104 = .ok (.iaload, 1) := by decide +kernel
theorem dX12_fits_105 : decode cX12_fits 105 = .ok (.i2l, 1) := by decide +kernel
theorem dX12_fits_106 : decode cX12_fits 106 = .ok (.aload_n 0, 1) := by decide +kernel
theorem dX12_fits_107 : decode cX12_fits 107 = .ok (.getfield 361, 3) := by decide +kernel
theorem dX12_fits_110 : decode cX12_fits 110 = .ok (.lmul, 1) := by decide +kernel
theorem dX12_fits_111 : decode cX12_fits 111 = .ok (.lcmp, 1) := by decide +kernel
theorem dX12_fits_112 : decode cX12_fits 112 = .ok (.ifCond .ne 7, 3) := by decide +kernel
theorem dX12_fits_115 : decode cX12_fits 115 = .ok (.iconst 1, 1) := by decide +kernel
theorem dX12_fits_116 : decode cX12_fits 116 = .ok (.goto 4, 3) := by decide +kernel
theorem dX12_fits_119 : decode cX12_fits 119 = .ok (.iconst 0, 1) := by decide +kernel
theorem dX12_fits_120 : decode cX12_fits 120 = .ok (.istore 5, 2) := by decide +kernel
theorem dX12_fits_122 : decode cX12_fits 122 = .ok (.iinc 6 1, 3) := by decide +kernel
theorem dX12_fits_125 : decode cX12_fits 125 = .ok (.goto (-62), 3) := by decide +kernel
theorem dX12_fits_128 : decode cX12_fits 128 = .ok (.iload_n 3, 1) := by decide +kernel
theorem dX12_fits_129 : decode cX12_fits 129 = .ok (.iload 5, 2) := by decide +kernel
theorem dX12_fits_131 : decode cX12_fits 131 = .ok (.ifCond .eq 10, 3) := by decide +kernel
theorem dX12_fits_134 : decode cX12_fits 134 = .ok (.iconst 1, 1) := by decide +kernel
theorem dX12_fits_135 : decode cX12_fits 135 = .ok (.iload 4, 2) := by decide +kernel
theorem dX12_fits_137 : decode cX12_fits 137 = .ok (.ishl, 1) := by decide +kernel
theorem dX12_fits_138 : decode cX12_fits 138 = .ok (.goto 4, 3) := by decide +kernel
theorem dX12_fits_141 : decode cX12_fits 141 = .ok (.iconst 0, 1) := by decide +kernel
theorem dX12_fits_142 : decode cX12_fits 142 = .ok (.ior, 1) := by decide +kernel
theorem dX12_fits_143 : decode cX12_fits 143 = .ok (.istore_n 3, 1) := by decide +kernel
theorem dX12_fits_144 : decode cX12_fits 144 = .ok (.iinc 4 1, 3) := by decide +kernel
theorem dX12_fits_147 : decode cX12_fits 147 = .ok (.goto (-118), 3) := by decide +kernel
theorem dX12_fits_150 : decode cX12_fits 150 = .ok (.aload_n 0, 1) := by decide +kernel
theorem dX12_fits_151 : decode cX12_fits 151 = .ok (.getfield 43, 3) := by decide +kernel
theorem dX12_fits_154 : decode cX12_fits 154 = .ok (.iconst 3, 1) := by decide +kernel
theorem dX12_fits_155 : decode cX12_fits 155 = .ok (.iload_n 1, 1) := by decide +kernel
theorem dX12_fits_156 : decode cX12_fits 156 = .ok (.imul, 1) := by decide +kernel
theorem dX12_fits_157 : decode cX12_fits 157 = .ok (.iload_n 2, 1) := by decide +kernel
theorem dX12_fits_158 : decode cX12_fits 158 = .ok (.iastore, 1) := by decide +kernel
theorem dX12_fits_159 : decode cX12_fits 159 = .ok (.iload_n 3, 1) := by decide +kernel
theorem dX12_fits_160 : decode cX12_fits 160 = .ok (.ireturn, 1) := by decide +kernel
theorem dX12_ridesBy_0 : decode cX12_ridesBy 0 = .ok (.aload_n 0, 1) := by decide +kernel
theorem dX12_ridesBy_1 : decode cX12_ridesBy 1 = .ok (.getfield 306, 3) := by decide +kernel
theorem dX12_ridesBy_4 : decode cX12_ridesBy 4 = .ok (.bipush 40, 2) := by decide +kernel
theorem dX12_ridesBy_6 : decode cX12_ridesBy 6 = .ok (.if_icmp .ne 43, 3) := by decide +kernel
theorem dX12_ridesBy_9 : decode cX12_ridesBy 9 = .ok (.iconst 0, 1) := by decide +kernel
theorem dX12_ridesBy_10 : decode cX12_ridesBy 10 = .ok (.istore_n 3, 1) := by decide +kernel
theorem dX12_ridesBy_11 : decode cX12_ridesBy 11 = .ok (.iload_n 3, 1) := by decide +kernel
theorem dX12_ridesBy_12 : decode cX12_ridesBy 12 = .ok (.sipush 234, 3) := by decide +kernel
theorem dX12_ridesBy_15 : decode cX12_ridesBy 15 = .ok (.if_icmp .ge 24, 3) := by decide +kernel
theorem dX12_ridesBy_18 : decode cX12_ridesBy 18 = .ok (.aload_n 0, 1) := by decide +kernel
theorem dX12_ridesBy_19 : decode cX12_ridesBy 19 = .ok (.getfield 93, 3) := by decide +kernel
theorem dX12_ridesBy_22 : decode cX12_ridesBy 22 = .ok (.iload_n 3, 1) := by decide +kernel
theorem dX12_ridesBy_23 : decode cX12_ridesBy 23 = .ok (.aload_n 0, 1) := by decide +kernel
theorem dX12_ridesBy_24 : decode cX12_ridesBy 24 = .ok (.getfield 93, 3) := by decide +kernel
theorem dX12_ridesBy_27 : decode cX12_ridesBy 27 = .ok (.iload_n 3, 1) := by decide +kernel
theorem dX12_ridesBy_28 : decode cX12_ridesBy 28 = .ok (.bipush 6, 2) := by decide +kernel
theorem dX12_ridesBy_30 : decode cX12_ridesBy 30 = .ok (.iadd, 1) := by decide +kernel
theorem dX12_ridesBy_31 : decode cX12_ridesBy 31 = .ok (.laload, 1) := by decide +kernel
theorem dX12_ridesBy_32 : decode cX12_ridesBy 32 = .ok (.lastore, 1) := by decide +kernel
theorem dX12_ridesBy_33 : decode cX12_ridesBy 33 = .ok (.iinc 3 1, 3) := by decide +kernel
theorem dX12_ridesBy_36 : decode cX12_ridesBy 36 = .ok (.goto (-25), 3) := by decide +kernel
theorem dX12_ridesBy_39 : decode cX12_ridesBy 39 = .ok (.aload_n 0, 1) := by decide +kernel
theorem dX12_ridesBy_40 : decode cX12_ridesBy 40 = .ok (.dup, 1) := by decide +kernel
theorem dX12_ridesBy_41 : decode cX12_ridesBy 41 = .ok (.getfield 306, 3) := by decide +kernel
theorem dX12_ridesBy_44 : decode cX12_ridesBy 44 = .ok (.iconst 1, 1) := by decide +kernel
theorem dX12_ridesBy_45 : decode cX12_ridesBy 45 = .ok (.isub, 1) := by decide +kernel
theorem dX12_ridesBy_46 : decode cX12_ridesBy 46 = .ok (.putfield 306, 3) := by decide +kernel
theorem dX12_ridesBy_49 : decode cX12_ridesBy 49 = .ok (.iload_n 1, 1) := by decide +kernel
theorem dX12_ridesBy_50 : decode cX12_ridesBy 50 = .ok (.ifCond .eq 9, 3) := by decide +kernel
theorem dX12_ridesBy_53 : decode cX12_ridesBy 53 = .ok (.aload_n 0, 1) := by decide +kernel
theorem dX12_ridesBy_54 : decode cX12_ridesBy 54 = .ok (.iload_n 1, 1) := by decide +kernel
theorem dX12_ridesBy_55 : decode cX12_ridesBy 55 = .ok (.iload_n 2, 1) := by decide +kernel
theorem dX12_ridesBy_56 : decode cX12_ridesBy 56 = .ok (.invokevirtual 379, 3) := by decide +kernel
theorem dX12_ridesBy_59 : decode cX12_ridesBy 59 = .ok (.iconst 0, 1) := by decide +kernel
theorem dX12_ridesBy_60 : decode cX12_ridesBy 60 = .ok (.istore_n 3, 1) := by decide +kernel
theorem dX12_ridesBy_61 : decode cX12_ridesBy 61 = .ok (.iload_n 3, 1) := by decide +kernel
theorem dX12_ridesBy_62 : decode cX12_ridesBy 62 = .ok (.aload_n 0, 1) := by decide +kernel
theorem dX12_ridesBy_63 : decode cX12_ridesBy 63 = .ok (.getfield 297, 3) := by decide +kernel
theorem dX12_ridesBy_66 : decode cX12_ridesBy 66 = .ok (.if_icmp .ge 65, 3) := by decide +kernel
theorem dX12_ridesBy_69 : decode cX12_ridesBy 69 = .ok (.iload_n 1, 1) := by decide +kernel
theorem dX12_ridesBy_70 : decode cX12_ridesBy 70 = .ok (.iload_n 3, 1) := by decide +kernel
theorem dX12_ridesBy_71 : decode cX12_ridesBy 71 = .ok (.invokestatic 263, 3) := by decide +kernel
theorem dX12_ridesBy_74 : decode cX12_ridesBy 74 = .ok (.ifCond .eq 21, 3) := by decide +kernel
theorem dX12_ridesBy_77 : decode cX12_ridesBy 77 = .ok (.aload_n 0, 1) := by decide +kernel
theorem dX12_ridesBy_78 : decode cX12_ridesBy 78 = .ok (.getfield 65, 3) := by decide +kernel
theorem dX12_ridesBy_81 : decode cX12_ridesBy 81 = .ok (.iload_n 3, 1) := by decide +kernel
theorem dX12_ridesBy_82 : decode cX12_ridesBy 82 = .ok (.laload, 1) := by decide +kernel
theorem dX12_ridesBy_83 : decode cX12_ridesBy 83 = .ok (.ldc2_w 447, 3) := by decide +kernel
theorem dX12_ridesBy_86 : decode cX12_ridesBy 86 = .ok (.lmul, 1) := by decide +kernel
theorem dX12_ridesBy_87 : decode cX12_ridesBy 87 = .ok (.aload_n 0, 1) := by decide +kernel
theorem dX12_ridesBy_88 : decode cX12_ridesBy 88 = .ok (.getfield 361, 3) := by decide +kernel
theorem dX12_ridesBy_91 : decode cX12_ridesBy 91 = .ok (.ldiv, 1) := by decide +kernel
theorem dX12_ridesBy_92 : decode cX12_ridesBy 92 = .ok (.goto 4, 3) := by decide +kernel
theorem dX12_ridesBy_95 : decode cX12_ridesBy 95 = .ok (.lconst 0, 1) := by decide +kernel
theorem dX12_ridesBy_96 : decode cX12_ridesBy 96 = .ok (.lstore 4, 2) := by decide +kernel
theorem dX12_ridesBy_98 : decode cX12_ridesBy 98 = .ok (.aload_n 0, 1) := by decide +kernel
theorem dX12_ridesBy_99 : decode cX12_ridesBy 99 = .ok (.getfield 93, 3) := by decide +kernel
theorem dX12_ridesBy_102 : decode cX12_ridesBy 102 = .ok (.bipush 6, 2) := by decide +kernel
theorem dX12_ridesBy_104 : decode cX12_ridesBy 104 = .ok (.aload_n 0, 1) := by decide +kernel
theorem dX12_ridesBy_105 : decode cX12_ridesBy 105 = .ok (.getfield 306, 3) := by decide +kernel
theorem dX12_ridesBy_108 : decode cX12_ridesBy 108 = .ok (.imul, 1) := by decide +kernel
theorem dX12_ridesBy_109 : decode cX12_ridesBy 109 = .ok (.iload_n 3, 1) := by decide +kernel
theorem dX12_ridesBy_110 : decode cX12_ridesBy 110 = .ok (.iadd, 1) := by decide +kernel
theorem dX12_ridesBy_111 : decode cX12_ridesBy 111 = .ok (.lload 4, 2) := by decide +kernel
theorem dX12_ridesBy_113 : decode cX12_ridesBy 113 = .ok (.lastore, 1) := by decide +kernel
theorem dX12_ridesBy_114 : decode cX12_ridesBy 114 = .ok (.aload_n 0, 1) := by decide +kernel
theorem dX12_ridesBy_115 : decode cX12_ridesBy 115 = .ok (.getfield 90, 3) := by decide +kernel
theorem dX12_ridesBy_118 : decode cX12_ridesBy 118 = .ok (.iload_n 3, 1) := by decide +kernel
theorem dX12_ridesBy_119 : decode cX12_ridesBy 119 = .ok (.dup2, 1) := by decide +kernel
theorem dX12_ridesBy_120 : decode cX12_ridesBy 120 = .ok (.laload, 1) := by decide +kernel
theorem dX12_ridesBy_121 : decode cX12_ridesBy 121 = .ok (.lload 4, 2) := by decide +kernel
theorem dX12_ridesBy_123 : decode cX12_ridesBy 123 = .ok (.ladd, 1) := by decide +kernel
theorem dX12_ridesBy_124 : decode cX12_ridesBy 124 = .ok (.lastore, 1) := by decide +kernel
theorem dX12_ridesBy_125 : decode cX12_ridesBy 125 = .ok (.iinc 3 1, 3) := by decide +kernel
theorem dX12_ridesBy_128 : decode cX12_ridesBy 128 = .ok (.goto (-67), 3) := by decide +kernel
theorem dX12_ridesBy_131 : decode cX12_ridesBy 131 = .ok (.aload_n 0, 1) := by decide +kernel
theorem dX12_ridesBy_132 : decode cX12_ridesBy 132 = .ok (.dup, 1) := by decide +kernel
theorem dX12_ridesBy_133 : decode cX12_ridesBy 133 = .ok (.getfield 306, 3) := by decide +kernel
theorem dX12_ridesBy_136 : decode cX12_ridesBy 136 = .ok (.iconst 1, 1) := by decide +kernel
theorem dX12_ridesBy_137 : decode cX12_ridesBy 137 = .ok (.iadd, 1) := by decide +kernel
theorem dX12_ridesBy_138 : decode cX12_ridesBy 138 = .ok (.putfield 306, 3) := by decide +kernel
theorem dX12_ridesBy_141 : decode cX12_ridesBy 141 = .ok (.aload_n 0, 1) := by decide +kernel
theorem dX12_ridesBy_142 : decode cX12_ridesBy 142 = .ok (.dup, 1) := by decide +kernel
theorem dX12_ridesBy_143 : decode cX12_ridesBy 143 = .ok (.getfield 303, 3) := by decide +kernel
theorem dX12_ridesBy_146 : decode cX12_ridesBy 146 = .ok (.iconst 1, 1) := by decide +kernel
theorem dX12_ridesBy_147 : decode cX12_ridesBy 147 = .ok (.iadd, 1) := by decide +kernel
theorem dX12_ridesBy_148 : decode cX12_ridesBy 148 = .ok (.putfield 303, 3) := by decide +kernel
theorem dX12_ridesBy_151 : decode cX12_ridesBy 151 = .ok (.return_, 1) := by decide +kernel
theorem dX12_night_0 : decode cX12_night 0 = .ok (.aload_n 0, 1) := by decide +kernel
theorem dX12_night_1 : decode cX12_night 1 = .ok (.iconst 0, 1) := by decide +kernel
theorem dX12_night_2 : decode cX12_night 2 = .ok (.putfield 108, 3) := by decide +kernel
theorem dX12_night_5 : decode cX12_night 5 = .ok (.aload_n 0, 1) := by decide +kernel
theorem dX12_night_6 : decode cX12_night 6 = .ok (.iload_n 1, 1) := by decide +kernel
theorem dX12_night_7 : decode cX12_night 7 = .ok (.invokevirtual 336, 3) := by decide +kernel
theorem dX12_night_10 : decode cX12_night 10 = .ok (.ifCond .eq 11, 3) := by decide +kernel
theorem dX12_night_13 : decode cX12_night 13 = .ok (.aload_n 0, 1) := by decide +kernel
theorem dX12_night_14 : decode cX12_night 14 = .ok (.iload_n 2, 1) := by decide +kernel
theorem dX12_night_15 : decode cX12_night 15 = .ok (.invokevirtual 374, 3) := by decide +kernel
theorem dX12_night_18 : decode cX12_night 18 = .ok (.ifCond .ne 5, 3) := by decide +kernel
theorem dX12_night_21 : decode cX12_night 21 = .ok (.iconst (-1), 1) := by decide +kernel
theorem dX12_night_22 : decode cX12_night 22 = .ok (.ireturn, 1) := by decide +kernel
theorem dX12_night_23 : decode cX12_night 23 = .ok (.aload_n 0, 1) := by decide +kernel
theorem dX12_night_24 : decode cX12_night 24 = .ok (.iload_n 1, 1) := by decide +kernel
theorem dX12_night_25 : decode cX12_night 25 = .ok (.iload_n 2, 1) := by decide +kernel
theorem dX12_night_26 : decode cX12_night 26 = .ok (.invokevirtual 449, 3) := by decide +kernel
theorem dX12_night_29 : decode cX12_night 29 = .ok (.aload_n 0, 1) := by decide +kernel
theorem dX12_night_30 : decode cX12_night 30 = .ok (.getfield 303, 3) := by decide +kernel
theorem dX12_night_33 : decode cX12_night 33 = .ok (.ireturn, 1) := by decide +kernel
theorem dX12_drawn_0 : decode cX12_drawn 0 = .ok (.aload_n 0, 1) := by decide +kernel
theorem dX12_drawn_1 : decode cX12_drawn 1 = .ok (.iconst 0, 1) := by decide +kernel
theorem dX12_drawn_2 : decode cX12_drawn 2 = .ok (.putfield 108, 3) := by decide +kernel
theorem dX12_drawn_5 : decode cX12_drawn 5 = .ok (.iload_n 1, 1) := by decide +kernel
theorem dX12_drawn_6 : decode cX12_drawn 6 = .ok (.i2l, 1) := by decide +kernel
theorem dX12_drawn_7 : decode cX12_drawn 7 = .ok (.lconst 1, 1) := by decide +kernel
theorem dX12_drawn_8 : decode cX12_drawn 8 = .ok (.ldc2_w 452, 3) := by decide +kernel
theorem dX12_drawn_11 : decode cX12_drawn 11 = .ok (.invokestatic 236, 3) := by decide +kernel
theorem dX12_drawn_14 : decode cX12_drawn 14 = .ok (.ifCond .eq 11, 3) := by decide +kernel
theorem dX12_drawn_17 : decode cX12_drawn 17 = .ok (.aload_n 0, 1) := by decide +kernel
theorem dX12_drawn_18 : decode cX12_drawn 18 = .ok (.iload_n 2, 1) := by decide +kernel
theorem dX12_drawn_19 : decode cX12_drawn 19 = .ok (.invokevirtual 374, 3) := by decide +kernel
theorem dX12_drawn_22 : decode cX12_drawn 22 = .ok (.ifCond .ne 5, 3) := by decide +kernel
theorem dX12_drawn_25 : decode cX12_drawn 25 = .ok (.iconst (-1), 1) := by decide +kernel
theorem dX12_drawn_26 : decode cX12_drawn 26 = .ok (.ireturn, 1) := by decide +kernel
theorem dX12_drawn_27 : decode cX12_drawn 27 = .ok (.lload_n 3, 1) := by decide +kernel
theorem dX12_drawn_28 : decode cX12_drawn 28 = .ok (.lstore 5, 2) := by decide +kernel
theorem dX12_drawn_30 : decode cX12_drawn 30 = .ok (.iconst 0, 1) := by decide +kernel
theorem dX12_drawn_31 : decode cX12_drawn 31 = .ok (.istore 7, 2) := by decide +kernel
theorem dX12_drawn_33 : decode cX12_drawn 33 = .ok (.iload 7, 2) := by decide +kernel
theorem dX12_drawn_35 : decode cX12_drawn 35 = .ok (.iload_n 1, 1) := by decide +kernel
theorem dX12_drawn_36 : decode cX12_drawn 36 = .ok (.if_icmp .ge 76, 3) := by decide +kernel
theorem dX12_drawn_39 : decode cX12_drawn 39 = .ok (.iconst 0, 1) := by decide +kernel
theorem dX12_drawn_40 : decode cX12_drawn 40 = .ok (.istore 8, 2) := by decide +kernel
theorem dX12_drawn_42 : decode cX12_drawn 42 = .ok (.iconst 0, 1) := by decide +kernel
theorem dX12_drawn_43 : decode cX12_drawn 43 = .ok (.istore 9, 2) := by decide +kernel
theorem dX12_drawn_45 : decode cX12_drawn 45 = .ok (.iload 9, 2) := by decide +kernel
theorem dX12_drawn_47 : decode cX12_drawn 47 = .ok (.aload_n 0, 1) := by decide +kernel
theorem dX12_drawn_48 : decode cX12_drawn 48 = .ok (.getfield 297, 3) := by decide +kernel
theorem dX12_drawn_51 : decode cX12_drawn 51 = .ok (.if_icmp .ge 48, 3) := by decide +kernel
theorem dX12_drawn_54 : decode cX12_drawn 54 = .ok (.lload 5, 2) := by decide +kernel
theorem dX12_drawn_56 : decode cX12_drawn 56 = .ok (.ldc2_w 454, 3) := by decide +kernel
theorem dX12_drawn_59 : decode cX12_drawn 59 = .ok (.lmul, 1) := by decide +kernel
theorem dX12_drawn_60 : decode cX12_drawn 60 = .ok (.ldc2_w 456, 3) := by decide +kernel
theorem dX12_drawn_63 : decode cX12_drawn 63 = .ok (.ladd, 1) := by decide +kernel
theorem dX12_drawn_64 : decode cX12_drawn 64 = .ok (.lstore 5, 2) := by decide +kernel
theorem dX12_drawn_66 : decode cX12_drawn 66 = .ok (.iload 8, 2) := by decide +kernel
theorem dX12_drawn_68 : decode cX12_drawn 68 = .ok (.lload 5, 2) := by decide +kernel
theorem dX12_drawn_70 : decode cX12_drawn 70 = .ok (.bipush 33, 2) := by decide +kernel
theorem dX12_drawn_72 : decode cX12_drawn 72 = .ok (.lushr, 1) := by decide +kernel
theorem dX12_drawn_73 : decode cX12_drawn 73 = .ok (.ldc2_w 339, 3) := by decide +kernel
theorem dX12_drawn_76 : decode cX12_drawn 76 = .ok (.lrem, 1) := by decide +kernel
theorem dX12_drawn_77 : decode cX12_drawn 77 = .ok (.lconst 1, 1) := by decide +kernel
theorem dX12_drawn_78 : decode cX12_drawn 78 = .ok (.lcmp, 1) := by decide +kernel
theorem dX12_drawn_79 : decode cX12_drawn 79 = .ok (.ifCond .ne 10, 3) := by decide +kernel
theorem dX12_drawn_82 : decode cX12_drawn 82 = .ok (.iconst 1, 1) := by decide +kernel
theorem dX12_drawn_83 : decode cX12_drawn 83 = .ok (.iload 9, 2) := by decide +kernel
theorem dX12_drawn_85 : decode cX12_drawn 85 = .ok (.ishl, 1) := by decide +kernel
theorem dX12_drawn_86 : decode cX12_drawn 86 = .ok (.goto 4, 3) := by decide +kernel
theorem dX12_drawn_89 : decode cX12_drawn 89 = .ok (.iconst 0, 1) := by decide +kernel
theorem dX12_drawn_90 : decode cX12_drawn 90 = .ok (.ior, 1) := by decide +kernel
theorem dX12_drawn_91 : decode cX12_drawn 91 = .ok (.istore 8, 2) := by decide +kernel
theorem dX12_drawn_93 : decode cX12_drawn 93 = .ok (.iinc 9 1, 3) := by decide +kernel
theorem dX12_drawn_96 : decode cX12_drawn 96 = .ok (.goto (-51), 3) := by decide +kernel
theorem dX12_drawn_99 : decode cX12_drawn 99 = .ok (.aload_n 0, 1) := by decide +kernel
theorem dX12_drawn_100 : decode cX12_drawn 100 = .ok (.iload 8, 2) := by decide +kernel
theorem dX12_drawn_102 : decode cX12_drawn 102 = .ok (.iload_n 2, 1) := by decide +kernel
theorem dX12_drawn_103 : decode cX12_drawn 103 = .ok (.invokevirtual 449, 3) := by decide +kernel
theorem dX12_drawn_106 : decode cX12_drawn 106 = .ok (.iinc 7 1, 3) := by decide +kernel
theorem dX12_drawn_109 : decode cX12_drawn 109 = .ok (.goto (-76), 3) := by decide +kernel
theorem dX12_drawn_112 : decode cX12_drawn 112 = .ok (.aload_n 0, 1) := by decide +kernel
theorem dX12_drawn_113 : decode cX12_drawn 113 = .ok (.getfield 303, 3) := by decide +kernel
theorem dX12_drawn_116 : decode cX12_drawn 116 = .ok (.ireturn, 1) := by decide +kernel
theorem dX12_paid_0 : decode cX12_paid 0 = .ok (.aload_n 0, 1) := by decide +kernel
theorem dX12_paid_1 : decode cX12_paid 1 = .ok (.iconst 0, 1) := by decide +kernel
theorem dX12_paid_2 : decode cX12_paid 2 = .ok (.putfield 108, 3) := by decide +kernel
theorem dX12_paid_5 : decode cX12_paid 5 = .ok (.aload_n 0, 1) := by decide +kernel
theorem dX12_paid_6 : decode cX12_paid 6 = .ok (.iload_n 1, 1) := by decide +kernel
theorem dX12_paid_7 : decode cX12_paid 7 = .ok (.invokevirtual 320, 3) := by decide +kernel
theorem dX12_paid_10 : decode cX12_paid 10 = .ok (.ifCond .eq 12, 3) := by decide +kernel
theorem dX12_paid_13 : decode cX12_paid 13 = .ok (.aload_n 0, 1) := by decide +kernel
theorem dX12_paid_14 : decode cX12_paid 14 = .ok (.getfield 90, 3) := by decide +kernel
theorem dX12_paid_17 : decode cX12_paid 17 = .ok (.iload_n 1, 1) := by decide +kernel
theorem dX12_paid_18 : decode cX12_paid 18 = .ok (.laload, 1) := by decide +kernel
theorem dX12_paid_19 : decode cX12_paid 19 = .ok (.goto 6, 3) := by decide +kernel
theorem dX12_paid_22 : decode cX12_paid 22 = .ok (.ldc2_w 377, 3) := by decide +kernel
theorem dX12_paid_25 : decode cX12_paid 25 = .ok (.lreturn, 1) := by decide +kernel
theorem dX12_undo_0 : decode cX12_undo 0 = .ok (.aload_n 0, 1) := by decide +kernel
theorem dX12_undo_1 : decode cX12_undo 1 = .ok (.iconst 0, 1) := by decide +kernel
theorem dX12_undo_2 : decode cX12_undo 2 = .ok (.putfield 108, 3) := by decide +kernel
theorem dX12_undo_5 : decode cX12_undo 5 = .ok (.aload_n 0, 1) := by decide +kernel
theorem dX12_undo_6 : decode cX12_undo 6 = .ok (.getfield 306, 3) := by decide +kernel
theorem dX12_undo_9 : decode cX12_undo 9 = .ok (.ifCond .ne 5, 3) := by decide +kernel
theorem dX12_undo_12 : decode cX12_undo 12 = .ok (.iconst (-1), 1) := by decide +kernel
theorem dX12_undo_13 : decode cX12_undo 13 = .ok (.ireturn, 1) := by decide +kernel
theorem dX12_undo_14 : decode cX12_undo 14 = .ok (.aload_n 0, 1) := by decide +kernel
theorem dX12_undo_15 : decode cX12_undo 15 = .ok (.dup, 1) := by decide +kernel
theorem dX12_undo_16 : decode cX12_undo 16 = .ok (.getfield 306, 3) := by decide +kernel
theorem dX12_undo_19 : decode cX12_undo 19 = .ok (.iconst 1, 1) := by decide +kernel
theorem dX12_undo_20 : decode cX12_undo 20 = .ok (.isub, 1) := by decide +kernel
theorem dX12_undo_21 : decode cX12_undo 21 = .ok (.putfield 306, 3) := by decide +kernel
theorem dX12_undo_24 : decode cX12_undo 24 = .ok (.aload_n 0, 1) := by decide +kernel
theorem dX12_undo_25 : decode cX12_undo 25 = .ok (.dup, 1) := by decide +kernel
theorem dX12_undo_26 : decode cX12_undo 26 = .ok (.getfield 303, 3) := by decide +kernel
theorem dX12_undo_29 : decode cX12_undo 29 = .ok (.iconst 1, 1) := by decide +kernel
theorem dX12_undo_30 : decode cX12_undo 30 = .ok (.isub, 1) := by decide +kernel
theorem dX12_undo_31 : decode cX12_undo 31 = .ok (.putfield 303, 3) := by decide +kernel
theorem dX12_undo_34 : decode cX12_undo 34 = .ok (.iconst 0, 1) := by decide +kernel
theorem dX12_undo_35 : decode cX12_undo 35 = .ok (.istore_n 1, 1) := by decide +kernel
theorem dX12_undo_36 : decode cX12_undo 36 = .ok (.iload_n 1, 1) := by decide +kernel
theorem dX12_undo_37 : decode cX12_undo 37 = .ok (.aload_n 0, 1) := by decide +kernel
theorem dX12_undo_38 : decode cX12_undo 38 = .ok (.getfield 297, 3) := by decide +kernel
theorem dX12_undo_41 : decode cX12_undo 41 = .ok (.if_icmp .ge 32, 3) := by decide +kernel
theorem dX12_undo_44 : decode cX12_undo 44 = .ok (.aload_n 0, 1) := by decide +kernel
theorem dX12_undo_45 : decode cX12_undo 45 = .ok (.getfield 90, 3) := by decide +kernel
theorem dX12_undo_48 : decode cX12_undo 48 = .ok (.iload_n 1, 1) := by decide +kernel
theorem dX12_undo_49 : decode cX12_undo 49 = .ok (.dup2, 1) := by decide +kernel
theorem dX12_undo_50 : decode cX12_undo 50 = .ok (.laload, 1) := by decide +kernel
theorem dX12_undo_51 : decode cX12_undo 51 = .ok (.aload_n 0, 1) := by decide +kernel
theorem dX12_undo_52 : decode cX12_undo 52 = .ok (.getfield 93, 3) := by decide +kernel
theorem dX12_undo_55 : decode cX12_undo 55 = .ok (.bipush 6, 2) := by decide +kernel
theorem dX12_undo_57 : decode cX12_undo 57 = .ok (.aload_n 0, 1) := by decide +kernel
theorem dX12_undo_58 : decode cX12_undo 58 = .ok (.getfield 306, 3) := by decide +kernel
theorem dX12_undo_61 : decode cX12_undo 61 = .ok (.imul, 1) := by decide +kernel
theorem dX12_undo_62 : decode cX12_undo 62 = .ok (.iload_n 1, 1) := by decide +kernel
theorem dX12_undo_63 : decode cX12_undo 63 = .ok (.iadd, 1) := by decide +kernel
theorem dX12_undo_64 : decode cX12_undo 64 = .ok (.laload, 1) := by decide +kernel
theorem dX12_undo_65 : decode cX12_undo 65 = .ok (.lsub, 1) := by decide +kernel
theorem dX12_undo_66 : decode cX12_undo 66 = .ok (.lastore, 1) := by decide +kernel
theorem dX12_undo_67 : decode cX12_undo 67 = .ok (.iinc 1 1, 3) := by decide +kernel
theorem dX12_undo_70 : decode cX12_undo 70 = .ok (.goto (-34), 3) := by decide +kernel
theorem dX12_undo_73 : decode cX12_undo 73 = .ok (.aload_n 0, 1) := by decide +kernel
theorem dX12_undo_74 : decode cX12_undo 74 = .ok (.getfield 303, 3) := by decide +kernel
theorem dX12_undo_77 : decode cX12_undo 77 = .ok (.ireturn, 1) := by decide +kernel
theorem dX12_image_0 : decode cX12_image 0 = .ok (.aload_n 0, 1) := by decide +kernel
theorem dX12_image_1 : decode cX12_image 1 = .ok (.iconst 0, 1) := by decide +kernel
theorem dX12_image_2 : decode cX12_image 2 = .ok (.putfield 108, 3) := by decide +kernel
theorem dX12_image_5 : decode cX12_image 5 = .ok (.aload_n 0, 1) := by decide +kernel
theorem dX12_image_6 : decode cX12_image 6 = .ok (.getfield 297, 3) := by decide +kernel
theorem dX12_image_9 : decode cX12_image 9 = .ok (.ifCond .ne 5, 3) := by decide +kernel
theorem dX12_image_12 : decode cX12_image 12 = .ok (.iconst (-1), 1) := by decide +kernel
theorem dX12_image_13 : decode cX12_image 13 = .ok (.ireturn, 1) := by decide +kernel
theorem dX12_image_14 : decode cX12_image 14 = .ok (.iconst 0, 1) := by decide +kernel
theorem dX12_image_15 : decode cX12_image 15 = .ok (.istore_n 1, 1) := by decide +kernel
theorem dX12_image_16 : decode cX12_image 16 = .ok (.iload_n 1, 1) := by decide +kernel
theorem dX12_image_17 : decode cX12_image 17 = .ok (.bipush 6, 2) := by decide +kernel
theorem dX12_image_19 : decode cX12_image 19 = .ok (.if_icmp .ge 35, 3) := by decide +kernel
theorem dX12_image_22 : decode cX12_image 22 = .ok (.aload_n 0, 1) := by decide +kernel
theorem dX12_image_23 : decode cX12_image 23 = .ok (.getfield 96, 3) := by decide +kernel
theorem dX12_image_26 : decode cX12_image 26 = .ok (.iload_n 1, 1) := by decide +kernel
theorem dX12_image_27 : decode cX12_image 27 = .ok (.aload_n 0, 1) := by decide +kernel
theorem dX12_image_28 : decode cX12_image 28 = .ok (.getfield 43, 3) := by decide +kernel
theorem dX12_image_31 : decode cX12_image 31 = .ok (.iconst 3, 1) := by decide +kernel
theorem dX12_image_32 : decode cX12_image 32 = .ok (.iload_n 1, 1) := by decide +kernel
theorem dX12_image_33 : decode cX12_image 33 = .ok (.imul, 1) := by decide +kernel
theorem dX12_image_34 : decode cX12_image 34 = .ok (.iaload, 1) := by decide +kernel
theorem dX12_image_35 : decode cX12_image 35 = .ok (.iastore, 1) := by decide +kernel
theorem dX12_image_36 : decode cX12_image 36 = .ok (.aload_n 0, 1) := by decide +kernel
theorem dX12_image_37 : decode cX12_image 37 = .ok (.getfield 102, 3) := by decide +kernel
theorem dX12_image_40 : decode cX12_image 40 = .ok (.iload_n 1, 1) := by decide +kernel
theorem dX12_image_41 : decode cX12_image 41 = .ok (.aload_n 0, 1) := by decide +kernel
theorem dX12_image_42 : decode cX12_image 42 = .ok (.getfield 90, 3) := by decide +kernel
theorem dX12_image_45 : decode cX12_image 45 = .ok (.iload_n 1, 1) := by decide +kernel
theorem dX12_image_46 : decode cX12_image 46 = .ok (.laload, 1) := by decide +kernel
theorem dX12_image_47 : decode cX12_image 47 = .ok (.lastore, 1) := by decide +kernel
theorem dX12_image_48 : decode cX12_image 48 = .ok (.iinc 1 1, 3) := by decide +kernel
theorem dX12_image_51 : decode cX12_image 51 = .ok (.goto (-35), 3) := by decide +kernel
theorem dX12_image_54 : decode cX12_image 54 = .ok (.iconst 0, 1) := by decide +kernel
theorem dX12_image_55 : decode cX12_image 55 = .ok (.istore_n 1, 1) := by decide +kernel
theorem dX12_image_56 : decode cX12_image 56 = .ok (.iload_n 1, 1) := by decide +kernel
theorem dX12_image_57 : decode cX12_image 57 = .ok (.bipush 10, 2) := by decide +kernel
theorem dX12_image_59 : decode cX12_image 59 = .ok (.if_icmp .ge 21, 3) := by decide +kernel
theorem dX12_image_62 : decode cX12_image 62 = .ok (.aload_n 0, 1) := by decide +kernel
theorem dX12_image_63 : decode cX12_image 63 = .ok (.getfield 99, 3) := by decide +kernel
theorem dX12_image_66 : decode cX12_image 66 = .ok (.iload_n 1, 1) := by decide +kernel
theorem dX12_image_67 : decode cX12_image 67 = .ok (.aload_n 0, 1) := by decide +kernel
theorem dX12_image_68 : decode cX12_image 68 = .ok (.getfield 40, 3) := by decide +kernel
theorem dX12_image_71 : decode cX12_image 71 = .ok (.iload_n 1, 1) := by decide +kernel
theorem dX12_image_72 : decode cX12_image 72 = .ok (.iaload, 1) := by decide +kernel
theorem dX12_image_73 : decode cX12_image 73 = .ok (.iastore, 1) := by decide +kernel
theorem dX12_image_74 : decode cX12_image 74 = .ok (.iinc 1 1, 3) := by decide +kernel
theorem dX12_image_77 : decode cX12_image 77 = .ok (.goto (-21), 3) := by decide +kernel
theorem dX12_image_80 : decode cX12_image 80 = .ok (.iconst 0, 1) := by decide +kernel
theorem dX12_image_81 : decode cX12_image 81 = .ok (.istore_n 1, 1) := by decide +kernel
theorem dX12_image_82 : decode cX12_image 82 = .ok (.iload_n 1, 1) := by decide +kernel
theorem dX12_image_83 : decode cX12_image 83 = .ok (.sipush 240, 3) := by decide +kernel
theorem dX12_image_86 : decode cX12_image 86 = .ok (.if_icmp .ge 21, 3) := by decide +kernel
theorem dX12_image_89 : decode cX12_image 89 = .ok (.aload_n 0, 1) := by decide +kernel
theorem dX12_image_90 : decode cX12_image 90 = .ok (.getfield 105, 3) := by decide +kernel
theorem dX12_image_93 : decode cX12_image 93 = .ok (.iload_n 1, 1) := by decide +kernel
theorem dX12_image_94 : decode cX12_image 94 = .ok (.aload_n 0, 1) := by decide +kernel
theorem dX12_image_95 : decode cX12_image 95 = .ok (.getfield 93, 3) := by decide +kernel
theorem dX12_image_98 : decode cX12_image 98 = .ok (.iload_n 1, 1) := by decide +kernel
theorem dX12_image_99 : decode cX12_image 99 = .ok (.laload, 1) := by decide +kernel
theorem dX12_image_100 : decode cX12_image 100 = .ok (.lastore, 1) := by decide +kernel
theorem dX12_image_101 : decode cX12_image 101 = .ok (.iinc 1 1, 3) := by decide +kernel
theorem dX12_image_104 : decode cX12_image 104 = .ok (.goto (-22), 3) := by decide +kernel
theorem dX12_image_107 : decode cX12_image 107 = .ok (.aload_n 0, 1) := by decide +kernel
theorem dX12_image_108 : decode cX12_image 108 = .ok (.aload_n 0, 1) := by decide +kernel
theorem dX12_image_109 : decode cX12_image 109 = .ok (.getfield 303, 3) := by decide +kernel
theorem dX12_image_112 : decode cX12_image 112 = .ok (.putfield 458, 3) := by decide +kernel
theorem dX12_image_115 : decode cX12_image 115 = .ok (.aload_n 0, 1) := by decide +kernel
theorem dX12_image_116 : decode cX12_image 116 = .ok (.aload_n 0, 1) := by decide +kernel
theorem dX12_image_117 : decode cX12_image 117 = .ok (.getfield 306, 3) := by decide +kernel
theorem dX12_image_120 : decode cX12_image 120 = .ok (.putfield 461, 3) := by decide +kernel
theorem dX12_image_123 : decode cX12_image 123 = .ok (.aload_n 0, 1) := by decide +kernel
theorem dX12_image_124 : decode cX12_image 124 = .ok (.iconst 1, 1) := by decide +kernel
theorem dX12_image_125 : decode cX12_image 125 = .ok (.putfield 309, 3) := by decide +kernel
theorem dX12_image_128 : decode cX12_image 128 = .ok (.aload_n 0, 1) := by decide +kernel
theorem dX12_image_129 : decode cX12_image 129 = .ok (.getfield 303, 3) := by decide +kernel
theorem dX12_image_132 : decode cX12_image 132 = .ok (.ireturn, 1) := by decide +kernel
theorem dX12_back_0 : decode cX12_back 0 = .ok (.aload_n 0, 1) := by decide +kernel
theorem dX12_back_1 : decode cX12_back 1 = .ok (.iconst 0, 1) := by decide +kernel
theorem dX12_back_2 : decode cX12_back 2 = .ok (.putfield 108, 3) := by decide +kernel
theorem dX12_back_5 : decode cX12_back 5 = .ok (.aload_n 0, 1) := by decide +kernel
theorem dX12_back_6 : decode cX12_back 6 = .ok (.getfield 309, 3) := by decide +kernel
theorem dX12_back_9 : decode cX12_back 9 = .ok (.ifCond .ne 5, 3) := by decide +kernel
theorem dX12_back_12 : decode cX12_back 12 = .ok (.iconst (-1), 1) := by decide +kernel
theorem dX12_back_13 : decode cX12_back 13 = .ok (.ireturn, 1) := by decide +kernel
theorem dX12_back_14 : decode cX12_back 14 = .ok (.iconst 0, 1) := by decide +kernel
theorem dX12_back_15 : decode cX12_back 15 = .ok (.istore_n 1, 1) := by decide +kernel
theorem dX12_back_16 : decode cX12_back 16 = .ok (.iload_n 1, 1) := by decide +kernel
theorem dX12_back_17 : decode cX12_back 17 = .ok (.bipush 6, 2) := by decide +kernel
theorem dX12_back_19 : decode cX12_back 19 = .ok (.if_icmp .ge 35, 3) := by decide +kernel
theorem dX12_back_22 : decode cX12_back 22 = .ok (.aload_n 0, 1) := by decide +kernel
theorem dX12_back_23 : decode cX12_back 23 = .ok (.getfield 43, 3) := by decide +kernel
theorem dX12_back_26 : decode cX12_back 26 = .ok (.iconst 3, 1) := by decide +kernel
theorem dX12_back_27 : decode cX12_back 27 = .ok (.iload_n 1, 1) := by decide +kernel
theorem dX12_back_28 : decode cX12_back 28 = .ok (.imul, 1) := by decide +kernel
theorem dX12_back_29 : decode cX12_back 29 = .ok (.aload_n 0, 1) := by decide +kernel
theorem dX12_back_30 : decode cX12_back 30 = .ok (.getfield 96, 3) := by decide +kernel
theorem dX12_back_33 : decode cX12_back 33 = .ok (.iload_n 1, 1) := by decide +kernel
theorem dX12_back_34 : decode cX12_back 34 = .ok (.iaload, 1) := by decide +kernel
theorem dX12_back_35 : decode cX12_back 35 = .ok (.iastore, 1) := by decide +kernel
theorem dX12_back_36 : decode cX12_back 36 = .ok (.aload_n 0, 1) := by decide +kernel
theorem dX12_back_37 : decode cX12_back 37 = .ok (.getfield 90, 3) := by decide +kernel
theorem dX12_back_40 : decode cX12_back 40 = .ok (.iload_n 1, 1) := by decide +kernel
theorem dX12_back_41 : decode cX12_back 41 = .ok (.aload_n 0, 1) := by decide +kernel
theorem dX12_back_42 : decode cX12_back 42 = .ok (.getfield 102, 3) := by decide +kernel
theorem dX12_back_45 : decode cX12_back 45 = .ok (.iload_n 1, 1) := by decide +kernel
theorem dX12_back_46 : decode cX12_back 46 = .ok (.laload, 1) := by decide +kernel
theorem dX12_back_47 : decode cX12_back 47 = .ok (.lastore, 1) := by decide +kernel
theorem dX12_back_48 : decode cX12_back 48 = .ok (.iinc 1 1, 3) := by decide +kernel
theorem dX12_back_51 : decode cX12_back 51 = .ok (.goto (-35), 3) := by decide +kernel
theorem dX12_back_54 : decode cX12_back 54 = .ok (.iconst 0, 1) := by decide +kernel
theorem dX12_back_55 : decode cX12_back 55 = .ok (.istore_n 1, 1) := by decide +kernel
theorem dX12_back_56 : decode cX12_back 56 = .ok (.iload_n 1, 1) := by decide +kernel
theorem dX12_back_57 : decode cX12_back 57 = .ok (.bipush 10, 2) := by decide +kernel
theorem dX12_back_59 : decode cX12_back 59 = .ok (.if_icmp .ge 21, 3) := by decide +kernel
theorem dX12_back_62 : decode cX12_back 62 = .ok (.aload_n 0, 1) := by decide +kernel
theorem dX12_back_63 : decode cX12_back 63 = .ok (.getfield 40, 3) := by decide +kernel
theorem dX12_back_66 : decode cX12_back 66 = .ok (.iload_n 1, 1) := by decide +kernel
theorem dX12_back_67 : decode cX12_back 67 = .ok (.aload_n 0, 1) := by decide +kernel
theorem dX12_back_68 : decode cX12_back 68 = .ok (.getfield 99, 3) := by decide +kernel
theorem dX12_back_71 : decode cX12_back 71 = .ok (.iload_n 1, 1) := by decide +kernel
theorem dX12_back_72 : decode cX12_back 72 = .ok (.iaload, 1) := by decide +kernel
theorem dX12_back_73 : decode cX12_back 73 = .ok (.iastore, 1) := by decide +kernel
theorem dX12_back_74 : decode cX12_back 74 = .ok (.iinc 1 1, 3) := by decide +kernel
theorem dX12_back_77 : decode cX12_back 77 = .ok (.goto (-21), 3) := by decide +kernel
theorem dX12_back_80 : decode cX12_back 80 = .ok (.iconst 0, 1) := by decide +kernel
theorem dX12_back_81 : decode cX12_back 81 = .ok (.istore_n 1, 1) := by decide +kernel
theorem dX12_back_82 : decode cX12_back 82 = .ok (.iload_n 1, 1) := by decide +kernel
theorem dX12_back_83 : decode cX12_back 83 = .ok (.sipush 240, 3) := by decide +kernel
theorem dX12_back_86 : decode cX12_back 86 = .ok (.if_icmp .ge 21, 3) := by decide +kernel
theorem dX12_back_89 : decode cX12_back 89 = .ok (.aload_n 0, 1) := by decide +kernel
theorem dX12_back_90 : decode cX12_back 90 = .ok (.getfield 93, 3) := by decide +kernel
theorem dX12_back_93 : decode cX12_back 93 = .ok (.iload_n 1, 1) := by decide +kernel
theorem dX12_back_94 : decode cX12_back 94 = .ok (.aload_n 0, 1) := by decide +kernel
theorem dX12_back_95 : decode cX12_back 95 = .ok (.getfield 105, 3) := by decide +kernel
theorem dX12_back_98 : decode cX12_back 98 = .ok (.iload_n 1, 1) := by decide +kernel
theorem dX12_back_99 : decode cX12_back 99 = .ok (.laload, 1) := by decide +kernel
theorem dX12_back_100 : decode cX12_back 100 = .ok (.lastore, 1) := by decide +kernel
theorem dX12_back_101 : decode cX12_back 101 = .ok (.iinc 1 1, 3) := by decide +kernel
theorem dX12_back_104 : decode cX12_back 104 = .ok (.goto (-22), 3) := by decide +kernel
theorem dX12_back_107 : decode cX12_back 107 = .ok (.aload_n 0, 1) := by decide +kernel
theorem dX12_back_108 : decode cX12_back 108 = .ok (.aload_n 0, 1) := by decide +kernel
theorem dX12_back_109 : decode cX12_back 109 = .ok (.getfield 458, 3) := by decide +kernel
theorem dX12_back_112 : decode cX12_back 112 = .ok (.putfield 303, 3) := by decide +kernel
theorem dX12_back_115 : decode cX12_back 115 = .ok (.aload_n 0, 1) := by decide +kernel
theorem dX12_back_116 : decode cX12_back 116 = .ok (.aload_n 0, 1) := by decide +kernel
theorem dX12_back_117 : decode cX12_back 117 = .ok (.getfield 461, 3) := by decide +kernel
theorem dX12_back_120 : decode cX12_back 120 = .ok (.putfield 306, 3) := by decide +kernel
theorem dX12_back_123 : decode cX12_back 123 = .ok (.aload_n 0, 1) := by decide +kernel
theorem dX12_back_124 : decode cX12_back 124 = .ok (.getfield 303, 3) := by decide +kernel
theorem dX12_back_127 : decode cX12_back 127 = .ok (.ireturn, 1) := by decide +kernel
theorem dX12_count_0 : decode cX12_count 0 = .ok (.aload_n 0, 1) := by decide +kernel
theorem dX12_count_1 : decode cX12_count 1 = .ok (.iconst 0, 1) := by decide +kernel
theorem dX12_count_2 : decode cX12_count 2 = .ok (.putfield 108, 3) := by decide +kernel
theorem dX12_count_5 : decode cX12_count 5 = .ok (.iload_n 1, 1) := by decide +kernel
theorem dX12_count_6 : decode cX12_count 6 = .ok (.tableswitch 165 0 10 #[58, 63, 81, 86, 91, 96, 101, 106, 124, 142, 160], 58) := by decide +kernel
theorem dX12_count_64 : decode cX12_count 64 = .ok (.aload_n 0, 1) := by decide +kernel
theorem dX12_count_65 : decode cX12_count 65 = .ok (.getfield 297, 3) := by decide +kernel
theorem dX12_count_68 : decode cX12_count 68 = .ok (.ireturn, 1) := by decide +kernel
theorem dX12_count_69 : decode cX12_count 69 = .ok (.aload_n 0, 1) := by decide +kernel
theorem dX12_count_70 : decode cX12_count 70 = .ok (.getfield 297, 3) := by decide +kernel
theorem dX12_count_73 : decode cX12_count 73 = .ok (.ifCond .ne 7, 3) := by decide +kernel
theorem dX12_count_76 : decode cX12_count 76 = .ok (.iconst 0, 1) := by decide +kernel
theorem dX12_count_77 : decode cX12_count 77 = .ok (.goto 9, 3) := by decide +kernel
theorem dX12_count_80 : decode cX12_count 80 = .ok (.aload_n 0, 1) := by decide +kernel
theorem dX12_count_81 : decode cX12_count 81 = .ok (.getfield 294, 3) := by decide +kernel
theorem dX12_count_84 : decode cX12_count 84 = .ok (.iconst 1, 1) := by decide +kernel
theorem dX12_count_85 : decode cX12_count 85 = .ok (.iadd, 1) := by decide +kernel
theorem dX12_count_86 : decode cX12_count 86 = .ok (.ireturn, 1) := by decide +kernel
theorem dX12_count_87 : decode cX12_count 87 = .ok (.aload_n 0, 1) := by decide +kernel
theorem dX12_count_88 : decode cX12_count 88 = .ok (.getfield 289, 3) := by decide +kernel
theorem dX12_count_91 : decode cX12_count 91 = .ok (.ireturn, 1) := by decide +kernel
theorem dX12_count_92 : decode cX12_count 92 = .ok (.aload_n 0, 1) := by decide +kernel
theorem dX12_count_93 : decode cX12_count 93 = .ok (.getfield 131, 3) := by decide +kernel
theorem dX12_count_96 : decode cX12_count 96 = .ok (.ireturn, 1) := by decide +kernel
theorem dX12_count_97 : decode cX12_count 97 = .ok (.aload_n 0, 1) := by decide +kernel
theorem dX12_count_98 : decode cX12_count 98 = .ok (.getfield 303, 3) := by decide +kernel
theorem dX12_count_101 : decode cX12_count 101 = .ok (.ireturn, 1) := by decide +kernel
theorem dX12_count_102 : decode cX12_count 102 = .ok (.aload_n 0, 1) := by decide +kernel
theorem dX12_count_103 : decode cX12_count 103 = .ok (.getfield 306, 3) := by decide +kernel
theorem dX12_count_106 : decode cX12_count 106 = .ok (.ireturn, 1) := by decide +kernel
theorem dX12_count_107 : decode cX12_count 107 = .ok (.aload_n 0, 1) := by decide +kernel
theorem dX12_count_108 : decode cX12_count 108 = .ok (.getfield 300, 3) := by decide +kernel
theorem dX12_count_111 : decode cX12_count 111 = .ok (.ireturn, 1) := by decide +kernel
theorem dX12_count_112 : decode cX12_count 112 = .ok (.aload_n 0, 1) := by decide +kernel
theorem dX12_count_113 : decode cX12_count 113 = .ok (.getfield 297, 3) := by decide +kernel
theorem dX12_count_116 : decode cX12_count 116 = .ok (.ifCond .ne 7, 3) := by decide +kernel
theorem dX12_count_119 : decode cX12_count 119 = .ok (.iconst 0, 1) := by decide +kernel
theorem dX12_count_120 : decode cX12_count 120 = .ok (.goto 9, 3) := by decide +kernel
theorem dX12_count_123 : decode cX12_count 123 = .ok (.aload_n 0, 1) := by decide +kernel
theorem dX12_count_124 : decode cX12_count 124 = .ok (.getfield 46, 3) := by decide +kernel
theorem dX12_count_127 : decode cX12_count 127 = .ok (.iconst 0, 1) := by decide +kernel
theorem dX12_count_128 : decode cX12_count 128 = .ok (.iaload, 1) := by decide +kernel
theorem dX12_count_129 : decode cX12_count 129 = .ok (.ireturn, 1) := by decide +kernel
theorem dX12_count_130 : decode cX12_count 130 = .ok (.aload_n 0, 1) := by decide +kernel
theorem dX12_count_131 : decode cX12_count 131 = .ok (.getfield 297, 3) := by decide +kernel
theorem dX12_count_134 : decode cX12_count 134 = .ok (.ifCond .ne 7, 3) := by decide +kernel
theorem dX12_count_137 : decode cX12_count 137 = .ok (.iconst 0, 1) := by decide +kernel
theorem dX12_count_138 : decode cX12_count 138 = .ok (.goto 9, 3) := by decide +kernel
theorem dX12_count_141 : decode cX12_count 141 = .ok (.aload_n 0, 1) := by decide +kernel
theorem dX12_count_142 : decode cX12_count 142 = .ok (.getfield 46, 3) := by decide +kernel
theorem dX12_count_145 : decode cX12_count 145 = .ok (.iconst 1, 1) := by decide +kernel
theorem dX12_count_146 : decode cX12_count 146 = .ok (.iaload, 1) := by decide +kernel
theorem dX12_count_147 : decode cX12_count 147 = .ok (.ireturn, 1) := by decide +kernel
theorem dX12_count_148 : decode cX12_count 148 = .ok (.aload_n 0, 1) := by decide +kernel
theorem dX12_count_149 : decode cX12_count 149 = .ok (.getfield 297, 3) := by decide +kernel
theorem dX12_count_152 : decode cX12_count 152 = .ok (.ifCond .ne 7, 3) := by decide +kernel
theorem dX12_count_155 : decode cX12_count 155 = .ok (.iconst 0, 1) := by decide +kernel
theorem dX12_count_156 : decode cX12_count 156 = .ok (.goto 9, 3) := by decide +kernel
theorem dX12_count_159 : decode cX12_count 159 = .ok (.aload_n 0, 1) := by decide +kernel
theorem dX12_count_160 : decode cX12_count 160 = .ok (.getfield 46, 3) := by decide +kernel
theorem dX12_count_163 : decode cX12_count 163 = .ok (.iconst 2, 1) := by decide +kernel
theorem dX12_count_164 : decode cX12_count 164 = .ok (.iaload, 1) := by decide +kernel
theorem dX12_count_165 : decode cX12_count 165 = .ok (.ireturn, 1) := by decide +kernel
theorem dX12_count_166 : decode cX12_count 166 = .ok (.aload_n 0, 1) := by decide +kernel
theorem dX12_count_167 : decode cX12_count 167 = .ok (.getfield 61, 3) := by decide +kernel
theorem dX12_count_170 : decode cX12_count 170 = .ok (.ireturn, 1) := by decide +kernel
theorem dX12_count_171 : decode cX12_count 171 = .ok (.ldc_w 464, 3) := by decide +kernel
theorem dX12_count_174 : decode cX12_count 174 = .ok (.ireturn, 1) := by decide +kernel
theorem dJ6_bitCount_0f7a4_0 : decode cJ6_bitCount_0f7a4 0 = .ok (.iload_n 0, 1) := by decide +kernel
theorem dJ6_bitCount_0f7a4_1 : decode cJ6_bitCount_0f7a4 1 = .ok (.iload_n 0, 1) := by decide +kernel
theorem dJ6_bitCount_0f7a4_2 : decode cJ6_bitCount_0f7a4 2 = .ok (.iconst 1, 1) := by decide +kernel
theorem dJ6_bitCount_0f7a4_3 : decode cJ6_bitCount_0f7a4 3 = .ok (.iushr, 1) := by decide +kernel
theorem dJ6_bitCount_0f7a4_4 : decode cJ6_bitCount_0f7a4 4 = .ok (.ldc_w 265, 3) := by decide +kernel
theorem dJ6_bitCount_0f7a4_7 : decode cJ6_bitCount_0f7a4 7 = .ok (.iand, 1) := by decide +kernel
theorem dJ6_bitCount_0f7a4_8 : decode cJ6_bitCount_0f7a4 8 = .ok (.isub, 1) := by decide +kernel
theorem dJ6_bitCount_0f7a4_9 : decode cJ6_bitCount_0f7a4 9 = .ok (.istore_n 0, 1) := by decide +kernel
theorem dJ6_bitCount_0f7a4_10 : decode cJ6_bitCount_0f7a4 10 = .ok (.iload_n 0, 1) := by decide +kernel
theorem dJ6_bitCount_0f7a4_11 : decode cJ6_bitCount_0f7a4 11 = .ok (.ldc_w 266, 3) := by decide +kernel
theorem dJ6_bitCount_0f7a4_14 : decode cJ6_bitCount_0f7a4 14 = .ok (.iand, 1) := by decide +kernel
theorem dJ6_bitCount_0f7a4_15 : decode cJ6_bitCount_0f7a4 15 = .ok (.iload_n 0, 1) := by decide +kernel
theorem dJ6_bitCount_0f7a4_16 : decode cJ6_bitCount_0f7a4 16 = .ok (.iconst 2, 1) := by decide +kernel
theorem dJ6_bitCount_0f7a4_17 : decode cJ6_bitCount_0f7a4 17 = .ok (.iushr, 1) := by decide +kernel
theorem dJ6_bitCount_0f7a4_18 : decode cJ6_bitCount_0f7a4 18 = .ok (.ldc_w 266, 3) := by decide +kernel
theorem dJ6_bitCount_0f7a4_21 : decode cJ6_bitCount_0f7a4 21 = .ok (.iand, 1) := by decide +kernel
theorem dJ6_bitCount_0f7a4_22 : decode cJ6_bitCount_0f7a4 22 = .ok (.iadd, 1) := by decide +kernel
theorem dJ6_bitCount_0f7a4_23 : decode cJ6_bitCount_0f7a4 23 = .ok (.istore_n 0, 1) := by decide +kernel
theorem dJ6_bitCount_0f7a4_24 : decode cJ6_bitCount_0f7a4 24 = .ok (.iload_n 0, 1) := by decide +kernel
theorem dJ6_bitCount_0f7a4_25 : decode cJ6_bitCount_0f7a4 25 = .ok (.iload_n 0, 1) := by decide +kernel
theorem dJ6_bitCount_0f7a4_26 : decode cJ6_bitCount_0f7a4 26 = .ok (.iconst 4, 1) := by decide +kernel
theorem dJ6_bitCount_0f7a4_27 : decode cJ6_bitCount_0f7a4 27 = .ok (.iushr, 1) := by decide +kernel
theorem dJ6_bitCount_0f7a4_28 : decode cJ6_bitCount_0f7a4 28 = .ok (.iadd, 1) := by decide +kernel
theorem dJ6_bitCount_0f7a4_29 : decode cJ6_bitCount_0f7a4 29 = .ok (.ldc_w 267, 3) := by decide +kernel
theorem dJ6_bitCount_0f7a4_32 : decode cJ6_bitCount_0f7a4 32 = .ok (.iand, 1) := by decide +kernel
theorem dJ6_bitCount_0f7a4_33 : decode cJ6_bitCount_0f7a4 33 = .ok (.istore_n 0, 1) := by decide +kernel
theorem dJ6_bitCount_0f7a4_34 : decode cJ6_bitCount_0f7a4 34 = .ok (.iload_n 0, 1) := by decide +kernel
theorem dJ6_bitCount_0f7a4_35 : decode cJ6_bitCount_0f7a4 35 = .ok (.iload_n 0, 1) := by decide +kernel
theorem dJ6_bitCount_0f7a4_36 : decode cJ6_bitCount_0f7a4 36 = .ok (.bipush 8, 2) := by decide +kernel
theorem dJ6_bitCount_0f7a4_38 : decode cJ6_bitCount_0f7a4 38 = .ok (.iushr, 1) := by decide +kernel
theorem dJ6_bitCount_0f7a4_39 : decode cJ6_bitCount_0f7a4 39 = .ok (.iadd, 1) := by decide +kernel
theorem dJ6_bitCount_0f7a4_40 : decode cJ6_bitCount_0f7a4 40 = .ok (.istore_n 0, 1) := by decide +kernel
theorem dJ6_bitCount_0f7a4_41 : decode cJ6_bitCount_0f7a4 41 = .ok (.iload_n 0, 1) := by decide +kernel
theorem dJ6_bitCount_0f7a4_42 : decode cJ6_bitCount_0f7a4 42 = .ok (.iload_n 0, 1) := by decide +kernel
theorem dJ6_bitCount_0f7a4_43 : decode cJ6_bitCount_0f7a4 43 = .ok (.bipush 16, 2) := by decide +kernel
theorem dJ6_bitCount_0f7a4_45 : decode cJ6_bitCount_0f7a4 45 = .ok (.iushr, 1) := by decide +kernel
theorem dJ6_bitCount_0f7a4_46 : decode cJ6_bitCount_0f7a4 46 = .ok (.iadd, 1) := by decide +kernel
theorem dJ6_bitCount_0f7a4_47 : decode cJ6_bitCount_0f7a4 47 = .ok (.istore_n 0, 1) := by decide +kernel
theorem dJ6_bitCount_0f7a4_48 : decode cJ6_bitCount_0f7a4 48 = .ok (.iload_n 0, 1) := by decide +kernel
theorem dJ6_bitCount_0f7a4_49 : decode cJ6_bitCount_0f7a4 49 = .ok (.bipush 63, 2) := by decide +kernel
theorem dJ6_bitCount_0f7a4_51 : decode cJ6_bitCount_0f7a4 51 = .ok (.iand, 1) := by decide +kernel
theorem dJ6_bitCount_0f7a4_52 : decode cJ6_bitCount_0f7a4 52 = .ok (.ireturn, 1) := by decide +kernel
theorem dJ7_fill_d0a16_0 : decode cJ7_fill_d0a16 0 = .ok (.iconst 0, 1) := by decide +kernel
theorem dJ7_fill_d0a16_1 : decode cJ7_fill_d0a16 1 = .ok (.istore_n 3, 1) := by decide +kernel
theorem dJ7_fill_d0a16_2 : decode cJ7_fill_d0a16 2 = .ok (.aload_n 0, 1) := by decide +kernel
theorem dJ7_fill_d0a16_3 : decode cJ7_fill_d0a16 3 = .ok (.arraylength, 1) := by decide +kernel
theorem dJ7_fill_d0a16_4 : decode cJ7_fill_d0a16 4 = .ok (.istore 4, 2) := by decide +kernel
theorem dJ7_fill_d0a16_6 : decode cJ7_fill_d0a16 6 = .ok (.iload_n 3, 1) := by decide +kernel
theorem dJ7_fill_d0a16_7 : decode cJ7_fill_d0a16 7 = .ok (.iload 4, 2) := by decide +kernel
theorem dJ7_fill_d0a16_9 : decode cJ7_fill_d0a16 9 = .ok (.if_icmp .ge 13, 3) := by decide +kernel
theorem dJ7_fill_d0a16_12 : decode cJ7_fill_d0a16 12 = .ok (.aload_n 0, 1) := by decide +kernel
theorem dJ7_fill_d0a16_13 : decode cJ7_fill_d0a16 13 = .ok (.iload_n 3, 1) := by decide +kernel
theorem dJ7_fill_d0a16_14 : decode cJ7_fill_d0a16 14 = .ok (.lload_n 1, 1) := by decide +kernel
theorem dJ7_fill_d0a16_15 : decode cJ7_fill_d0a16 15 = .ok (.lastore, 1) := by decide +kernel
theorem dJ7_fill_d0a16_16 : decode cJ7_fill_d0a16 16 = .ok (.iinc 3 1, 3) := by decide +kernel
theorem dJ7_fill_d0a16_19 : decode cJ7_fill_d0a16 19 = .ok (.goto (-13), 3) := by decide +kernel
theorem dJ7_fill_d0a16_22 : decode cJ7_fill_d0a16 22 = .ok (.return_, 1) := by decide +kernel
theorem dJ7_fill_53178_0 : decode cJ7_fill_53178 0 = .ok (.iconst 0, 1) := by decide +kernel
theorem dJ7_fill_53178_1 : decode cJ7_fill_53178 1 = .ok (.istore_n 2, 1) := by decide +kernel
theorem dJ7_fill_53178_2 : decode cJ7_fill_53178 2 = .ok (.aload_n 0, 1) := by decide +kernel
theorem dJ7_fill_53178_3 : decode cJ7_fill_53178 3 = .ok (.arraylength, 1) := by decide +kernel
theorem dJ7_fill_53178_4 : decode cJ7_fill_53178 4 = .ok (.istore_n 3, 1) := by decide +kernel
theorem dJ7_fill_53178_5 : decode cJ7_fill_53178 5 = .ok (.iload_n 2, 1) := by decide +kernel
theorem dJ7_fill_53178_6 : decode cJ7_fill_53178 6 = .ok (.iload_n 3, 1) := by decide +kernel
theorem dJ7_fill_53178_7 : decode cJ7_fill_53178 7 = .ok (.if_icmp .ge 13, 3) := by decide +kernel
theorem dJ7_fill_53178_10 : decode cJ7_fill_53178 10 = .ok (.aload_n 0, 1) := by decide +kernel
theorem dJ7_fill_53178_11 : decode cJ7_fill_53178 11 = .ok (.iload_n 2, 1) := by decide +kernel
theorem dJ7_fill_53178_12 : decode cJ7_fill_53178 12 = .ok (.iload_n 1, 1) := by decide +kernel
theorem dJ7_fill_53178_13 : decode cJ7_fill_53178 13 = .ok (.iastore, 1) := by decide +kernel
theorem dJ7_fill_53178_14 : decode cJ7_fill_53178 14 = .ok (.iinc 2 1, 3) := by decide +kernel
theorem dJ7_fill_53178_17 : decode cJ7_fill_53178 17 = .ok (.goto (-12), 3) := by decide +kernel
theorem dJ7_fill_53178_20 : decode cJ7_fill_53178 20 = .ok (.return_, 1) := by decide +kernel
theorem dL_rider_0 : decode cL_rider 0 = .ok (.aload_n 3, 1) := by decide +kernel
theorem dL_rider_1 : decode cL_rider 1 = .ok (.iconst 0, 1) := by decide +kernel
theorem dL_rider_2 : decode cL_rider 2 = .ok (.aload_n 0, 1) := by decide +kernel
theorem dL_rider_3 : decode cL_rider 3 = .ok (.iload_n 1, 1) := by decide +kernel
theorem dL_rider_4 : decode cL_rider 4 = .ok (.iload_n 2, 1) := by decide +kernel
theorem dL_rider_5 : decode cL_rider 5 = .ok (.invokevirtual 7, 3) := by decide +kernel
theorem dL_rider_8 : decode cL_rider 8 = .ok (.i2l, 1) := by decide +kernel
theorem dL_rider_9 : decode cL_rider 9 = .ok (.lastore, 1) := by decide +kernel
theorem dL_rider_10 : decode cL_rider 10 = .ok (.goto 7, 3) := by decide +kernel
theorem dL_rider_13 : decode cL_rider 13 = .ok (.astore 4, 2) := by decide +kernel
theorem dL_rider_15 : decode cL_rider 15 = .ok (.iconst 1, 1) := by decide +kernel
theorem dL_rider_16 : decode cL_rider 16 = .ok (.ireturn, 1) := by decide +kernel
theorem dL_rider_17 : decode cL_rider 17 = .ok (.iconst 0, 1) := by decide +kernel
theorem dL_rider_18 : decode cL_rider 18 = .ok (.ireturn, 1) := by decide +kernel
theorem dL_law_0 : decode cL_law 0 = .ok (.new 8, 3) := by decide +kernel
theorem dL_law_3 : decode cL_law 3 = .ok (.dup, 1) := by decide +kernel
theorem dL_law_4 : decode cL_law 4 = .ok (.invokespecial 15, 3) := by decide +kernel
theorem dL_law_7 : decode cL_law 7 = .ok (.astore_n 1, 1) := by decide +kernel
theorem dL_law_8 : decode cL_law 8 = .ok (.new 16, 3) := by decide +kernel
theorem dL_law_11 : decode cL_law 11 = .ok (.dup, 1) := by decide +kernel
theorem dL_law_12 : decode cL_law 12 = .ok (.invokespecial 18, 3) := by decide +kernel
theorem dL_law_15 : decode cL_law 15 = .ok (.astore_n 2, 1) := by decide +kernel
theorem dL_law_16 : decode cL_law 16 = .ok (.iconst 1, 1) := by decide +kernel
theorem dL_law_17 : decode cL_law 17 = .ok (.newarray .long, 2) := by decide +kernel
theorem dL_law_19 : decode cL_law 19 = .ok (.astore_n 3, 1) := by decide +kernel
theorem dL_law_20 : decode cL_law 20 = .ok (.iconst 0, 1) := by decide +kernel
theorem dL_law_21 : decode cL_law 21 = .ok (.istore 4, 2) := by decide +kernel
theorem dL_law_23 : decode cL_law 23 = .ok (.iload 4, 2) := by decide +kernel
theorem dL_law_25 : decode cL_law 25 = .ok (.aload_n 0, 1) := by decide +kernel
theorem dL_law_26 : decode cL_law 26 = .ok (.arraylength, 1) := by decide +kernel
theorem dL_law_27 : decode cL_law 27 = .ok (.bipush 6, 2) := by decide +kernel
theorem dL_law_29 : decode cL_law 29 = .ok (.isub, 1) := by decide +kernel
theorem dL_law_30 : decode cL_law 30 = .ok (.if_icmp .gt 1257, 3) := by decide +kernel
theorem dL_law_33 : decode cL_law 33 = .ok (.aload_n 0, 1) := by decide +kernel
theorem dL_law_34 : decode cL_law 34 = .ok (.iload 4, 2) := by decide +kernel
theorem dL_law_36 : decode cL_law 36 = .ok (.iaload, 1) := by decide +kernel
theorem dL_law_37 : decode cL_law 37 = .ok (.bipush 31, 2) := by decide +kernel
theorem dL_law_39 : decode cL_law 39 = .ok (.iand, 1) := by decide +kernel
theorem dL_law_40 : decode cL_law 40 = .ok (.tableswitch 1241 0 29 #[136, 209, 234, 259, 284, 352, 389, 426, 463, 500, 525, 562, 624, 661, 699, 748, 797, 822, 859, 884, 934, 959, 1008, 1033, 1070, 1151, 1177, 1190, 1203, 1216], 136) := by decide +kernel
theorem dL_law_176 : decode cL_law 176 = .ok (.aload_n 1, 1) := by decide +kernel
theorem dL_law_177 : decode cL_law 177 = .ok (.aload_n 0, 1) := by decide +kernel
theorem dL_law_178 : decode cL_law 178 = .ok (.iload 4, 2) := by decide +kernel
theorem dL_law_180 : decode cL_law 180 = .ok (.iconst 1, 1) := by decide +kernel
theorem dL_law_181 : decode cL_law 181 = .ok (.iadd, 1) := by decide +kernel
theorem dL_law_182 : decode cL_law 182 = .ok (.iaload, 1) := by decide +kernel
theorem dL_law_183 : decode cL_law 183 = .ok (.aload_n 0, 1) := by decide +kernel
theorem dL_law_184 : decode cL_law 184 = .ok (.iload 4, 2) := by decide +kernel
theorem dL_law_186 : decode cL_law 186 = .ok (.iconst 2, 1) := by decide +kernel
theorem dL_law_187 : decode cL_law 187 = .ok (.iadd, 1) := by decide +kernel
theorem dL_law_188 : decode cL_law 188 = .ok (.iaload, 1) := by decide +kernel
theorem dL_law_189 : decode cL_law 189 = .ok (.aload_n 0, 1) := by decide +kernel
theorem dL_law_190 : decode cL_law 190 = .ok (.iload 4, 2) := by decide +kernel
theorem dL_law_192 : decode cL_law 192 = .ok (.iconst 3, 1) := by decide +kernel
theorem dL_law_193 : decode cL_law 193 = .ok (.iadd, 1) := by decide +kernel
theorem dL_law_194 : decode cL_law 194 = .ok (.iaload, 1) := by decide +kernel
theorem dL_law_195 : decode cL_law 195 = .ok (.aload_n 0, 1) := by decide +kernel
theorem dL_law_196 : decode cL_law 196 = .ok (.iload 4, 2) := by decide +kernel
theorem dL_law_198 : decode cL_law 198 = .ok (.iconst 4, 1) := by decide +kernel
theorem dL_law_199 : decode cL_law 199 = .ok (.iadd, 1) := by decide +kernel
theorem dL_law_200 : decode cL_law 200 = .ok (.iaload, 1) := by decide +kernel
theorem dL_law_201 : decode cL_law 201 = .ok (.aload_n 0, 1) := by decide +kernel
theorem dL_law_202 : decode cL_law 202 = .ok (.iload 4, 2) := by decide +kernel
theorem dL_law_204 : decode cL_law 204 = .ok (.iconst 5, 1) := by decide +kernel
theorem dL_law_205 : decode cL_law 205 = .ok (.iadd, 1) := by decide +kernel
theorem dL_law_206 : decode cL_law 206 = .ok (.iaload, 1) := by decide +kernel
theorem dL_law_207 : decode cL_law 207 = .ok (.invokevirtual 19, 3) := by decide +kernel
theorem dL_law_210 : decode cL_law 210 = .ok (.aload_n 2, 1) := by decide +kernel
theorem dL_law_211 : decode cL_law 211 = .ok (.aload_n 0, 1) := by decide +kernel
theorem dL_law_212 : decode cL_law 212 = .ok (.iload 4, 2) := by decide +kernel
theorem dL_law_214 : decode cL_law 214 = .ok (.iconst 1, 1) := by decide +kernel
theorem dL_law_215 : decode cL_law 215 = .ok (.iadd, 1) := by decide +kernel
theorem dL_law_216 : decode cL_law 216 = .ok (.iaload, 1) := by decide +kernel
theorem dL_law_217 : decode cL_law 217 = .ok (.aload_n 0, 1) := by decide +kernel
theorem dL_law_218 : decode cL_law 218 = .ok (.iload 4, 2) := by decide +kernel
theorem dL_law_220 : decode cL_law 220 = .ok (.iconst 2, 1) := by decide +kernel
theorem dL_law_221 : decode cL_law 221 = .ok (.iadd, 1) := by decide +kernel
theorem dL_law_222 : decode cL_law 222 = .ok (.iaload, 1) := by decide +kernel
theorem dL_law_223 : decode cL_law 223 = .ok (.aload_n 0, 1) := by decide +kernel
theorem dL_law_224 : decode cL_law 224 = .ok (.iload 4, 2) := by decide +kernel
theorem dL_law_226 : decode cL_law 226 = .ok (.iconst 3, 1) := by decide +kernel
theorem dL_law_227 : decode cL_law 227 = .ok (.iadd, 1) := by decide +kernel
theorem dL_law_228 : decode cL_law 228 = .ok (.iaload, 1) := by decide +kernel
theorem dL_law_229 : decode cL_law 229 = .ok (.aload_n 0, 1) := by decide +kernel
theorem dL_law_230 : decode cL_law 230 = .ok (.iload 4, 2) := by decide +kernel
theorem dL_law_232 : decode cL_law 232 = .ok (.iconst 4, 1) := by decide +kernel
theorem dL_law_233 : decode cL_law 233 = .ok (.iadd, 1) := by decide +kernel
theorem dL_law_234 : decode cL_law 234 = .ok (.iaload, 1) := by decide +kernel
theorem dL_law_235 : decode cL_law 235 = .ok (.aload_n 0, 1) := by decide +kernel
theorem dL_law_236 : decode cL_law 236 = .ok (.iload 4, 2) := by decide +kernel
theorem dL_law_238 : decode cL_law 238 = .ok (.iconst 5, 1) := by decide +kernel
theorem dL_law_239 : decode cL_law 239 = .ok (.iadd, 1) := by decide +kernel
theorem dL_law_240 : decode cL_law 240 = .ok (.iaload, 1) := by decide +kernel
theorem dL_law_241 : decode cL_law 241 = .ok (.invokevirtual 23, 3) := by decide +kernel
theorem dL_law_244 : decode cL_law 244 = .ok (.if_icmp .eq 1037, 3) := by decide +kernel
theorem dL_law_247 : decode cL_law 247 = .ok (.iconst 0, 1) := by decide +kernel
theorem dL_law_248 : decode cL_law 248 = .ok (.ireturn, 1) := by decide +kernel
theorem dL_law_249 : decode cL_law 249 = .ok (.aload_n 1, 1) := by decide +kernel
theorem dL_law_250 : decode cL_law 250 = .ok (.aload_n 0, 1) := by decide +kernel
theorem dL_law_251 : decode cL_law 251 = .ok (.iload 4, 2) := by decide +kernel
theorem dL_law_253 : decode cL_law 253 = .ok (.iconst 1, 1) := by decide +kernel
theorem dL_law_254 : decode cL_law 254 = .ok (.iadd, 1) := by decide +kernel
theorem dL_law_255 : decode cL_law 255 = .ok (.iaload, 1) := by decide +kernel
theorem dL_law_256 : decode cL_law 256 = .ok (.invokevirtual 24, 3) := by decide +kernel
theorem dL_law_259 : decode cL_law 259 = .ok (.aload_n 2, 1) := by decide +kernel
theorem dL_law_260 : decode cL_law 260 = .ok (.aload_n 0, 1) := by decide +kernel
theorem dL_law_261 : decode cL_law 261 = .ok (.iload 4, 2) := by decide +kernel
theorem dL_law_263 : decode cL_law 263 = .ok (.iconst 1, 1) := by decide +kernel
theorem dL_law_264 : decode cL_law 264 = .ok (.iadd, 1) := by decide +kernel
theorem dL_law_265 : decode cL_law 265 = .ok (.iaload, 1) := by decide +kernel
theorem dL_law_266 : decode cL_law 266 = .ok (.invokevirtual 28, 3) := by decide +kernel
theorem dL_law_269 : decode cL_law 269 = .ok (.if_icmp .eq 1012, 3) := by decide +kernel
theorem dL_law_272 : decode cL_law 272 = .ok (.iconst 0, 1) := by decide +kernel
theorem dL_law_273 : decode cL_law 273 = .ok (.ireturn, 1) := by decide +kernel
theorem dL_law_274 : decode cL_law 274 = .ok (.aload_n 1, 1) := by decide +kernel
theorem dL_law_275 : decode cL_law 275 = .ok (.aload_n 0, 1) := by decide +kernel
theorem dL_law_276 : decode cL_law 276 = .ok (.iload 4, 2) := by decide +kernel
theorem dL_law_278 : decode cL_law 278 = .ok (.iconst 1, 1) := by decide +kernel
theorem dL_law_279 : decode cL_law 279 = .ok (.iadd, 1) := by decide +kernel
theorem dL_law_280 : decode cL_law 280 = .ok (.iaload, 1) := by decide +kernel
theorem dL_law_281 : decode cL_law 281 = .ok (.invokevirtual 29, 3) := by decide +kernel
theorem dL_law_284 : decode cL_law 284 = .ok (.aload_n 2, 1) := by decide +kernel
theorem dL_law_285 : decode cL_law 285 = .ok (.aload_n 0, 1) := by decide +kernel
theorem dL_law_286 : decode cL_law 286 = .ok (.iload 4, 2) := by decide +kernel
theorem dL_law_288 : decode cL_law 288 = .ok (.iconst 1, 1) := by decide +kernel
theorem dL_law_289 : decode cL_law 289 = .ok (.iadd, 1) := by decide +kernel
theorem dL_law_290 : decode cL_law 290 = .ok (.iaload, 1) := by decide +kernel
theorem dL_law_291 : decode cL_law 291 = .ok (.invokevirtual 33, 3) := by decide +kernel
theorem dL_law_294 : decode cL_law 294 = .ok (.if_icmp .eq 987, 3) := by decide +kernel
theorem dL_law_297 : decode cL_law 297 = .ok (.iconst 0, 1) := by decide +kernel
theorem dL_law_298 : decode cL_law 298 = .ok (.ireturn, 1) := by decide +kernel
theorem dL_law_299 : decode cL_law 299 = .ok (.aload_n 1, 1) := by decide +kernel
theorem dL_law_300 : decode cL_law 300 = .ok (.aload_n 0, 1) := by decide +kernel
theorem dL_law_301 : decode cL_law 301 = .ok (.iload 4, 2) := by decide +kernel
theorem dL_law_303 : decode cL_law 303 = .ok (.iconst 1, 1) := by decide +kernel
theorem dL_law_304 : decode cL_law 304 = .ok (.iadd, 1) := by decide +kernel
theorem dL_law_305 : decode cL_law 305 = .ok (.iaload, 1) := by decide +kernel
theorem dL_law_306 : decode cL_law 306 = .ok (.invokevirtual 34, 3) := by decide +kernel
theorem dL_law_309 : decode cL_law 309 = .ok (.aload_n 2, 1) := by decide +kernel
theorem dL_law_310 : decode cL_law 310 = .ok (.aload_n 0, 1) := by decide +kernel
theorem dL_law_311 : decode cL_law 311 = .ok (.iload 4, 2) := by decide +kernel
theorem dL_law_313 : decode cL_law 313 = .ok (.iconst 1, 1) := by decide +kernel
theorem dL_law_314 : decode cL_law 314 = .ok (.iadd, 1) := by decide +kernel
theorem dL_law_315 : decode cL_law 315 = .ok (.iaload, 1) := by decide +kernel
theorem dL_law_316 : decode cL_law 316 = .ok (.invokevirtual 37, 3) := by decide +kernel
theorem dL_law_319 : decode cL_law 319 = .ok (.if_icmp .eq 962, 3) := by decide +kernel
theorem dL_law_322 : decode cL_law 322 = .ok (.iconst 0, 1) := by decide +kernel
theorem dL_law_323 : decode cL_law 323 = .ok (.ireturn, 1) := by decide +kernel
theorem dL_law_324 : decode cL_law 324 = .ok (.aload_n 1, 1) := by decide +kernel
theorem dL_law_325 : decode cL_law 325 = .ok (.aload_n 0, 1) := by decide +kernel
theorem dL_law_326 : decode cL_law 326 = .ok (.iload 4, 2) := by decide +kernel
theorem dL_law_328 : decode cL_law 328 = .ok (.iconst 1, 1) := by decide +kernel
theorem dL_law_329 : decode cL_law 329 = .ok (.iadd, 1) := by decide +kernel
theorem dL_law_330 : decode cL_law 330 = .ok (.iaload, 1) := by decide +kernel
theorem dL_law_331 : decode cL_law 331 = .ok (.aload_n 0, 1) := by decide +kernel
theorem dL_law_332 : decode cL_law 332 = .ok (.iload 4, 2) := by decide +kernel
theorem dL_law_334 : decode cL_law 334 = .ok (.iconst 2, 1) := by decide +kernel
theorem dL_law_335 : decode cL_law 335 = .ok (.iadd, 1) := by decide +kernel
theorem dL_law_336 : decode cL_law 336 = .ok (.iaload, 1) := by decide +kernel
theorem dL_law_337 : decode cL_law 337 = .ok (.aload_n 3, 1) := by decide +kernel
theorem dL_law_338 : decode cL_law 338 = .ok (.invokestatic 38, 3) := by decide +kernel
theorem dL_law_341 : decode cL_law 341 = .ok (.istore 5, 2) := by decide +kernel
theorem dL_law_343 : decode cL_law 343 = .ok (.aload_n 2, 1) := by decide +kernel
theorem dL_law_344 : decode cL_law 344 = .ok (.aload_n 0, 1) := by decide +kernel
theorem dL_law_345 : decode cL_law 345 = .ok (.iload 4, 2) := by decide +kernel
theorem dL_law_347 : decode cL_law 347 = .ok (.iconst 1, 1) := by decide +kernel
theorem dL_law_348 : decode cL_law 348 = .ok (.iadd, 1) := by decide +kernel
theorem dL_law_349 : decode cL_law 349 = .ok (.iaload, 1) := by decide +kernel
theorem dL_law_350 : decode cL_law 350 = .ok (.aload_n 0, 1) := by decide +kernel
theorem dL_law_351 : decode cL_law 351 = .ok (.iload 4, 2) := by decide +kernel
theorem dL_law_353 : decode cL_law 353 = .ok (.iconst 2, 1) := by decide +kernel
theorem dL_law_354 : decode cL_law 354 = .ok (.iadd, 1) := by decide +kernel
theorem dL_law_355 : decode cL_law 355 = .ok (.iaload, 1) := by decide +kernel
theorem dL_law_356 : decode cL_law 356 = .ok (.invokevirtual 43, 3) := by decide +kernel
theorem dL_law_359 : decode cL_law 359 = .ok (.istore 6, 2) := by decide +kernel
theorem dL_law_361 : decode cL_law 361 = .ok (.aload_n 2, 1) := by decide +kernel
theorem dL_law_362 : decode cL_law 362 = .ok (.invokevirtual 44, 3) := by decide +kernel
theorem dL_law_365 : decode cL_law 365 = .ok (.iload 5, 2) := by decide +kernel
theorem dL_law_367 : decode cL_law 367 = .ok (.if_icmp .eq 5, 3) := by decide +kernel
theorem dL_law_370 : decode cL_law 370 = .ok (.iconst 0, 1) := by decide +kernel
theorem dL_law_371 : decode cL_law 371 = .ok (.ireturn, 1) := by decide +kernel
theorem dL_law_372 : decode cL_law 372 = .ok (.iload 5, 2) := by decide +kernel
theorem dL_law_374 : decode cL_law 374 = .ok (.ifCond .ne 15, 3) := by decide +kernel
theorem dL_law_377 : decode cL_law 377 = .ok (.aload_n 3, 1) := by decide +kernel
theorem dL_law_378 : decode cL_law 378 = .ok (.iconst 0, 1) := by decide +kernel
theorem dL_law_379 : decode cL_law 379 = .ok (.laload, 1) := by decide +kernel
theorem dL_law_380 : decode cL_law 380 = .ok (.iload 6, 2) := by decide +kernel
theorem dL_law_382 : decode cL_law 382 = .ok (.i2l, 1) := by decide +kernel
theorem dL_law_383 : decode cL_law 383 = .ok (.lcmp, 1) := by decide +kernel
theorem dL_law_384 : decode cL_law 384 = .ok (.ifCond .eq 5, 3) := by decide +kernel
theorem dL_law_387 : decode cL_law 387 = .ok (.iconst 0, 1) := by decide +kernel
theorem dL_law_388 : decode cL_law 388 = .ok (.ireturn, 1) := by decide +kernel
theorem dL_law_389 : decode cL_law 389 = .ok (.goto 892, 3) := by decide +kernel
theorem dL_law_392 : decode cL_law 392 = .ok (.aload_n 1, 1) := by decide +kernel
theorem dL_law_393 : decode cL_law 393 = .ok (.aload_n 0, 1) := by decide +kernel
theorem dL_law_394 : decode cL_law 394 = .ok (.iload 4, 2) := by decide +kernel
theorem dL_law_396 : decode cL_law 396 = .ok (.iconst 1, 1) := by decide +kernel
theorem dL_law_397 : decode cL_law 397 = .ok (.iadd, 1) := by decide +kernel
theorem dL_law_398 : decode cL_law 398 = .ok (.iaload, 1) := by decide +kernel
theorem dL_law_399 : decode cL_law 399 = .ok (.aload_n 0, 1) := by decide +kernel
theorem dL_law_400 : decode cL_law 400 = .ok (.iload 4, 2) := by decide +kernel
theorem dL_law_402 : decode cL_law 402 = .ok (.iconst 2, 1) := by decide +kernel
theorem dL_law_403 : decode cL_law 403 = .ok (.iadd, 1) := by decide +kernel
theorem dL_law_404 : decode cL_law 404 = .ok (.iaload, 1) := by decide +kernel
theorem dL_law_405 : decode cL_law 405 = .ok (.invokevirtual 48, 3) := by decide +kernel
theorem dL_law_408 : decode cL_law 408 = .ok (.aload_n 2, 1) := by decide +kernel
theorem dL_law_409 : decode cL_law 409 = .ok (.aload_n 0, 1) := by decide +kernel
theorem dL_law_410 : decode cL_law 410 = .ok (.iload 4, 2) := by decide +kernel
theorem dL_law_412 : decode cL_law 412 = .ok (.iconst 1, 1) := by decide +kernel
theorem dL_law_413 : decode cL_law 413 = .ok (.iadd, 1) := by decide +kernel
theorem dL_law_414 : decode cL_law 414 = .ok (.iaload, 1) := by decide +kernel
theorem dL_law_415 : decode cL_law 415 = .ok (.aload_n 0, 1) := by decide +kernel
theorem dL_law_416 : decode cL_law 416 = .ok (.iload 4, 2) := by decide +kernel
theorem dL_law_418 : decode cL_law 418 = .ok (.iconst 2, 1) := by decide +kernel
theorem dL_law_419 : decode cL_law 419 = .ok (.iadd, 1) := by decide +kernel
theorem dL_law_420 : decode cL_law 420 = .ok (.iaload, 1) := by decide +kernel
theorem dL_law_421 : decode cL_law 421 = .ok (.invokevirtual 51, 3) := by decide +kernel
theorem dL_law_424 : decode cL_law 424 = .ok (.if_icmp .eq 857, 3) := by decide +kernel
theorem dL_law_427 : decode cL_law 427 = .ok (.iconst 0, 1) := by decide +kernel
theorem dL_law_428 : decode cL_law 428 = .ok (.ireturn, 1) := by decide +kernel
theorem dL_law_429 : decode cL_law 429 = .ok (.aload_n 1, 1) := by decide +kernel
theorem dL_law_430 : decode cL_law 430 = .ok (.aload_n 0, 1) := by decide +kernel
theorem dL_law_431 : decode cL_law 431 = .ok (.iload 4, 2) := by decide +kernel
theorem dL_law_433 : decode cL_law 433 = .ok (.iconst 1, 1) := by decide +kernel
theorem dL_law_434 : decode cL_law 434 = .ok (.iadd, 1) := by decide +kernel
theorem dL_law_435 : decode cL_law 435 = .ok (.iaload, 1) := by decide +kernel
theorem dL_law_436 : decode cL_law 436 = .ok (.aload_n 0, 1) := by decide +kernel
theorem dL_law_437 : decode cL_law 437 = .ok (.iload 4, 2) := by decide +kernel
theorem dL_law_439 : decode cL_law 439 = .ok (.iconst 2, 1) := by decide +kernel
theorem dL_law_440 : decode cL_law 440 = .ok (.iadd, 1) := by decide +kernel
theorem dL_law_441 : decode cL_law 441 = .ok (.iaload, 1) := by decide +kernel
theorem dL_law_442 : decode cL_law 442 = .ok (.invokevirtual 52, 3) := by decide +kernel
theorem dL_law_445 : decode cL_law 445 = .ok (.aload_n 2, 1) := by decide +kernel
theorem dL_law_446 : decode cL_law 446 = .ok (.aload_n 0, 1) := by decide +kernel
theorem dL_law_447 : decode cL_law 447 = .ok (.iload 4, 2) := by decide +kernel
theorem dL_law_449 : decode cL_law 449 = .ok (.iconst 1, 1) := by decide +kernel
theorem dL_law_450 : decode cL_law 450 = .ok (.iadd, 1) := by decide +kernel
theorem dL_law_451 : decode cL_law 451 = .ok (.iaload, 1) := by decide +kernel
theorem dL_law_452 : decode cL_law 452 = .ok (.aload_n 0, 1) := by decide +kernel
theorem dL_law_453 : decode cL_law 453 = .ok (.iload 4, 2) := by decide +kernel
theorem dL_law_455 : decode cL_law 455 = .ok (.iconst 2, 1) := by decide +kernel
theorem dL_law_456 : decode cL_law 456 = .ok (.iadd, 1) := by decide +kernel
theorem dL_law_457 : decode cL_law 457 = .ok (.iaload, 1) := by decide +kernel
theorem dL_law_458 : decode cL_law 458 = .ok (.invokevirtual 55, 3) := by decide +kernel
theorem dL_law_461 : decode cL_law 461 = .ok (.if_icmp .eq 820, 3) := by decide +kernel
theorem dL_law_464 : decode cL_law 464 = .ok (.iconst 0, 1) := by decide +kernel
theorem dL_law_465 : decode cL_law 465 = .ok (.ireturn, 1) := by decide +kernel
theorem dL_law_466 : decode cL_law 466 = .ok (.aload_n 1, 1) := by decide +kernel
theorem dL_law_467 : decode cL_law 467 = .ok (.aload_n 0, 1) := by decide +kernel
theorem dL_law_468 : decode cL_law 468 = .ok (.iload 4, 2) := by decide +kernel
theorem dL_law_470 : decode cL_law 470 = .ok (.iconst 1, 1) := by decide +kernel
theorem dL_law_471 : decode cL_law 471 = .ok (.iadd, 1) := by decide +kernel
theorem dL_law_472 : decode cL_law 472 = .ok (.iaload, 1) := by decide +kernel
theorem dL_law_473 : decode cL_law 473 = .ok (.aload_n 0, 1) := by decide +kernel
theorem dL_law_474 : decode cL_law 474 = .ok (.iload 4, 2) := by decide +kernel
theorem dL_law_476 : decode cL_law 476 = .ok (.iconst 2, 1) := by decide +kernel
theorem dL_law_477 : decode cL_law 477 = .ok (.iadd, 1) := by decide +kernel
theorem dL_law_478 : decode cL_law 478 = .ok (.iaload, 1) := by decide +kernel
theorem dL_law_479 : decode cL_law 479 = .ok (.invokevirtual 56, 3) := by decide +kernel
theorem dL_law_482 : decode cL_law 482 = .ok (.aload_n 2, 1) := by decide +kernel
theorem dL_law_483 : decode cL_law 483 = .ok (.aload_n 0, 1) := by decide +kernel
theorem dL_law_484 : decode cL_law 484 = .ok (.iload 4, 2) := by decide +kernel
theorem dL_law_486 : decode cL_law 486 = .ok (.iconst 1, 1) := by decide +kernel
theorem dL_law_487 : decode cL_law 487 = .ok (.iadd, 1) := by decide +kernel
theorem dL_law_488 : decode cL_law 488 = .ok (.iaload, 1) := by decide +kernel
theorem dL_law_489 : decode cL_law 489 = .ok (.aload_n 0, 1) := by decide +kernel
theorem dL_law_490 : decode cL_law 490 = .ok (.iload 4, 2) := by decide +kernel
theorem dL_law_492 : decode cL_law 492 = .ok (.iconst 2, 1) := by decide +kernel
theorem dL_law_493 : decode cL_law 493 = .ok (.iadd, 1) := by decide +kernel
theorem dL_law_494 : decode cL_law 494 = .ok (.iaload, 1) := by decide +kernel
theorem dL_law_495 : decode cL_law 495 = .ok (.invokevirtual 60, 3) := by decide +kernel
theorem dL_law_498 : decode cL_law 498 = .ok (.if_icmp .eq 783, 3) := by decide +kernel
theorem dL_law_501 : decode cL_law 501 = .ok (.iconst 0, 1) := by decide +kernel
theorem dL_law_502 : decode cL_law 502 = .ok (.ireturn, 1) := by decide +kernel
theorem dL_law_503 : decode cL_law 503 = .ok (.aload_n 1, 1) := by decide +kernel
theorem dL_law_504 : decode cL_law 504 = .ok (.aload_n 0, 1) := by decide +kernel
theorem dL_law_505 : decode cL_law 505 = .ok (.iload 4, 2) := by decide +kernel
theorem dL_law_507 : decode cL_law 507 = .ok (.iconst 1, 1) := by decide +kernel
theorem dL_law_508 : decode cL_law 508 = .ok (.iadd, 1) := by decide +kernel
theorem dL_law_509 : decode cL_law 509 = .ok (.iaload, 1) := by decide +kernel
theorem dL_law_510 : decode cL_law 510 = .ok (.aload_n 0, 1) := by decide +kernel
theorem dL_law_511 : decode cL_law 511 = .ok (.iload 4, 2) := by decide +kernel
theorem dL_law_513 : decode cL_law 513 = .ok (.iconst 2, 1) := by decide +kernel
theorem dL_law_514 : decode cL_law 514 = .ok (.iadd, 1) := by decide +kernel
theorem dL_law_515 : decode cL_law 515 = .ok (.iaload, 1) := by decide +kernel
theorem dL_law_516 : decode cL_law 516 = .ok (.invokevirtual 61, 3) := by decide +kernel
theorem dL_law_519 : decode cL_law 519 = .ok (.aload_n 2, 1) := by decide +kernel
theorem dL_law_520 : decode cL_law 520 = .ok (.aload_n 0, 1) := by decide +kernel
theorem dL_law_521 : decode cL_law 521 = .ok (.iload 4, 2) := by decide +kernel
theorem dL_law_523 : decode cL_law 523 = .ok (.iconst 1, 1) := by decide +kernel
theorem dL_law_524 : decode cL_law 524 = .ok (.iadd, 1) := by decide +kernel
theorem dL_law_525 : decode cL_law 525 = .ok (.iaload, 1) := by decide +kernel
theorem dL_law_526 : decode cL_law 526 = .ok (.aload_n 0, 1) := by decide +kernel
theorem dL_law_527 : decode cL_law 527 = .ok (.iload 4, 2) := by decide +kernel
theorem dL_law_529 : decode cL_law 529 = .ok (.iconst 2, 1) := by decide +kernel
theorem dL_law_530 : decode cL_law 530 = .ok (.iadd, 1) := by decide +kernel
theorem dL_law_531 : decode cL_law 531 = .ok (.iaload, 1) := by decide +kernel
theorem dL_law_532 : decode cL_law 532 = .ok (.invokevirtual 64, 3) := by decide +kernel
theorem dL_law_535 : decode cL_law 535 = .ok (.if_icmp .eq 746, 3) := by decide +kernel
theorem dL_law_538 : decode cL_law 538 = .ok (.iconst 0, 1) := by decide +kernel
theorem dL_law_539 : decode cL_law 539 = .ok (.ireturn, 1) := by decide +kernel
theorem dL_law_540 : decode cL_law 540 = .ok (.aload_n 1, 1) := by decide +kernel
theorem dL_law_541 : decode cL_law 541 = .ok (.aload_n 0, 1) := by decide +kernel
theorem dL_law_542 : decode cL_law 542 = .ok (.iload 4, 2) := by decide +kernel
theorem dL_law_544 : decode cL_law 544 = .ok (.iconst 1, 1) := by decide +kernel
theorem dL_law_545 : decode cL_law 545 = .ok (.iadd, 1) := by decide +kernel
theorem dL_law_546 : decode cL_law 546 = .ok (.iaload, 1) := by decide +kernel
theorem dL_law_547 : decode cL_law 547 = .ok (.invokevirtual 65, 3) := by decide +kernel
theorem dL_law_550 : decode cL_law 550 = .ok (.aload_n 2, 1) := by decide +kernel
theorem dL_law_551 : decode cL_law 551 = .ok (.aload_n 0, 1) := by decide +kernel
theorem dL_law_552 : decode cL_law 552 = .ok (.iload 4, 2) := by decide +kernel
theorem dL_law_554 : decode cL_law 554 = .ok (.iconst 1, 1) := by decide +kernel
theorem dL_law_555 : decode cL_law 555 = .ok (.iadd, 1) := by decide +kernel
theorem dL_law_556 : decode cL_law 556 = .ok (.iaload, 1) := by decide +kernel
theorem dL_law_557 : decode cL_law 557 = .ok (.invokevirtual 68, 3) := by decide +kernel
theorem dL_law_560 : decode cL_law 560 = .ok (.if_icmp .eq 721, 3) := by decide +kernel
theorem dL_law_563 : decode cL_law 563 = .ok (.iconst 0, 1) := by decide +kernel
theorem dL_law_564 : decode cL_law 564 = .ok (.ireturn, 1) := by decide +kernel
theorem dL_law_565 : decode cL_law 565 = .ok (.aload_n 1, 1) := by decide +kernel
theorem dL_law_566 : decode cL_law 566 = .ok (.aload_n 0, 1) := by decide +kernel
theorem dL_law_567 : decode cL_law 567 = .ok (.iload 4, 2) := by decide +kernel
theorem dL_law_569 : decode cL_law 569 = .ok (.iconst 1, 1) := by decide +kernel
theorem dL_law_570 : decode cL_law 570 = .ok (.iadd, 1) := by decide +kernel
theorem dL_law_571 : decode cL_law 571 = .ok (.iaload, 1) := by decide +kernel
theorem dL_law_572 : decode cL_law 572 = .ok (.aload_n 0, 1) := by decide +kernel
theorem dL_law_573 : decode cL_law 573 = .ok (.iload 4, 2) := by decide +kernel
theorem dL_law_575 : decode cL_law 575 = .ok (.iconst 2, 1) := by decide +kernel
theorem dL_law_576 : decode cL_law 576 = .ok (.iadd, 1) := by decide +kernel
theorem dL_law_577 : decode cL_law 577 = .ok (.iaload, 1) := by decide +kernel
theorem dL_law_578 : decode cL_law 578 = .ok (.invokevirtual 69, 3) := by decide +kernel
theorem dL_law_581 : decode cL_law 581 = .ok (.aload_n 2, 1) := by decide +kernel
theorem dL_law_582 : decode cL_law 582 = .ok (.aload_n 0, 1) := by decide +kernel
theorem dL_law_583 : decode cL_law 583 = .ok (.iload 4, 2) := by decide +kernel
theorem dL_law_585 : decode cL_law 585 = .ok (.iconst 1, 1) := by decide +kernel
theorem dL_law_586 : decode cL_law 586 = .ok (.iadd, 1) := by decide +kernel
theorem dL_law_587 : decode cL_law 587 = .ok (.iaload, 1) := by decide +kernel
theorem dL_law_588 : decode cL_law 588 = .ok (.aload_n 0, 1) := by decide +kernel
theorem dL_law_589 : decode cL_law 589 = .ok (.iload 4, 2) := by decide +kernel
theorem dL_law_591 : decode cL_law 591 = .ok (.iconst 2, 1) := by decide +kernel
theorem dL_law_592 : decode cL_law 592 = .ok (.iadd, 1) := by decide +kernel
theorem dL_law_593 : decode cL_law 593 = .ok (.iaload, 1) := by decide +kernel
theorem dL_law_594 : decode cL_law 594 = .ok (.invokevirtual 72, 3) := by decide +kernel
theorem dL_law_597 : decode cL_law 597 = .ok (.if_icmp .eq 684, 3) := by decide +kernel
theorem dL_law_600 : decode cL_law 600 = .ok (.iconst 0, 1) := by decide +kernel
theorem dL_law_601 : decode cL_law 601 = .ok (.ireturn, 1) := by decide +kernel
theorem dL_law_602 : decode cL_law 602 = .ok (.aload_n 1, 1) := by decide +kernel
theorem dL_law_603 : decode cL_law 603 = .ok (.aload_n 0, 1) := by decide +kernel
theorem dL_law_604 : decode cL_law 604 = .ok (.iload 4, 2) := by decide +kernel
theorem dL_law_606 : decode cL_law 606 = .ok (.iconst 1, 1) := by decide +kernel
theorem dL_law_607 : decode cL_law 607 = .ok (.iadd, 1) := by decide +kernel
theorem dL_law_608 : decode cL_law 608 = .ok (.iaload, 1) := by decide +kernel
theorem dL_law_609 : decode cL_law 609 = .ok (.aload_n 0, 1) := by decide +kernel
theorem dL_law_610 : decode cL_law 610 = .ok (.iload 4, 2) := by decide +kernel
theorem dL_law_612 : decode cL_law 612 = .ok (.iconst 2, 1) := by decide +kernel
theorem dL_law_613 : decode cL_law 613 = .ok (.iadd, 1) := by decide +kernel
theorem dL_law_614 : decode cL_law 614 = .ok (.iaload, 1) := by decide +kernel
theorem dL_law_615 : decode cL_law 615 = .ok (.aload_n 0, 1) := by decide +kernel
theorem dL_law_616 : decode cL_law 616 = .ok (.iload 4, 2) := by decide +kernel
theorem dL_law_618 : decode cL_law 618 = .ok (.iconst 3, 1) := by decide +kernel
theorem dL_law_619 : decode cL_law 619 = .ok (.iadd, 1) := by decide +kernel
theorem dL_law_620 : decode cL_law 620 = .ok (.iaload, 1) := by decide +kernel
theorem dL_law_621 : decode cL_law 621 = .ok (.aload_n 0, 1) := by decide +kernel
theorem dL_law_622 : decode cL_law 622 = .ok (.iload 4, 2) := by decide +kernel
theorem dL_law_624 : decode cL_law 624 = .ok (.iconst 4, 1) := by decide +kernel
theorem dL_law_625 : decode cL_law 625 = .ok (.iadd, 1) := by decide +kernel
theorem dL_law_626 : decode cL_law 626 = .ok (.iaload, 1) := by decide +kernel
theorem dL_law_627 : decode cL_law 627 = .ok (.invokevirtual 73, 3) := by decide +kernel
theorem dL_law_630 : decode cL_law 630 = .ok (.aload_n 2, 1) := by decide +kernel
theorem dL_law_631 : decode cL_law 631 = .ok (.aload_n 0, 1) := by decide +kernel
theorem dL_law_632 : decode cL_law 632 = .ok (.iload 4, 2) := by decide +kernel
theorem dL_law_634 : decode cL_law 634 = .ok (.iconst 1, 1) := by decide +kernel
theorem dL_law_635 : decode cL_law 635 = .ok (.iadd, 1) := by decide +kernel
theorem dL_law_636 : decode cL_law 636 = .ok (.iaload, 1) := by decide +kernel
theorem dL_law_637 : decode cL_law 637 = .ok (.aload_n 0, 1) := by decide +kernel
theorem dL_law_638 : decode cL_law 638 = .ok (.iload 4, 2) := by decide +kernel
theorem dL_law_640 : decode cL_law 640 = .ok (.iconst 2, 1) := by decide +kernel
theorem dL_law_641 : decode cL_law 641 = .ok (.iadd, 1) := by decide +kernel
theorem dL_law_642 : decode cL_law 642 = .ok (.iaload, 1) := by decide +kernel
theorem dL_law_643 : decode cL_law 643 = .ok (.aload_n 0, 1) := by decide +kernel
theorem dL_law_644 : decode cL_law 644 = .ok (.iload 4, 2) := by decide +kernel
theorem dL_law_646 : decode cL_law 646 = .ok (.iconst 3, 1) := by decide +kernel
theorem dL_law_647 : decode cL_law 647 = .ok (.iadd, 1) := by decide +kernel
theorem dL_law_648 : decode cL_law 648 = .ok (.iaload, 1) := by decide +kernel
theorem dL_law_649 : decode cL_law 649 = .ok (.aload_n 0, 1) := by decide +kernel
theorem dL_law_650 : decode cL_law 650 = .ok (.iload 4, 2) := by decide +kernel
theorem dL_law_652 : decode cL_law 652 = .ok (.iconst 4, 1) := by decide +kernel
theorem dL_law_653 : decode cL_law 653 = .ok (.iadd, 1) := by decide +kernel
theorem dL_law_654 : decode cL_law 654 = .ok (.iaload, 1) := by decide +kernel
theorem dL_law_655 : decode cL_law 655 = .ok (.invokevirtual 77, 3) := by decide +kernel
theorem dL_law_658 : decode cL_law 658 = .ok (.lcmp, 1) := by decide +kernel
theorem dL_law_659 : decode cL_law 659 = .ok (.ifCond .eq 622, 3) := by decide +kernel
theorem dL_law_662 : decode cL_law 662 = .ok (.iconst 0, 1) := by decide +kernel
theorem dL_law_663 : decode cL_law 663 = .ok (.ireturn, 1) := by decide +kernel
theorem dL_law_664 : decode cL_law 664 = .ok (.aload_n 1, 1) := by decide +kernel
theorem dL_law_665 : decode cL_law 665 = .ok (.aload_n 0, 1) := by decide +kernel
theorem dL_law_666 : decode cL_law 666 = .ok (.iload 4, 2) := by decide +kernel
theorem dL_law_668 : decode cL_law 668 = .ok (.iconst 1, 1) := by decide +kernel
theorem dL_law_669 : decode cL_law 669 = .ok (.iadd, 1) := by decide +kernel
theorem dL_law_670 : decode cL_law 670 = .ok (.iaload, 1) := by decide +kernel
theorem dL_law_671 : decode cL_law 671 = .ok (.aload_n 0, 1) := by decide +kernel
theorem dL_law_672 : decode cL_law 672 = .ok (.iload 4, 2) := by decide +kernel
theorem dL_law_674 : decode cL_law 674 = .ok (.iconst 2, 1) := by decide +kernel
theorem dL_law_675 : decode cL_law 675 = .ok (.iadd, 1) := by decide +kernel
theorem dL_law_676 : decode cL_law 676 = .ok (.iaload, 1) := by decide +kernel
theorem dL_law_677 : decode cL_law 677 = .ok (.invokevirtual 78, 3) := by decide +kernel
theorem dL_law_680 : decode cL_law 680 = .ok (.aload_n 2, 1) := by decide +kernel
theorem dL_law_681 : decode cL_law 681 = .ok (.aload_n 0, 1) := by decide +kernel
theorem dL_law_682 : decode cL_law 682 = .ok (.iload 4, 2) := by decide +kernel
theorem dL_law_684 : decode cL_law 684 = .ok (.iconst 1, 1) := by decide +kernel
theorem dL_law_685 : decode cL_law 685 = .ok (.iadd, 1) := by decide +kernel
theorem dL_law_686 : decode cL_law 686 = .ok (.iaload, 1) := by decide +kernel
theorem dL_law_687 : decode cL_law 687 = .ok (.aload_n 0, 1) := by decide +kernel
theorem dL_law_688 : decode cL_law 688 = .ok (.iload 4, 2) := by decide +kernel
theorem dL_law_690 : decode cL_law 690 = .ok (.iconst 2, 1) := by decide +kernel
theorem dL_law_691 : decode cL_law 691 = .ok (.iadd, 1) := by decide +kernel
theorem dL_law_692 : decode cL_law 692 = .ok (.iaload, 1) := by decide +kernel
theorem dL_law_693 : decode cL_law 693 = .ok (.invokevirtual 81, 3) := by decide +kernel
theorem dL_law_696 : decode cL_law 696 = .ok (.if_icmp .eq 585, 3) := by decide +kernel
theorem dL_law_699 : decode cL_law 699 = .ok (.iconst 0, 1) := by decide +kernel
theorem dL_law_700 : decode cL_law 700 = .ok (.ireturn, 1) := by decide +kernel
theorem dL_law_701 : decode cL_law 701 = .ok (.aload_n 1, 1) := by decide +kernel
theorem dL_law_702 : decode cL_law 702 = .ok (.aload_n 0, 1) := by decide +kernel
theorem dL_law_703 : decode cL_law 703 = .ok (.iload 4, 2) := by decide +kernel
theorem dL_law_705 : decode cL_law 705 = .ok (.iconst 1, 1) := by decide +kernel
theorem dL_law_706 : decode cL_law 706 = .ok (.iadd, 1) := by decide +kernel
theorem dL_law_707 : decode cL_law 707 = .ok (.iaload, 1) := by decide +kernel
theorem dL_law_708 : decode cL_law 708 = .ok (.aload_n 0, 1) := by decide +kernel
theorem dL_law_709 : decode cL_law 709 = .ok (.iload 4, 2) := by decide +kernel
theorem dL_law_711 : decode cL_law 711 = .ok (.iconst 2, 1) := by decide +kernel
theorem dL_law_712 : decode cL_law 712 = .ok (.iadd, 1) := by decide +kernel
theorem dL_law_713 : decode cL_law 713 = .ok (.iaload, 1) := by decide +kernel
theorem dL_law_714 : decode cL_law 714 = .ok (.invokevirtual 82, 3) := by decide +kernel
theorem dL_law_717 : decode cL_law 717 = .ok (.aload_n 2, 1) := by decide +kernel
theorem dL_law_718 : decode cL_law 718 = .ok (.aload_n 0, 1) := by decide +kernel
theorem dL_law_719 : decode cL_law 719 = .ok (.iload 4, 2) := by decide +kernel
theorem dL_law_721 : decode cL_law 721 = .ok (.iconst 1, 1) := by decide +kernel
theorem dL_law_722 : decode cL_law 722 = .ok (.iadd, 1) := by decide +kernel
theorem dL_law_723 : decode cL_law 723 = .ok (.iaload, 1) := by decide +kernel
theorem dL_law_724 : decode cL_law 724 = .ok (.aload_n 0, 1) := by decide +kernel
theorem dL_law_725 : decode cL_law 725 = .ok (.iload 4, 2) := by decide +kernel
theorem dL_law_727 : decode cL_law 727 = .ok (.iconst 2, 1) := by decide +kernel
theorem dL_law_728 : decode cL_law 728 = .ok (.iadd, 1) := by decide +kernel
theorem dL_law_729 : decode cL_law 729 = .ok (.iaload, 1) := by decide +kernel
theorem dL_law_730 : decode cL_law 730 = .ok (.invokevirtual 86, 3) := by decide +kernel
theorem dL_law_733 : decode cL_law 733 = .ok (.lcmp, 1) := by decide +kernel
theorem dL_law_734 : decode cL_law 734 = .ok (.ifCond .eq 547, 3) := by decide +kernel
theorem dL_law_737 : decode cL_law 737 = .ok (.iconst 0, 1) := by decide +kernel
theorem dL_law_738 : decode cL_law 738 = .ok (.ireturn, 1) := by decide +kernel
theorem dL_law_739 : decode cL_law 739 = .ok (.aload_n 1, 1) := by decide +kernel
theorem dL_law_740 : decode cL_law 740 = .ok (.aload_n 0, 1) := by decide +kernel
theorem dL_law_741 : decode cL_law 741 = .ok (.iload 4, 2) := by decide +kernel
theorem dL_law_743 : decode cL_law 743 = .ok (.iconst 1, 1) := by decide +kernel
theorem dL_law_744 : decode cL_law 744 = .ok (.iadd, 1) := by decide +kernel
theorem dL_law_745 : decode cL_law 745 = .ok (.iaload, 1) := by decide +kernel
theorem dL_law_746 : decode cL_law 746 = .ok (.aload_n 0, 1) := by decide +kernel
theorem dL_law_747 : decode cL_law 747 = .ok (.iload 4, 2) := by decide +kernel
theorem dL_law_749 : decode cL_law 749 = .ok (.iconst 2, 1) := by decide +kernel
theorem dL_law_750 : decode cL_law 750 = .ok (.iadd, 1) := by decide +kernel
theorem dL_law_751 : decode cL_law 751 = .ok (.iaload, 1) := by decide +kernel
theorem dL_law_752 : decode cL_law 752 = .ok (.aload_n 0, 1) := by decide +kernel
theorem dL_law_753 : decode cL_law 753 = .ok (.iload 4, 2) := by decide +kernel
theorem dL_law_755 : decode cL_law 755 = .ok (.iconst 3, 1) := by decide +kernel
theorem dL_law_756 : decode cL_law 756 = .ok (.iadd, 1) := by decide +kernel
theorem dL_law_757 : decode cL_law 757 = .ok (.iaload, 1) := by decide +kernel
theorem dL_law_758 : decode cL_law 758 = .ok (.invokevirtual 87, 3) := by decide +kernel
theorem dL_law_761 : decode cL_law 761 = .ok (.aload_n 2, 1) := by decide +kernel
theorem dL_law_762 : decode cL_law 762 = .ok (.aload_n 0, 1) := by decide +kernel
theorem dL_law_763 : decode cL_law 763 = .ok (.iload 4, 2) := by decide +kernel
theorem dL_law_765 : decode cL_law 765 = .ok (.iconst 1, 1) := by decide +kernel
theorem dL_law_766 : decode cL_law 766 = .ok (.iadd, 1) := by decide +kernel
theorem dL_law_767 : decode cL_law 767 = .ok (.iaload, 1) := by decide +kernel
theorem dL_law_768 : decode cL_law 768 = .ok (.aload_n 0, 1) := by decide +kernel
theorem dL_law_769 : decode cL_law 769 = .ok (.iload 4, 2) := by decide +kernel
theorem dL_law_771 : decode cL_law 771 = .ok (.iconst 2, 1) := by decide +kernel
theorem dL_law_772 : decode cL_law 772 = .ok (.iadd, 1) := by decide +kernel
theorem dL_law_773 : decode cL_law 773 = .ok (.iaload, 1) := by decide +kernel
theorem dL_law_774 : decode cL_law 774 = .ok (.aload_n 0, 1) := by decide +kernel
theorem dL_law_775 : decode cL_law 775 = .ok (.iload 4, 2) := by decide +kernel
theorem dL_law_777 : decode cL_law 777 = .ok (.iconst 3, 1) := by decide +kernel
theorem dL_law_778 : decode cL_law 778 = .ok (.iadd, 1) := by decide +kernel
theorem dL_law_779 : decode cL_law 779 = .ok (.iaload, 1) := by decide +kernel
theorem dL_law_780 : decode cL_law 780 = .ok (.invokevirtual 91, 3) := by decide +kernel
theorem dL_law_783 : decode cL_law 783 = .ok (.if_icmp .eq 498, 3) := by decide +kernel
theorem dL_law_786 : decode cL_law 786 = .ok (.iconst 0, 1) := by decide +kernel
theorem dL_law_787 : decode cL_law 787 = .ok (.ireturn, 1) := by decide +kernel
theorem dL_law_788 : decode cL_law 788 = .ok (.aload_n 1, 1) := by decide +kernel
theorem dL_law_789 : decode cL_law 789 = .ok (.aload_n 0, 1) := by decide +kernel
theorem dL_law_790 : decode cL_law 790 = .ok (.iload 4, 2) := by decide +kernel
theorem dL_law_792 : decode cL_law 792 = .ok (.iconst 1, 1) := by decide +kernel
theorem dL_law_793 : decode cL_law 793 = .ok (.iadd, 1) := by decide +kernel
theorem dL_law_794 : decode cL_law 794 = .ok (.iaload, 1) := by decide +kernel
theorem dL_law_795 : decode cL_law 795 = .ok (.aload_n 0, 1) := by decide +kernel
theorem dL_law_796 : decode cL_law 796 = .ok (.iload 4, 2) := by decide +kernel
theorem dL_law_798 : decode cL_law 798 = .ok (.iconst 2, 1) := by decide +kernel
theorem dL_law_799 : decode cL_law 799 = .ok (.iadd, 1) := by decide +kernel
theorem dL_law_800 : decode cL_law 800 = .ok (.iaload, 1) := by decide +kernel
theorem dL_law_801 : decode cL_law 801 = .ok (.aload_n 0, 1) := by decide +kernel
theorem dL_law_802 : decode cL_law 802 = .ok (.iload 4, 2) := by decide +kernel
theorem dL_law_804 : decode cL_law 804 = .ok (.iconst 3, 1) := by decide +kernel
theorem dL_law_805 : decode cL_law 805 = .ok (.iadd, 1) := by decide +kernel
theorem dL_law_806 : decode cL_law 806 = .ok (.iaload, 1) := by decide +kernel
theorem dL_law_807 : decode cL_law 807 = .ok (.invokevirtual 92, 3) := by decide +kernel
theorem dL_law_810 : decode cL_law 810 = .ok (.aload_n 2, 1) := by decide +kernel
theorem dL_law_811 : decode cL_law 811 = .ok (.aload_n 0, 1) := by decide +kernel
theorem dL_law_812 : decode cL_law 812 = .ok (.iload 4, 2) := by decide +kernel
theorem dL_law_814 : decode cL_law 814 = .ok (.iconst 1, 1) := by decide +kernel
theorem dL_law_815 : decode cL_law 815 = .ok (.iadd, 1) := by decide +kernel
theorem dL_law_816 : decode cL_law 816 = .ok (.iaload, 1) := by decide +kernel
theorem dL_law_817 : decode cL_law 817 = .ok (.aload_n 0, 1) := by decide +kernel
theorem dL_law_818 : decode cL_law 818 = .ok (.iload 4, 2) := by decide +kernel
theorem dL_law_820 : decode cL_law 820 = .ok (.iconst 2, 1) := by decide +kernel
theorem dL_law_821 : decode cL_law 821 = .ok (.iadd, 1) := by decide +kernel
theorem dL_law_822 : decode cL_law 822 = .ok (.iaload, 1) := by decide +kernel
theorem dL_law_823 : decode cL_law 823 = .ok (.aload_n 0, 1) := by decide +kernel
theorem dL_law_824 : decode cL_law 824 = .ok (.iload 4, 2) := by decide +kernel
theorem dL_law_826 : decode cL_law 826 = .ok (.iconst 3, 1) := by decide +kernel
theorem dL_law_827 : decode cL_law 827 = .ok (.iadd, 1) := by decide +kernel
theorem dL_law_828 : decode cL_law 828 = .ok (.iaload, 1) := by decide +kernel
theorem dL_law_829 : decode cL_law 829 = .ok (.invokevirtual 95, 3) := by decide +kernel
theorem dL_law_832 : decode cL_law 832 = .ok (.if_icmp .eq 449, 3) := by decide +kernel
theorem dL_law_835 : decode cL_law 835 = .ok (.iconst 0, 1) := by decide +kernel
theorem dL_law_836 : decode cL_law 836 = .ok (.ireturn, 1) := by decide +kernel
theorem dL_law_837 : decode cL_law 837 = .ok (.aload_n 1, 1) := by decide +kernel
theorem dL_law_838 : decode cL_law 838 = .ok (.aload_n 0, 1) := by decide +kernel
theorem dL_law_839 : decode cL_law 839 = .ok (.iload 4, 2) := by decide +kernel
theorem dL_law_841 : decode cL_law 841 = .ok (.iconst 1, 1) := by decide +kernel
theorem dL_law_842 : decode cL_law 842 = .ok (.iadd, 1) := by decide +kernel
theorem dL_law_843 : decode cL_law 843 = .ok (.iaload, 1) := by decide +kernel
theorem dL_law_844 : decode cL_law 844 = .ok (.invokevirtual 96, 3) := by decide +kernel
theorem dL_law_847 : decode cL_law 847 = .ok (.aload_n 2, 1) := by decide +kernel
theorem dL_law_848 : decode cL_law 848 = .ok (.aload_n 0, 1) := by decide +kernel
theorem dL_law_849 : decode cL_law 849 = .ok (.iload 4, 2) := by decide +kernel
theorem dL_law_851 : decode cL_law 851 = .ok (.iconst 1, 1) := by decide +kernel
theorem dL_law_852 : decode cL_law 852 = .ok (.iadd, 1) := by decide +kernel
theorem dL_law_853 : decode cL_law 853 = .ok (.iaload, 1) := by decide +kernel
theorem dL_law_854 : decode cL_law 854 = .ok (.invokevirtual 99, 3) := by decide +kernel
theorem dL_law_857 : decode cL_law 857 = .ok (.if_icmp .eq 424, 3) := by decide +kernel
theorem dL_law_860 : decode cL_law 860 = .ok (.iconst 0, 1) := by decide +kernel
theorem dL_law_861 : decode cL_law 861 = .ok (.ireturn, 1) := by decide +kernel
theorem dL_law_862 : decode cL_law 862 = .ok (.aload_n 1, 1) := by decide +kernel
theorem dL_law_863 : decode cL_law 863 = .ok (.aload_n 0, 1) := by decide +kernel
theorem dL_law_864 : decode cL_law 864 = .ok (.iload 4, 2) := by decide +kernel
theorem dL_law_866 : decode cL_law 866 = .ok (.iconst 1, 1) := by decide +kernel
theorem dL_law_867 : decode cL_law 867 = .ok (.iadd, 1) := by decide +kernel
theorem dL_law_868 : decode cL_law 868 = .ok (.iaload, 1) := by decide +kernel
theorem dL_law_869 : decode cL_law 869 = .ok (.aload_n 0, 1) := by decide +kernel
theorem dL_law_870 : decode cL_law 870 = .ok (.iload 4, 2) := by decide +kernel
theorem dL_law_872 : decode cL_law 872 = .ok (.iconst 2, 1) := by decide +kernel
theorem dL_law_873 : decode cL_law 873 = .ok (.iadd, 1) := by decide +kernel
theorem dL_law_874 : decode cL_law 874 = .ok (.iaload, 1) := by decide +kernel
theorem dL_law_875 : decode cL_law 875 = .ok (.invokevirtual 100, 3) := by decide +kernel
theorem dL_law_878 : decode cL_law 878 = .ok (.aload_n 2, 1) := by decide +kernel
theorem dL_law_879 : decode cL_law 879 = .ok (.aload_n 0, 1) := by decide +kernel
theorem dL_law_880 : decode cL_law 880 = .ok (.iload 4, 2) := by decide +kernel
theorem dL_law_882 : decode cL_law 882 = .ok (.iconst 1, 1) := by decide +kernel
theorem dL_law_883 : decode cL_law 883 = .ok (.iadd, 1) := by decide +kernel
theorem dL_law_884 : decode cL_law 884 = .ok (.iaload, 1) := by decide +kernel
theorem dL_law_885 : decode cL_law 885 = .ok (.aload_n 0, 1) := by decide +kernel
theorem dL_law_886 : decode cL_law 886 = .ok (.iload 4, 2) := by decide +kernel
theorem dL_law_888 : decode cL_law 888 = .ok (.iconst 2, 1) := by decide +kernel
theorem dL_law_889 : decode cL_law 889 = .ok (.iadd, 1) := by decide +kernel
theorem dL_law_890 : decode cL_law 890 = .ok (.iaload, 1) := by decide +kernel
theorem dL_law_891 : decode cL_law 891 = .ok (.invokevirtual 103, 3) := by decide +kernel
theorem dL_law_894 : decode cL_law 894 = .ok (.if_icmp .eq 387, 3) := by decide +kernel
theorem dL_law_897 : decode cL_law 897 = .ok (.iconst 0, 1) := by decide +kernel
theorem dL_law_898 : decode cL_law 898 = .ok (.ireturn, 1) := by decide +kernel
theorem dL_law_899 : decode cL_law 899 = .ok (.aload_n 1, 1) := by decide +kernel
theorem dL_law_900 : decode cL_law 900 = .ok (.aload_n 0, 1) := by decide +kernel
theorem dL_law_901 : decode cL_law 901 = .ok (.iload 4, 2) := by decide +kernel
theorem dL_law_903 : decode cL_law 903 = .ok (.iconst 1, 1) := by decide +kernel
theorem dL_law_904 : decode cL_law 904 = .ok (.iadd, 1) := by decide +kernel
theorem dL_law_905 : decode cL_law 905 = .ok (.iaload, 1) := by decide +kernel
theorem dL_law_906 : decode cL_law 906 = .ok (.invokevirtual 104, 3) := by decide +kernel
theorem dL_law_909 : decode cL_law 909 = .ok (.aload_n 2, 1) := by decide +kernel
theorem dL_law_910 : decode cL_law 910 = .ok (.aload_n 0, 1) := by decide +kernel
theorem dL_law_911 : decode cL_law 911 = .ok (.iload 4, 2) := by decide +kernel
theorem dL_law_913 : decode cL_law 913 = .ok (.iconst 1, 1) := by decide +kernel
theorem dL_law_914 : decode cL_law 914 = .ok (.iadd, 1) := by decide +kernel
theorem dL_law_915 : decode cL_law 915 = .ok (.iaload, 1) := by decide +kernel
theorem dL_law_916 : decode cL_law 916 = .ok (.invokevirtual 107, 3) := by decide +kernel
theorem dL_law_919 : decode cL_law 919 = .ok (.if_icmp .eq 362, 3) := by decide +kernel
theorem dL_law_922 : decode cL_law 922 = .ok (.iconst 0, 1) := by decide +kernel
theorem dL_law_923 : decode cL_law 923 = .ok (.ireturn, 1) := by decide +kernel
theorem dL_law_924 : decode cL_law 924 = .ok (.aload_n 1, 1) := by decide +kernel
theorem dL_law_925 : decode cL_law 925 = .ok (.aload_n 0, 1) := by decide +kernel
theorem dL_law_926 : decode cL_law 926 = .ok (.iload 4, 2) := by decide +kernel
theorem dL_law_928 : decode cL_law 928 = .ok (.iconst 1, 1) := by decide +kernel
theorem dL_law_929 : decode cL_law 929 = .ok (.iadd, 1) := by decide +kernel
theorem dL_law_930 : decode cL_law 930 = .ok (.iaload, 1) := by decide +kernel
theorem dL_law_931 : decode cL_law 931 = .ok (.aload_n 0, 1) := by decide +kernel
theorem dL_law_932 : decode cL_law 932 = .ok (.iload 4, 2) := by decide +kernel
theorem dL_law_934 : decode cL_law 934 = .ok (.iconst 2, 1) := by decide +kernel
theorem dL_law_935 : decode cL_law 935 = .ok (.iadd, 1) := by decide +kernel
theorem dL_law_936 : decode cL_law 936 = .ok (.iaload, 1) := by decide +kernel
theorem dL_law_937 : decode cL_law 937 = .ok (.aload_n 0, 1) := by decide +kernel
theorem dL_law_938 : decode cL_law 938 = .ok (.iload 4, 2) := by decide +kernel
theorem dL_law_940 : decode cL_law 940 = .ok (.iconst 3, 1) := by decide +kernel
theorem dL_law_941 : decode cL_law 941 = .ok (.iadd, 1) := by decide +kernel
theorem dL_law_942 : decode cL_law 942 = .ok (.iaload, 1) := by decide +kernel
theorem dL_law_943 : decode cL_law 943 = .ok (.invokevirtual 108, 3) := by decide +kernel
theorem dL_law_946 : decode cL_law 946 = .ok (.aload_n 2, 1) := by decide +kernel
theorem dL_law_947 : decode cL_law 947 = .ok (.aload_n 0, 1) := by decide +kernel
theorem dL_law_948 : decode cL_law 948 = .ok (.iload 4, 2) := by decide +kernel
theorem dL_law_950 : decode cL_law 950 = .ok (.iconst 1, 1) := by decide +kernel
theorem dL_law_951 : decode cL_law 951 = .ok (.iadd, 1) := by decide +kernel
theorem dL_law_952 : decode cL_law 952 = .ok (.iaload, 1) := by decide +kernel
theorem dL_law_953 : decode cL_law 953 = .ok (.aload_n 0, 1) := by decide +kernel
theorem dL_law_954 : decode cL_law 954 = .ok (.iload 4, 2) := by decide +kernel
theorem dL_law_956 : decode cL_law 956 = .ok (.iconst 2, 1) := by decide +kernel
theorem dL_law_957 : decode cL_law 957 = .ok (.iadd, 1) := by decide +kernel
theorem dL_law_958 : decode cL_law 958 = .ok (.iaload, 1) := by decide +kernel
theorem dL_law_959 : decode cL_law 959 = .ok (.aload_n 0, 1) := by decide +kernel
theorem dL_law_960 : decode cL_law 960 = .ok (.iload 4, 2) := by decide +kernel
theorem dL_law_962 : decode cL_law 962 = .ok (.iconst 3, 1) := by decide +kernel
theorem dL_law_963 : decode cL_law 963 = .ok (.iadd, 1) := by decide +kernel
theorem dL_law_964 : decode cL_law 964 = .ok (.iaload, 1) := by decide +kernel
theorem dL_law_965 : decode cL_law 965 = .ok (.invokevirtual 112, 3) := by decide +kernel
theorem dL_law_968 : decode cL_law 968 = .ok (.lcmp, 1) := by decide +kernel
theorem dL_law_969 : decode cL_law 969 = .ok (.ifCond .eq 312, 3) := by decide +kernel
theorem dL_law_972 : decode cL_law 972 = .ok (.iconst 0, 1) := by decide +kernel
theorem dL_law_973 : decode cL_law 973 = .ok (.ireturn, 1) := by decide +kernel
theorem dL_law_974 : decode cL_law 974 = .ok (.aload_n 1, 1) := by decide +kernel
theorem dL_law_975 : decode cL_law 975 = .ok (.aload_n 0, 1) := by decide +kernel
theorem dL_law_976 : decode cL_law 976 = .ok (.iload 4, 2) := by decide +kernel
theorem dL_law_978 : decode cL_law 978 = .ok (.iconst 1, 1) := by decide +kernel
theorem dL_law_979 : decode cL_law 979 = .ok (.iadd, 1) := by decide +kernel
theorem dL_law_980 : decode cL_law 980 = .ok (.iaload, 1) := by decide +kernel
theorem dL_law_981 : decode cL_law 981 = .ok (.invokevirtual 113, 3) := by decide +kernel
theorem dL_law_984 : decode cL_law 984 = .ok (.aload_n 2, 1) := by decide +kernel
theorem dL_law_985 : decode cL_law 985 = .ok (.aload_n 0, 1) := by decide +kernel
theorem dL_law_986 : decode cL_law 986 = .ok (.iload 4, 2) := by decide +kernel
theorem dL_law_988 : decode cL_law 988 = .ok (.iconst 1, 1) := by decide +kernel
theorem dL_law_989 : decode cL_law 989 = .ok (.iadd, 1) := by decide +kernel
theorem dL_law_990 : decode cL_law 990 = .ok (.iaload, 1) := by decide +kernel
theorem dL_law_991 : decode cL_law 991 = .ok (.invokevirtual 116, 3) := by decide +kernel
theorem dL_law_994 : decode cL_law 994 = .ok (.if_icmp .eq 287, 3) := by decide +kernel
theorem dL_law_997 : decode cL_law 997 = .ok (.iconst 0, 1) := by decide +kernel
theorem dL_law_998 : decode cL_law 998 = .ok (.ireturn, 1) := by decide +kernel
theorem dL_law_999 : decode cL_law 999 = .ok (.aload_n 1, 1) := by decide +kernel
theorem dL_law_1000 : decode cL_law 1000 = .ok (.aload_n 0, 1) := by decide +kernel
theorem dL_law_1001 : decode cL_law 1001 = .ok (.iload 4, 2) := by decide +kernel
theorem dL_law_1003 : decode cL_law 1003 = .ok (.iconst 1, 1) := by decide +kernel
theorem dL_law_1004 : decode cL_law 1004 = .ok (.iadd, 1) := by decide +kernel
theorem dL_law_1005 : decode cL_law 1005 = .ok (.iaload, 1) := by decide +kernel
theorem dL_law_1006 : decode cL_law 1006 = .ok (.aload_n 0, 1) := by decide +kernel
theorem dL_law_1007 : decode cL_law 1007 = .ok (.iload 4, 2) := by decide +kernel
theorem dL_law_1009 : decode cL_law 1009 = .ok (.iconst 2, 1) := by decide +kernel
theorem dL_law_1010 : decode cL_law 1010 = .ok (.iadd, 1) := by decide +kernel
theorem dL_law_1011 : decode cL_law 1011 = .ok (.iaload, 1) := by decide +kernel
theorem dL_law_1012 : decode cL_law 1012 = .ok (.aload_n 0, 1) := by decide +kernel
theorem dL_law_1013 : decode cL_law 1013 = .ok (.iload 4, 2) := by decide +kernel
theorem dL_law_1015 : decode cL_law 1015 = .ok (.iconst 3, 1) := by decide +kernel
theorem dL_law_1016 : decode cL_law 1016 = .ok (.iadd, 1) := by decide +kernel
theorem dL_law_1017 : decode cL_law 1017 = .ok (.iaload, 1) := by decide +kernel
theorem dL_law_1018 : decode cL_law 1018 = .ok (.invokevirtual 117, 3) := by decide +kernel
theorem dL_law_1021 : decode cL_law 1021 = .ok (.aload_n 2, 1) := by decide +kernel
theorem dL_law_1022 : decode cL_law 1022 = .ok (.aload_n 0, 1) := by decide +kernel
theorem dL_law_1023 : decode cL_law 1023 = .ok (.iload 4, 2) := by decide +kernel
theorem dL_law_1025 : decode cL_law 1025 = .ok (.iconst 1, 1) := by decide +kernel
theorem dL_law_1026 : decode cL_law 1026 = .ok (.iadd, 1) := by decide +kernel
theorem dL_law_1027 : decode cL_law 1027 = .ok (.iaload, 1) := by decide +kernel
theorem dL_law_1028 : decode cL_law 1028 = .ok (.aload_n 0, 1) := by decide +kernel
theorem dL_law_1029 : decode cL_law 1029 = .ok (.iload 4, 2) := by decide +kernel
theorem dL_law_1031 : decode cL_law 1031 = .ok (.iconst 2, 1) := by decide +kernel
theorem dL_law_1032 : decode cL_law 1032 = .ok (.iadd, 1) := by decide +kernel
theorem dL_law_1033 : decode cL_law 1033 = .ok (.iaload, 1) := by decide +kernel
theorem dL_law_1034 : decode cL_law 1034 = .ok (.aload_n 0, 1) := by decide +kernel
theorem dL_law_1035 : decode cL_law 1035 = .ok (.iload 4, 2) := by decide +kernel
theorem dL_law_1037 : decode cL_law 1037 = .ok (.iconst 3, 1) := by decide +kernel
theorem dL_law_1038 : decode cL_law 1038 = .ok (.iadd, 1) := by decide +kernel
theorem dL_law_1039 : decode cL_law 1039 = .ok (.iaload, 1) := by decide +kernel
theorem dL_law_1040 : decode cL_law 1040 = .ok (.invokevirtual 120, 3) := by decide +kernel
theorem dL_law_1043 : decode cL_law 1043 = .ok (.if_icmp .eq 238, 3) := by decide +kernel
theorem dL_law_1046 : decode cL_law 1046 = .ok (.iconst 0, 1) := by decide +kernel
theorem dL_law_1047 : decode cL_law 1047 = .ok (.ireturn, 1) := by decide +kernel
theorem dL_law_1048 : decode cL_law 1048 = .ok (.aload_n 1, 1) := by decide +kernel
theorem dL_law_1049 : decode cL_law 1049 = .ok (.aload_n 0, 1) := by decide +kernel
theorem dL_law_1050 : decode cL_law 1050 = .ok (.iload 4, 2) := by decide +kernel
theorem dL_law_1052 : decode cL_law 1052 = .ok (.iconst 1, 1) := by decide +kernel
theorem dL_law_1053 : decode cL_law 1053 = .ok (.iadd, 1) := by decide +kernel
theorem dL_law_1054 : decode cL_law 1054 = .ok (.iaload, 1) := by decide +kernel
theorem dL_law_1055 : decode cL_law 1055 = .ok (.invokevirtual 121, 3) := by decide +kernel
theorem dL_law_1058 : decode cL_law 1058 = .ok (.aload_n 2, 1) := by decide +kernel
theorem dL_law_1059 : decode cL_law 1059 = .ok (.aload_n 0, 1) := by decide +kernel
theorem dL_law_1060 : decode cL_law 1060 = .ok (.iload 4, 2) := by decide +kernel
theorem dL_law_1062 : decode cL_law 1062 = .ok (.iconst 1, 1) := by decide +kernel
theorem dL_law_1063 : decode cL_law 1063 = .ok (.iadd, 1) := by decide +kernel
theorem dL_law_1064 : decode cL_law 1064 = .ok (.iaload, 1) := by decide +kernel
theorem dL_law_1065 : decode cL_law 1065 = .ok (.invokevirtual 124, 3) := by decide +kernel
theorem dL_law_1068 : decode cL_law 1068 = .ok (.if_icmp .eq 213, 3) := by decide +kernel
theorem dL_law_1071 : decode cL_law 1071 = .ok (.iconst 0, 1) := by decide +kernel
theorem dL_law_1072 : decode cL_law 1072 = .ok (.ireturn, 1) := by decide +kernel
theorem dL_law_1073 : decode cL_law 1073 = .ok (.aload_n 1, 1) := by decide +kernel
theorem dL_law_1074 : decode cL_law 1074 = .ok (.aload_n 0, 1) := by decide +kernel
theorem dL_law_1075 : decode cL_law 1075 = .ok (.iload 4, 2) := by decide +kernel
theorem dL_law_1077 : decode cL_law 1077 = .ok (.iconst 1, 1) := by decide +kernel
theorem dL_law_1078 : decode cL_law 1078 = .ok (.iadd, 1) := by decide +kernel
theorem dL_law_1079 : decode cL_law 1079 = .ok (.iaload, 1) := by decide +kernel
theorem dL_law_1080 : decode cL_law 1080 = .ok (.aload_n 0, 1) := by decide +kernel
theorem dL_law_1081 : decode cL_law 1081 = .ok (.iload 4, 2) := by decide +kernel
theorem dL_law_1083 : decode cL_law 1083 = .ok (.iconst 2, 1) := by decide +kernel
theorem dL_law_1084 : decode cL_law 1084 = .ok (.iadd, 1) := by decide +kernel
theorem dL_law_1085 : decode cL_law 1085 = .ok (.iaload, 1) := by decide +kernel
theorem dL_law_1086 : decode cL_law 1086 = .ok (.invokevirtual 125, 3) := by decide +kernel
theorem dL_law_1089 : decode cL_law 1089 = .ok (.aload_n 2, 1) := by decide +kernel
theorem dL_law_1090 : decode cL_law 1090 = .ok (.aload_n 0, 1) := by decide +kernel
theorem dL_law_1091 : decode cL_law 1091 = .ok (.iload 4, 2) := by decide +kernel
theorem dL_law_1093 : decode cL_law 1093 = .ok (.iconst 1, 1) := by decide +kernel
theorem dL_law_1094 : decode cL_law 1094 = .ok (.iadd, 1) := by decide +kernel
theorem dL_law_1095 : decode cL_law 1095 = .ok (.iaload, 1) := by decide +kernel
theorem dL_law_1096 : decode cL_law 1096 = .ok (.aload_n 0, 1) := by decide +kernel
theorem dL_law_1097 : decode cL_law 1097 = .ok (.iload 4, 2) := by decide +kernel
theorem dL_law_1099 : decode cL_law 1099 = .ok (.iconst 2, 1) := by decide +kernel
theorem dL_law_1100 : decode cL_law 1100 = .ok (.iadd, 1) := by decide +kernel
theorem dL_law_1101 : decode cL_law 1101 = .ok (.iaload, 1) := by decide +kernel
theorem dL_law_1102 : decode cL_law 1102 = .ok (.invokevirtual 128, 3) := by decide +kernel
theorem dL_law_1105 : decode cL_law 1105 = .ok (.if_icmp .eq 176, 3) := by decide +kernel
theorem dL_law_1108 : decode cL_law 1108 = .ok (.iconst 0, 1) := by decide +kernel
theorem dL_law_1109 : decode cL_law 1109 = .ok (.ireturn, 1) := by decide +kernel
theorem dL_law_1110 : decode cL_law 1110 = .ok (.aload_n 1, 1) := by decide +kernel
theorem dL_law_1111 : decode cL_law 1111 = .ok (.aload_n 0, 1) := by decide +kernel
theorem dL_law_1112 : decode cL_law 1112 = .ok (.iload 4, 2) := by decide +kernel
theorem dL_law_1114 : decode cL_law 1114 = .ok (.iconst 1, 1) := by decide +kernel
theorem dL_law_1115 : decode cL_law 1115 = .ok (.iadd, 1) := by decide +kernel
theorem dL_law_1116 : decode cL_law 1116 = .ok (.iaload, 1) := by decide +kernel
theorem dL_law_1117 : decode cL_law 1117 = .ok (.aload_n 0, 1) := by decide +kernel
theorem dL_law_1118 : decode cL_law 1118 = .ok (.iload 4, 2) := by decide +kernel
theorem dL_law_1120 : decode cL_law 1120 = .ok (.iconst 2, 1) := by decide +kernel
theorem dL_law_1121 : decode cL_law 1121 = .ok (.iadd, 1) := by decide +kernel
theorem dL_law_1122 : decode cL_law 1122 = .ok (.iaload, 1) := by decide +kernel
theorem dL_law_1123 : decode cL_law 1123 = .ok (.aload_n 0, 1) := by decide +kernel
theorem dL_law_1124 : decode cL_law 1124 = .ok (.iload 4, 2) := by decide +kernel
theorem dL_law_1126 : decode cL_law 1126 = .ok (.iconst 3, 1) := by decide +kernel
theorem dL_law_1127 : decode cL_law 1127 = .ok (.iadd, 1) := by decide +kernel
theorem dL_law_1128 : decode cL_law 1128 = .ok (.iaload, 1) := by decide +kernel
theorem dL_law_1129 : decode cL_law 1129 = .ok (.i2l, 1) := by decide +kernel
theorem dL_law_1130 : decode cL_law 1130 = .ok (.bipush 32, 2) := by decide +kernel
theorem dL_law_1132 : decode cL_law 1132 = .ok (.lshl, 1) := by decide +kernel
theorem dL_law_1133 : decode cL_law 1133 = .ok (.aload_n 0, 1) := by decide +kernel
theorem dL_law_1134 : decode cL_law 1134 = .ok (.iload 4, 2) := by decide +kernel
theorem dL_law_1136 : decode cL_law 1136 = .ok (.iconst 4, 1) := by decide +kernel
theorem dL_law_1137 : decode cL_law 1137 = .ok (.iadd, 1) := by decide +kernel
theorem dL_law_1138 : decode cL_law 1138 = .ok (.iaload, 1) := by decide +kernel
theorem dL_law_1139 : decode cL_law 1139 = .ok (.i2l, 1) := by decide +kernel
theorem dL_law_1140 : decode cL_law 1140 = .ok (.ldc2_w 129, 3) := by decide +kernel
theorem dL_law_1143 : decode cL_law 1143 = .ok (.land, 1) := by decide +kernel
theorem dL_law_1144 : decode cL_law 1144 = .ok (.lor, 1) := by decide +kernel
theorem dL_law_1145 : decode cL_law 1145 = .ok (.invokevirtual 131, 3) := by decide +kernel
theorem dL_law_1148 : decode cL_law 1148 = .ok (.aload_n 2, 1) := by decide +kernel
theorem dL_law_1149 : decode cL_law 1149 = .ok (.aload_n 0, 1) := by decide +kernel
theorem dL_law_1150 : decode cL_law 1150 = .ok (.iload 4, 2) := by decide +kernel
theorem dL_law_1152 : decode cL_law 1152 = .ok (.iconst 1, 1) := by decide +kernel
theorem dL_law_1153 : decode cL_law 1153 = .ok (.iadd, 1) := by decide +kernel
theorem dL_law_1154 : decode cL_law 1154 = .ok (.iaload, 1) := by decide +kernel
theorem dL_law_1155 : decode cL_law 1155 = .ok (.aload_n 0, 1) := by decide +kernel
theorem dL_law_1156 : decode cL_law 1156 = .ok (.iload 4, 2) := by decide +kernel
theorem dL_law_1158 : decode cL_law 1158 = .ok (.iconst 2, 1) := by decide +kernel
theorem dL_law_1159 : decode cL_law 1159 = .ok (.iadd, 1) := by decide +kernel
theorem dL_law_1160 : decode cL_law 1160 = .ok (.iaload, 1) := by decide +kernel
theorem dL_law_1161 : decode cL_law 1161 = .ok (.aload_n 0, 1) := by decide +kernel
theorem dL_law_1162 : decode cL_law 1162 = .ok (.iload 4, 2) := by decide +kernel
theorem dL_law_1164 : decode cL_law 1164 = .ok (.iconst 3, 1) := by decide +kernel
theorem dL_law_1165 : decode cL_law 1165 = .ok (.iadd, 1) := by decide +kernel
theorem dL_law_1166 : decode cL_law 1166 = .ok (.iaload, 1) := by decide +kernel
theorem dL_law_1167 : decode cL_law 1167 = .ok (.i2l, 1) := by decide +kernel
theorem dL_law_1168 : decode cL_law 1168 = .ok (.bipush 32, 2) := by decide +kernel
theorem dL_law_1170 : decode cL_law 1170 = .ok (.lshl, 1) := by decide +kernel
theorem dL_law_1171 : decode cL_law 1171 = .ok (.aload_n 0, 1) := by decide +kernel
theorem dL_law_1172 : decode cL_law 1172 = .ok (.iload 4, 2) := by decide +kernel
theorem dL_law_1174 : decode cL_law 1174 = .ok (.iconst 4, 1) := by decide +kernel
theorem dL_law_1175 : decode cL_law 1175 = .ok (.iadd, 1) := by decide +kernel
theorem dL_law_1176 : decode cL_law 1176 = .ok (.iaload, 1) := by decide +kernel
theorem dL_law_1177 : decode cL_law 1177 = .ok (.i2l, 1) := by decide +kernel
theorem dL_law_1178 : decode cL_law 1178 = .ok (.ldc2_w 129, 3) := by decide +kernel
theorem dL_law_1181 : decode cL_law 1181 = .ok (.land, 1) := by decide +kernel
theorem dL_law_1182 : decode cL_law 1182 = .ok (.lor, 1) := by decide +kernel
theorem dL_law_1183 : decode cL_law 1183 = .ok (.invokevirtual 135, 3) := by decide +kernel
theorem dL_law_1186 : decode cL_law 1186 = .ok (.if_icmp .eq 95, 3) := by decide +kernel
theorem dL_law_1189 : decode cL_law 1189 = .ok (.iconst 0, 1) := by decide +kernel
theorem dL_law_1190 : decode cL_law 1190 = .ok (.ireturn, 1) := by decide +kernel
theorem dL_law_1191 : decode cL_law 1191 = .ok (.aload_n 1, 1) := by decide +kernel
theorem dL_law_1192 : decode cL_law 1192 = .ok (.aload_n 0, 1) := by decide +kernel
theorem dL_law_1193 : decode cL_law 1193 = .ok (.iload 4, 2) := by decide +kernel
theorem dL_law_1195 : decode cL_law 1195 = .ok (.iconst 1, 1) := by decide +kernel
theorem dL_law_1196 : decode cL_law 1196 = .ok (.iadd, 1) := by decide +kernel
theorem dL_law_1197 : decode cL_law 1197 = .ok (.iaload, 1) := by decide +kernel
theorem dL_law_1198 : decode cL_law 1198 = .ok (.invokevirtual 136, 3) := by decide +kernel
theorem dL_law_1201 : decode cL_law 1201 = .ok (.aload_n 2, 1) := by decide +kernel
theorem dL_law_1202 : decode cL_law 1202 = .ok (.aload_n 0, 1) := by decide +kernel
theorem dL_law_1203 : decode cL_law 1203 = .ok (.iload 4, 2) := by decide +kernel
theorem dL_law_1205 : decode cL_law 1205 = .ok (.iconst 1, 1) := by decide +kernel
theorem dL_law_1206 : decode cL_law 1206 = .ok (.iadd, 1) := by decide +kernel
theorem dL_law_1207 : decode cL_law 1207 = .ok (.iaload, 1) := by decide +kernel
theorem dL_law_1208 : decode cL_law 1208 = .ok (.invokevirtual 140, 3) := by decide +kernel
theorem dL_law_1211 : decode cL_law 1211 = .ok (.lcmp, 1) := by decide +kernel
theorem dL_law_1212 : decode cL_law 1212 = .ok (.ifCond .eq 69, 3) := by decide +kernel
theorem dL_law_1215 : decode cL_law 1215 = .ok (.iconst 0, 1) := by decide +kernel
theorem dL_law_1216 : decode cL_law 1216 = .ok (.ireturn, 1) := by decide +kernel
theorem dL_law_1217 : decode cL_law 1217 = .ok (.aload_n 1, 1) := by decide +kernel
theorem dL_law_1218 : decode cL_law 1218 = .ok (.invokevirtual 141, 3) := by decide +kernel
theorem dL_law_1221 : decode cL_law 1221 = .ok (.aload_n 2, 1) := by decide +kernel
theorem dL_law_1222 : decode cL_law 1222 = .ok (.invokevirtual 144, 3) := by decide +kernel
theorem dL_law_1225 : decode cL_law 1225 = .ok (.if_icmp .eq 56, 3) := by decide +kernel
theorem dL_law_1228 : decode cL_law 1228 = .ok (.iconst 0, 1) := by decide +kernel
theorem dL_law_1229 : decode cL_law 1229 = .ok (.ireturn, 1) := by decide +kernel
theorem dL_law_1230 : decode cL_law 1230 = .ok (.aload_n 1, 1) := by decide +kernel
theorem dL_law_1231 : decode cL_law 1231 = .ok (.invokevirtual 145, 3) := by decide +kernel
theorem dL_law_1234 : decode cL_law 1234 = .ok (.aload_n 2, 1) := by decide +kernel
theorem dL_law_1235 : decode cL_law 1235 = .ok (.invokevirtual 148, 3) := by decide +kernel
theorem dL_law_1238 : decode cL_law 1238 = .ok (.if_icmp .eq 43, 3) := by decide +kernel
theorem dL_law_1241 : decode cL_law 1241 = .ok (.iconst 0, 1) := by decide +kernel
theorem dL_law_1242 : decode cL_law 1242 = .ok (.ireturn, 1) := by decide +kernel
theorem dL_law_1243 : decode cL_law 1243 = .ok (.aload_n 1, 1) := by decide +kernel
theorem dL_law_1244 : decode cL_law 1244 = .ok (.invokevirtual 149, 3) := by decide +kernel
theorem dL_law_1247 : decode cL_law 1247 = .ok (.aload_n 2, 1) := by decide +kernel
theorem dL_law_1248 : decode cL_law 1248 = .ok (.invokevirtual 152, 3) := by decide +kernel
theorem dL_law_1251 : decode cL_law 1251 = .ok (.if_icmp .eq 30, 3) := by decide +kernel
theorem dL_law_1254 : decode cL_law 1254 = .ok (.iconst 0, 1) := by decide +kernel
theorem dL_law_1255 : decode cL_law 1255 = .ok (.ireturn, 1) := by decide +kernel
theorem dL_law_1256 : decode cL_law 1256 = .ok (.aload_n 1, 1) := by decide +kernel
theorem dL_law_1257 : decode cL_law 1257 = .ok (.aload_n 0, 1) := by decide +kernel
theorem dL_law_1258 : decode cL_law 1258 = .ok (.iload 4, 2) := by decide +kernel
theorem dL_law_1260 : decode cL_law 1260 = .ok (.iconst 1, 1) := by decide +kernel
theorem dL_law_1261 : decode cL_law 1261 = .ok (.iadd, 1) := by decide +kernel
theorem dL_law_1262 : decode cL_law 1262 = .ok (.iaload, 1) := by decide +kernel
theorem dL_law_1263 : decode cL_law 1263 = .ok (.invokevirtual 153, 3) := by decide +kernel
theorem dL_law_1266 : decode cL_law 1266 = .ok (.aload_n 2, 1) := by decide +kernel
theorem dL_law_1267 : decode cL_law 1267 = .ok (.aload_n 0, 1) := by decide +kernel
theorem dL_law_1268 : decode cL_law 1268 = .ok (.iload 4, 2) := by decide +kernel
theorem dL_law_1270 : decode cL_law 1270 = .ok (.iconst 1, 1) := by decide +kernel
theorem dL_law_1271 : decode cL_law 1271 = .ok (.iadd, 1) := by decide +kernel
theorem dL_law_1272 : decode cL_law 1272 = .ok (.iaload, 1) := by decide +kernel
theorem dL_law_1273 : decode cL_law 1273 = .ok (.invokevirtual 156, 3) := by decide +kernel
theorem dL_law_1276 : decode cL_law 1276 = .ok (.if_icmp .eq 5, 3) := by decide +kernel
theorem dL_law_1279 : decode cL_law 1279 = .ok (.iconst 0, 1) := by decide +kernel
theorem dL_law_1280 : decode cL_law 1280 = .ok (.ireturn, 1) := by decide +kernel
theorem dL_law_1281 : decode cL_law 1281 = .ok (.iinc 4 6, 3) := by decide +kernel
theorem dL_law_1284 : decode cL_law 1284 = .ok (.goto (-1261), 3) := by decide +kernel
theorem dL_law_1287 : decode cL_law 1287 = .ok (.iconst 1, 1) := by decide +kernel
theorem dL_law_1288 : decode cL_law 1288 = .ok (.ireturn, 1) := by decide +kernel
