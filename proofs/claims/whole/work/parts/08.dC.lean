theorem dX12_ends_49 : decode cX12_ends 49 = .ok (.goto 55, 3) := by decide +kernel
theorem dX12_ends_52 : decode cX12_ends 52 = .ok (.aload_n 0, 1) := by decide +kernel
theorem dX12_ends_53 : decode cX12_ends 53 = .ok (.getfield 64, 3) := by decide +kernel
theorem dX12_ends_56 : decode cX12_ends 56 = .ok (.iload_n 2, 1) := by decide +kernel
theorem dX12_ends_57 : decode cX12_ends 57 = .ok (.iaload, 1) := by decide +kernel
theorem dX12_ends_58 : decode cX12_ends 58 = .ok (.iconst 1, 1) := by decide +kernel
theorem dX12_ends_59 : decode cX12_ends 59 = .ok (.if_icmp .ne 24, 3) := by decide +kernel
theorem dX12_ends_62 : decode cX12_ends 62 = .ok (.aload_n 0, 1) := by decide +kernel
theorem dX12_ends_63 : decode cX12_ends 63 = .ok (.getfield 9, 3) := by decide +kernel
theorem dX12_ends_66 : decode cX12_ends 66 = .ok (.iload_n 3, 1) := by decide +kernel
theorem dX12_ends_67 : decode cX12_ends 67 = .ok (.aload_n 0, 1) := by decide +kernel
theorem dX12_ends_68 : decode cX12_ends 68 = .ok (.getfield 9, 3) := by decide +kernel
theorem dX12_ends_71 : decode cX12_ends 71 = .ok (.iload_n 3, 1) := by decide +kernel
theorem dX12_ends_72 : decode cX12_ends 72 = .ok (.iaload, 1) := by decide +kernel
theorem dX12_ends_73 : decode cX12_ends 73 = .ok (.bipush 10, 2) := by decide +kernel
theorem dX12_ends_75 : decode cX12_ends 75 = .ok (.iadd, 1) := by decide +kernel
theorem dX12_ends_76 : decode cX12_ends 76 = .ok (.invokestatic 238, 3) := by decide +kernel
theorem dX12_ends_79 : decode cX12_ends 79 = .ok (.iastore, 1) := by decide +kernel
theorem dX12_ends_80 : decode cX12_ends 80 = .ok (.goto 24, 3) := by decide +kernel
theorem dX12_ends_83 : decode cX12_ends 83 = .ok (.aload_n 0, 1) := by decide +kernel
theorem dX12_ends_84 : decode cX12_ends 84 = .ok (.getfield 24, 3) := by decide +kernel
theorem dX12_ends_87 : decode cX12_ends 87 = .ok (.iload_n 3, 1) := by decide +kernel
theorem dX12_ends_88 : decode cX12_ends 88 = .ok (.aload_n 0, 1) := by decide +kernel
theorem dX12_ends_89 : decode cX12_ends 89 = .ok (.getfield 64, 3) := by decide +kernel
theorem dX12_ends_92 : decode cX12_ends 92 = .ok (.iload_n 2, 1) := by decide +kernel
theorem dX12_ends_93 : decode cX12_ends 93 = .ok (.iaload, 1) := by decide +kernel
theorem dX12_ends_94 : decode cX12_ends 94 = .ok (.iconst 2, 1) := by decide +kernel
theorem dX12_ends_95 : decode cX12_ends 95 = .ok (.if_icmp .ne 7, 3) := by decide +kernel
theorem dX12_ends_98 : decode cX12_ends 98 = .ok (.iconst 1, 1) := by decide +kernel
theorem dX12_ends_99 : decode cX12_ends 99 = .ok (.goto 4, 3) := by decide +kernel
theorem dX12_ends_102 : decode cX12_ends 102 = .ok (.iconst 0, 1) := by decide +kernel
theorem dX12_ends_103 : decode cX12_ends 103 = .ok (.iastore, 1) := by decide +kernel
theorem dX12_ends_104 : decode cX12_ends 104 = .ok (.iinc 2 1, 3) := by decide +kernel
theorem dX12_ends_107 : decode cX12_ends 107 = .ok (.goto (-86), 3) := by decide +kernel
theorem dX12_ends_110 : decode cX12_ends 110 = .ok (.iload_n 1, 1) := by decide +kernel
theorem dX12_ends_111 : decode cX12_ends 111 = .ok (.ifCond .ne 10, 3) := by decide +kernel
theorem dX12_ends_114 : decode cX12_ends 114 = .ok (.aload_n 0, 1) := by decide +kernel
theorem dX12_ends_115 : decode cX12_ends 115 = .ok (.invokevirtual 244, 3) := by decide +kernel
theorem dX12_ends_118 : decode cX12_ends 118 = .ok (.goto 7, 3) := by decide +kernel
theorem dX12_ends_121 : decode cX12_ends 121 = .ok (.aload_n 0, 1) := by decide +kernel
theorem dX12_ends_122 : decode cX12_ends 122 = .ok (.invokevirtual 241, 3) := by decide +kernel
theorem dX12_ends_125 : decode cX12_ends 125 = .ok (.istore_n 2, 1) := by decide +kernel
theorem dX12_ends_126 : decode cX12_ends 126 = .ok (.aload_n 0, 1) := by decide +kernel
theorem dX12_ends_127 : decode cX12_ends 127 = .ok (.aload_n 0, 1) := by decide +kernel
theorem dX12_ends_128 : decode cX12_ends 128 = .ok (.getfield 82, 3) := by decide +kernel
theorem dX12_ends_131 : decode cX12_ends 131 = .ok (.invokevirtual 257, 3) := by decide +kernel
theorem dX12_ends_134 : decode cX12_ends 134 = .ok (.iload_n 2, 1) := by decide +kernel
theorem dX12_ends_135 : decode cX12_ends 135 = .ok (.ireturn, 1) := by decide +kernel
theorem dX12_book_0 : decode cX12_book 0 = .ok (.iload_n 1, 1) := by decide +kernel
theorem dX12_book_1 : decode cX12_book 1 = .ok (.iconst (-1), 1) := by decide +kernel
theorem dX12_book_2 : decode cX12_book 2 = .ok (.if_icmp .ne 10, 3) := by decide +kernel
theorem dX12_book_5 : decode cX12_book 5 = .ok (.aload_n 0, 1) := by decide +kernel
theorem dX12_book_6 : decode cX12_book 6 = .ok (.iconst 0, 1) := by decide +kernel
theorem dX12_book_7 : decode cX12_book 7 = .ok (.putfield 288, 3) := by decide +kernel
theorem dX12_book_10 : decode cX12_book 10 = .ok (.iconst 0, 1) := by decide +kernel
theorem dX12_book_11 : decode cX12_book 11 = .ok (.ireturn, 1) := by decide +kernel
theorem dX12_book_12 : decode cX12_book 12 = .ok (.aload_n 0, 1) := by decide +kernel
theorem dX12_book_13 : decode cX12_book 13 = .ok (.iload_n 1, 1) := by decide +kernel
theorem dX12_book_14 : decode cX12_book 14 = .ok (.invokevirtual 116, 3) := by decide +kernel
theorem dX12_book_17 : decode cX12_book 17 = .ok (.ifCond .eq 10, 3) := by decide +kernel
theorem dX12_book_20 : decode cX12_book 20 = .ok (.iload_n 2, 1) := by decide +kernel
theorem dX12_book_21 : decode cX12_book 21 = .ok (.invokestatic 112, 3) := by decide +kernel
theorem dX12_book_24 : decode cX12_book 24 = .ok (.ifCond .ne 5, 3) := by decide +kernel
theorem dX12_book_27 : decode cX12_book 27 = .ok (.iconst (-1), 1) := by decide +kernel
theorem dX12_book_28 : decode cX12_book 28 = .ok (.ireturn, 1) := by decide +kernel
theorem dX12_book_29 : decode cX12_book 29 = .ok (.aload_n 0, 1) := by decide +kernel
theorem dX12_book_30 : decode cX12_book 30 = .ok (.getfield 288, 3) := by decide +kernel
theorem dX12_book_33 : decode cX12_book 33 = .ok (.bipush 8, 2) := by decide +kernel
theorem dX12_book_35 : decode cX12_book 35 = .ok (.if_icmp .ne 6, 3) := by decide +kernel
theorem dX12_book_38 : decode cX12_book 38 = .ok (.bipush (-4), 2) := by decide +kernel
theorem dX12_book_40 : decode cX12_book 40 = .ok (.ireturn, 1) := by decide +kernel
theorem dX12_book_41 : decode cX12_book 41 = .ok (.aload_n 0, 1) := by decide +kernel
theorem dX12_book_42 : decode cX12_book 42 = .ok (.getfield 70, 3) := by decide +kernel
theorem dX12_book_45 : decode cX12_book 45 = .ok (.aload_n 0, 1) := by decide +kernel
theorem dX12_book_46 : decode cX12_book 46 = .ok (.getfield 288, 3) := by decide +kernel
theorem dX12_book_49 : decode cX12_book 49 = .ok (.iload_n 1, 1) := by decide +kernel
theorem dX12_book_50 : decode cX12_book 50 = .ok (.iastore, 1) := by decide +kernel
theorem dX12_book_51 : decode cX12_book 51 = .ok (.aload_n 0, 1) := by decide +kernel
theorem dX12_book_52 : decode cX12_book 52 = .ok (.getfield 73, 3) := by decide +kernel
theorem dX12_book_55 : decode cX12_book 55 = .ok (.aload_n 0, 1) := by decide +kernel
theorem dX12_book_56 : decode cX12_book 56 = .ok (.dup, 1) := by decide +kernel
theorem dX12_book_57 : decode cX12_book 57 = .ok (.getfield 288, 3) := by decide +kernel
theorem dX12_book_60 : decode cX12_book 60 = .ok (.dup_x1, 1) := by decide +kernel
theorem dX12_book_61 : decode cX12_book 61 = .ok (.iconst 1, 1) := by decide +kernel
theorem dX12_book_62 : decode cX12_book 62 = .ok (.iadd, 1) := by decide +kernel
theorem dX12_book_63 : decode cX12_book 63 = .ok (.putfield 288, 3) := by decide +kernel
theorem dX12_book_66 : decode cX12_book 66 = .ok (.iload_n 2, 1) := by decide +kernel
theorem dX12_book_67 : decode cX12_book 67 = .ok (.iastore, 1) := by decide +kernel
theorem dX12_book_68 : decode cX12_book 68 = .ok (.aload_n 0, 1) := by decide +kernel
theorem dX12_book_69 : decode cX12_book 69 = .ok (.getfield 288, 3) := by decide +kernel
theorem dX12_book_72 : decode cX12_book 72 = .ok (.ireturn, 1) := by decide +kernel
theorem dX12_looked_0 : decode cX12_looked 0 = .ok (.iconst 0, 1) := by decide +kernel
theorem dX12_looked_1 : decode cX12_looked 1 = .ok (.istore_n 1, 1) := by decide +kernel
theorem dX12_looked_2 : decode cX12_looked 2 = .ok (.iload_n 1, 1) := by decide +kernel
theorem dX12_looked_3 : decode cX12_looked 3 = .ok (.aload_n 0, 1) := by decide +kernel
theorem dX12_looked_4 : decode cX12_looked 4 = .ok (.getfield 288, 3) := by decide +kernel
theorem dX12_looked_7 : decode cX12_looked 7 = .ok (.if_icmp .ge 31, 3) := by decide +kernel
theorem dX12_looked_10 : decode cX12_looked 10 = .ok (.aload_n 0, 1) := by decide +kernel
theorem dX12_looked_11 : decode cX12_looked 11 = .ok (.getfield 21, 3) := by decide +kernel
theorem dX12_looked_14 : decode cX12_looked 14 = .ok (.aload_n 0, 1) := by decide +kernel
theorem dX12_looked_15 : decode cX12_looked 15 = .ok (.getfield 70, 3) := by decide +kernel
theorem dX12_looked_18 : decode cX12_looked 18 = .ok (.iload_n 1, 1) := by decide +kernel
theorem dX12_looked_19 : decode cX12_looked 19 = .ok (.iaload, 1) := by decide +kernel
theorem dX12_looked_20 : decode cX12_looked 20 = .ok (.iaload, 1) := by decide +kernel
theorem dX12_looked_21 : decode cX12_looked 21 = .ok (.aload_n 0, 1) := by decide +kernel
theorem dX12_looked_22 : decode cX12_looked 22 = .ok (.getfield 73, 3) := by decide +kernel
theorem dX12_looked_25 : decode cX12_looked 25 = .ok (.iload_n 1, 1) := by decide +kernel
theorem dX12_looked_26 : decode cX12_looked 26 = .ok (.iaload, 1) := by decide +kernel
theorem dX12_looked_27 : decode cX12_looked 27 = .ok (.if_icmp .eq 5, 3) := by decide +kernel
theorem dX12_looked_30 : decode cX12_looked 30 = .ok (.iload_n 1, 1) := by decide +kernel
theorem dX12_looked_31 : decode cX12_looked 31 = .ok (.ireturn, 1) := by decide +kernel
theorem dX12_looked_32 : decode cX12_looked 32 = .ok (.iinc 1 1, 3) := by decide +kernel
theorem dX12_looked_35 : decode cX12_looked 35 = .ok (.goto (-33), 3) := by decide +kernel
theorem dX12_looked_38 : decode cX12_looked 38 = .ok (.bipush (-5), 2) := by decide +kernel
theorem dX12_looked_40 : decode cX12_looked 40 = .ok (.ireturn, 1) := by decide +kernel
theorem dX12_judge_0 : decode cX12_judge 0 = .ok (.iload_n 1, 1) := by decide +kernel
theorem dX12_judge_1 : decode cX12_judge 1 = .ok (.iconst 0, 1) := by decide +kernel
theorem dX12_judge_2 : decode cX12_judge 2 = .ok (.iconst 5, 1) := by decide +kernel
theorem dX12_judge_3 : decode cX12_judge 3 = .ok (.invokestatic 108, 3) := by decide +kernel
theorem dX12_judge_6 : decode cX12_judge 6 = .ok (.ifCond .ne 5, 3) := by decide +kernel
theorem dX12_judge_9 : decode cX12_judge 9 = .ok (.iconst (-1), 1) := by decide +kernel
theorem dX12_judge_10 : decode cX12_judge 10 = .ok (.ireturn, 1) := by decide +kernel
theorem dX12_judge_11 : decode cX12_judge 11 = .ok (.aload_n 0, 1) := by decide +kernel
theorem dX12_judge_12 : decode cX12_judge 12 = .ok (.getfield 91, 3) := by decide +kernel
theorem dX12_judge_15 : decode cX12_judge 15 = .ok (.iload_n 1, 1) := by decide +kernel
theorem dX12_judge_16 : decode cX12_judge 16 = .ok (.iaload, 1) := by decide +kernel
theorem dX12_judge_17 : decode cX12_judge 17 = .ok (.iconst (-1), 1) := by decide +kernel
theorem dX12_judge_18 : decode cX12_judge 18 = .ok (.if_icmp .eq 15, 3) := by decide +kernel
theorem dX12_judge_21 : decode cX12_judge 21 = .ok (.aload_n 0, 1) := by decide +kernel
theorem dX12_judge_22 : decode cX12_judge 22 = .ok (.getfield 91, 3) := by decide +kernel
theorem dX12_judge_25 : decode cX12_judge 25 = .ok (.iload_n 1, 1) := by decide +kernel
theorem dX12_judge_26 : decode cX12_judge 26 = .ok (.iaload, 1) := by decide +kernel
theorem dX12_judge_27 : decode cX12_judge 27 = .ok (.ifCond .eq 6, 3) := by decide +kernel
theorem dX12_judge_30 : decode cX12_judge 30 = .ok (.bipush (-12), 2) := by decide +kernel
theorem dX12_judge_32 : decode cX12_judge 32 = .ok (.ireturn, 1) := by decide +kernel
theorem dX12_judge_33 : decode cX12_judge 33 = .ok (.iconst 0, 1) := by decide +kernel
theorem dX12_judge_34 : decode cX12_judge 34 = .ok (.istore_n 3, 1) := by decide +kernel
theorem dX12_judge_35 : decode cX12_judge 35 = .ok (.iload_n 3, 1) := by decide +kernel
theorem dX12_judge_36 : decode cX12_judge 36 = .ok (.bipush 25, 2) := by decide +kernel
theorem dX12_judge_38 : decode cX12_judge 38 = .ok (.if_icmp .ge 70, 3) := by decide +kernel
theorem dX12_judge_41 : decode cX12_judge 41 = .ok (.aload_n 0, 1) := by decide +kernel
theorem dX12_judge_42 : decode cX12_judge 42 = .ok (.getfield 91, 3) := by decide +kernel
theorem dX12_judge_45 : decode cX12_judge 45 = .ok (.iload_n 1, 1) := by decide +kernel
theorem dX12_judge_46 : decode cX12_judge 46 = .ok (.iaload, 1) := by decide +kernel
theorem dX12_judge_47 : decode cX12_judge 47 = .ok (.iconst (-1), 1) := by decide +kernel
theorem dX12_judge_48 : decode cX12_judge 48 = .ok (.if_icmp .eq 23, 3) := by decide +kernel
theorem dX12_judge_51 : decode cX12_judge 51 = .ok (.iload_n 2, 1) := by decide +kernel
theorem dX12_judge_52 : decode cX12_judge 52 = .ok (.ifCond .lt 19, 3) := by decide +kernel
theorem dX12_judge_55 : decode cX12_judge 55 = .ok (.iload_n 2, 1) := by decide +kernel
theorem dX12_judge_56 : decode cX12_judge 56 = .ok (.i2l, 1) := by decide +kernel
theorem dX12_judge_57 : decode cX12_judge 57 = .ok (.iload_n 3, 1) := by decide +kernel
theorem dX12_judge_58 : decode cX12_judge 58 = .ok (.i2l, 1) := by decide +kernel
theorem dX12_judge_59 : decode cX12_judge 59 = .ok (.ladd, 1) := by decide +kernel
theorem dX12_judge_60 : decode cX12_judge 60 = .ok (.aload_n 0, 1) := by decide +kernel
theorem dX12_judge_61 : decode cX12_judge 61 = .ok (.getfield 94, 3) := by decide +kernel
theorem dX12_judge_64 : decode cX12_judge 64 = .ok (.iload_n 1, 1) := by decide +kernel
theorem dX12_judge_65 : decode cX12_judge 65 = .ok (.iaload, 1) := by decide +kernel
theorem dX12_judge_66 : decode cX12_judge 66 = .ok (.i2l, 1) := by decide +kernel
theorem dX12_judge_67 : decode cX12_judge 67 = .ok (.lcmp, 1) := by decide +kernel
theorem dX12_judge_68 : decode cX12_judge 68 = .ok (.ifCond .lt 8, 3) := by decide +kernel
theorem dX12_judge_71 : decode cX12_judge 71 = .ok (.bipush 100, 2) := by decide +kernel
theorem dX12_judge_73 : decode cX12_judge 73 = .ok (.iload_n 3, 1) := by decide +kernel
theorem dX12_judge_74 : decode cX12_judge 74 = .ok (.iadd, 1) := by decide +kernel
theorem dX12_judge_75 : decode cX12_judge 75 = .ok (.ireturn, 1) := by decide +kernel
theorem dX12_judge_76 : decode cX12_judge 76 = .ok (.aload_n 0, 1) := by decide +kernel
theorem dX12_judge_77 : decode cX12_judge 77 = .ok (.getfield 97, 3) := by decide +kernel
theorem dX12_judge_80 : decode cX12_judge 80 = .ok (.bipush 60, 2) := by decide +kernel
theorem dX12_judge_82 : decode cX12_judge 82 = .ok (.iload_n 1, 1) := by decide +kernel
theorem dX12_judge_83 : decode cX12_judge 83 = .ok (.imul, 1) := by decide +kernel
theorem dX12_judge_84 : decode cX12_judge 84 = .ok (.iload_n 2, 1) := by decide +kernel
theorem dX12_judge_85 : decode cX12_judge 85 = .ok (.iadd, 1) := by decide +kernel
theorem dX12_judge_86 : decode cX12_judge 86 = .ok (.iload_n 3, 1) := by decide +kernel
theorem dX12_judge_87 : decode cX12_judge 87 = .ok (.iadd, 1) := by decide +kernel
theorem dX12_judge_88 : decode cX12_judge 88 = .ok (.laload, 1) := by decide +kernel
theorem dX12_judge_89 : decode cX12_judge 89 = .ok (.aload_n 0, 1) := by decide +kernel
theorem dX12_judge_90 : decode cX12_judge 90 = .ok (.getfield 9, 3) := by decide +kernel
theorem dX12_judge_93 : decode cX12_judge 93 = .ok (.iload_n 3, 1) := by decide +kernel
theorem dX12_judge_94 : decode cX12_judge 94 = .ok (.iaload, 1) := by decide +kernel
theorem dX12_judge_95 : decode cX12_judge 95 = .ok (.i2l, 1) := by decide +kernel
theorem dX12_judge_96 : decode cX12_judge 96 = .ok (.lcmp, 1) := by decide +kernel
theorem dX12_judge_97 : decode cX12_judge 97 = .ok (.ifCond .eq 5, 3) := by decide +kernel
theorem dX12_judge_100 : decode cX12_judge 100 = .ok (.iload_n 3, 1) := by decide +kernel
theorem dX12_judge_101 : decode cX12_judge 101 = .ok (.ireturn, 1) := by decide +kernel
theorem dX12_judge_102 : decode cX12_judge 102 = .ok (.iinc 3 1, 3) := by decide +kernel
theorem dX12_judge_105 : decode cX12_judge 105 = .ok (.goto (-70), 3) := by decide +kernel
theorem dX12_judge_108 : decode cX12_judge 108 = .ok (.bipush (-5), 2) := by decide +kernel
theorem dX12_judge_110 : decode cX12_judge 110 = .ok (.ireturn, 1) := by decide +kernel
theorem dX12_keep_0 : decode cX12_keep 0 = .ok (.iconst 0, 1) := by decide +kernel
theorem dX12_keep_1 : decode cX12_keep 1 = .ok (.istore_n 2, 1) := by decide +kernel
theorem dX12_keep_2 : decode cX12_keep 2 = .ok (.iload_n 2, 1) := by decide +kernel
theorem dX12_keep_3 : decode cX12_keep 3 = .ok (.bipush 25, 2) := by decide +kernel
theorem dX12_keep_5 : decode cX12_keep 5 = .ok (.if_icmp .ge 18, 3) := by decide +kernel
theorem dX12_keep_8 : decode cX12_keep 8 = .ok (.aload_n 1, 1) := by decide +kernel
theorem dX12_keep_9 : decode cX12_keep 9 = .ok (.iload_n 2, 1) := by decide +kernel
theorem dX12_keep_10 : decode cX12_keep 10 = .ok (.aload_n 0, 1) := by decide +kernel
theorem dX12_keep_11 : decode cX12_keep 11 = .ok (.getfield 9, 3) := by decide +kernel
theorem dX12_keep_14 : decode cX12_keep 14 = .ok (.iload_n 2, 1) := by decide +kernel
theorem dX12_keep_15 : decode cX12_keep 15 = .ok (.iaload, 1) := by decide +kernel
theorem dX12_keep_16 : decode cX12_keep 16 = .ok (.iastore, 1) := by decide +kernel
theorem dX12_keep_17 : decode cX12_keep 17 = .ok (.iinc 2 1, 3) := by decide +kernel
theorem dX12_keep_20 : decode cX12_keep 20 = .ok (.goto (-18), 3) := by decide +kernel
theorem dX12_keep_23 : decode cX12_keep 23 = .ok (.iconst 0, 1) := by decide +kernel
theorem dX12_keep_24 : decode cX12_keep 24 = .ok (.istore_n 2, 1) := by decide +kernel
theorem dX12_keep_25 : decode cX12_keep 25 = .ok (.iload_n 2, 1) := by decide +kernel
theorem dX12_keep_26 : decode cX12_keep 26 = .ok (.bipush 6, 2) := by decide +kernel
theorem dX12_keep_28 : decode cX12_keep 28 = .ok (.if_icmp .ge 57, 3) := by decide +kernel
theorem dX12_keep_31 : decode cX12_keep 31 = .ok (.aload_n 1, 1) := by decide +kernel
theorem dX12_keep_32 : decode cX12_keep 32 = .ok (.bipush 25, 2) := by decide +kernel
theorem dX12_keep_34 : decode cX12_keep 34 = .ok (.iload_n 2, 1) := by decide +kernel
theorem dX12_keep_35 : decode cX12_keep 35 = .ok (.iadd, 1) := by decide +kernel
theorem dX12_keep_36 : decode cX12_keep 36 = .ok (.aload_n 0, 1) := by decide +kernel
theorem dX12_keep_37 : decode cX12_keep 37 = .ok (.getfield 15, 3) := by decide +kernel
theorem dX12_keep_40 : decode cX12_keep 40 = .ok (.iload_n 2, 1) := by decide +kernel
theorem dX12_keep_41 : decode cX12_keep 41 = .ok (.iaload, 1) := by decide +kernel
theorem dX12_keep_42 : decode cX12_keep 42 = .ok (.iastore, 1) := by decide +kernel
theorem dX12_keep_43 : decode cX12_keep 43 = .ok (.aload_n 1, 1) := by decide +kernel
theorem dX12_keep_44 : decode cX12_keep 44 = .ok (.bipush 31, 2) := by decide +kernel
theorem dX12_keep_46 : decode cX12_keep 46 = .ok (.iload_n 2, 1) := by decide +kernel
theorem dX12_keep_47 : decode cX12_keep 47 = .ok (.iadd, 1) := by decide +kernel
theorem dX12_keep_48 : decode cX12_keep 48 = .ok (.aload_n 0, 1) := by decide +kernel
theorem dX12_keep_49 : decode cX12_keep 49 = .ok (.getfield 18, 3) := by decide +kernel
theorem dX12_keep_52 : decode cX12_keep 52 = .ok (.iload_n 2, 1) := by decide +kernel
theorem dX12_keep_53 : decode cX12_keep 53 = .ok (.iaload, 1) := by decide +kernel
theorem dX12_keep_54 : decode cX12_keep 54 = .ok (.iastore, 1) := by decide +kernel
theorem dX12_keep_55 : decode cX12_keep 55 = .ok (.aload_n 1, 1) := by decide +kernel
theorem dX12_keep_56 : decode cX12_keep 56 = .ok (.bipush 37, 2) := by decide +kernel
theorem dX12_keep_58 : decode cX12_keep 58 = .ok (.iload_n 2, 1) := by decide +kernel
theorem dX12_keep_59 : decode cX12_keep 59 = .ok (.iadd, 1) := by decide +kernel
theorem dX12_keep_60 : decode cX12_keep 60 = .ok (.aload_n 0, 1) := by decide +kernel
theorem dX12_keep_61 : decode cX12_keep 61 = .ok (.getfield 21, 3) := by decide +kernel
theorem dX12_keep_64 : decode cX12_keep 64 = .ok (.iload_n 2, 1) := by decide +kernel
theorem dX12_keep_65 : decode cX12_keep 65 = .ok (.iaload, 1) := by decide +kernel
theorem dX12_keep_66 : decode cX12_keep 66 = .ok (.iastore, 1) := by decide +kernel
theorem dX12_keep_67 : decode cX12_keep 67 = .ok (.aload_n 1, 1) := by decide +kernel
theorem dX12_keep_68 : decode cX12_keep 68 = .ok (.bipush 43, 2) := by decide +kernel
theorem dX12_keep_70 : decode cX12_keep 70 = .ok (.iload_n 2, 1) := by decide +kernel
theorem dX12_keep_71 : decode cX12_keep 71 = .ok (.iadd, 1) := by decide +kernel
theorem dX12_keep_72 : decode cX12_keep 72 = .ok (.aload_n 0, 1) := by decide +kernel
theorem dX12_keep_73 : decode cX12_keep 73 = .ok (.getfield 24, 3) := by decide +kernel
theorem dX12_keep_76 : decode cX12_keep 76 = .ok (.iload_n 2, 1) := by decide +kernel
theorem dX12_keep_77 : decode cX12_keep 77 = .ok (.iaload, 1) := by decide +kernel
theorem dX12_keep_78 : decode cX12_keep 78 = .ok (.iastore, 1) := by decide +kernel
theorem dX12_keep_79 : decode cX12_keep 79 = .ok (.iinc 2 1, 3) := by decide +kernel
theorem dX12_keep_82 : decode cX12_keep 82 = .ok (.goto (-57), 3) := by decide +kernel
theorem dX12_keep_85 : decode cX12_keep 85 = .ok (.iconst 0, 1) := by decide +kernel
theorem dX12_keep_86 : decode cX12_keep 86 = .ok (.istore_n 2, 1) := by decide +kernel
theorem dX12_keep_87 : decode cX12_keep 87 = .ok (.iload_n 2, 1) := by decide +kernel
theorem dX12_keep_88 : decode cX12_keep 88 = .ok (.bipush 24, 2) := by decide +kernel
theorem dX12_keep_90 : decode cX12_keep 90 = .ok (.if_icmp .ge 21, 3) := by decide +kernel
theorem dX12_keep_93 : decode cX12_keep 93 = .ok (.aload_n 1, 1) := by decide +kernel
theorem dX12_keep_94 : decode cX12_keep 94 = .ok (.bipush 49, 2) := by decide +kernel
theorem dX12_keep_96 : decode cX12_keep 96 = .ok (.iload_n 2, 1) := by decide +kernel
theorem dX12_keep_97 : decode cX12_keep 97 = .ok (.iadd, 1) := by decide +kernel
theorem dX12_keep_98 : decode cX12_keep 98 = .ok (.aload_n 0, 1) := by decide +kernel
theorem dX12_keep_99 : decode cX12_keep 99 = .ok (.getfield 27, 3) := by decide +kernel
theorem dX12_keep_102 : decode cX12_keep 102 = .ok (.iload_n 2, 1) := by decide +kernel
theorem dX12_keep_103 : decode cX12_keep 103 = .ok (.iaload, 1) := by decide +kernel
theorem dX12_keep_104 : decode cX12_keep 104 = .ok (.iastore, 1) := by decide +kernel
theorem dX12_keep_105 : decode cX12_keep 105 = .ok (.iinc 2 1, 3) := by decide +kernel
theorem dX12_keep_108 : decode cX12_keep 108 = .ok (.goto (-21), 3) := by decide +kernel
theorem dX12_keep_111 : decode cX12_keep 111 = .ok (.iconst 0, 1) := by decide +kernel
theorem dX12_keep_112 : decode cX12_keep 112 = .ok (.istore_n 2, 1) := by decide +kernel
theorem dX12_keep_113 : decode cX12_keep 113 = .ok (.iload_n 2, 1) := by decide +kernel
theorem dX12_keep_114 : decode cX12_keep 114 = .ok (.iconst 5, 1) := by decide +kernel
theorem dX12_keep_115 : decode cX12_keep 115 = .ok (.if_icmp .ge 45, 3) := by decide +kernel
theorem dX12_keep_118 : decode cX12_keep 118 = .ok (.aload_n 1, 1) := by decide +kernel
theorem dX12_keep_119 : decode cX12_keep 119 = .ok (.bipush 73, 2) := by decide +kernel
theorem dX12_keep_121 : decode cX12_keep 121 = .ok (.iload_n 2, 1) := by decide +kernel
theorem dX12_keep_122 : decode cX12_keep 122 = .ok (.iadd, 1) := by decide +kernel
theorem dX12_keep_123 : decode cX12_keep 123 = .ok (.aload_n 0, 1) := by decide +kernel
theorem dX12_keep_124 : decode cX12_keep 124 = .ok (.getfield 55, 3) := by decide +kernel
theorem dX12_keep_127 : decode cX12_keep 127 = .ok (.iload_n 2, 1) := by decide +kernel
theorem dX12_keep_128 : decode cX12_keep 128 = .ok (.iaload, 1) := by decide +kernel
theorem dX12_keep_129 : decode cX12_keep 129 = .ok (.iastore, 1) := by decide +kernel
theorem dX12_keep_130 : decode cX12_keep 130 = .ok (.aload_n 1, 1) := by decide +kernel
theorem dX12_keep_131 : decode cX12_keep 131 = .ok (.bipush 78, 2) := by decide +kernel
theorem dX12_keep_133 : decode cX12_keep 133 = .ok (.iload_n 2, 1) := by decide +kernel
theorem dX12_keep_134 : decode cX12_keep 134 = .ok (.iadd, 1) := by decide +kernel
theorem dX12_keep_135 : decode cX12_keep 135 = .ok (.aload_n 0, 1) := by decide +kernel
theorem dX12_keep_136 : decode cX12_keep 136 = .ok (.getfield 58, 3) := by decide +kernel
theorem dX12_keep_139 : decode cX12_keep 139 = .ok (.iload_n 2, 1) := by decide +kernel
theorem dX12_keep_140 : decode cX12_keep 140 = .ok (.iaload, 1) := by decide +kernel
theorem dX12_keep_141 : decode cX12_keep 141 = .ok (.iastore, 1) := by decide +kernel
theorem dX12_keep_142 : decode cX12_keep 142 = .ok (.aload_n 1, 1) := by decide +kernel
theorem dX12_keep_143 : decode cX12_keep 143 = .ok (.bipush 83, 2) := by decide +kernel
theorem dX12_keep_145 : decode cX12_keep 145 = .ok (.iload_n 2, 1) := by decide +kernel
theorem dX12_keep_146 : decode cX12_keep 146 = .ok (.iadd, 1) := by decide +kernel
theorem dX12_keep_147 : decode cX12_keep 147 = .ok (.aload_n 0, 1) := by decide +kernel
theorem dX12_keep_148 : decode cX12_keep 148 = .ok (.getfield 61, 3) := by decide +kernel
theorem dX12_keep_151 : decode cX12_keep 151 = .ok (.iload_n 2, 1) := by decide +kernel
theorem dX12_keep_152 : decode cX12_keep 152 = .ok (.iaload, 1) := by decide +kernel
theorem dX12_keep_153 : decode cX12_keep 153 = .ok (.iastore, 1) := by decide +kernel
theorem dX12_keep_154 : decode cX12_keep 154 = .ok (.iinc 2 1, 3) := by decide +kernel
theorem dX12_keep_157 : decode cX12_keep 157 = .ok (.goto (-44), 3) := by decide +kernel
theorem dX12_keep_160 : decode cX12_keep 160 = .ok (.iconst 0, 1) := by decide +kernel
theorem dX12_keep_161 : decode cX12_keep 161 = .ok (.istore_n 2, 1) := by decide +kernel
theorem dX12_keep_162 : decode cX12_keep 162 = .ok (.iload_n 2, 1) := by decide +kernel
theorem dX12_keep_163 : decode cX12_keep 163 = .ok (.bipush 10, 2) := by decide +kernel
theorem dX12_keep_165 : decode cX12_keep 165 = .ok (.if_icmp .ge 33, 3) := by decide +kernel
theorem dX12_keep_168 : decode cX12_keep 168 = .ok (.aload_n 1, 1) := by decide +kernel
theorem dX12_keep_169 : decode cX12_keep 169 = .ok (.bipush 88, 2) := by decide +kernel
theorem dX12_keep_171 : decode cX12_keep 171 = .ok (.iload_n 2, 1) := by decide +kernel
theorem dX12_keep_172 : decode cX12_keep 172 = .ok (.iadd, 1) := by decide +kernel
theorem dX12_keep_173 : decode cX12_keep 173 = .ok (.aload_n 0, 1) := by decide +kernel
theorem dX12_keep_174 : decode cX12_keep 174 = .ok (.getfield 64, 3) := by decide +kernel
theorem dX12_keep_177 : decode cX12_keep 177 = .ok (.iload_n 2, 1) := by decide +kernel
theorem dX12_keep_178 : decode cX12_keep 178 = .ok (.iaload, 1) := by decide +kernel
theorem dX12_keep_179 : decode cX12_keep 179 = .ok (.iastore, 1) := by decide +kernel
theorem dX12_keep_180 : decode cX12_keep 180 = .ok (.aload_n 1, 1) := by decide +kernel
theorem dX12_keep_181 : decode cX12_keep 181 = .ok (.bipush 98, 2) := by decide +kernel
theorem dX12_keep_183 : decode cX12_keep 183 = .ok (.iload_n 2, 1) := by decide +kernel
theorem dX12_keep_184 : decode cX12_keep 184 = .ok (.iadd, 1) := by decide +kernel
theorem dX12_keep_185 : decode cX12_keep 185 = .ok (.aload_n 0, 1) := by decide +kernel
theorem dX12_keep_186 : decode cX12_keep 186 = .ok (.getfield 67, 3) := by decide +kernel
theorem dX12_keep_189 : decode cX12_keep 189 = .ok (.iload_n 2, 1) := by decide +kernel
theorem dX12_keep_190 : decode cX12_keep 190 = .ok (.iaload, 1) := by decide +kernel
theorem dX12_keep_191 : decode cX12_keep 191 = .ok (.iastore, 1) := by decide +kernel
theorem dX12_keep_192 : decode cX12_keep 192 = .ok (.iinc 2 1, 3) := by decide +kernel
theorem dX12_keep_195 : decode cX12_keep 195 = .ok (.goto (-33), 3) := by decide +kernel
theorem dX12_keep_198 : decode cX12_keep 198 = .ok (.iconst 0, 1) := by decide +kernel
theorem dX12_keep_199 : decode cX12_keep 199 = .ok (.istore_n 2, 1) := by decide +kernel
theorem dX12_keep_200 : decode cX12_keep 200 = .ok (.iload_n 2, 1) := by decide +kernel
theorem dX12_keep_201 : decode cX12_keep 201 = .ok (.bipush 8, 2) := by decide +kernel
theorem dX12_keep_203 : decode cX12_keep 203 = .ok (.if_icmp .ge 33, 3) := by decide +kernel
theorem dX12_keep_206 : decode cX12_keep 206 = .ok (.aload_n 1, 1) := by decide +kernel
theorem dX12_keep_207 : decode cX12_keep 207 = .ok (.bipush 108, 2) := by decide +kernel
theorem dX12_keep_209 : decode cX12_keep 209 = .ok (.iload_n 2, 1) := by decide +kernel
theorem dX12_keep_210 : decode cX12_keep 210 = .ok (.iadd, 1) := by decide +kernel
theorem dX12_keep_211 : decode cX12_keep 211 = .ok (.aload_n 0, 1) := by decide +kernel
theorem dX12_keep_212 : decode cX12_keep 212 = .ok (.getfield 70, 3) := by decide +kernel
theorem dX12_keep_215 : decode cX12_keep 215 = .ok (.iload_n 2, 1) := by decide +kernel
theorem dX12_keep_216 : decode cX12_keep 216 = .ok (.iaload, 1) := by decide +kernel
theorem dX12_keep_217 : decode cX12_keep 217 = .ok (.iastore, 1) := by decide +kernel
theorem dX12_keep_218 : decode cX12_keep 218 = .ok (.aload_n 1, 1) := by decide +kernel
theorem dX12_keep_219 : decode cX12_keep 219 = .ok (.bipush 116, 2) := by decide +kernel
theorem dX12_keep_221 : decode cX12_keep 221 = .ok (.iload_n 2, 1) := by decide +kernel
theorem dX12_keep_222 : decode cX12_keep 222 = .ok (.iadd, 1) := by decide +kernel
theorem dX12_keep_223 : decode cX12_keep 223 = .ok (.aload_n 0, 1) := by decide +kernel
theorem dX12_keep_224 : decode cX12_keep 224 = .ok (.getfield 73, 3) := by decide +kernel
theorem dX12_keep_227 : decode cX12_keep 227 = .ok (.iload_n 2, 1) := by decide +kernel
theorem dX12_keep_228 : decode cX12_keep 228 = .ok (.iaload, 1) := by decide +kernel
theorem dX12_keep_229 : decode cX12_keep 229 = .ok (.iastore, 1) := by decide +kernel
theorem dX12_keep_230 : decode cX12_keep 230 = .ok (.iinc 2 1, 3) := by decide +kernel
theorem dX12_keep_233 : decode cX12_keep 233 = .ok (.goto (-33), 3) := by decide +kernel
theorem dX12_keep_236 : decode cX12_keep 236 = .ok (.aload_n 1, 1) := by decide +kernel
theorem dX12_keep_237 : decode cX12_keep 237 = .ok (.bipush 124, 2) := by decide +kernel
theorem dX12_keep_239 : decode cX12_keep 239 = .ok (.aload_n 0, 1) := by decide +kernel
theorem dX12_keep_240 : decode cX12_keep 240 = .ok (.getfield 105, 3) := by decide +kernel
theorem dX12_keep_243 : decode cX12_keep 243 = .ok (.iastore, 1) := by decide +kernel
theorem dX12_keep_244 : decode cX12_keep 244 = .ok (.aload_n 1, 1) := by decide +kernel
theorem dX12_keep_245 : decode cX12_keep 245 = .ok (.bipush 125, 2) := by decide +kernel
theorem dX12_keep_247 : decode cX12_keep 247 = .ok (.aload_n 0, 1) := by decide +kernel
theorem dX12_keep_248 : decode cX12_keep 248 = .ok (.getfield 208, 3) := by decide +kernel
theorem dX12_keep_251 : decode cX12_keep 251 = .ok (.iastore, 1) := by decide +kernel
theorem dX12_keep_252 : decode cX12_keep 252 = .ok (.aload_n 1, 1) := by decide +kernel
theorem dX12_keep_253 : decode cX12_keep 253 = .ok (.bipush 126, 2) := by decide +kernel
theorem dX12_keep_255 : decode cX12_keep 255 = .ok (.aload_n 0, 1) := by decide +kernel
theorem dX12_keep_256 : decode cX12_keep 256 = .ok (.getfield 273, 3) := by decide +kernel
theorem dX12_keep_259 : decode cX12_keep 259 = .ok (.iastore, 1) := by decide +kernel
theorem dX12_keep_260 : decode cX12_keep 260 = .ok (.aload_n 1, 1) := by decide +kernel
theorem dX12_keep_261 : decode cX12_keep 261 = .ok (.bipush 127, 2) := by decide +kernel
theorem dX12_keep_263 : decode cX12_keep 263 = .ok (.aload_n 0, 1) := by decide +kernel
theorem dX12_keep_264 : decode cX12_keep 264 = .ok (.getfield 285, 3) := by decide +kernel
theorem dX12_keep_267 : decode cX12_keep 267 = .ok (.iastore, 1) := by decide +kernel
theorem dX12_keep_268 : decode cX12_keep 268 = .ok (.aload_n 1, 1) := by decide +kernel
theorem dX12_keep_269 : decode cX12_keep 269 = .ok (.sipush 128, 3) := by decide +kernel
theorem dX12_keep_272 : decode cX12_keep 272 = .ok (.aload_n 0, 1) := by decide +kernel
theorem dX12_keep_273 : decode cX12_keep 273 = .ok (.getfield 288, 3) := by decide +kernel
theorem dX12_keep_276 : decode cX12_keep 276 = .ok (.iastore, 1) := by decide +kernel
theorem dX12_keep_277 : decode cX12_keep 277 = .ok (.aload_n 1, 1) := by decide +kernel
theorem dX12_keep_278 : decode cX12_keep 278 = .ok (.sipush 129, 3) := by decide +kernel
theorem dX12_keep_281 : decode cX12_keep 281 = .ok (.aload_n 0, 1) := by decide +kernel
theorem dX12_keep_282 : decode cX12_keep 282 = .ok (.getfield 101, 3) := by decide +kernel
theorem dX12_keep_285 : decode cX12_keep 285 = .ok (.iastore, 1) := by decide +kernel
theorem dX12_keep_286 : decode cX12_keep 286 = .ok (.return_, 1) := by decide +kernel
theorem dX12_again_0 : decode cX12_again 0 = .ok (.iconst 0, 1) := by decide +kernel
theorem dX12_again_1 : decode cX12_again 1 = .ok (.istore_n 2, 1) := by decide +kernel
theorem dX12_again_2 : decode cX12_again 2 = .ok (.iload_n 2, 1) := by decide +kernel
theorem dX12_again_3 : decode cX12_again 3 = .ok (.bipush 25, 2) := by decide +kernel
theorem dX12_again_5 : decode cX12_again 5 = .ok (.if_icmp .ge 18, 3) := by decide +kernel
theorem dX12_again_8 : decode cX12_again 8 = .ok (.aload_n 0, 1) := by decide +kernel
theorem dX12_again_9 : decode cX12_again 9 = .ok (.getfield 9, 3) := by decide +kernel
theorem dX12_again_12 : decode cX12_again 12 = .ok (.iload_n 2, 1) := by decide +kernel
theorem dX12_again_13 : decode cX12_again 13 = .ok (.aload_n 1, 1) := by decide +kernel
theorem dX12_again_14 : decode cX12_again 14 = .ok (.iload_n 2, 1) := by decide +kernel
theorem dX12_again_15 : decode cX12_again 15 = .ok (.iaload, 1) := by decide +kernel
theorem dX12_again_16 : decode cX12_again 16 = .ok (.iastore, 1) := by decide +kernel
theorem dX12_again_17 : decode cX12_again 17 = .ok (.iinc 2 1, 3) := by decide +kernel
theorem dX12_again_20 : decode cX12_again 20 = .ok (.goto (-18), 3) := by decide +kernel
theorem dX12_again_23 : decode cX12_again 23 = .ok (.iconst 0, 1) := by decide +kernel
theorem dX12_again_24 : decode cX12_again 24 = .ok (.istore_n 2, 1) := by decide +kernel
theorem dX12_again_25 : decode cX12_again 25 = .ok (.iload_n 2, 1) := by decide +kernel
theorem dX12_again_26 : decode cX12_again 26 = .ok (.bipush 6, 2) := by decide +kernel
theorem dX12_again_28 : decode cX12_again 28 = .ok (.if_icmp .ge 57, 3) := by decide +kernel
theorem dX12_again_31 : decode cX12_again 31 = .ok (.aload_n 0, 1) := by decide +kernel
theorem dX12_again_32 : decode cX12_again 32 = .ok (.getfield 15, 3) := by decide +kernel
theorem dX12_again_35 : decode cX12_again 35 = .ok (.iload_n 2, 1) := by decide +kernel
theorem dX12_again_36 : decode cX12_again 36 = .ok (.aload_n 1, 1) := by decide +kernel
theorem dX12_again_37 : decode cX12_again 37 = .ok (.bipush 25, 2) := by decide +kernel
theorem dX12_again_39 : decode cX12_again 39 = .ok (.iload_n 2, 1) := by decide +kernel
theorem dX12_again_40 : decode cX12_again 40 = .ok (.iadd, 1) := by decide +kernel
theorem dX12_again_41 : decode cX12_again 41 = .ok (.iaload, 1) := by decide +kernel
theorem dX12_again_42 : decode cX12_again 42 = .ok (.iastore, 1) := by decide +kernel
theorem dX12_again_43 : decode cX12_again 43 = .ok (.aload_n 0, 1) := by decide +kernel
theorem dX12_again_44 : decode cX12_again 44 = .ok (.getfield 18, 3) := by decide +kernel
theorem dX12_again_47 : decode cX12_again 47 = .ok (.iload_n 2, 1) := by decide +kernel
theorem dX12_again_48 : decode cX12_again 48 = .ok (.aload_n 1, 1) := by decide +kernel
theorem dX12_again_49 : decode cX12_again 49 = .ok (.bipush 31, 2) := by decide +kernel
theorem dX12_again_51 : decode cX12_again 51 = .ok (.iload_n 2, 1) := by decide +kernel
theorem dX12_again_52 : decode cX12_again 52 = .ok (.iadd, 1) := by decide +kernel
theorem dX12_again_53 : decode cX12_again 53 = .ok (.iaload, 1) := by decide +kernel
theorem dX12_again_54 : decode cX12_again 54 = .ok (.iastore, 1) := by decide +kernel
theorem dX12_again_55 : decode cX12_again 55 = .ok (.aload_n 0, 1) := by decide +kernel
theorem dX12_again_56 : decode cX12_again 56 = .ok (.getfield 21, 3) := by decide +kernel
theorem dX12_again_59 : decode cX12_again 59 = .ok (.iload_n 2, 1) := by decide +kernel
theorem dX12_again_60 : decode cX12_again 60 = .ok (.aload_n 1, 1) := by decide +kernel
theorem dX12_again_61 : decode cX12_again 61 = .ok (.bipush 37, 2) := by decide +kernel
theorem dX12_again_63 : decode cX12_again 63 = .ok (.iload_n 2, 1) := by decide +kernel
theorem dX12_again_64 : decode cX12_again 64 = .ok (.iadd, 1) := by decide +kernel
theorem dX12_again_65 : decode cX12_again 65 = .ok (.iaload, 1) := by decide +kernel
theorem dX12_again_66 : decode cX12_again 66 = .ok (.iastore, 1) := by decide +kernel
theorem dX12_again_67 : decode cX12_again 67 = .ok (.aload_n 0, 1) := by decide +kernel
theorem dX12_again_68 : decode cX12_again 68 = .ok (.getfield 24, 3) := by decide +kernel
theorem dX12_again_71 : decode cX12_again 71 = .ok (.iload_n 2, 1) := by decide +kernel
theorem dX12_again_72 : decode cX12_again 72 = .ok (.aload_n 1, 1) := by decide +kernel
theorem dX12_again_73 : decode cX12_again 73 = .ok (.bipush 43, 2) := by decide +kernel
theorem dX12_again_75 : decode cX12_again 75 = .ok (.iload_n 2, 1) := by decide +kernel
theorem dX12_again_76 : decode cX12_again 76 = .ok (.iadd, 1) := by decide +kernel
theorem dX12_again_77 : decode cX12_again 77 = .ok (.iaload, 1) := by decide +kernel
theorem dX12_again_78 : decode cX12_again 78 = .ok (.iastore, 1) := by decide +kernel
theorem dX12_again_79 : decode cX12_again 79 = .ok (.iinc 2 1, 3) := by decide +kernel
theorem dX12_again_82 : decode cX12_again 82 = .ok (.goto (-57), 3) := by decide +kernel
theorem dX12_again_85 : decode cX12_again 85 = .ok (.iconst 0, 1) := by decide +kernel
theorem dX12_again_86 : decode cX12_again 86 = .ok (.istore_n 2, 1) := by decide +kernel
theorem dX12_again_87 : decode cX12_again 87 = .ok (.iload_n 2, 1) := by decide +kernel
theorem dX12_again_88 : decode cX12_again 88 = .ok (.bipush 24, 2) := by decide +kernel
theorem dX12_again_90 : decode cX12_again 90 = .ok (.if_icmp .ge 21, 3) := by decide +kernel
theorem dX12_again_93 : decode cX12_again 93 = .ok (.aload_n 0, 1) := by decide +kernel
theorem dX12_again_94 : decode cX12_again 94 = .ok (.getfield 27, 3) := by decide +kernel
theorem dX12_again_97 : decode cX12_again 97 = .ok (.iload_n 2, 1) := by decide +kernel
theorem dX12_again_98 : decode cX12_again 98 = .ok (.aload_n 1, 1) := by decide +kernel
theorem dX12_again_99 : decode cX12_again 99 = .ok (.bipush 49, 2) := by decide +kernel
theorem dX12_again_101 : decode cX12_again 101 = .ok (.iload_n 2, 1) := by decide +kernel
theorem dX12_again_102 : decode cX12_again 102 = .ok (.iadd, 1) := by decide +kernel
theorem dX12_again_103 : decode cX12_again 103 = .ok (.iaload, 1) := by decide +kernel
theorem dX12_again_104 : decode cX12_again 104 = .ok (.iastore, 1) := by decide +kernel
theorem dX12_again_105 : decode cX12_again 105 = .ok (.iinc 2 1, 3) := by decide +kernel
theorem dX12_again_108 : decode cX12_again 108 = .ok (.goto (-21), 3) := by decide +kernel
theorem dX12_again_111 : decode cX12_again 111 = .ok (.iconst 0, 1) := by decide +kernel
theorem dX12_again_112 : decode cX12_again 112 = .ok (.istore_n 2, 1) := by decide +kernel
theorem dX12_again_113 : decode cX12_again 113 = .ok (.iload_n 2, 1) := by decide +kernel
theorem dX12_again_114 : decode cX12_again 114 = .ok (.iconst 5, 1) := by decide +kernel
theorem dX12_again_115 : decode cX12_again 115 = .ok (.if_icmp .ge 45, 3) := by decide +kernel
theorem dX12_again_118 : decode cX12_again 118 = .ok (.aload_n 0, 1) := by decide +kernel
theorem dX12_again_119 : decode cX12_again 119 = .ok (.getfield 55, 3) := by decide +kernel
theorem dX12_again_122 : decode cX12_again 122 = .ok (.iload_n 2, 1) := by decide +kernel
theorem dX12_again_123 : decode cX12_again 123 = .ok (.aload_n 1, 1) := by decide +kernel
theorem dX12_again_124 : decode cX12_again 124 = .ok (.bipush 73, 2) := by decide +kernel
theorem dX12_again_126 : decode cX12_again 126 = .ok (.iload_n 2, 1) := by decide +kernel
theorem dX12_again_127 : decode cX12_again 127 = .ok (.iadd, 1) := by decide +kernel
theorem dX12_again_128 : decode cX12_again 128 = .ok (.iaload, 1) := by decide +kernel
theorem dX12_again_129 : decode cX12_again 129 = .ok (.iastore, 1) := by decide +kernel
theorem dX12_again_130 : decode cX12_again 130 = .ok (.aload_n 0, 1) := by decide +kernel
theorem dX12_again_131 : decode cX12_again 131 = .ok (.getfield 58, 3) := by decide +kernel
theorem dX12_again_134 : decode cX12_again 134 = .ok (.iload_n 2, 1) := by decide +kernel
theorem dX12_again_135 : decode cX12_again 135 = .ok (.aload_n 1, 1) := by decide +kernel
theorem dX12_again_136 : decode cX12_again 136 = .ok (.bipush 78, 2) := by decide +kernel
theorem dX12_again_138 : decode cX12_again 138 = .ok (.iload_n 2, 1) := by decide +kernel
theorem dX12_again_139 : decode cX12_again 139 = .ok (.iadd, 1) := by decide +kernel
theorem dX12_again_140 : decode cX12_again 140 = .ok (.iaload, 1) := by decide +kernel
theorem dX12_again_141 : decode cX12_again 141 = .ok (.iastore, 1) := by decide +kernel
theorem dX12_again_142 : decode cX12_again 142 = .ok (.aload_n 0, 1) := by decide +kernel
theorem dX12_again_143 : decode cX12_again 143 = .ok (.getfield 61, 3) := by decide +kernel
theorem dX12_again_146 : decode cX12_again 146 = .ok (.iload_n 2, 1) := by decide +kernel
theorem dX12_again_147 : decode cX12_again 147 = .ok (.aload_n 1, 1) := by decide +kernel
theorem dX12_again_148 : decode cX12_again 148 = .ok (.bipush 83, 2) := by decide +kernel
theorem dX12_again_150 : decode cX12_again 150 = .ok (.iload_n 2, 1) := by decide +kernel
theorem dX12_again_151 : decode cX12_again 151 = .ok (.iadd, 1) := by decide +kernel
theorem dX12_again_152 : decode cX12_again 152 = .ok (.iaload, 1) := by decide +kernel
theorem dX12_again_153 : decode cX12_again 153 = .ok (.iastore, 1) := by decide +kernel
theorem dX12_again_154 : decode cX12_again 154 = .ok (.iinc 2 1, 3) := by decide +kernel
theorem dX12_again_157 : decode cX12_again 157 = .ok (.goto (-44), 3) := by decide +kernel
theorem dX12_again_160 : decode cX12_again 160 = .ok (.iconst 0, 1) := by decide +kernel
theorem dX12_again_161 : decode cX12_again 161 = .ok (.istore_n 2, 1) := by decide +kernel
theorem dX12_again_162 : decode cX12_again 162 = .ok (.iload_n 2, 1) := by decide +kernel
theorem dX12_again_163 : decode cX12_again 163 = .ok (.bipush 10, 2) := by decide +kernel
theorem dX12_again_165 : decode cX12_again 165 = .ok (.if_icmp .ge 33, 3) := by decide +kernel
theorem dX12_again_168 : decode cX12_again 168 = .ok (.aload_n 0, 1) := by decide +kernel
theorem dX12_again_169 : decode cX12_again 169 = .ok (.getfield 64, 3) := by decide +kernel
theorem dX12_again_172 : decode cX12_again 172 = .ok (.iload_n 2, 1) := by decide +kernel
theorem dX12_again_173 : decode cX12_again 173 = .ok (.aload_n 1, 1) := by decide +kernel
theorem dX12_again_174 : decode cX12_again 174 = .ok (.bipush 88, 2) := by decide +kernel
theorem dX12_again_176 : decode cX12_again 176 = .ok (.iload_n 2, 1) := by decide +kernel
theorem dX12_again_177 : decode cX12_again 177 = .ok (.iadd, 1) := by decide +kernel
theorem dX12_again_178 : decode cX12_again 178 = .ok (.iaload, 1) := by decide +kernel
theorem dX12_again_179 : decode cX12_again 179 = .ok (.iastore, 1) := by decide +kernel
theorem dX12_again_180 : decode cX12_again 180 = .ok (.aload_n 0, 1) := by decide +kernel
theorem dX12_again_181 : decode cX12_again 181 = .ok (.getfield 67, 3) := by decide +kernel
theorem dX12_again_184 : decode cX12_again 184 = .ok (.iload_n 2, 1) := by decide +kernel
theorem dX12_again_185 : decode cX12_again 185 = .ok (.aload_n 1, 1) := by decide +kernel
theorem dX12_again_186 : decode cX12_again 186 = .ok (.bipush 98, 2) := by decide +kernel
theorem dX12_again_188 : decode cX12_again 188 = .ok (.iload_n 2, 1) := by decide +kernel
theorem dX12_again_189 : decode cX12_again 189 = .ok (.iadd, 1) := by decide +kernel
theorem dX12_again_190 : decode cX12_again 190 = .ok (.iaload, 1) := by decide +kernel
theorem dX12_again_191 : decode cX12_again 191 = .ok (.iastore, 1) := by decide +kernel
theorem dX12_again_192 : decode cX12_again 192 = .ok (.iinc 2 1, 3) := by decide +kernel
theorem dX12_again_195 : decode cX12_again 195 = .ok (.goto (-33), 3) := by decide +kernel
theorem dX12_again_198 : decode cX12_again 198 = .ok (.iconst 0, 1) := by decide +kernel
theorem dX12_again_199 : decode cX12_again 199 = .ok (.istore_n 2, 1) := by decide +kernel
theorem dX12_again_200 : decode cX12_again 200 = .ok (.iload_n 2, 1) := by decide +kernel
theorem dX12_again_201 : decode cX12_again 201 = .ok (.bipush 8, 2) := by decide +kernel
theorem dX12_again_203 : decode cX12_again 203 = .ok (.if_icmp .ge 33, 3) := by decide +kernel
theorem dX12_again_206 : decode cX12_again 206 = .ok (.aload_n 0, 1) := by decide +kernel
theorem dX12_again_207 : decode cX12_again 207 = .ok (.getfield 70, 3) := by decide +kernel
theorem dX12_again_210 : decode cX12_again 210 = .ok (.iload_n 2, 1) := by decide +kernel
theorem dX12_again_211 : decode cX12_again 211 = .ok (.aload_n 1, 1) := by decide +kernel
theorem dX12_again_212 : decode cX12_again 212 = .ok (.bipush 108, 2) := by decide +kernel
theorem dX12_again_214 : decode cX12_again 214 = .ok (.iload_n 2, 1) := by decide +kernel
theorem dX12_again_215 : decode cX12_again 215 = .ok (.iadd, 1) := by decide +kernel
theorem dX12_again_216 : decode cX12_again 216 = .ok (.iaload, 1) := by decide +kernel
theorem dX12_again_217 : decode cX12_again 217 = .ok (.iastore, 1) := by decide +kernel
theorem dX12_again_218 : decode cX12_again 218 = .ok (.aload_n 0, 1) := by decide +kernel
theorem dX12_again_219 : decode cX12_again 219 = .ok (.getfield 73, 3) := by decide +kernel
theorem dX12_again_222 : decode cX12_again 222 = .ok (.iload_n 2, 1) := by decide +kernel
theorem dX12_again_223 : decode cX12_again 223 = .ok (.aload_n 1, 1) := by decide +kernel
theorem dX12_again_224 : decode cX12_again 224 = .ok (.bipush 116, 2) := by decide +kernel
theorem dX12_again_226 : decode cX12_again 226 = .ok (.iload_n 2, 1) := by decide +kernel
theorem dX12_again_227 : decode cX12_again 227 = .ok (.iadd, 1) := by decide +kernel
theorem dX12_again_228 : decode cX12_again 228 = .ok (.iaload, 1) := by decide +kernel
theorem dX12_again_229 : decode cX12_again 229 = .ok (.iastore, 1) := by decide +kernel
theorem dX12_again_230 : decode cX12_again 230 = .ok (.iinc 2 1, 3) := by decide +kernel
theorem dX12_again_233 : decode cX12_again 233 = .ok (.goto (-33), 3) := by decide +kernel
theorem dX12_again_236 : decode cX12_again 236 = .ok (.aload_n 0, 1) := by decide +kernel
theorem dX12_again_237 : decode cX12_again 237 = .ok (.aload_n 1, 1) := by decide +kernel
theorem dX12_again_238 : decode cX12_again 238 = .ok (.bipush 124, 2) := by decide +kernel
theorem dX12_again_240 : decode cX12_again 240 = .ok (.iaload, 1) := by decide +kernel
theorem dX12_again_241 : decode cX12_again 241 = .ok (.putfield 105, 3) := by decide +kernel
theorem dX12_again_244 : decode cX12_again 244 = .ok (.aload_n 0, 1) := by decide +kernel
theorem dX12_again_245 : decode cX12_again 245 = .ok (.aload_n 1, 1) := by decide +kernel
theorem dX12_again_246 : decode cX12_again 246 = .ok (.bipush 125, 2) := by decide +kernel
theorem dX12_again_248 : decode cX12_again 248 = .ok (.iaload, 1) := by decide +kernel
theorem dX12_again_249 : decode cX12_again 249 = .ok (.putfield 208, 3) := by decide +kernel
theorem dX12_again_252 : decode cX12_again 252 = .ok (.aload_n 0, 1) := by decide +kernel
theorem dX12_again_253 : decode cX12_again 253 = .ok (.aload_n 1, 1) := by decide +kernel
theorem dX12_again_254 : decode cX12_again 254 = .ok (.bipush 126, 2) := by decide +kernel
theorem dX12_again_256 : decode cX12_again 256 = .ok (.iaload, 1) := by decide +kernel
theorem dX12_again_257 : decode cX12_again 257 = .ok (.putfield 273, 3) := by decide +kernel
theorem dX12_again_260 : decode cX12_again 260 = .ok (.aload_n 0, 1) := by decide +kernel
theorem dX12_again_261 : decode cX12_again 261 = .ok (.aload_n 1, 1) := by decide +kernel
theorem dX12_again_262 : decode cX12_again 262 = .ok (.bipush 127, 2) := by decide +kernel
theorem dX12_again_264 : decode cX12_again 264 = .ok (.iaload, 1) := by decide +kernel
theorem dX12_again_265 : decode cX12_again 265 = .ok (.putfield 285, 3) := by decide +kernel
theorem dX12_again_268 : decode cX12_again 268 = .ok (.aload_n 0, 1) := by decide +kernel
theorem dX12_again_269 : decode cX12_again 269 = .ok (.aload_n 1, 1) := by decide +kernel
theorem dX12_again_270 : decode cX12_again 270 = .ok (.sipush 128, 3) := by decide +kernel
theorem dX12_again_273 : decode cX12_again 273 = .ok (.iaload, 1) := by decide +kernel
theorem dX12_again_274 : decode cX12_again 274 = .ok (.putfield 288, 3) := by decide +kernel
theorem dX12_again_277 : decode cX12_again 277 = .ok (.aload_n 0, 1) := by decide +kernel
theorem dX12_again_278 : decode cX12_again 278 = .ok (.aload_n 1, 1) := by decide +kernel
theorem dX12_again_279 : decode cX12_again 279 = .ok (.sipush 129, 3) := by decide +kernel
theorem dX12_again_282 : decode cX12_again 282 = .ok (.iaload, 1) := by decide +kernel
theorem dX12_again_283 : decode cX12_again 283 = .ok (.putfield 101, 3) := by decide +kernel
theorem dX12_again_286 : decode cX12_again 286 = .ok (.return_, 1) := by decide +kernel
theorem dX12_image_0 : decode cX12_image 0 = .ok (.aload_n 0, 1) := by decide +kernel
theorem dX12_image_1 : decode cX12_image 1 = .ok (.iconst 1, 1) := by decide +kernel
theorem dX12_image_2 : decode cX12_image 2 = .ok (.putfield 291, 3) := by decide +kernel
theorem dX12_image_5 : decode cX12_image 5 = .ok (.aload_n 0, 1) := by decide +kernel
theorem dX12_image_6 : decode cX12_image 6 = .ok (.aload_n 0, 1) := by decide +kernel
theorem dX12_image_7 : decode cX12_image 7 = .ok (.getfield 79, 3) := by decide +kernel
theorem dX12_image_10 : decode cX12_image 10 = .ok (.invokevirtual 253, 3) := by decide +kernel
theorem dX12_image_13 : decode cX12_image 13 = .ok (.aload_n 0, 1) := by decide +kernel
theorem dX12_image_14 : decode cX12_image 14 = .ok (.getfield 105, 3) := by decide +kernel
theorem dX12_image_17 : decode cX12_image 17 = .ok (.ireturn, 1) := by decide +kernel
theorem dX12_undo_0 : decode cX12_undo 0 = .ok (.aload_n 0, 1) := by decide +kernel
theorem dX12_undo_1 : decode cX12_undo 1 = .ok (.getfield 291, 3) := by decide +kernel
theorem dX12_undo_4 : decode cX12_undo 4 = .ok (.ifCond .ne 6, 3) := by decide +kernel
theorem dX12_undo_7 : decode cX12_undo 7 = .ok (.bipush (-3), 2) := by decide +kernel
theorem dX12_undo_9 : decode cX12_undo 9 = .ok (.ireturn, 1) := by decide +kernel
theorem dX12_undo_10 : decode cX12_undo 10 = .ok (.aload_n 0, 1) := by decide +kernel
theorem dX12_undo_11 : decode cX12_undo 11 = .ok (.aload_n 0, 1) := by decide +kernel
theorem dX12_undo_12 : decode cX12_undo 12 = .ok (.getfield 79, 3) := by decide +kernel
theorem dX12_undo_15 : decode cX12_undo 15 = .ok (.invokevirtual 257, 3) := by decide +kernel
theorem dX12_undo_18 : decode cX12_undo 18 = .ok (.aload_n 0, 1) := by decide +kernel
theorem dX12_undo_19 : decode cX12_undo 19 = .ok (.getfield 105, 3) := by decide +kernel
theorem dX12_undo_22 : decode cX12_undo 22 = .ok (.ireturn, 1) := by decide +kernel
theorem dX12_ran_0 : decode cX12_ran 0 = .ok (.aload_n 0, 1) := by decide +kernel
theorem dX12_ran_1 : decode cX12_ran 1 = .ok (.getfield 295, 3) := by decide +kernel
theorem dX12_ran_4 : decode cX12_ran 4 = .ok (.bipush 20, 2) := by decide +kernel
theorem dX12_ran_6 : decode cX12_ran 6 = .ok (.if_icmp .ge 13, 3) := by decide +kernel
theorem dX12_ran_9 : decode cX12_ran 9 = .ok (.aload_n 0, 1) := by decide +kernel
theorem dX12_ran_10 : decode cX12_ran 10 = .ok (.getfield 76, 3) := by decide +kernel
theorem dX12_ran_13 : decode cX12_ran 13 = .ok (.aload_n 0, 1) := by decide +kernel
theorem dX12_ran_14 : decode cX12_ran 14 = .ok (.getfield 295, 3) := by decide +kernel
theorem dX12_ran_17 : decode cX12_ran 17 = .ok (.iload_n 1, 1) := by decide +kernel
theorem dX12_ran_18 : decode cX12_ran 18 = .ok (.iastore, 1) := by decide +kernel
theorem dX12_ran_19 : decode cX12_ran 19 = .ok (.aload_n 0, 1) := by decide +kernel
theorem dX12_ran_20 : decode cX12_ran 20 = .ok (.dup, 1) := by decide +kernel
theorem dX12_ran_21 : decode cX12_ran 21 = .ok (.getfield 295, 3) := by decide +kernel
theorem dX12_ran_24 : decode cX12_ran 24 = .ok (.iconst 1, 1) := by decide +kernel
theorem dX12_ran_25 : decode cX12_ran 25 = .ok (.iadd, 1) := by decide +kernel
theorem dX12_ran_26 : decode cX12_ran 26 = .ok (.putfield 295, 3) := by decide +kernel
theorem dX12_ran_29 : decode cX12_ran 29 = .ok (.return_, 1) := by decide +kernel
theorem dX12_above_0 : decode cX12_above 0 = .ok (.iload_n 0, 1) := by decide +kernel
theorem dX12_above_1 : decode cX12_above 1 = .ok (.iconst 4, 1) := by decide +kernel
theorem dX12_above_2 : decode cX12_above 2 = .ok (.if_icmp .ne 7, 3) := by decide +kernel
theorem dX12_above_5 : decode cX12_above 5 = .ok (.iconst 1, 1) := by decide +kernel
theorem dX12_above_6 : decode cX12_above 6 = .ok (.goto 23, 3) := by decide +kernel
theorem dX12_above_9 : decode cX12_above 9 = .ok (.iload_n 0, 1) := by decide +kernel
theorem dX12_above_10 : decode cX12_above 10 = .ok (.iconst 5, 1) := by decide +kernel
theorem dX12_above_11 : decode cX12_above 11 = .ok (.if_icmp .ne 7, 3) := by decide +kernel
theorem dX12_above_14 : decode cX12_above 14 = .ok (.iconst 2, 1) := by decide +kernel
theorem dX12_above_15 : decode cX12_above 15 = .ok (.goto 14, 3) := by decide +kernel
theorem dX12_above_18 : decode cX12_above 18 = .ok (.iload_n 0, 1) := by decide +kernel
theorem dX12_above_19 : decode cX12_above 19 = .ok (.bipush 6, 2) := by decide +kernel
theorem dX12_above_21 : decode cX12_above 21 = .ok (.if_icmp .ne 7, 3) := by decide +kernel
theorem dX12_above_24 : decode cX12_above 24 = .ok (.iconst 3, 1) := by decide +kernel
theorem dX12_above_25 : decode cX12_above 25 = .ok (.goto 4, 3) := by decide +kernel
theorem dX12_above_28 : decode cX12_above 28 = .ok (.iconst 0, 1) := by decide +kernel
theorem dX12_above_29 : decode cX12_above 29 = .ok (.ireturn, 1) := by decide +kernel
theorem dX12_bows_0 : decode cX12_bows 0 = .ok (.iload_n 2, 1) := by decide +kernel
theorem dX12_bows_1 : decode cX12_bows 1 = .ok (.tableswitch 105 0 6 #[95, 105, 43, 105, 59, 105, 74], 43) := by decide +kernel
theorem dX12_bows_44 : decode cX12_bows 44 = .ok (.aload_n 0, 1) := by decide +kernel
theorem dX12_bows_45 : decode cX12_bows 45 = .ok (.bipush 30, 2) := by decide +kernel
theorem dX12_bows_47 : decode cX12_bows 47 = .ok (.invokevirtual 298, 3) := by decide +kernel
theorem dX12_bows_50 : decode cX12_bows 50 = .ok (.aload_n 0, 1) := by decide +kernel
theorem dX12_bows_51 : decode cX12_bows 51 = .ok (.iload_n 1, 1) := by decide +kernel
theorem dX12_bows_52 : decode cX12_bows 52 = .ok (.iconst 0, 1) := by decide +kernel
theorem dX12_bows_53 : decode cX12_bows 53 = .ok (.iload_n 3, 1) := by decide +kernel
theorem dX12_bows_54 : decode cX12_bows 54 = .ok (.iconst 3, 1) := by decide +kernel
theorem dX12_bows_55 : decode cX12_bows 55 = .ok (.imul, 1) := by decide +kernel
theorem dX12_bows_56 : decode cX12_bows 56 = .ok (.invokevirtual 302, 3) := by decide +kernel
theorem dX12_bows_59 : decode cX12_bows 59 = .ok (.ireturn, 1) := by decide +kernel
theorem dX12_bows_60 : decode cX12_bows 60 = .ok (.aload_n 0, 1) := by decide +kernel
theorem dX12_bows_61 : decode cX12_bows 61 = .ok (.bipush 50, 2) := by decide +kernel
theorem dX12_bows_63 : decode cX12_bows 63 = .ok (.invokevirtual 298, 3) := by decide +kernel
theorem dX12_bows_66 : decode cX12_bows 66 = .ok (.aload_n 0, 1) := by decide +kernel
theorem dX12_bows_67 : decode cX12_bows 67 = .ok (.iload_n 1, 1) := by decide +kernel
theorem dX12_bows_68 : decode cX12_bows 68 = .ok (.iconst 1, 1) := by decide +kernel
theorem dX12_bows_69 : decode cX12_bows 69 = .ok (.iload_n 3, 1) := by decide +kernel
theorem dX12_bows_70 : decode cX12_bows 70 = .ok (.invokevirtual 302, 3) := by decide +kernel
theorem dX12_bows_73 : decode cX12_bows 73 = .ok (.ineg, 1) := by decide +kernel
theorem dX12_bows_74 : decode cX12_bows 74 = .ok (.ireturn, 1) := by decide +kernel
theorem dX12_bows_75 : decode cX12_bows 75 = .ok (.aload_n 0, 1) := by decide +kernel
theorem dX12_bows_76 : decode cX12_bows 76 = .ok (.bipush 71, 2) := by decide +kernel
theorem dX12_bows_78 : decode cX12_bows 78 = .ok (.invokevirtual 298, 3) := by decide +kernel
theorem dX12_bows_81 : decode cX12_bows 81 = .ok (.aload_n 0, 1) := by decide +kernel
theorem dX12_bows_82 : decode cX12_bows 82 = .ok (.iload_n 1, 1) := by decide +kernel
theorem dX12_bows_83 : decode cX12_bows 83 = .ok (.iconst 3, 1) := by decide +kernel
theorem dX12_bows_84 : decode cX12_bows 84 = .ok (.iload_n 3, 1) := by decide +kernel
theorem dX12_bows_85 : decode cX12_bows 85 = .ok (.invokevirtual 302, 3) := by decide +kernel
theorem dX12_bows_88 : decode cX12_bows 88 = .ok (.aload_n 0, 1) := by decide +kernel
theorem dX12_bows_89 : decode cX12_bows 89 = .ok (.getfield 18, 3) := by decide +kernel
theorem dX12_bows_92 : decode cX12_bows 92 = .ok (.iload_n 1, 1) := by decide +kernel
theorem dX12_bows_93 : decode cX12_bows 93 = .ok (.iaload, 1) := by decide +kernel
theorem dX12_bows_94 : decode cX12_bows 94 = .ok (.ixor, 1) := by decide +kernel
theorem dX12_bows_95 : decode cX12_bows 95 = .ok (.ireturn, 1) := by decide +kernel
theorem dX12_bows_96 : decode cX12_bows 96 = .ok (.aload_n 0, 1) := by decide +kernel
theorem dX12_bows_97 : decode cX12_bows 97 = .ok (.bipush 10, 2) := by decide +kernel
theorem dX12_bows_99 : decode cX12_bows 99 = .ok (.invokevirtual 298, 3) := by decide +kernel
theorem dX12_bows_102 : decode cX12_bows 102 = .ok (.iload_n 3, 1) := by decide +kernel
theorem dX12_bows_103 : decode cX12_bows 103 = .ok (.iload_n 1, 1) := by decide +kernel
theorem dX12_bows_104 : decode cX12_bows 104 = .ok (.iadd, 1) := by decide +kernel
theorem dX12_bows_105 : decode cX12_bows 105 = .ok (.ireturn, 1) := by decide +kernel
theorem dX12_bows_106 : decode cX12_bows 106 = .ok (.aload_n 0, 1) := by decide +kernel
theorem dX12_bows_107 : decode cX12_bows 107 = .ok (.iload_n 1, 1) := by decide +kernel
theorem dX12_bows_108 : decode cX12_bows 108 = .ok (.iload_n 2, 1) := by decide +kernel
theorem dX12_bows_109 : decode cX12_bows 109 = .ok (.invokestatic 305, 3) := by decide +kernel
theorem dX12_bows_112 : decode cX12_bows 112 = .ok (.iload_n 3, 1) := by decide +kernel
theorem dX12_bows_113 : decode cX12_bows 113 = .ok (.invokevirtual 302, 3) := by decide +kernel
theorem dX12_bows_116 : decode cX12_bows 116 = .ok (.ireturn, 1) := by decide +kernel
theorem dX12_walks_0 : decode cX12_walks 0 = .ok (.iload_n 2, 1) := by decide +kernel
theorem dX12_walks_1 : decode cX12_walks 1 = .ok (.tableswitch 128 0 6 #[102, 43, 128, 128, 60, 128, 76], 43) := by decide +kernel
theorem dX12_walks_44 : decode cX12_walks 44 = .ok (.aload_n 0, 1) := by decide +kernel
theorem dX12_walks_45 : decode cX12_walks 45 = .ok (.bipush 20, 2) := by decide +kernel
theorem dX12_walks_47 : decode cX12_walks 47 = .ok (.invokevirtual 298, 3) := by decide +kernel
theorem dX12_walks_50 : decode cX12_walks 50 = .ok (.aload_n 0, 1) := by decide +kernel
theorem dX12_walks_51 : decode cX12_walks 51 = .ok (.iload_n 1, 1) := by decide +kernel
theorem dX12_walks_52 : decode cX12_walks 52 = .ok (.iconst 0, 1) := by decide +kernel
theorem dX12_walks_53 : decode cX12_walks 53 = .ok (.iload_n 3, 1) := by decide +kernel
theorem dX12_walks_54 : decode cX12_walks 54 = .ok (.invokevirtual 308, 3) := by decide +kernel
theorem dX12_walks_57 : decode cX12_walks 57 = .ok (.bipush 6, 2) := by decide +kernel
theorem dX12_walks_59 : decode cX12_walks 59 = .ok (.ixor, 1) := by decide +kernel
theorem dX12_walks_60 : decode cX12_walks 60 = .ok (.ireturn, 1) := by decide +kernel
theorem dX12_walks_61 : decode cX12_walks 61 = .ok (.aload_n 0, 1) := by decide +kernel
theorem dX12_walks_62 : decode cX12_walks 62 = .ok (.bipush 51, 2) := by decide +kernel
theorem dX12_walks_64 : decode cX12_walks 64 = .ok (.invokevirtual 298, 3) := by decide +kernel
theorem dX12_walks_67 : decode cX12_walks 67 = .ok (.aload_n 0, 1) := by decide +kernel
theorem dX12_walks_68 : decode cX12_walks 68 = .ok (.iload_n 1, 1) := by decide +kernel
theorem dX12_walks_69 : decode cX12_walks 69 = .ok (.iconst 1, 1) := by decide +kernel
theorem dX12_walks_70 : decode cX12_walks 70 = .ok (.iload_n 3, 1) := by decide +kernel
theorem dX12_walks_71 : decode cX12_walks 71 = .ok (.iconst 1, 1) := by decide +kernel
theorem dX12_walks_72 : decode cX12_walks 72 = .ok (.iadd, 1) := by decide +kernel
theorem dX12_walks_73 : decode cX12_walks 73 = .ok (.invokevirtual 308, 3) := by decide +kernel
theorem dX12_walks_76 : decode cX12_walks 76 = .ok (.ireturn, 1) := by decide +kernel
theorem dX12_walks_77 : decode cX12_walks 77 = .ok (.aload_n 0, 1) := by decide +kernel
theorem dX12_walks_78 : decode cX12_walks 78 = .ok (.bipush 70, 2) := by decide +kernel
theorem dX12_walks_80 : decode cX12_walks 80 = .ok (.invokevirtual 298, 3) := by decide +kernel
theorem dX12_walks_83 : decode cX12_walks 83 = .ok (.aload_n 0, 1) := by decide +kernel
theorem dX12_walks_84 : decode cX12_walks 84 = .ok (.iload_n 1, 1) := by decide +kernel
theorem dX12_walks_85 : decode cX12_walks 85 = .ok (.iconst 3, 1) := by decide +kernel
theorem dX12_walks_86 : decode cX12_walks 86 = .ok (.iload_n 3, 1) := by decide +kernel
theorem dX12_walks_87 : decode cX12_walks 87 = .ok (.invokevirtual 308, 3) := by decide +kernel
theorem dX12_walks_90 : decode cX12_walks 90 = .ok (.istore 4, 2) := by decide +kernel
theorem dX12_walks_92 : decode cX12_walks 92 = .ok (.iload 4, 2) := by decide +kernel
theorem dX12_walks_94 : decode cX12_walks 94 = .ok (.aload_n 0, 1) := by decide +kernel
theorem dX12_walks_95 : decode cX12_walks 95 = .ok (.iload_n 1, 1) := by decide +kernel
theorem dX12_walks_96 : decode cX12_walks 96 = .ok (.iconst 3, 1) := by decide +kernel
theorem dX12_walks_97 : decode cX12_walks 97 = .ok (.iconst 2, 1) := by decide +kernel
theorem dX12_walks_98 : decode cX12_walks 98 = .ok (.invokevirtual 302, 3) := by decide +kernel
theorem dX12_walks_101 : decode cX12_walks 101 = .ok (.iadd, 1) := by decide +kernel
theorem dX12_walks_102 : decode cX12_walks 102 = .ok (.ireturn, 1) := by decide +kernel
theorem dX12_walks_103 : decode cX12_walks 103 = .ok (.aload_n 0, 1) := by decide +kernel
theorem dX12_walks_104 : decode cX12_walks 104 = .ok (.bipush 11, 2) := by decide +kernel
theorem dX12_walks_106 : decode cX12_walks 106 = .ok (.invokevirtual 298, 3) := by decide +kernel
theorem dX12_walks_109 : decode cX12_walks 109 = .ok (.aload_n 0, 1) := by decide +kernel
theorem dX12_walks_110 : decode cX12_walks 110 = .ok (.iload_n 1, 1) := by decide +kernel
theorem dX12_walks_111 : decode cX12_walks 111 = .ok (.aload_n 0, 1) := by decide +kernel
theorem dX12_walks_112 : decode cX12_walks 112 = .ok (.getfield 15, 3) := by decide +kernel
theorem dX12_walks_115 : decode cX12_walks 115 = .ok (.iload_n 1, 1) := by decide +kernel
theorem dX12_walks_116 : decode cX12_walks 116 = .ok (.iaload, 1) := by decide +kernel
theorem dX12_walks_117 : decode cX12_walks 117 = .ok (.iload_n 3, 1) := by decide +kernel
theorem dX12_walks_118 : decode cX12_walks 118 = .ok (.invokevirtual 302, 3) := by decide +kernel
theorem dX12_walks_121 : decode cX12_walks 121 = .ok (.aload_n 0, 1) := by decide +kernel
theorem dX12_walks_122 : decode cX12_walks 122 = .ok (.getfield 18, 3) := by decide +kernel
theorem dX12_walks_125 : decode cX12_walks 125 = .ok (.iload_n 1, 1) := by decide +kernel
theorem dX12_walks_126 : decode cX12_walks 126 = .ok (.iaload, 1) := by decide +kernel
theorem dX12_walks_127 : decode cX12_walks 127 = .ok (.isub, 1) := by decide +kernel
theorem dX12_walks_128 : decode cX12_walks 128 = .ok (.ireturn, 1) := by decide +kernel
theorem dX12_walks_129 : decode cX12_walks 129 = .ok (.aload_n 0, 1) := by decide +kernel
theorem dX12_walks_130 : decode cX12_walks 130 = .ok (.iload_n 1, 1) := by decide +kernel
theorem dX12_walks_131 : decode cX12_walks 131 = .ok (.iload_n 2, 1) := by decide +kernel
theorem dX12_walks_132 : decode cX12_walks 132 = .ok (.invokestatic 305, 3) := by decide +kernel
theorem dX12_walks_135 : decode cX12_walks 135 = .ok (.iload_n 3, 1) := by decide +kernel
theorem dX12_walks_136 : decode cX12_walks 136 = .ok (.invokevirtual 308, 3) := by decide +kernel
theorem dX12_walks_139 : decode cX12_walks 139 = .ok (.ireturn, 1) := by decide +kernel
theorem dX12_tells_0 : decode cX12_tells 0 = .ok (.iload_n 2, 1) := by decide +kernel
theorem dX12_tells_1 : decode cX12_tells 1 = .ok (.lookupswitch 103 #[(0, 82), (3, 35), (5, 66)], 35) := by decide +kernel
theorem dX12_tells_36 : decode cX12_tells 36 = .ok (.aload_n 0, 1) := by decide +kernel
theorem dX12_tells_37 : decode cX12_tells 37 = .ok (.bipush 40, 2) := by decide +kernel
theorem dX12_tells_39 : decode cX12_tells 39 = .ok (.invokevirtual 298, 3) := by decide +kernel
theorem dX12_tells_42 : decode cX12_tells 42 = .ok (.aload_n 0, 1) := by decide +kernel
theorem dX12_tells_43 : decode cX12_tells 43 = .ok (.iload_n 1, 1) := by decide +kernel
theorem dX12_tells_44 : decode cX12_tells 44 = .ok (.iconst 0, 1) := by decide +kernel
theorem dX12_tells_45 : decode cX12_tells 45 = .ok (.iload_n 3, 1) := by decide +kernel
theorem dX12_tells_46 : decode cX12_tells 46 = .ok (.invokevirtual 311, 3) := by decide +kernel
theorem dX12_tells_49 : decode cX12_tells 49 = .ok (.istore 4, 2) := by decide +kernel
theorem dX12_tells_51 : decode cX12_tells 51 = .ok (.iload 4, 2) := by decide +kernel
theorem dX12_tells_53 : decode cX12_tells 53 = .ok (.aload_n 0, 1) := by decide +kernel
theorem dX12_tells_54 : decode cX12_tells 54 = .ok (.iload_n 1, 1) := by decide +kernel
theorem dX12_tells_55 : decode cX12_tells 55 = .ok (.aload_n 0, 1) := by decide +kernel
theorem dX12_tells_56 : decode cX12_tells 56 = .ok (.getfield 15, 3) := by decide +kernel
theorem dX12_tells_59 : decode cX12_tells 59 = .ok (.iload_n 1, 1) := by decide +kernel
theorem dX12_tells_60 : decode cX12_tells 60 = .ok (.iaload, 1) := by decide +kernel
theorem dX12_tells_61 : decode cX12_tells 61 = .ok (.iconst 1, 1) := by decide +kernel
theorem dX12_tells_62 : decode cX12_tells 62 = .ok (.invokevirtual 308, 3) := by decide +kernel
theorem dX12_tells_65 : decode cX12_tells 65 = .ok (.iadd, 1) := by decide +kernel
theorem dX12_tells_66 : decode cX12_tells 66 = .ok (.ireturn, 1) := by decide +kernel
theorem dX12_tells_67 : decode cX12_tells 67 = .ok (.aload_n 0, 1) := by decide +kernel
theorem dX12_tells_68 : decode cX12_tells 68 = .ok (.bipush 60, 2) := by decide +kernel
theorem dX12_tells_70 : decode cX12_tells 70 = .ok (.invokevirtual 298, 3) := by decide +kernel
theorem dX12_tells_73 : decode cX12_tells 73 = .ok (.aload_n 0, 1) := by decide +kernel
theorem dX12_tells_74 : decode cX12_tells 74 = .ok (.iload_n 1, 1) := by decide +kernel
theorem dX12_tells_75 : decode cX12_tells 75 = .ok (.iconst 2, 1) := by decide +kernel
theorem dX12_tells_76 : decode cX12_tells 76 = .ok (.iload_n 3, 1) := by decide +kernel
theorem dX12_tells_77 : decode cX12_tells 77 = .ok (.iload_n 1, 1) := by decide +kernel
theorem dX12_tells_78 : decode cX12_tells 78 = .ok (.isub, 1) := by decide +kernel
theorem dX12_tells_79 : decode cX12_tells 79 = .ok (.invokevirtual 311, 3) := by decide +kernel
theorem dX12_tells_82 : decode cX12_tells 82 = .ok (.ireturn, 1) := by decide +kernel
theorem dX12_tells_83 : decode cX12_tells 83 = .ok (.aload_n 0, 1) := by decide +kernel
theorem dX12_tells_84 : decode cX12_tells 84 = .ok (.bipush 12, 2) := by decide +kernel
theorem dX12_tells_86 : decode cX12_tells 86 = .ok (.invokevirtual 298, 3) := by decide +kernel
theorem dX12_tells_89 : decode cX12_tells 89 = .ok (.aload_n 0, 1) := by decide +kernel
theorem dX12_tells_90 : decode cX12_tells 90 = .ok (.iload_n 1, 1) := by decide +kernel
theorem dX12_tells_91 : decode cX12_tells 91 = .ok (.aload_n 0, 1) := by decide +kernel
theorem dX12_tells_92 : decode cX12_tells 92 = .ok (.getfield 15, 3) := by decide +kernel
theorem dX12_tells_95 : decode cX12_tells 95 = .ok (.iload_n 1, 1) := by decide +kernel
theorem dX12_tells_96 : decode cX12_tells 96 = .ok (.iaload, 1) := by decide +kernel
theorem dX12_tells_97 : decode cX12_tells 97 = .ok (.iload_n 3, 1) := by decide +kernel
theorem dX12_tells_98 : decode cX12_tells 98 = .ok (.invokevirtual 308, 3) := by decide +kernel
theorem dX12_tells_101 : decode cX12_tells 101 = .ok (.iconst 2, 1) := by decide +kernel
theorem dX12_tells_102 : decode cX12_tells 102 = .ok (.imul, 1) := by decide +kernel
theorem dX12_tells_103 : decode cX12_tells 103 = .ok (.ireturn, 1) := by decide +kernel
theorem dX12_tells_104 : decode cX12_tells 104 = .ok (.aload_n 0, 1) := by decide +kernel
theorem dX12_tells_105 : decode cX12_tells 105 = .ok (.iload_n 1, 1) := by decide +kernel
theorem dX12_tells_106 : decode cX12_tells 106 = .ok (.iload_n 2, 1) := by decide +kernel
theorem dX12_tells_107 : decode cX12_tells 107 = .ok (.invokestatic 305, 3) := by decide +kernel
theorem dX12_tells_110 : decode cX12_tells 110 = .ok (.iload_n 3, 1) := by decide +kernel
theorem dX12_tells_111 : decode cX12_tells 111 = .ok (.invokevirtual 311, 3) := by decide +kernel
theorem dX12_tells_114 : decode cX12_tells 114 = .ok (.ireturn, 1) := by decide +kernel
theorem dX12_act_0 : decode cX12_act 0 = .ok (.aload_n 0, 1) := by decide +kernel
theorem dX12_act_1 : decode cX12_act 1 = .ok (.iconst 0, 1) := by decide +kernel
theorem dX12_act_2 : decode cX12_act 2 = .ok (.putfield 295, 3) := by decide +kernel
theorem dX12_act_5 : decode cX12_act 5 = .ok (.aload_n 0, 1) := by decide +kernel
theorem dX12_act_6 : decode cX12_act 6 = .ok (.iload_n 1, 1) := by decide +kernel
theorem dX12_act_7 : decode cX12_act 7 = .ok (.invokevirtual 116, 3) := by decide +kernel
theorem dX12_act_10 : decode cX12_act 10 = .ok (.ifCond .eq 12, 3) := by decide +kernel
theorem dX12_act_13 : decode cX12_act 13 = .ok (.iload_n 2, 1) := by decide +kernel
theorem dX12_act_14 : decode cX12_act 14 = .ok (.iconst 0, 1) := by decide +kernel
theorem dX12_act_15 : decode cX12_act 15 = .ok (.iconst 2, 1) := by decide +kernel
theorem dX12_act_16 : decode cX12_act 16 = .ok (.invokestatic 108, 3) := by decide +kernel
theorem dX12_act_19 : decode cX12_act 19 = .ok (.ifCond .ne 5, 3) := by decide +kernel
theorem dX12_act_22 : decode cX12_act 22 = .ok (.iconst 0, 1) := by decide +kernel
theorem dX12_act_23 : decode cX12_act 23 = .ok (.ireturn, 1) := by decide +kernel
theorem dX12_act_24 : decode cX12_act 24 = .ok (.aload_n 0, 1) := by decide +kernel
theorem dX12_act_25 : decode cX12_act 25 = .ok (.getfield 15, 3) := by decide +kernel
theorem dX12_act_28 : decode cX12_act 28 = .ok (.iload_n 1, 1) := by decide +kernel
theorem dX12_act_29 : decode cX12_act 29 = .ok (.iaload, 1) := by decide +kernel
theorem dX12_act_30 : decode cX12_act 30 = .ok (.istore 4, 2) := by decide +kernel
theorem dX12_act_32 : decode cX12_act 32 = .ok (.iload_n 2, 1) := by decide +kernel
theorem dX12_act_33 : decode cX12_act 33 = .ok (.ifCond .ne 14, 3) := by decide +kernel
theorem dX12_act_36 : decode cX12_act 36 = .ok (.aload_n 0, 1) := by decide +kernel
theorem dX12_act_37 : decode cX12_act 37 = .ok (.iload_n 1, 1) := by decide +kernel
theorem dX12_act_38 : decode cX12_act 38 = .ok (.iload 4, 2) := by decide +kernel
theorem dX12_act_40 : decode cX12_act 40 = .ok (.iload_n 3, 1) := by decide +kernel
theorem dX12_act_41 : decode cX12_act 41 = .ok (.invokevirtual 302, 3) := by decide +kernel
theorem dX12_act_44 : decode cX12_act 44 = .ok (.goto 27, 3) := by decide +kernel
theorem dX12_act_47 : decode cX12_act 47 = .ok (.iload_n 2, 1) := by decide +kernel
theorem dX12_act_48 : decode cX12_act 48 = .ok (.iconst 1, 1) := by decide +kernel
theorem dX12_act_49 : decode cX12_act 49 = .ok (.if_icmp .ne 14, 3) := by decide +kernel
theorem dX12_act_52 : decode cX12_act 52 = .ok (.aload_n 0, 1) := by decide +kernel
theorem dX12_act_53 : decode cX12_act 53 = .ok (.iload_n 1, 1) := by decide +kernel
theorem dX12_act_54 : decode cX12_act 54 = .ok (.iload 4, 2) := by decide +kernel
theorem dX12_act_56 : decode cX12_act 56 = .ok (.iload_n 3, 1) := by decide +kernel
theorem dX12_act_57 : decode cX12_act 57 = .ok (.invokevirtual 308, 3) := by decide +kernel
theorem dX12_act_60 : decode cX12_act 60 = .ok (.goto 11, 3) := by decide +kernel
theorem dX12_act_63 : decode cX12_act 63 = .ok (.aload_n 0, 1) := by decide +kernel
theorem dX12_act_64 : decode cX12_act 64 = .ok (.iload_n 1, 1) := by decide +kernel
theorem dX12_act_65 : decode cX12_act 65 = .ok (.iload 4, 2) := by decide +kernel
theorem dX12_act_67 : decode cX12_act 67 = .ok (.iload_n 3, 1) := by decide +kernel
theorem dX12_act_68 : decode cX12_act 68 = .ok (.invokevirtual 311, 3) := by decide +kernel
theorem dX12_act_71 : decode cX12_act 71 = .ok (.ireturn, 1) := by decide +kernel
theorem dX12_trace_0 : decode cX12_trace 0 = .ok (.iload_n 1, 1) := by decide +kernel
theorem dX12_trace_1 : decode cX12_trace 1 = .ok (.iconst 0, 1) := by decide +kernel
theorem dX12_trace_2 : decode cX12_trace 2 = .ok (.bipush 20, 2) := by decide +kernel
theorem dX12_trace_4 : decode cX12_trace 4 = .ok (.aload_n 0, 1) := by decide +kernel
theorem dX12_trace_5 : decode cX12_trace 5 = .ok (.getfield 295, 3) := by decide +kernel
theorem dX12_trace_8 : decode cX12_trace 8 = .ok (.invokestatic 230, 3) := by decide +kernel
theorem dX12_trace_11 : decode cX12_trace 11 = .ok (.iconst 1, 1) := by decide +kernel
theorem dX12_trace_12 : decode cX12_trace 12 = .ok (.isub, 1) := by decide +kernel
theorem dX12_trace_13 : decode cX12_trace 13 = .ok (.invokestatic 108, 3) := by decide +kernel
theorem dX12_trace_16 : decode cX12_trace 16 = .ok (.ifCond .eq 12, 3) := by decide +kernel
theorem dX12_trace_19 : decode cX12_trace 19 = .ok (.aload_n 0, 1) := by decide +kernel
theorem dX12_trace_20 : decode cX12_trace 20 = .ok (.getfield 76, 3) := by decide +kernel
theorem dX12_trace_23 : decode cX12_trace 23 = .ok (.iload_n 1, 1) := by decide +kernel
theorem dX12_trace_24 : decode cX12_trace 24 = .ok (.iaload, 1) := by decide +kernel
theorem dX12_trace_25 : decode cX12_trace 25 = .ok (.goto 4, 3) := by decide +kernel
theorem dX12_trace_28 : decode cX12_trace 28 = .ok (.iconst (-1), 1) := by decide +kernel
theorem dX12_trace_29 : decode cX12_trace 29 = .ok (.ireturn, 1) := by decide +kernel
theorem dX12_taken_0 : decode cX12_taken 0 = .ok (.iload_n 2, 1) := by decide +kernel
theorem dX12_taken_1 : decode cX12_taken 1 = .ok (.iconst 0, 1) := by decide +kernel
theorem dX12_taken_2 : decode cX12_taken 2 = .ok (.bipush 6, 2) := by decide +kernel
theorem dX12_taken_4 : decode cX12_taken 4 = .ok (.invokestatic 108, 3) := by decide +kernel
theorem dX12_taken_7 : decode cX12_taken 7 = .ok (.ifCond .ne 6, 3) := by decide +kernel
theorem dX12_taken_10 : decode cX12_taken 10 = .ok (.bipush (-2), 2) := by decide +kernel
theorem dX12_taken_12 : decode cX12_taken 12 = .ok (.ireturn, 1) := by decide +kernel
theorem dX12_taken_13 : decode cX12_taken 13 = .ok (.aload_n 0, 1) := by decide +kernel
theorem dX12_taken_14 : decode cX12_taken 14 = .ok (.iload_n 1, 1) := by decide +kernel
theorem dX12_taken_15 : decode cX12_taken 15 = .ok (.invokevirtual 116, 3) := by decide +kernel
theorem dX12_taken_18 : decode cX12_taken 18 = .ok (.ifCond .ne 6, 3) := by decide +kernel
theorem dX12_taken_21 : decode cX12_taken 21 = .ok (.bipush (-11), 2) := by decide +kernel
theorem dX12_taken_23 : decode cX12_taken 23 = .ok (.ireturn, 1) := by decide +kernel
theorem dX12_taken_24 : decode cX12_taken 24 = .ok (.aload_n 0, 1) := by decide +kernel
theorem dX12_taken_25 : decode cX12_taken 25 = .ok (.getfield 15, 3) := by decide +kernel
theorem dX12_taken_28 : decode cX12_taken 28 = .ok (.iload_n 1, 1) := by decide +kernel
theorem dX12_taken_29 : decode cX12_taken 29 = .ok (.iaload, 1) := by decide +kernel
theorem dX12_taken_30 : decode cX12_taken 30 = .ok (.istore_n 3, 1) := by decide +kernel
theorem dX12_taken_31 : decode cX12_taken 31 = .ok (.iload_n 3, 1) := by decide +kernel
theorem dX12_taken_32 : decode cX12_taken 32 = .ok (.iload_n 2, 1) := by decide +kernel
theorem dX12_taken_33 : decode cX12_taken 33 = .ok (.if_icmp .eq 15, 3) := by decide +kernel
theorem dX12_taken_36 : decode cX12_taken 36 = .ok (.iload_n 3, 1) := by decide +kernel
theorem dX12_taken_37 : decode cX12_taken 37 = .ok (.ifCond .le 11, 3) := by decide +kernel
theorem dX12_taken_40 : decode cX12_taken 40 = .ok (.iload_n 3, 1) := by decide +kernel
theorem dX12_taken_41 : decode cX12_taken 41 = .ok (.invokestatic 305, 3) := by decide +kernel
theorem dX12_taken_44 : decode cX12_taken 44 = .ok (.istore_n 3, 1) := by decide +kernel
theorem dX12_taken_45 : decode cX12_taken 45 = .ok (.goto (-14), 3) := by decide +kernel
theorem dX12_taken_48 : decode cX12_taken 48 = .ok (.iload_n 3, 1) := by decide +kernel
theorem dX12_taken_49 : decode cX12_taken 49 = .ok (.iload_n 2, 1) := by decide +kernel
theorem dX12_taken_50 : decode cX12_taken 50 = .ok (.if_icmp .ne 12, 3) := by decide +kernel
theorem dX12_taken_53 : decode cX12_taken 53 = .ok (.aload_n 0, 1) := by decide +kernel
theorem dX12_taken_54 : decode cX12_taken 54 = .ok (.getfield 15, 3) := by decide +kernel
theorem dX12_taken_57 : decode cX12_taken 57 = .ok (.iload_n 1, 1) := by decide +kernel
theorem dX12_taken_58 : decode cX12_taken 58 = .ok (.iaload, 1) := by decide +kernel
theorem dX12_taken_59 : decode cX12_taken 59 = .ok (.goto 5, 3) := by decide +kernel
theorem dX12_taken_62 : decode cX12_taken 62 = .ok (.bipush (-12), 2) := by decide +kernel
theorem dX12_taken_64 : decode cX12_taken 64 = .ok (.ireturn, 1) := by decide +kernel
theorem dX12_count_0 : decode cX12_count 0 = .ok (.iload_n 1, 1) := by decide +kernel
theorem dX12_count_1 : decode cX12_count 1 = .ok (.tableswitch 78 0 6 #[43, 48, 53, 58, 63, 68, 73], 43) := by decide +kernel
theorem dX12_count_44 : decode cX12_count 44 = .ok (.aload_n 0, 1) := by decide +kernel
theorem dX12_count_45 : decode cX12_count 45 = .ok (.getfield 105, 3) := by decide +kernel
theorem dX12_count_48 : decode cX12_count 48 = .ok (.ireturn, 1) := by decide +kernel
theorem dX12_count_49 : decode cX12_count 49 = .ok (.aload_n 0, 1) := by decide +kernel
theorem dX12_count_50 : decode cX12_count 50 = .ok (.getfield 202, 3) := by decide +kernel
theorem dX12_count_53 : decode cX12_count 53 = .ok (.ireturn, 1) := by decide +kernel
theorem dX12_count_54 : decode cX12_count 54 = .ok (.aload_n 0, 1) := by decide +kernel
theorem dX12_count_55 : decode cX12_count 55 = .ok (.getfield 273, 3) := by decide +kernel
theorem dX12_count_58 : decode cX12_count 58 = .ok (.ireturn, 1) := by decide +kernel
theorem dX12_count_59 : decode cX12_count 59 = .ok (.aload_n 0, 1) := by decide +kernel
theorem dX12_count_60 : decode cX12_count 60 = .ok (.getfield 285, 3) := by decide +kernel
theorem dX12_count_63 : decode cX12_count 63 = .ok (.ireturn, 1) := by decide +kernel
theorem dX12_count_64 : decode cX12_count 64 = .ok (.aload_n 0, 1) := by decide +kernel
theorem dX12_count_65 : decode cX12_count 65 = .ok (.getfield 288, 3) := by decide +kernel
theorem dX12_count_68 : decode cX12_count 68 = .ok (.ireturn, 1) := by decide +kernel
theorem dX12_count_69 : decode cX12_count 69 = .ok (.aload_n 0, 1) := by decide +kernel
theorem dX12_count_70 : decode cX12_count 70 = .ok (.getfield 130, 3) := by decide +kernel
theorem dX12_count_73 : decode cX12_count 73 = .ok (.ireturn, 1) := by decide +kernel
theorem dX12_count_74 : decode cX12_count 74 = .ok (.aload_n 0, 1) := by decide +kernel
theorem dX12_count_75 : decode cX12_count 75 = .ok (.getfield 295, 3) := by decide +kernel
theorem dX12_count_78 : decode cX12_count 78 = .ok (.ireturn, 1) := by decide +kernel
theorem dX12_count_79 : decode cX12_count 79 = .ok (.bipush (-2), 2) := by decide +kernel
theorem dX12_count_81 : decode cX12_count 81 = .ok (.ireturn, 1) := by decide +kernel
theorem dX12_isTape_0 : decode cX12_isTape 0 = .ok (.iload_n 0, 1) := by decide +kernel
theorem dX12_isTape_1 : decode cX12_isTape 1 = .ok (.iconst 0, 1) := by decide +kernel
theorem dX12_isTape_2 : decode cX12_isTape 2 = .ok (.iconst 5, 1) := by decide +kernel
theorem dX12_isTape_3 : decode cX12_isTape 3 = .ok (.invokestatic 108, 3) := by decide +kernel
theorem dX12_isTape_6 : decode cX12_isTape 6 = .ok (.ireturn, 1) := by decide +kernel
theorem dX12_tape_0 : decode cX12_tape 0 = .ok (.iload_n 1, 1) := by decide +kernel
theorem dX12_tape_1 : decode cX12_tape 1 = .ok (.invokestatic 314, 3) := by decide +kernel
theorem dX12_tape_4 : decode cX12_tape 4 = .ok (.ifCond .ne 5, 3) := by decide +kernel
theorem dX12_tape_7 : decode cX12_tape 7 = .ok (.iconst (-1), 1) := by decide +kernel
theorem dX12_tape_8 : decode cX12_tape 8 = .ok (.ireturn, 1) := by decide +kernel
theorem dX12_tape_9 : decode cX12_tape 9 = .ok (.iload_n 2, 1) := by decide +kernel
theorem dX12_tape_10 : decode cX12_tape 10 = .ok (.iconst (-1), 1) := by decide +kernel
theorem dX12_tape_11 : decode cX12_tape 11 = .ok (.iconst 4, 1) := by decide +kernel
theorem dX12_tape_12 : decode cX12_tape 12 = .ok (.invokestatic 108, 3) := by decide +kernel
theorem dX12_tape_15 : decode cX12_tape 15 = .ok (.ifCond .eq 13, 3) := by decide +kernel
theorem dX12_tape_18 : decode cX12_tape 18 = .ok (.iload_n 2, 1) := by decide +kernel
theorem dX12_tape_19 : decode cX12_tape 19 = .ok (.ifCond .lt 12, 3) := by decide +kernel
theorem dX12_tape_22 : decode cX12_tape 22 = .ok (.iload_n 3, 1) := by decide +kernel
theorem dX12_tape_23 : decode cX12_tape 23 = .ok (.bipush 60, 2) := by decide +kernel
theorem dX12_tape_25 : decode cX12_tape 25 = .ok (.if_icmp .le 6, 3) := by decide +kernel
theorem dX12_tape_28 : decode cX12_tape 28 = .ok (.bipush (-2), 2) := by decide +kernel
theorem dX12_tape_30 : decode cX12_tape 30 = .ok (.ireturn, 1) := by decide +kernel
theorem dX12_tape_31 : decode cX12_tape 31 = .ok (.iload_n 2, 1) := by decide +kernel
theorem dX12_tape_32 : decode cX12_tape 32 = .ok (.ifCond .lt 10, 3) := by decide +kernel
theorem dX12_tape_35 : decode cX12_tape 35 = .ok (.iload_n 3, 1) := by decide +kernel
theorem dX12_tape_36 : decode cX12_tape 36 = .ok (.ifCond .ge 6, 3) := by decide +kernel
theorem dX12_tape_39 : decode cX12_tape 39 = .ok (.bipush (-14), 2) := by decide +kernel
theorem dX12_tape_41 : decode cX12_tape 41 = .ok (.ireturn, 1) := by decide +kernel
theorem dX12_tape_42 : decode cX12_tape 42 = .ok (.aload_n 0, 1) := by decide +kernel
theorem dX12_tape_43 : decode cX12_tape 43 = .ok (.getfield 91, 3) := by decide +kernel
theorem dX12_tape_46 : decode cX12_tape 46 = .ok (.iload_n 1, 1) := by decide +kernel
theorem dX12_tape_47 : decode cX12_tape 47 = .ok (.iload_n 2, 1) := by decide +kernel
theorem dX12_tape_48 : decode cX12_tape 48 = .ok (.iastore, 1) := by decide +kernel
theorem dX12_tape_49 : decode cX12_tape 49 = .ok (.aload_n 0, 1) := by decide +kernel
theorem dX12_tape_50 : decode cX12_tape 50 = .ok (.getfield 94, 3) := by decide +kernel
theorem dX12_tape_53 : decode cX12_tape 53 = .ok (.iload_n 1, 1) := by decide +kernel
theorem dX12_tape_54 : decode cX12_tape 54 = .ok (.iload_n 2, 1) := by decide +kernel
theorem dX12_tape_55 : decode cX12_tape 55 = .ok (.ifCond .ge 7, 3) := by decide +kernel
theorem dX12_tape_58 : decode cX12_tape 58 = .ok (.iconst 0, 1) := by decide +kernel
theorem dX12_tape_59 : decode cX12_tape 59 = .ok (.goto 4, 3) := by decide +kernel
theorem dX12_tape_62 : decode cX12_tape 62 = .ok (.iload_n 3, 1) := by decide +kernel
theorem dX12_tape_63 : decode cX12_tape 63 = .ok (.iastore, 1) := by decide +kernel
theorem dX12_tape_64 : decode cX12_tape 64 = .ok (.iconst 0, 1) := by decide +kernel
theorem dX12_tape_65 : decode cX12_tape 65 = .ok (.istore 4, 2) := by decide +kernel
theorem dX12_tape_67 : decode cX12_tape 67 = .ok (.iload 4, 2) := by decide +kernel
theorem dX12_tape_69 : decode cX12_tape 69 = .ok (.bipush 60, 2) := by decide +kernel
theorem dX12_tape_71 : decode cX12_tape 71 = .ok (.if_icmp .ge 22, 3) := by decide +kernel
theorem dX12_tape_74 : decode cX12_tape 74 = .ok (.aload_n 0, 1) := by decide +kernel
theorem dX12_tape_75 : decode cX12_tape 75 = .ok (.getfield 97, 3) := by decide +kernel
theorem dX12_tape_78 : decode cX12_tape 78 = .ok (.bipush 60, 2) := by decide +kernel
theorem dX12_tape_80 : decode cX12_tape 80 = .ok (.iload_n 1, 1) := by decide +kernel
theorem dX12_tape_81 : decode cX12_tape 81 = .ok (.imul, 1) := by decide +kernel
theorem dX12_tape_82 : decode cX12_tape 82 = .ok (.iload 4, 2) := by decide +kernel
theorem dX12_tape_84 : decode cX12_tape 84 = .ok (.iadd, 1) := by decide +kernel
theorem dX12_tape_85 : decode cX12_tape 85 = .ok (.lconst 0, 1) := by decide +kernel
theorem dX12_tape_86 : decode cX12_tape 86 = .ok (.lastore, 1) := by decide +kernel
theorem dX12_tape_87 : decode cX12_tape 87 = .ok (.iinc 4 1, 3) := by decide +kernel
theorem dX12_tape_90 : decode cX12_tape 90 = .ok (.goto (-23), 3) := by decide +kernel
theorem dX12_tape_93 : decode cX12_tape 93 = .ok (.iconst 1, 1) := by decide +kernel
theorem dX12_tape_94 : decode cX12_tape 94 = .ok (.ireturn, 1) := by decide +kernel
theorem dX12_kept_0 : decode cX12_kept 0 = .ok (.iload_n 0, 1) := by decide +kernel
theorem dX12_kept_1 : decode cX12_kept 1 = .ok (.tableswitch 47 0 3 #[31, 36, 41, 45], 31) := by decide +kernel
theorem dX12_kept_32 : decode cX12_kept 32 = .ok (.lload_n 1, 1) := by decide +kernel
theorem dX12_kept_33 : decode cX12_kept 33 = .ok (.l2i, 1) := by decide +kernel
theorem dX12_kept_34 : decode cX12_kept 34 = .ok (.i2b, 1) := by decide +kernel
theorem dX12_kept_35 : decode cX12_kept 35 = .ok (.i2l, 1) := by decide +kernel
theorem dX12_kept_36 : decode cX12_kept 36 = .ok (.lreturn, 1) := by decide +kernel
theorem dX12_kept_37 : decode cX12_kept 37 = .ok (.lload_n 1, 1) := by decide +kernel
theorem dX12_kept_38 : decode cX12_kept 38 = .ok (.l2i, 1) := by decide +kernel
theorem dX12_kept_39 : decode cX12_kept 39 = .ok (.i2s, 1) := by decide +kernel
theorem dX12_kept_40 : decode cX12_kept 40 = .ok (.i2l, 1) := by decide +kernel
theorem dX12_kept_41 : decode cX12_kept 41 = .ok (.lreturn, 1) := by decide +kernel
theorem dX12_kept_42 : decode cX12_kept 42 = .ok (.lload_n 1, 1) := by decide +kernel
theorem dX12_kept_43 : decode cX12_kept 43 = .ok (.l2i, 1) := by decide +kernel
theorem dX12_kept_44 : decode cX12_kept 44 = .ok (.i2l, 1) := by decide +kernel
theorem dX12_kept_45 : decode cX12_kept 45 = .ok (.lreturn, 1) := by decide +kernel
theorem dX12_kept_46 : decode cX12_kept 46 = .ok (.lload_n 1, 1) := by decide +kernel
theorem dX12_kept_47 : decode cX12_kept 47 = .ok (.lreturn, 1) := by decide +kernel
theorem dX12_kept_48 : decode cX12_kept 48 = .ok (.lload_n 1, 1) := by decide +kernel
theorem dX12_kept_49 : decode cX12_kept 49 = .ok (.lconst 0, 1) := by decide +kernel
theorem dX12_kept_50 : decode cX12_kept 50 = .ok (.lcmp, 1) := by decide +kernel
theorem dX12_kept_51 : decode cX12_kept 51 = .ok (.ifCond .eq 7, 3) := by decide +kernel
theorem dX12_kept_54 : decode cX12_kept 54 = .ok (.lconst 1, 1) := by decide +kernel
theorem dX12_kept_55 : decode cX12_kept 55 = .ok (.goto 4, 3) := by decide +kernel
theorem dX12_kept_58 : decode cX12_kept 58 = .ok (.lconst 0, 1) := by decide +kernel
theorem dX12_kept_59 : decode cX12_kept 59 = .ok (.lreturn, 1) := by decide +kernel
theorem dX12_item_0 : decode cX12_item 0 = .ok (.iload_n 1, 1) := by decide +kernel
theorem dX12_item_1 : decode cX12_item 1 = .ok (.invokestatic 314, 3) := by decide +kernel
theorem dX12_item_4 : decode cX12_item 4 = .ok (.ifCond .ne 5, 3) := by decide +kernel
theorem dX12_item_7 : decode cX12_item 7 = .ok (.iconst (-1), 1) := by decide +kernel
theorem dX12_item_8 : decode cX12_item 8 = .ok (.ireturn, 1) := by decide +kernel
theorem dX12_item_9 : decode cX12_item 9 = .ok (.aload_n 0, 1) := by decide +kernel
theorem dX12_item_10 : decode cX12_item 10 = .ok (.getfield 91, 3) := by decide +kernel
theorem dX12_item_13 : decode cX12_item 13 = .ok (.iload_n 1, 1) := by decide +kernel
theorem dX12_item_14 : decode cX12_item 14 = .ok (.iaload, 1) := by decide +kernel
theorem dX12_item_15 : decode cX12_item 15 = .ok (.ifCond .ge 6, 3) := by decide +kernel
theorem dX12_item_18 : decode cX12_item 18 = .ok (.bipush (-11), 2) := by decide +kernel
theorem dX12_item_20 : decode cX12_item 20 = .ok (.ireturn, 1) := by decide +kernel
theorem dX12_item_21 : decode cX12_item 21 = .ok (.iload_n 2, 1) := by decide +kernel
theorem dX12_item_22 : decode cX12_item 22 = .ok (.iconst 0, 1) := by decide +kernel
theorem dX12_item_23 : decode cX12_item 23 = .ok (.aload_n 0, 1) := by decide +kernel
theorem dX12_item_24 : decode cX12_item 24 = .ok (.getfield 94, 3) := by decide +kernel
theorem dX12_item_27 : decode cX12_item 27 = .ok (.iload_n 1, 1) := by decide +kernel
theorem dX12_item_28 : decode cX12_item 28 = .ok (.iaload, 1) := by decide +kernel
theorem dX12_item_29 : decode cX12_item 29 = .ok (.iconst 1, 1) := by decide +kernel
theorem dX12_item_30 : decode cX12_item 30 = .ok (.isub, 1) := by decide +kernel
theorem dX12_item_31 : decode cX12_item 31 = .ok (.invokestatic 108, 3) := by decide +kernel
theorem dX12_item_34 : decode cX12_item 34 = .ok (.ifCond .ne 6, 3) := by decide +kernel
theorem dX12_item_37 : decode cX12_item 37 = .ok (.bipush (-13), 2) := by decide +kernel
theorem dX12_item_39 : decode cX12_item 39 = .ok (.ireturn, 1) := by decide +kernel
theorem dX12_item_40 : decode cX12_item 40 = .ok (.aload_n 0, 1) := by decide +kernel
theorem dX12_item_41 : decode cX12_item 41 = .ok (.getfield 97, 3) := by decide +kernel
theorem dX12_item_44 : decode cX12_item 44 = .ok (.bipush 60, 2) := by decide +kernel
theorem dX12_item_46 : decode cX12_item 46 = .ok (.iload_n 1, 1) := by decide +kernel
theorem dX12_item_47 : decode cX12_item 47 = .ok (.imul, 1) := by decide +kernel
theorem dX12_item_48 : decode cX12_item 48 = .ok (.iload_n 2, 1) := by decide +kernel
theorem dX12_item_49 : decode cX12_item 49 = .ok (.iadd, 1) := by decide +kernel
theorem dX12_item_50 : decode cX12_item 50 = .ok (.aload_n 0, 1) := by decide +kernel
theorem dX12_item_51 : decode cX12_item 51 = .ok (.getfield 91, 3) := by decide +kernel
theorem dX12_item_54 : decode cX12_item 54 = .ok (.iload_n 1, 1) := by decide +kernel
theorem dX12_item_55 : decode cX12_item 55 = .ok (.iaload, 1) := by decide +kernel
theorem dX12_item_56 : decode cX12_item 56 = .ok (.lload_n 3, 1) := by decide +kernel
theorem dX12_item_57 : decode cX12_item 57 = .ok (.invokestatic 317, 3) := by decide +kernel
theorem dX12_item_60 : decode cX12_item 60 = .ok (.lastore, 1) := by decide +kernel
theorem dX12_item_61 : decode cX12_item 61 = .ok (.iconst 1, 1) := by decide +kernel
theorem dX12_item_62 : decode cX12_item 62 = .ok (.ireturn, 1) := by decide +kernel
theorem dX12_read_0 : decode cX12_read 0 = .ok (.iload_n 1, 1) := by decide +kernel
theorem dX12_read_1 : decode cX12_read 1 = .ok (.invokestatic 314, 3) := by decide +kernel
theorem dX12_read_4 : decode cX12_read 4 = .ok (.ifCond .eq 42, 3) := by decide +kernel
theorem dX12_read_7 : decode cX12_read 7 = .ok (.aload_n 0, 1) := by decide +kernel
theorem dX12_read_8 : decode cX12_read 8 = .ok (.getfield 91, 3) := by decide +kernel
theorem dX12_read_11 : decode cX12_read 11 = .ok (.iload_n 1, 1) := by decide +kernel
theorem dX12_read_12 : decode cX12_read 12 = .ok (.iaload, 1) := by decide +kernel
theorem dX12_read_13 : decode cX12_read 13 = .ok (.ifCond .lt 33, 3) := by decide +kernel
theorem dX12_read_16 : decode cX12_read 16 = .ok (.iload_n 2, 1) := by decide +kernel
theorem dX12_read_17 : decode cX12_read 17 = .ok (.iconst 0, 1) := by decide +kernel
theorem dX12_read_18 : decode cX12_read 18 = .ok (.aload_n 0, 1) := by decide +kernel
theorem dX12_read_19 : decode cX12_read 19 = .ok (.getfield 94, 3) := by decide +kernel
theorem dX12_read_22 : decode cX12_read 22 = .ok (.iload_n 1, 1) := by decide +kernel
theorem dX12_read_23 : decode cX12_read 23 = .ok (.iaload, 1) := by decide +kernel
theorem dX12_read_24 : decode cX12_read 24 = .ok (.iconst 1, 1) := by decide +kernel
theorem dX12_read_25 : decode cX12_read 25 = .ok (.isub, 1) := by decide +kernel
theorem dX12_read_26 : decode cX12_read 26 = .ok (.invokestatic 108, 3) := by decide +kernel
theorem dX12_read_29 : decode cX12_read 29 = .ok (.ifCond .eq 17, 3) := by decide +kernel
theorem dX12_read_32 : decode cX12_read 32 = .ok (.aload_n 0, 1) := by decide +kernel
theorem dX12_read_33 : decode cX12_read 33 = .ok (.getfield 97, 3) := by decide +kernel
theorem dX12_read_36 : decode cX12_read 36 = .ok (.bipush 60, 2) := by decide +kernel
theorem dX12_read_38 : decode cX12_read 38 = .ok (.iload_n 1, 1) := by decide +kernel
theorem dX12_read_39 : decode cX12_read 39 = .ok (.imul, 1) := by decide +kernel
theorem dX12_read_40 : decode cX12_read 40 = .ok (.iload_n 2, 1) := by decide +kernel
theorem dX12_read_41 : decode cX12_read 41 = .ok (.iadd, 1) := by decide +kernel
theorem dX12_read_42 : decode cX12_read 42 = .ok (.laload, 1) := by decide +kernel
theorem dX12_read_43 : decode cX12_read 43 = .ok (.goto 6, 3) := by decide +kernel
theorem dX12_read_46 : decode cX12_read 46 = .ok (.ldc2_w 279, 3) := by decide +kernel
theorem dX12_read_49 : decode cX12_read 49 = .ok (.lreturn, 1) := by decide +kernel
theorem dX12_shift_0 : decode cX12_shift 0 = .ok (.iload_n 1, 1) := by decide +kernel
theorem dX12_shift_1 : decode cX12_shift 1 = .ok (.invokestatic 314, 3) := by decide +kernel
theorem dX12_shift_4 : decode cX12_shift 4 = .ok (.ifCond .eq 10, 3) := by decide +kernel
theorem dX12_shift_7 : decode cX12_shift 7 = .ok (.iload_n 3, 1) := by decide +kernel
theorem dX12_shift_8 : decode cX12_shift 8 = .ok (.invokestatic 314, 3) := by decide +kernel
theorem dX12_shift_11 : decode cX12_shift 11 = .ok (.ifCond .ne 5, 3) := by decide +kernel
theorem dX12_shift_14 : decode cX12_shift 14 = .ok (.iconst (-1), 1) := by decide +kernel
theorem dX12_shift_15 : decode cX12_shift 15 = .ok (.ireturn, 1) := by decide +kernel
theorem dX12_shift_16 : decode cX12_shift 16 = .ok (.aload_n 0, 1) := by decide +kernel
theorem dX12_shift_17 : decode cX12_shift 17 = .ok (.getfield 91, 3) := by decide +kernel
theorem dX12_shift_20 : decode cX12_shift 20 = .ok (.iload_n 1, 1) := by decide +kernel
theorem dX12_shift_21 : decode cX12_shift 21 = .ok (.iaload, 1) := by decide +kernel
theorem dX12_shift_22 : decode cX12_shift 22 = .ok (.ifCond .lt 12, 3) := by decide +kernel
theorem dX12_shift_25 : decode cX12_shift 25 = .ok (.aload_n 0, 1) := by decide +kernel
theorem dX12_shift_26 : decode cX12_shift 26 = .ok (.getfield 91, 3) := by decide +kernel
theorem dX12_shift_29 : decode cX12_shift 29 = .ok (.iload_n 3, 1) := by decide +kernel
theorem dX12_shift_30 : decode cX12_shift 30 = .ok (.iaload, 1) := by decide +kernel
theorem dX12_shift_31 : decode cX12_shift 31 = .ok (.ifCond .ge 6, 3) := by decide +kernel
theorem dX12_shift_34 : decode cX12_shift 34 = .ok (.bipush (-11), 2) := by decide +kernel
theorem dX12_shift_36 : decode cX12_shift 36 = .ok (.ireturn, 1) := by decide +kernel
theorem dX12_shift_37 : decode cX12_shift 37 = .ok (.aload_n 0, 1) := by decide +kernel
theorem dX12_shift_38 : decode cX12_shift 38 = .ok (.getfield 91, 3) := by decide +kernel
theorem dX12_shift_41 : decode cX12_shift 41 = .ok (.iload_n 1, 1) := by decide +kernel
theorem dX12_shift_42 : decode cX12_shift 42 = .ok (.iaload, 1) := by decide +kernel
theorem dX12_shift_43 : decode cX12_shift 43 = .ok (.aload_n 0, 1) := by decide +kernel
theorem dX12_shift_44 : decode cX12_shift 44 = .ok (.getfield 91, 3) := by decide +kernel
theorem dX12_shift_47 : decode cX12_shift 47 = .ok (.iload_n 3, 1) := by decide +kernel
theorem dX12_shift_48 : decode cX12_shift 48 = .ok (.iaload, 1) := by decide +kernel
theorem dX12_shift_49 : decode cX12_shift 49 = .ok (.if_icmp .eq 6, 3) := by decide +kernel
theorem dX12_shift_52 : decode cX12_shift 52 = .ok (.bipush (-12), 2) := by decide +kernel
theorem dX12_shift_54 : decode cX12_shift 54 = .ok (.ireturn, 1) := by decide +kernel
theorem dX12_shift_55 : decode cX12_shift 55 = .ok (.iload 5, 2) := by decide +kernel
theorem dX12_shift_57 : decode cX12_shift 57 = .ok (.ifCond .lt 47, 3) := by decide +kernel
theorem dX12_shift_60 : decode cX12_shift 60 = .ok (.iload_n 2, 1) := by decide +kernel
theorem dX12_shift_61 : decode cX12_shift 61 = .ok (.ifCond .lt 43, 3) := by decide +kernel
theorem dX12_shift_64 : decode cX12_shift 64 = .ok (.iload 4, 2) := by decide +kernel
theorem dX12_shift_66 : decode cX12_shift 66 = .ok (.ifCond .lt 38, 3) := by decide +kernel
theorem dX12_shift_69 : decode cX12_shift 69 = .ok (.iload_n 2, 1) := by decide +kernel
theorem dX12_shift_70 : decode cX12_shift 70 = .ok (.i2l, 1) := by decide +kernel
theorem dX12_shift_71 : decode cX12_shift 71 = .ok (.iload 5, 2) := by decide +kernel
theorem dX12_shift_73 : decode cX12_shift 73 = .ok (.i2l, 1) := by decide +kernel
theorem dX12_shift_74 : decode cX12_shift 74 = .ok (.ladd, 1) := by decide +kernel
theorem dX12_shift_75 : decode cX12_shift 75 = .ok (.aload_n 0, 1) := by decide +kernel
theorem dX12_shift_76 : decode cX12_shift 76 = .ok (.getfield 94, 3) := by decide +kernel
theorem dX12_shift_79 : decode cX12_shift 79 = .ok (.iload_n 1, 1) := by decide +kernel
theorem dX12_shift_80 : decode cX12_shift 80 = .ok (.iaload, 1) := by decide +kernel
theorem dX12_shift_81 : decode cX12_shift 81 = .ok (.i2l, 1) := by decide +kernel
theorem dX12_shift_82 : decode cX12_shift 82 = .ok (.lcmp, 1) := by decide +kernel
theorem dX12_shift_83 : decode cX12_shift 83 = .ok (.ifCond .gt 21, 3) := by decide +kernel
theorem dX12_shift_86 : decode cX12_shift 86 = .ok (.iload 4, 2) := by decide +kernel
theorem dX12_shift_88 : decode cX12_shift 88 = .ok (.i2l, 1) := by decide +kernel
theorem dX12_shift_89 : decode cX12_shift 89 = .ok (.iload 5, 2) := by decide +kernel
theorem dX12_shift_91 : decode cX12_shift 91 = .ok (.i2l, 1) := by decide +kernel
theorem dX12_shift_92 : decode cX12_shift 92 = .ok (.ladd, 1) := by decide +kernel
theorem dX12_shift_93 : decode cX12_shift 93 = .ok (.aload_n 0, 1) := by decide +kernel
theorem dX12_shift_94 : decode cX12_shift 94 = .ok (.getfield 94, 3) := by decide +kernel
theorem dX12_shift_97 : decode cX12_shift 97 = .ok (.iload_n 3, 1) := by decide +kernel
theorem dX12_shift_98 : decode cX12_shift 98 = .ok (.iaload, 1) := by decide +kernel
theorem dX12_shift_99 : decode cX12_shift 99 = .ok (.i2l, 1) := by decide +kernel
theorem dX12_shift_100 : decode cX12_shift 100 = .ok (.lcmp, 1) := by decide +kernel
theorem dX12_shift_101 : decode cX12_shift 101 = .ok (.ifCond .le 6, 3) := by decide +kernel
theorem dX12_shift_104 : decode cX12_shift 104 = .ok (.bipush (-13), 2) := by decide +kernel
theorem dX12_shift_106 : decode cX12_shift 106 = .ok (.ireturn, 1) := by decide +kernel
theorem dX12_shift_107 : decode cX12_shift 107 = .ok (.iload_n 1, 1) := by decide +kernel
theorem dX12_shift_108 : decode cX12_shift 108 = .ok (.iload_n 3, 1) := by decide +kernel
theorem dX12_shift_109 : decode cX12_shift 109 = .ok (.if_icmp .ne 58, 3) := by decide +kernel
theorem dX12_shift_112 : decode cX12_shift 112 = .ok (.iload_n 2, 1) := by decide +kernel
theorem dX12_shift_113 : decode cX12_shift 113 = .ok (.iload 4, 2) := by decide +kernel
theorem dX12_shift_115 : decode cX12_shift 115 = .ok (.if_icmp .ge 52, 3) := by decide +kernel
theorem dX12_shift_118 : decode cX12_shift 118 = .ok (.iload 5, 2) := by decide +kernel
theorem dX12_shift_120 : decode cX12_shift 120 = .ok (.iconst 1, 1) := by decide +kernel
theorem dX12_shift_121 : decode cX12_shift 121 = .ok (.isub, 1) := by decide +kernel
theorem dX12_shift_122 : decode cX12_shift 122 = .ok (.istore 6, 2) := by decide +kernel
theorem dX12_shift_124 : decode cX12_shift 124 = .ok (.iload 6, 2) := by decide +kernel
theorem dX12_shift_126 : decode cX12_shift 126 = .ok (.ifCond .lt 38, 3) := by decide +kernel
theorem dX12_shift_129 : decode cX12_shift 129 = .ok (.aload_n 0, 1) := by decide +kernel
theorem dX12_shift_130 : decode cX12_shift 130 = .ok (.getfield 97, 3) := by decide +kernel
theorem dX12_shift_133 : decode cX12_shift 133 = .ok (.bipush 60, 2) := by decide +kernel
theorem dX12_shift_135 : decode cX12_shift 135 = .ok (.iload_n 3, 1) := by decide +kernel
theorem dX12_shift_136 : decode cX12_shift 136 = .ok (.imul, 1) := by decide +kernel
theorem dX12_shift_137 : decode cX12_shift 137 = .ok (.iload 4, 2) := by decide +kernel
theorem dX12_shift_139 : decode cX12_shift 139 = .ok (.iadd, 1) := by decide +kernel
theorem dX12_shift_140 : decode cX12_shift 140 = .ok (.iload 6, 2) := by decide +kernel
theorem dX12_shift_142 : decode cX12_shift 142 = .ok (.iadd, 1) := by decide +kernel
theorem dX12_shift_143 : decode cX12_shift 143 = .ok (.aload_n 0, 1) := by decide +kernel
theorem dX12_shift_144 : decode cX12_shift 144 = .ok (.getfield 97, 3) := by decide +kernel
theorem dX12_shift_147 : decode cX12_shift 147 = .ok (.bipush 60, 2) := by decide +kernel
theorem dX12_shift_149 : decode cX12_shift 149 = .ok (.iload_n 1, 1) := by decide +kernel
theorem dX12_shift_150 : decode cX12_shift 150 = .ok (.imul, 1) := by decide +kernel
theorem dX12_shift_151 : decode cX12_shift 151 = .ok (.iload_n 2, 1) := by decide +kernel
theorem dX12_shift_152 : decode cX12_shift 152 = .ok (.iadd, 1) := by decide +kernel
theorem dX12_shift_153 : decode cX12_shift 153 = .ok (.iload 6, 2) := by decide +kernel
theorem dX12_shift_155 : decode cX12_shift 155 = .ok (.iadd, 1) := by decide +kernel
theorem dX12_shift_156 : decode cX12_shift 156 = .ok (.laload, 1) := by decide +kernel
theorem dX12_shift_157 : decode cX12_shift 157 = .ok (.lastore, 1) := by decide +kernel
theorem dX12_shift_158 : decode cX12_shift 158 = .ok (.iinc 6 (-1), 3) := by decide +kernel
theorem dX12_shift_161 : decode cX12_shift 161 = .ok (.goto (-37), 3) := by decide +kernel
theorem dX12_shift_164 : decode cX12_shift 164 = .ok (.goto 48, 3) := by decide +kernel
theorem dX12_shift_167 : decode cX12_shift 167 = .ok (.iconst 0, 1) := by decide +kernel
theorem dX12_shift_168 : decode cX12_shift 168 = .ok (.istore 6, 2) := by decide +kernel
theorem dX12_shift_170 : decode cX12_shift 170 = .ok (.iload 6, 2) := by decide +kernel
theorem dX12_shift_172 : decode cX12_shift 172 = .ok (.iload 5, 2) := by decide +kernel
theorem dX12_shift_174 : decode cX12_shift 174 = .ok (.if_icmp .ge 38, 3) := by decide +kernel
theorem dX12_shift_177 : decode cX12_shift 177 = .ok (.aload_n 0, 1) := by decide +kernel
theorem dX12_shift_178 : decode cX12_shift 178 = .ok (.getfield 97, 3) := by decide +kernel
theorem dX12_shift_181 : decode cX12_shift 181 = .ok (.bipush 60, 2) := by decide +kernel
theorem dX12_shift_183 : decode cX12_shift 183 = .ok (.iload_n 3, 1) := by decide +kernel
theorem dX12_shift_184 : decode cX12_shift 184 = .ok (.imul, 1) := by decide +kernel
theorem dX12_shift_185 : decode cX12_shift 185 = .ok (.iload 4, 2) := by decide +kernel
theorem dX12_shift_187 : decode cX12_shift 187 = .ok (.iadd, 1) := by decide +kernel
theorem dX12_shift_188 : decode cX12_shift 188 = .ok (.iload 6, 2) := by decide +kernel
theorem dX12_shift_190 : decode cX12_shift 190 = .ok (.iadd, 1) := by decide +kernel
theorem dX12_shift_191 : decode cX12_shift 191 = .ok (.aload_n 0, 1) := by decide +kernel
theorem dX12_shift_192 : decode cX12_shift 192 = .ok (.getfield 97, 3) := by decide +kernel
theorem dX12_shift_195 : decode cX12_shift 195 = .ok (.bipush 60, 2) := by decide +kernel
theorem dX12_shift_197 : decode cX12_shift 197 = .ok (.iload_n 1, 1) := by decide +kernel
theorem dX12_shift_198 : decode cX12_shift 198 = .ok (.imul, 1) := by decide +kernel
theorem dX12_shift_199 : decode cX12_shift 199 = .ok (.iload_n 2, 1) := by decide +kernel
theorem dX12_shift_200 : decode cX12_shift 200 = .ok (.iadd, 1) := by decide +kernel
theorem dX12_shift_201 : decode cX12_shift 201 = .ok (.iload 6, 2) := by decide +kernel
theorem dX12_shift_203 : decode cX12_shift 203 = .ok (.iadd, 1) := by decide +kernel
theorem dX12_shift_204 : decode cX12_shift 204 = .ok (.laload, 1) := by decide +kernel
theorem dX12_shift_205 : decode cX12_shift 205 = .ok (.lastore, 1) := by decide +kernel
theorem dX12_shift_206 : decode cX12_shift 206 = .ok (.iinc 6 1, 3) := by decide +kernel
theorem dX12_shift_209 : decode cX12_shift 209 = .ok (.goto (-39), 3) := by decide +kernel
theorem dX12_shift_212 : decode cX12_shift 212 = .ok (.iload 5, 2) := by decide +kernel
theorem dX12_shift_214 : decode cX12_shift 214 = .ok (.ireturn, 1) := by decide +kernel
