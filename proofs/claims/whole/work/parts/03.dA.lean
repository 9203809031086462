theorem dX0_init_0 : decode cX0_init 0 = .ok (.aload_n 0, 1) := by decide +kernel
theorem dX0_init_1 : decode cX0_init 1 = .ok (.invokespecial 1, 3) := by decide +kernel
theorem dX0_init_4 : decode cX0_init 4 = .ok (.return_, 1) := by decide +kernel
theorem dX0_tread_0 : decode cX0_tread 0 = .ok (.iconst 2, 1) := by decide +kernel
theorem dX0_tread_1 : decode cX0_tread 1 = .ok (.ireturn, 1) := by decide +kernel
theorem dX0_pullBy_0 : decode cX0_pullBy 0 = .ok (.aload_n 0, 1) := by decide +kernel
theorem dX0_pullBy_1 : decode cX0_pullBy 1 = .ok (.iload_n 1, 1) := by decide +kernel
theorem dX0_pullBy_2 : decode cX0_pullBy 2 = .ok (.aload_n 2, 1) := by decide +kernel
theorem dX0_pullBy_3 : decode cX0_pullBy 3 = .ok (.iload_n 3, 1) := by decide +kernel
theorem dX0_pullBy_4 : decode cX0_pullBy 4 = .ok (.iload 4, 2) := by decide +kernel
theorem dX0_pullBy_6 : decode cX0_pullBy 6 = .ok (.invokespecial 7, 3) := by decide +kernel
theorem dX0_pullBy_9 : decode cX0_pullBy 9 = .ok (.istore 5, 2) := by decide +kernel
theorem dX0_pullBy_11 : decode cX0_pullBy 11 = .ok (.iload 4, 2) := by decide +kernel
theorem dX0_pullBy_13 : decode cX0_pullBy 13 = .ok (.aload_n 2, 1) := by decide +kernel
theorem dX0_pullBy_14 : decode cX0_pullBy 14 = .ok (.getfield 11, 3) := by decide +kernel
theorem dX0_pullBy_17 : decode cX0_pullBy 17 = .ok (.iload_n 3, 1) := by decide +kernel
theorem dX0_pullBy_18 : decode cX0_pullBy 18 = .ok (.iaload, 1) := by decide +kernel
theorem dX0_pullBy_19 : decode cX0_pullBy 19 = .ok (.iconst 1, 1) := by decide +kernel
theorem dX0_pullBy_20 : decode cX0_pullBy 20 = .ok (.invokestatic 17, 3) := by decide +kernel
theorem dX0_pullBy_23 : decode cX0_pullBy 23 = .ok (.if_icmp .ne 11, 3) := by decide +kernel
theorem dX0_pullBy_26 : decode cX0_pullBy 26 = .ok (.iload 5, 2) := by decide +kernel
theorem dX0_pullBy_28 : decode cX0_pullBy 28 = .ok (.bipush 20, 2) := by decide +kernel
theorem dX0_pullBy_30 : decode cX0_pullBy 30 = .ok (.iadd, 1) := by decide +kernel
theorem dX0_pullBy_31 : decode cX0_pullBy 31 = .ok (.goto 5, 3) := by decide +kernel
theorem dX0_pullBy_34 : decode cX0_pullBy 34 = .ok (.iload 5, 2) := by decide +kernel
theorem dX0_pullBy_36 : decode cX0_pullBy 36 = .ok (.ireturn, 1) := by decide +kernel
theorem dX0_tells_0 : decode cX0_tells 0 = .ok (.aload_n 1, 1) := by decide +kernel
theorem dX0_tells_1 : decode cX0_tells 1 = .ok (.bipush 60, 2) := by decide +kernel
theorem dX0_tells_3 : decode cX0_tells 3 = .ok (.invokevirtual 23, 3) := by decide +kernel
theorem dX0_tells_6 : decode cX0_tells 6 = .ok (.aload_n 0, 1) := by decide +kernel
theorem dX0_tells_7 : decode cX0_tells 7 = .ok (.aload_n 1, 1) := by decide +kernel
theorem dX0_tells_8 : decode cX0_tells 8 = .ok (.iload_n 2, 1) := by decide +kernel
theorem dX0_tells_9 : decode cX0_tells 9 = .ok (.aload_n 1, 1) := by decide +kernel
theorem dX0_tells_10 : decode cX0_tells 10 = .ok (.getfield 29, 3) := by decide +kernel
theorem dX0_tells_13 : decode cX0_tells 13 = .ok (.isub, 1) := by decide +kernel
theorem dX0_tells_14 : decode cX0_tells 14 = .ok (.invokespecial 33, 3) := by decide +kernel
theorem dX0_tells_17 : decode cX0_tells 17 = .ok (.ireturn, 1) := by decide +kernel
theorem dX1_init_0 : decode cX1_init 0 = .ok (.aload_n 0, 1) := by decide +kernel
theorem dX1_init_1 : decode cX1_init 1 = .ok (.invokespecial 3, 3) := by decide +kernel
theorem dX1_init_4 : decode cX1_init 4 = .ok (.aload_n 0, 1) := by decide +kernel
theorem dX1_init_5 : decode cX1_init 5 = .ok (.bipush 20, 2) := by decide +kernel
theorem dX1_init_7 : decode cX1_init 7 = .ok (.newarray .int, 2) := by decide +kernel
theorem dX1_init_9 : decode cX1_init 9 = .ok (.putfield 9, 3) := by decide +kernel
theorem dX1_init_12 : decode cX1_init 12 = .ok (.return_, 1) := by decide +kernel
theorem dX1_begin_0 : decode cX1_begin 0 = .ok (.aload_n 0, 1) := by decide +kernel
theorem dX1_begin_1 : decode cX1_begin 1 = .ok (.getfield 15, 3) := by decide +kernel
theorem dX1_begin_4 : decode cX1_begin 4 = .ok (.bipush 20, 2) := by decide +kernel
theorem dX1_begin_6 : decode cX1_begin 6 = .ok (.if_icmp .ge 13, 3) := by decide +kernel
theorem dX1_begin_9 : decode cX1_begin 9 = .ok (.aload_n 0, 1) := by decide +kernel
theorem dX1_begin_10 : decode cX1_begin 10 = .ok (.getfield 9, 3) := by decide +kernel
theorem dX1_begin_13 : decode cX1_begin 13 = .ok (.aload_n 0, 1) := by decide +kernel
theorem dX1_begin_14 : decode cX1_begin 14 = .ok (.getfield 15, 3) := by decide +kernel
theorem dX1_begin_17 : decode cX1_begin 17 = .ok (.iload_n 1, 1) := by decide +kernel
theorem dX1_begin_18 : decode cX1_begin 18 = .ok (.iastore, 1) := by decide +kernel
theorem dX1_begin_19 : decode cX1_begin 19 = .ok (.aload_n 0, 1) := by decide +kernel
theorem dX1_begin_20 : decode cX1_begin 20 = .ok (.dup, 1) := by decide +kernel
theorem dX1_begin_21 : decode cX1_begin 21 = .ok (.getfield 15, 3) := by decide +kernel
theorem dX1_begin_24 : decode cX1_begin 24 = .ok (.iconst 1, 1) := by decide +kernel
theorem dX1_begin_25 : decode cX1_begin 25 = .ok (.iadd, 1) := by decide +kernel
theorem dX1_begin_26 : decode cX1_begin 26 = .ok (.putfield 15, 3) := by decide +kernel
theorem dX1_begin_29 : decode cX1_begin 29 = .ok (.return_, 1) := by decide +kernel
theorem dX2_init_0 : decode cX2_init 0 = .ok (.aload_n 0, 1) := by decide +kernel
theorem dX2_init_1 : decode cX2_init 1 = .ok (.invokespecial 1, 3) := by decide +kernel
theorem dX2_init_4 : decode cX2_init 4 = .ok (.return_, 1) := by decide +kernel
theorem dX2_pullBy_0 : decode cX2_pullBy 0 = .ok (.iload 4, 2) := by decide +kernel
theorem dX2_pullBy_2 : decode cX2_pullBy 2 = .ok (.iconst 2, 1) := by decide +kernel
theorem dX2_pullBy_3 : decode cX2_pullBy 3 = .ok (.irem, 1) := by decide +kernel
theorem dX2_pullBy_4 : decode cX2_pullBy 4 = .ok (.ifCond .ne 14, 3) := by decide +kernel
theorem dX2_pullBy_7 : decode cX2_pullBy 7 = .ok (.iload_n 1, 1) := by decide +kernel
theorem dX2_pullBy_8 : decode cX2_pullBy 8 = .ok (.aload_n 2, 1) := by decide +kernel
theorem dX2_pullBy_9 : decode cX2_pullBy 9 = .ok (.getfield 7, 3) := by decide +kernel
theorem dX2_pullBy_12 : decode cX2_pullBy 12 = .ok (.iload_n 3, 1) := by decide +kernel
theorem dX2_pullBy_13 : decode cX2_pullBy 13 = .ok (.iaload, 1) := by decide +kernel
theorem dX2_pullBy_14 : decode cX2_pullBy 14 = .ok (.iadd, 1) := by decide +kernel
theorem dX2_pullBy_15 : decode cX2_pullBy 15 = .ok (.goto 4, 3) := by decide +kernel
theorem dX2_pullBy_18 : decode cX2_pullBy 18 = .ok (.iload_n 1, 1) := by decide +kernel
theorem dX2_pullBy_19 : decode cX2_pullBy 19 = .ok (.ireturn, 1) := by decide +kernel
theorem dX2_bows_0 : decode cX2_bows 0 = .ok (.aload_n 1, 1) := by decide +kernel
theorem dX2_bows_1 : decode cX2_bows 1 = .ok (.bipush 50, 2) := by decide +kernel
theorem dX2_bows_3 : decode cX2_bows 3 = .ok (.invokevirtual 13, 3) := by decide +kernel
theorem dX2_bows_6 : decode cX2_bows 6 = .ok (.aload_n 0, 1) := by decide +kernel
theorem dX2_bows_7 : decode cX2_bows 7 = .ok (.aload_n 1, 1) := by decide +kernel
theorem dX2_bows_8 : decode cX2_bows 8 = .ok (.iload_n 2, 1) := by decide +kernel
theorem dX2_bows_9 : decode cX2_bows 9 = .ok (.invokespecial 19, 3) := by decide +kernel
theorem dX2_bows_12 : decode cX2_bows 12 = .ok (.ineg, 1) := by decide +kernel
theorem dX2_bows_13 : decode cX2_bows 13 = .ok (.ireturn, 1) := by decide +kernel
theorem dX2_walks_0 : decode cX2_walks 0 = .ok (.aload_n 1, 1) := by decide +kernel
theorem dX2_walks_1 : decode cX2_walks 1 = .ok (.bipush 51, 2) := by decide +kernel
theorem dX2_walks_3 : decode cX2_walks 3 = .ok (.invokevirtual 13, 3) := by decide +kernel
theorem dX2_walks_6 : decode cX2_walks 6 = .ok (.aload_n 0, 1) := by decide +kernel
theorem dX2_walks_7 : decode cX2_walks 7 = .ok (.aload_n 1, 1) := by decide +kernel
theorem dX2_walks_8 : decode cX2_walks 8 = .ok (.iload_n 2, 1) := by decide +kernel
theorem dX2_walks_9 : decode cX2_walks 9 = .ok (.iconst 1, 1) := by decide +kernel
theorem dX2_walks_10 : decode cX2_walks 10 = .ok (.iadd, 1) := by decide +kernel
theorem dX2_walks_11 : decode cX2_walks 11 = .ok (.invokespecial 23, 3) := by decide +kernel
theorem dX2_walks_14 : decode cX2_walks 14 = .ok (.ireturn, 1) := by decide +kernel
theorem dX3_init_0 : decode cX3_init 0 = .ok (.aload_n 0, 1) := by decide +kernel
theorem dX3_init_1 : decode cX3_init 1 = .ok (.invokespecial 3, 3) := by decide +kernel
theorem dX3_init_4 : decode cX3_init 4 = .ok (.aload_n 0, 1) := by decide +kernel
theorem dX3_init_5 : decode cX3_init 5 = .ok (.bipush 25, 2) := by decide +kernel
theorem dX3_init_7 : decode cX3_init 7 = .ok (.newarray .int, 2) := by decide +kernel
theorem dX3_init_9 : decode cX3_init 9 = .ok (.putfield 9, 3) := by decide +kernel
theorem dX3_init_12 : decode cX3_init 12 = .ok (.aload_n 0, 1) := by decide +kernel
theorem dX3_init_13 : decode cX3_init 13 = .ok (.bipush 6, 2) := by decide +kernel
theorem dX3_init_15 : decode cX3_init 15 = .ok (.newarray .int, 2) := by decide +kernel
theorem dX3_init_17 : decode cX3_init 17 = .ok (.putfield 15, 3) := by decide +kernel
theorem dX3_init_20 : decode cX3_init 20 = .ok (.aload_n 0, 1) := by decide +kernel
theorem dX3_init_21 : decode cX3_init 21 = .ok (.bipush 6, 2) := by decide +kernel
theorem dX3_init_23 : decode cX3_init 23 = .ok (.newarray .int, 2) := by decide +kernel
theorem dX3_init_25 : decode cX3_init 25 = .ok (.putfield 18, 3) := by decide +kernel
theorem dX3_init_28 : decode cX3_init 28 = .ok (.aload_n 0, 1) := by decide +kernel
theorem dX3_init_29 : decode cX3_init 29 = .ok (.bipush 6, 2) := by decide +kernel
theorem dX3_init_31 : decode cX3_init 31 = .ok (.newarray .int, 2) := by decide +kernel
theorem dX3_init_33 : decode cX3_init 33 = .ok (.putfield 21, 3) := by decide +kernel
theorem dX3_init_36 : decode cX3_init 36 = .ok (.aload_n 0, 1) := by decide +kernel
theorem dX3_init_37 : decode cX3_init 37 = .ok (.bipush 6, 2) := by decide +kernel
theorem dX3_init_39 : decode cX3_init 39 = .ok (.newarray .boolean, 2) := by decide +kernel
theorem dX3_init_41 : decode cX3_init 41 = .ok (.putfield 24, 3) := by decide +kernel
theorem dX3_init_44 : decode cX3_init 44 = .ok (.aload_n 0, 1) := by decide +kernel
theorem dX3_init_45 : decode cX3_init 45 = .ok (.bipush 24, 2) := by decide +kernel
theorem dX3_init_47 : decode cX3_init 47 = .ok (.newarray .int, 2) := by decide +kernel
theorem dX3_init_49 : decode cX3_init 49 = .ok (.putfield 28, 3) := by decide +kernel
theorem dX3_init_52 : decode cX3_init 52 = .ok (.aload_n 0, 1) := by decide +kernel
theorem dX3_init_53 : decode cX3_init 53 = .ok (.bipush 6, 2) := by decide +kernel
theorem dX3_init_55 : decode cX3_init 55 = .ok (.newarray .int, 2) := by decide +kernel
theorem dX3_init_57 : decode cX3_init 57 = .ok (.putfield 31, 3) := by decide +kernel
theorem dX3_init_60 : decode cX3_init 60 = .ok (.aload_n 0, 1) := by decide +kernel
theorem dX3_init_61 : decode cX3_init 61 = .ok (.aload_n 1, 1) := by decide +kernel
theorem dX3_init_62 : decode cX3_init 62 = .ok (.putfield 34, 3) := by decide +kernel
theorem dX3_init_65 : decode cX3_init 65 = .ok (.aload_n 0, 1) := by decide +kernel
theorem dX3_init_66 : decode cX3_init 66 = .ok (.aload_n 2, 1) := by decide +kernel
theorem dX3_init_67 : decode cX3_init 67 = .ok (.putfield 38, 3) := by decide +kernel
theorem dX3_init_70 : decode cX3_init 70 = .ok (.iconst 0, 1) := by decide +kernel
theorem dX3_init_71 : decode cX3_init 71 = .ok (.istore_n 3, 1) := by decide +kernel
theorem dX3_init_72 : decode cX3_init 72 = .ok (.iload_n 3, 1) := by decide +kernel
theorem dX3_init_73 : decode cX3_init 73 = .ok (.bipush 25, 2) := by decide +kernel
theorem dX3_init_75 : decode cX3_init 75 = .ok (.if_icmp .ge 16, 3) := by decide +kernel
theorem dX3_init_78 : decode cX3_init 78 = .ok (.aload_n 0, 1) := by decide +kernel
theorem dX3_init_79 : decode cX3_init 79 = .ok (.getfield 9, 3) := by decide +kernel
theorem dX3_init_82 : decode cX3_init 82 = .ok (.iload_n 3, 1) := by decide +kernel
theorem dX3_init_83 : decode cX3_init 83 = .ok (.iconst 5, 1) := by decide +kernel
theorem dX3_init_84 : decode cX3_init 84 = .ok (.iastore, 1) := by decide +kernel
theorem dX3_init_85 : decode cX3_init 85 = .ok (.iinc 3 1, 3) := by decide +kernel
theorem dX3_init_88 : decode cX3_init 88 = .ok (.goto (-16), 3) := by decide +kernel
theorem dX3_init_91 : decode cX3_init 91 = .ok (.return_, 1) := by decide +kernel
theorem dX3_take_0 : decode cX3_take 0 = .ok (.aload_n 0, 1) := by decide +kernel
theorem dX3_take_1 : decode cX3_take 1 = .ok (.aload_n 1, 1) := by decide +kernel
theorem dX3_take_2 : decode cX3_take 2 = .ok (.getfield 38, 3) := by decide +kernel
theorem dX3_take_5 : decode cX3_take 5 = .ok (.putfield 38, 3) := by decide +kernel
theorem dX3_take_8 : decode cX3_take 8 = .ok (.aload_n 0, 1) := by decide +kernel
theorem dX3_take_9 : decode cX3_take 9 = .ok (.aload_n 1, 1) := by decide +kernel
theorem dX3_take_10 : decode cX3_take 10 = .ok (.getfield 42, 3) := by decide +kernel
theorem dX3_take_13 : decode cX3_take 13 = .ok (.putfield 42, 3) := by decide +kernel
theorem dX3_take_16 : decode cX3_take 16 = .ok (.aload_n 0, 1) := by decide +kernel
theorem dX3_take_17 : decode cX3_take 17 = .ok (.aload_n 1, 1) := by decide +kernel
theorem dX3_take_18 : decode cX3_take 18 = .ok (.getfield 46, 3) := by decide +kernel
theorem dX3_take_21 : decode cX3_take 21 = .ok (.putfield 46, 3) := by decide +kernel
theorem dX3_take_24 : decode cX3_take 24 = .ok (.aload_n 1, 1) := by decide +kernel
theorem dX3_take_25 : decode cX3_take 25 = .ok (.getfield 9, 3) := by decide +kernel
theorem dX3_take_28 : decode cX3_take 28 = .ok (.iconst 0, 1) := by decide +kernel
theorem dX3_take_29 : decode cX3_take 29 = .ok (.aload_n 0, 1) := by decide +kernel
theorem dX3_take_30 : decode cX3_take 30 = .ok (.getfield 9, 3) := by decide +kernel
theorem dX3_take_33 : decode cX3_take 33 = .ok (.iconst 0, 1) := by decide +kernel
theorem dX3_take_34 : decode cX3_take 34 = .ok (.bipush 25, 2) := by decide +kernel
theorem dX3_take_36 : decode cX3_take 36 = .ok (.invokestatic 49, 3) := by decide +kernel
theorem dX3_take_39 : decode cX3_take 39 = .ok (.aload_n 1, 1) := by decide +kernel
theorem dX3_take_40 : decode cX3_take 40 = .ok (.getfield 15, 3) := by decide +kernel
theorem dX3_take_43 : decode cX3_take 43 = .ok (.iconst 0, 1) := by decide +kernel
theorem dX3_take_44 : decode cX3_take 44 = .ok (.aload_n 0, 1) := by decide +kernel
theorem dX3_take_45 : decode cX3_take 45 = .ok (.getfield 15, 3) := by decide +kernel
theorem dX3_take_48 : decode cX3_take 48 = .ok (.iconst 0, 1) := by decide +kernel
theorem dX3_take_49 : decode cX3_take 49 = .ok (.bipush 6, 2) := by decide +kernel
theorem dX3_take_51 : decode cX3_take 51 = .ok (.invokestatic 49, 3) := by decide +kernel
theorem dX3_take_54 : decode cX3_take 54 = .ok (.aload_n 1, 1) := by decide +kernel
theorem dX3_take_55 : decode cX3_take 55 = .ok (.getfield 18, 3) := by decide +kernel
theorem dX3_take_58 : decode cX3_take 58 = .ok (.iconst 0, 1) := by decide +kernel
theorem dX3_take_59 : decode cX3_take 59 = .ok (.aload_n 0, 1) := by decide +kernel
theorem dX3_take_60 : decode cX3_take 60 = .ok (.getfield 18, 3) := by decide +kernel
theorem dX3_take_63 : decode cX3_take 63 = .ok (.iconst 0, 1) := by decide +kernel
theorem dX3_take_64 : decode cX3_take 64 = .ok (.bipush 6, 2) := by decide +kernel
theorem dX3_take_66 : decode cX3_take 66 = .ok (.invokestatic 49, 3) := by decide +kernel
theorem dX3_take_69 : decode cX3_take 69 = .ok (.aload_n 1, 1) := by decide +kernel
theorem dX3_take_70 : decode cX3_take 70 = .ok (.getfield 21, 3) := by decide +kernel
theorem dX3_take_73 : decode cX3_take 73 = .ok (.iconst 0, 1) := by decide +kernel
theorem dX3_take_74 : decode cX3_take 74 = .ok (.aload_n 0, 1) := by decide +kernel
theorem dX3_take_75 : decode cX3_take 75 = .ok (.getfield 21, 3) := by decide +kernel
theorem dX3_take_78 : decode cX3_take 78 = .ok (.iconst 0, 1) := by decide +kernel
theorem dX3_take_79 : decode cX3_take 79 = .ok (.bipush 6, 2) := by decide +kernel
theorem dX3_take_81 : decode cX3_take 81 = .ok (.invokestatic 49, 3) := by decide +kernel
theorem dX3_take_84 : decode cX3_take 84 = .ok (.aload_n 1, 1) := by decide +kernel
theorem dX3_take_85 : decode cX3_take 85 = .ok (.getfield 24, 3) := by decide +kernel
theorem dX3_take_88 : decode cX3_take 88 = .ok (.iconst 0, 1) := by decide +kernel
theorem dX3_take_89 : decode cX3_take 89 = .ok (.aload_n 0, 1) := by decide +kernel
theorem dX3_take_90 : decode cX3_take 90 = .ok (.getfield 24, 3) := by decide +kernel
theorem dX3_take_93 : decode cX3_take 93 = .ok (.iconst 0, 1) := by decide +kernel
theorem dX3_take_94 : decode cX3_take 94 = .ok (.bipush 6, 2) := by decide +kernel
theorem dX3_take_96 : decode cX3_take 96 = .ok (.invokestatic 49, 3) := by decide +kernel
theorem dX3_take_99 : decode cX3_take 99 = .ok (.aload_n 1, 1) := by decide +kernel
theorem dX3_take_100 : decode cX3_take 100 = .ok (.getfield 28, 3) := by decide +kernel
theorem dX3_take_103 : decode cX3_take 103 = .ok (.iconst 0, 1) := by decide +kernel
theorem dX3_take_104 : decode cX3_take 104 = .ok (.aload_n 0, 1) := by decide +kernel
theorem dX3_take_105 : decode cX3_take 105 = .ok (.getfield 28, 3) := by decide +kernel
theorem dX3_take_108 : decode cX3_take 108 = .ok (.iconst 0, 1) := by decide +kernel
theorem dX3_take_109 : decode cX3_take 109 = .ok (.bipush 24, 2) := by decide +kernel
theorem dX3_take_111 : decode cX3_take 111 = .ok (.invokestatic 49, 3) := by decide +kernel
theorem dX3_take_114 : decode cX3_take 114 = .ok (.return_, 1) := by decide +kernel
theorem dX3_welcome_0 : decode cX3_welcome 0 = .ok (.aload_n 0, 1) := by decide +kernel
theorem dX3_welcome_1 : decode cX3_welcome 1 = .ok (.getfield 46, 3) := by decide +kernel
theorem dX3_welcome_4 : decode cX3_welcome 4 = .ok (.bipush 6, 2) := by decide +kernel
theorem dX3_welcome_6 : decode cX3_welcome 6 = .ok (.if_icmp .lt 6, 3) := by decide +kernel
theorem dX3_welcome_9 : decode cX3_welcome 9 = .ok (.bipush (-4), 2) := by decide +kernel
theorem dX3_welcome_11 : decode cX3_welcome 11 = .ok (.ireturn, 1) := by decide +kernel
theorem dX3_welcome_12 : decode cX3_welcome 12 = .ok (.aload_n 0, 1) := by decide +kernel
theorem dX3_welcome_13 : decode cX3_welcome 13 = .ok (.getfield 46, 3) := by decide +kernel
theorem dX3_welcome_16 : decode cX3_welcome 16 = .ok (.istore 4, 2) := by decide +kernel
theorem dX3_welcome_18 : decode cX3_welcome 18 = .ok (.aload_n 0, 1) := by decide +kernel
theorem dX3_welcome_19 : decode cX3_welcome 19 = .ok (.getfield 15, 3) := by decide +kernel
theorem dX3_welcome_22 : decode cX3_welcome 22 = .ok (.iload 4, 2) := by decide +kernel
theorem dX3_welcome_24 : decode cX3_welcome 24 = .ok (.iload_n 1, 1) := by decide +kernel
theorem dX3_welcome_25 : decode cX3_welcome 25 = .ok (.iastore, 1) := by decide +kernel
theorem dX3_welcome_26 : decode cX3_welcome 26 = .ok (.aload_n 0, 1) := by decide +kernel
theorem dX3_welcome_27 : decode cX3_welcome 27 = .ok (.getfield 18, 3) := by decide +kernel
theorem dX3_welcome_30 : decode cX3_welcome 30 = .ok (.iload 4, 2) := by decide +kernel
theorem dX3_welcome_32 : decode cX3_welcome 32 = .ok (.iload_n 2, 1) := by decide +kernel
theorem dX3_welcome_33 : decode cX3_welcome 33 = .ok (.iastore, 1) := by decide +kernel
theorem dX3_welcome_34 : decode cX3_welcome 34 = .ok (.aload_n 0, 1) := by decide +kernel
theorem dX3_welcome_35 : decode cX3_welcome 35 = .ok (.getfield 21, 3) := by decide +kernel
theorem dX3_welcome_38 : decode cX3_welcome 38 = .ok (.iload 4, 2) := by decide +kernel
theorem dX3_welcome_40 : decode cX3_welcome 40 = .ok (.iload_n 3, 1) := by decide +kernel
theorem dX3_welcome_41 : decode cX3_welcome 41 = .ok (.iastore, 1) := by decide +kernel
theorem dX3_welcome_42 : decode cX3_welcome 42 = .ok (.aload_n 0, 1) := by decide +kernel
theorem dX3_welcome_43 : decode cX3_welcome 43 = .ok (.dup, 1) := by decide +kernel
theorem dX3_welcome_44 : decode cX3_welcome 44 = .ok (.getfield 46, 3) := by decide +kernel
theorem dX3_welcome_47 : decode cX3_welcome 47 = .ok (.iconst 1, 1) := by decide +kernel
theorem dX3_welcome_48 : decode cX3_welcome 48 = .ok (.iadd, 1) := by decide +kernel
theorem dX3_welcome_49 : decode cX3_welcome 49 = .ok (.putfield 46, 3) := by decide +kernel
theorem dX3_welcome_52 : decode cX3_welcome 52 = .ok (.iload 4, 2) := by decide +kernel
theorem dX3_welcome_54 : decode cX3_welcome 54 = .ok (.ireturn, 1) := by decide +kernel
theorem dX3_kindOf_0 : decode cX3_kindOf 0 = .ok (.aload_n 0, 1) := by decide +kernel
theorem dX3_kindOf_1 : decode cX3_kindOf 1 = .ok (.getfield 34, 3) := by decide +kernel
theorem dX3_kindOf_4 : decode cX3_kindOf 4 = .ok (.aload_n 0, 1) := by decide +kernel
theorem dX3_kindOf_5 : decode cX3_kindOf 5 = .ok (.getfield 15, 3) := by decide +kernel
theorem dX3_kindOf_8 : decode cX3_kindOf 8 = .ok (.iload_n 1, 1) := by decide +kernel
theorem dX3_kindOf_9 : decode cX3_kindOf 9 = .ok (.iaload, 1) := by decide +kernel
theorem dX3_kindOf_10 : decode cX3_kindOf 10 = .ok (.aaload, 1) := by decide +kernel
theorem dX3_kindOf_11 : decode cX3_kindOf 11 = .ok (.areturn, 1) := by decide +kernel
theorem dX3_isBald_0 : decode cX3_isBald 0 = .ok (.aload_n 0, 1) := by decide +kernel
theorem dX3_isBald_1 : decode cX3_isBald 1 = .ok (.getfield 9, 3) := by decide +kernel
theorem dX3_isBald_4 : decode cX3_isBald 4 = .ok (.iload_n 1, 1) := by decide +kernel
theorem dX3_isBald_5 : decode cX3_isBald 5 = .ok (.iaload, 1) := by decide +kernel
theorem dX3_isBald_6 : decode cX3_isBald 6 = .ok (.aload_n 0, 1) := by decide +kernel
theorem dX3_isBald_7 : decode cX3_isBald 7 = .ok (.getfield 38, 3) := by decide +kernel
theorem dX3_isBald_10 : decode cX3_isBald 10 = .ok (.getfield 55, 3) := by decide +kernel
theorem dX3_isBald_13 : decode cX3_isBald 13 = .ok (.if_icmp .lt 7, 3) := by decide +kernel
theorem dX3_isBald_16 : decode cX3_isBald 16 = .ok (.iconst 1, 1) := by decide +kernel
theorem dX3_isBald_17 : decode cX3_isBald 17 = .ok (.goto 4, 3) := by decide +kernel
theorem dX3_isBald_20 : decode cX3_isBald 20 = .ok (.iconst 0, 1) := by decide +kernel
theorem dX3_isBald_21 : decode cX3_isBald 21 = .ok (.ireturn, 1) := by decide +kernel
theorem dX3_countBald_0 : decode cX3_countBald 0 = .ok (.iconst 0, 1) := by decide +kernel
theorem dX3_countBald_1 : decode cX3_countBald 1 = .ok (.istore_n 1, 1) := by decide +kernel
theorem dX3_countBald_2 : decode cX3_countBald 2 = .ok (.iconst 0, 1) := by decide +kernel
theorem dX3_countBald_3 : decode cX3_countBald 3 = .ok (.istore_n 2, 1) := by decide +kernel
theorem dX3_countBald_4 : decode cX3_countBald 4 = .ok (.iload_n 2, 1) := by decide +kernel
theorem dX3_countBald_5 : decode cX3_countBald 5 = .ok (.bipush 25, 2) := by decide +kernel
theorem dX3_countBald_7 : decode cX3_countBald 7 = .ok (.if_icmp .ge 20, 3) := by decide +kernel
theorem dX3_countBald_10 : decode cX3_countBald 10 = .ok (.aload_n 0, 1) := by decide +kernel
theorem dX3_countBald_11 : decode cX3_countBald 11 = .ok (.iload_n 2, 1) := by decide +kernel
theorem dX3_countBald_12 : decode cX3_countBald 12 = .ok (.invokevirtual 60, 3) := by decide +kernel
theorem dX3_countBald_15 : decode cX3_countBald 15 = .ok (.ifCond .eq 6, 3) := by decide +kernel
theorem dX3_countBald_18 : decode cX3_countBald 18 = .ok (.iinc 1 1, 3) := by decide +kernel
theorem dX3_countBald_21 : decode cX3_countBald 21 = .ok (.iinc 2 1, 3) := by decide +kernel
theorem dX3_countBald_24 : decode cX3_countBald 24 = .ok (.goto (-20), 3) := by decide +kernel
theorem dX3_countBald_27 : decode cX3_countBald 27 = .ok (.iload_n 1, 1) := by decide +kernel
theorem dX3_countBald_28 : decode cX3_countBald 28 = .ok (.ireturn, 1) := by decide +kernel
theorem dX3_wearOfAll_0 : decode cX3_wearOfAll 0 = .ok (.iconst 0, 1) := by decide +kernel
theorem dX3_wearOfAll_1 : decode cX3_wearOfAll 1 = .ok (.istore_n 1, 1) := by decide +kernel
theorem dX3_wearOfAll_2 : decode cX3_wearOfAll 2 = .ok (.iconst 0, 1) := by decide +kernel
theorem dX3_wearOfAll_3 : decode cX3_wearOfAll 3 = .ok (.istore_n 2, 1) := by decide +kernel
theorem dX3_wearOfAll_4 : decode cX3_wearOfAll 4 = .ok (.iload_n 2, 1) := by decide +kernel
theorem dX3_wearOfAll_5 : decode cX3_wearOfAll 5 = .ok (.bipush 25, 2) := by decide +kernel
theorem dX3_wearOfAll_7 : decode cX3_wearOfAll 7 = .ok (.if_icmp .ge 18, 3) := by decide +kernel
theorem dX3_wearOfAll_10 : decode cX3_wearOfAll 10 = .ok (.iload_n 1, 1) := by decide +kernel
theorem dX3_wearOfAll_11 : decode cX3_wearOfAll 11 = .ok (.aload_n 0, 1) := by decide +kernel
theorem dX3_wearOfAll_12 : decode cX3_wearOfAll 12 = .ok (.getfield 9, 3) := by decide +kernel
theorem dX3_wearOfAll_15 : decode cX3_wearOfAll 15 = .ok (.iload_n 2, 1) := by decide +kernel
theorem dX3_wearOfAll_16 : decode cX3_wearOfAll 16 = .ok (.iaload, 1) := by decide +kernel
theorem dX3_wearOfAll_17 : decode cX3_wearOfAll 17 = .ok (.iadd, 1) := by decide +kernel
theorem dX3_wearOfAll_18 : decode cX3_wearOfAll 18 = .ok (.istore_n 1, 1) := by decide +kernel
theorem dX3_wearOfAll_19 : decode cX3_wearOfAll 19 = .ok (.iinc 2 1, 3) := by decide +kernel
theorem dX3_wearOfAll_22 : decode cX3_wearOfAll 22 = .ok (.goto (-18), 3) := by decide +kernel
theorem dX3_wearOfAll_25 : decode cX3_wearOfAll 25 = .ok (.iload_n 1, 1) := by decide +kernel
theorem dX3_wearOfAll_26 : decode cX3_wearOfAll 26 = .ok (.ireturn, 1) := by decide +kernel
theorem dX3_beating_0 : decode cX3_beating 0 = .ok (.aload_n 0, 1) := by decide +kernel
theorem dX3_beating_1 : decode cX3_beating 1 = .ok (.getfield 38, 3) := by decide +kernel
theorem dX3_beating_4 : decode cX3_beating 4 = .ok (.getfield 55, 3) := by decide +kernel
theorem dX3_beating_7 : decode cX3_beating 7 = .ok (.ifCond .ne 6, 3) := by decide +kernel
theorem dX3_beating_10 : decode cX3_beating 10 = .ok (.bipush (-5), 2) := by decide +kernel
theorem dX3_beating_12 : decode cX3_beating 12 = .ok (.ireturn, 1) := by decide +kernel
theorem dX3_beating_13 : decode cX3_beating 13 = .ok (.iconst 0, 1) := by decide +kernel
theorem dX3_beating_14 : decode cX3_beating 14 = .ok (.istore_n 1, 1) := by decide +kernel
theorem dX3_beating_15 : decode cX3_beating 15 = .ok (.iconst 0, 1) := by decide +kernel
theorem dX3_beating_16 : decode cX3_beating 16 = .ok (.istore_n 2, 1) := by decide +kernel
theorem dX3_beating_17 : decode cX3_beating 17 = .ok (.iload_n 2, 1) := by decide +kernel
theorem dX3_beating_18 : decode cX3_beating 18 = .ok (.bipush 25, 2) := by decide +kernel
theorem dX3_beating_20 : decode cX3_beating 20 = .ok (.if_icmp .ge 20, 3) := by decide +kernel
theorem dX3_beating_23 : decode cX3_beating 23 = .ok (.iload_n 1, 1) := by decide +kernel
theorem dX3_beating_24 : decode cX3_beating 24 = .ok (.aload_n 0, 1) := by decide +kernel
theorem dX3_beating_25 : decode cX3_beating 25 = .ok (.getfield 9, 3) := by decide +kernel
theorem dX3_beating_28 : decode cX3_beating 28 = .ok (.iload_n 2, 1) := by decide +kernel
theorem dX3_beating_29 : decode cX3_beating 29 = .ok (.iaload, 1) := by decide +kernel
theorem dX3_beating_30 : decode cX3_beating 30 = .ok (.invokestatic 64, 3) := by decide +kernel
theorem dX3_beating_33 : decode cX3_beating 33 = .ok (.istore_n 1, 1) := by decide +kernel
theorem dX3_beating_34 : decode cX3_beating 34 = .ok (.iinc 2 1, 3) := by decide +kernel
theorem dX3_beating_37 : decode cX3_beating 37 = .ok (.goto (-20), 3) := by decide +kernel
theorem dX3_beating_40 : decode cX3_beating 40 = .ok (.iconst 0, 1) := by decide +kernel
theorem dX3_beating_41 : decode cX3_beating 41 = .ok (.iload_n 1, 1) := by decide +kernel
theorem dX3_beating_42 : decode cX3_beating 42 = .ok (.aload_n 0, 1) := by decide +kernel
theorem dX3_beating_43 : decode cX3_beating 43 = .ok (.getfield 38, 3) := by decide +kernel
theorem dX3_beating_46 : decode cX3_beating 46 = .ok (.getfield 55, 3) := by decide +kernel
theorem dX3_beating_49 : decode cX3_beating 49 = .ok (.isub, 1) := by decide +kernel
theorem dX3_beating_50 : decode cX3_beating 50 = .ok (.iconst 1, 1) := by decide +kernel
theorem dX3_beating_51 : decode cX3_beating 51 = .ok (.iadd, 1) := by decide +kernel
theorem dX3_beating_52 : decode cX3_beating 52 = .ok (.invokestatic 64, 3) := by decide +kernel
theorem dX3_beating_55 : decode cX3_beating 55 = .ok (.ireturn, 1) := by decide +kernel
theorem dX3_tread_0 : decode cX3_tread 0 = .ok (.aload_n 0, 1) := by decide +kernel
theorem dX3_tread_1 : decode cX3_tread 1 = .ok (.getfield 9, 3) := by decide +kernel
theorem dX3_tread_4 : decode cX3_tread 4 = .ok (.iload_n 1, 1) := by decide +kernel
theorem dX3_tread_5 : decode cX3_tread 5 = .ok (.bipush 99, 2) := by decide +kernel
theorem dX3_tread_7 : decode cX3_tread 7 = .ok (.aload_n 0, 1) := by decide +kernel
theorem dX3_tread_8 : decode cX3_tread 8 = .ok (.getfield 9, 3) := by decide +kernel
theorem dX3_tread_11 : decode cX3_tread 11 = .ok (.iload_n 1, 1) := by decide +kernel
theorem dX3_tread_12 : decode cX3_tread 12 = .ok (.iaload, 1) := by decide +kernel
theorem dX3_tread_13 : decode cX3_tread 13 = .ok (.iload_n 2, 1) := by decide +kernel
theorem dX3_tread_14 : decode cX3_tread 14 = .ok (.iadd, 1) := by decide +kernel
theorem dX3_tread_15 : decode cX3_tread 15 = .ok (.invokestatic 70, 3) := by decide +kernel
theorem dX3_tread_18 : decode cX3_tread 18 = .ok (.iastore, 1) := by decide +kernel
theorem dX3_tread_19 : decode cX3_tread 19 = .ok (.return_, 1) := by decide +kernel
theorem dX3_pullOn_0 : decode cX3_pullOn 0 = .ok (.aload_n 0, 1) := by decide +kernel
theorem dX3_pullOn_1 : decode cX3_pullOn 1 = .ok (.getfield 31, 3) := by decide +kernel
theorem dX3_pullOn_4 : decode cX3_pullOn 4 = .ok (.iconst 0, 1) := by decide +kernel
theorem dX3_pullOn_5 : decode cX3_pullOn 5 = .ok (.iload_n 1, 1) := by decide +kernel
theorem dX3_pullOn_6 : decode cX3_pullOn 6 = .ok (.iastore, 1) := by decide +kernel
theorem dX3_pullOn_7 : decode cX3_pullOn 7 = .ok (.aload_n 0, 1) := by decide +kernel
theorem dX3_pullOn_8 : decode cX3_pullOn 8 = .ok (.getfield 31, 3) := by decide +kernel
theorem dX3_pullOn_11 : decode cX3_pullOn 11 = .ok (.iconst 1, 1) := by decide +kernel
theorem dX3_pullOn_12 : decode cX3_pullOn 12 = .ok (.aload_n 0, 1) := by decide +kernel
theorem dX3_pullOn_13 : decode cX3_pullOn 13 = .ok (.getfield 15, 3) := by decide +kernel
theorem dX3_pullOn_16 : decode cX3_pullOn 16 = .ok (.iload_n 1, 1) := by decide +kernel
theorem dX3_pullOn_17 : decode cX3_pullOn 17 = .ok (.iaload, 1) := by decide +kernel
theorem dX3_pullOn_18 : decode cX3_pullOn 18 = .ok (.iastore, 1) := by decide +kernel
theorem dX3_pullOn_19 : decode cX3_pullOn 19 = .ok (.aload_n 0, 1) := by decide +kernel
theorem dX3_pullOn_20 : decode cX3_pullOn 20 = .ok (.getfield 31, 3) := by decide +kernel
theorem dX3_pullOn_23 : decode cX3_pullOn 23 = .ok (.iconst 2, 1) := by decide +kernel
theorem dX3_pullOn_24 : decode cX3_pullOn 24 = .ok (.aload_n 0, 1) := by decide +kernel
theorem dX3_pullOn_25 : decode cX3_pullOn 25 = .ok (.getfield 18, 3) := by decide +kernel
theorem dX3_pullOn_28 : decode cX3_pullOn 28 = .ok (.iload_n 1, 1) := by decide +kernel
theorem dX3_pullOn_29 : decode cX3_pullOn 29 = .ok (.iaload, 1) := by decide +kernel
theorem dX3_pullOn_30 : decode cX3_pullOn 30 = .ok (.iastore, 1) := by decide +kernel
theorem dX3_pullOn_31 : decode cX3_pullOn 31 = .ok (.aload_n 0, 1) := by decide +kernel
theorem dX3_pullOn_32 : decode cX3_pullOn 32 = .ok (.getfield 31, 3) := by decide +kernel
theorem dX3_pullOn_35 : decode cX3_pullOn 35 = .ok (.iconst 3, 1) := by decide +kernel
theorem dX3_pullOn_36 : decode cX3_pullOn 36 = .ok (.iload_n 2, 1) := by decide +kernel
theorem dX3_pullOn_37 : decode cX3_pullOn 37 = .ok (.iastore, 1) := by decide +kernel
theorem dX3_pullOn_38 : decode cX3_pullOn 38 = .ok (.aload_n 0, 1) := by decide +kernel
theorem dX3_pullOn_39 : decode cX3_pullOn 39 = .ok (.getfield 31, 3) := by decide +kernel
theorem dX3_pullOn_42 : decode cX3_pullOn 42 = .ok (.iconst 4, 1) := by decide +kernel
theorem dX3_pullOn_43 : decode cX3_pullOn 43 = .ok (.aload_n 0, 1) := by decide +kernel
theorem dX3_pullOn_44 : decode cX3_pullOn 44 = .ok (.getfield 9, 3) := by decide +kernel
theorem dX3_pullOn_47 : decode cX3_pullOn 47 = .ok (.iload_n 2, 1) := by decide +kernel
theorem dX3_pullOn_48 : decode cX3_pullOn 48 = .ok (.iaload, 1) := by decide +kernel
theorem dX3_pullOn_49 : decode cX3_pullOn 49 = .ok (.bipush 10, 2) := by decide +kernel
theorem dX3_pullOn_51 : decode cX3_pullOn 51 = .ok (.idiv, 1) := by decide +kernel
theorem dX3_pullOn_52 : decode cX3_pullOn 52 = .ok (.iastore, 1) := by decide +kernel
theorem dX3_pullOn_53 : decode cX3_pullOn 53 = .ok (.aload_n 0, 1) := by decide +kernel
theorem dX3_pullOn_54 : decode cX3_pullOn 54 = .ok (.getfield 31, 3) := by decide +kernel
theorem dX3_pullOn_57 : decode cX3_pullOn 57 = .ok (.iconst 5, 1) := by decide +kernel
theorem dX3_pullOn_58 : decode cX3_pullOn 58 = .ok (.aload_n 0, 1) := by decide +kernel
theorem dX3_pullOn_59 : decode cX3_pullOn 59 = .ok (.getfield 42, 3) := by decide +kernel
theorem dX3_pullOn_62 : decode cX3_pullOn 62 = .ok (.bipush 10, 2) := by decide +kernel
theorem dX3_pullOn_64 : decode cX3_pullOn 64 = .ok (.irem, 1) := by decide +kernel
theorem dX3_pullOn_65 : decode cX3_pullOn 65 = .ok (.iastore, 1) := by decide +kernel
theorem dX3_pullOn_66 : decode cX3_pullOn 66 = .ok (.aload_n 0, 1) := by decide +kernel
theorem dX3_pullOn_67 : decode cX3_pullOn 67 = .ok (.iload_n 1, 1) := by decide +kernel
theorem dX3_pullOn_68 : decode cX3_pullOn 68 = .ok (.invokevirtual 73, 3) := by decide +kernel
theorem dX3_pullOn_71 : decode cX3_pullOn 71 = .ok (.aload_n 0, 1) := by decide +kernel
theorem dX3_pullOn_72 : decode cX3_pullOn 72 = .ok (.getfield 9, 3) := by decide +kernel
theorem dX3_pullOn_75 : decode cX3_pullOn 75 = .ok (.iload_n 2, 1) := by decide +kernel
theorem dX3_pullOn_76 : decode cX3_pullOn 76 = .ok (.iaload, 1) := by decide +kernel
theorem dX3_pullOn_77 : decode cX3_pullOn 77 = .ok (.aload_n 0, 1) := by decide +kernel
theorem dX3_pullOn_78 : decode cX3_pullOn 78 = .ok (.getfield 38, 3) := by decide +kernel
theorem dX3_pullOn_81 : decode cX3_pullOn 81 = .ok (.aload_n 0, 1) := by decide +kernel
theorem dX3_pullOn_82 : decode cX3_pullOn 82 = .ok (.getfield 31, 3) := by decide +kernel
theorem dX3_pullOn_85 : decode cX3_pullOn 85 = .ok (.invokevirtual 77, 3) := by decide +kernel
theorem dX3_pullOn_88 : decode cX3_pullOn 88 = .ok (.iadd, 1) := by decide +kernel
theorem dX3_pullOn_89 : decode cX3_pullOn 89 = .ok (.aload_n 0, 1) := by decide +kernel
theorem dX3_pullOn_90 : decode cX3_pullOn 90 = .ok (.iload_n 1, 1) := by decide +kernel
theorem dX3_pullOn_91 : decode cX3_pullOn 91 = .ok (.iload_n 2, 1) := by decide +kernel
theorem dX3_pullOn_92 : decode cX3_pullOn 92 = .ok (.invokevirtual 81, 3) := by decide +kernel
theorem dX3_pullOn_95 : decode cX3_pullOn 95 = .ok (.ireturn, 1) := by decide +kernel
theorem dX3_sends_0 : decode cX3_sends 0 = .ok (.aload_n 0, 1) := by decide +kernel
theorem dX3_sends_1 : decode cX3_sends 1 = .ok (.getfield 21, 3) := by decide +kernel
theorem dX3_sends_4 : decode cX3_sends 4 = .ok (.iload_n 1, 1) := by decide +kernel
theorem dX3_sends_5 : decode cX3_sends 5 = .ok (.iaload, 1) := by decide +kernel
theorem dX3_sends_6 : decode cX3_sends 6 = .ok (.istore_n 2, 1) := by decide +kernel
theorem dX3_sends_7 : decode cX3_sends 7 = .ok (.iconst 0, 1) := by decide +kernel
theorem dX3_sends_8 : decode cX3_sends 8 = .ok (.istore_n 3, 1) := by decide +kernel
theorem dX3_sends_9 : decode cX3_sends 9 = .ok (.iconst 1, 1) := by decide +kernel
theorem dX3_sends_10 : decode cX3_sends 10 = .ok (.istore 4, 2) := by decide +kernel
theorem dX3_sends_12 : decode cX3_sends 12 = .ok (.iconst 0, 1) := by decide +kernel
theorem dX3_sends_13 : decode cX3_sends 13 = .ok (.istore 5, 2) := by decide +kernel
theorem dX3_sends_15 : decode cX3_sends 15 = .ok (.iload 5, 2) := by decide +kernel
theorem dX3_sends_17 : decode cX3_sends 17 = .ok (.iconst 4, 1) := by decide +kernel
theorem dX3_sends_18 : decode cX3_sends 18 = .ok (.if_icmp .ge 69, 3) := by decide +kernel
theorem dX3_sends_21 : decode cX3_sends 21 = .ok (.aload_n 0, 1) := by decide +kernel
theorem dX3_sends_22 : decode cX3_sends 22 = .ok (.getfield 21, 3) := by decide +kernel
theorem dX3_sends_25 : decode cX3_sends 25 = .ok (.iload_n 1, 1) := by decide +kernel
theorem dX3_sends_26 : decode cX3_sends 26 = .ok (.iaload, 1) := by decide +kernel
theorem dX3_sends_27 : decode cX3_sends 27 = .ok (.iload 5, 2) := by decide +kernel
theorem dX3_sends_29 : decode cX3_sends 29 = .ok (.invokestatic 87, 3) := by decide +kernel
theorem dX3_sends_32 : decode cX3_sends 32 = .ok (.istore 6, 2) := by decide +kernel
theorem dX3_sends_34 : decode cX3_sends 34 = .ok (.iload 6, 2) := by decide +kernel
theorem dX3_sends_36 : decode cX3_sends 36 = .ok (.iconst (-1), 1) := by decide +kernel
theorem dX3_sends_37 : decode cX3_sends 37 = .ok (.if_icmp .eq 44, 3) := by decide +kernel
theorem dX3_sends_40 : decode cX3_sends 40 = .ok (.aload_n 0, 1) := by decide +kernel
theorem dX3_sends_41 : decode cX3_sends 41 = .ok (.iload 6, 2) := by decide +kernel
theorem dX3_sends_43 : decode cX3_sends 43 = .ok (.invokevirtual 60, 3) := by decide +kernel
theorem dX3_sends_46 : decode cX3_sends 46 = .ok (.ifCond .eq 6, 3) := by decide +kernel
theorem dX3_sends_49 : decode cX3_sends 49 = .ok (.goto 32, 3) := by decide +kernel
theorem dX3_sends_52 : decode cX3_sends 52 = .ok (.aload_n 0, 1) := by decide +kernel
theorem dX3_sends_53 : decode cX3_sends 53 = .ok (.iload_n 1, 1) := by decide +kernel
theorem dX3_sends_54 : decode cX3_sends 54 = .ok (.iload 6, 2) := by decide +kernel
theorem dX3_sends_56 : decode cX3_sends 56 = .ok (.invokevirtual 90, 3) := by decide +kernel
theorem dX3_sends_59 : decode cX3_sends 59 = .ok (.istore 7, 2) := by decide +kernel
theorem dX3_sends_61 : decode cX3_sends 61 = .ok (.iload 4, 2) := by decide +kernel
theorem dX3_sends_63 : decode cX3_sends 63 = .ok (.ifCond .ne 9, 3) := by decide +kernel
theorem dX3_sends_66 : decode cX3_sends 66 = .ok (.iload 7, 2) := by decide +kernel
theorem dX3_sends_68 : decode cX3_sends 68 = .ok (.iload_n 3, 1) := by decide +kernel
theorem dX3_sends_69 : decode cX3_sends 69 = .ok (.if_icmp .le 12, 3) := by decide +kernel
theorem dX3_sends_72 : decode cX3_sends 72 = .ok (.iconst 0, 1) := by decide +kernel
theorem dX3_sends_73 : decode cX3_sends 73 = .ok (.istore 4, 2) := by decide +kernel
theorem dX3_sends_75 : decode cX3_sends 75 = .ok (.iload 6, 2) := by decide +kernel
theorem dX3_sends_77 : decode cX3_sends 77 = .ok (.istore_n 2, 1) := by decide +kernel
theorem dX3_sends_78 : decode cX3_sends 78 = .ok (.iload 7, 2) := by decide +kernel
theorem dX3_sends_80 : decode cX3_sends 80 = .ok (.istore_n 3, 1) := by decide +kernel
theorem dX3_sends_81 : decode cX3_sends 81 = .ok (.iinc 5 1, 3) := by decide +kernel
theorem dX3_sends_84 : decode cX3_sends 84 = .ok (.goto (-69), 3) := by decide +kernel
theorem dX3_sends_87 : decode cX3_sends 87 = .ok (.iload_n 2, 1) := by decide +kernel
theorem dX3_sends_88 : decode cX3_sends 88 = .ok (.ireturn, 1) := by decide +kernel
theorem dX3_goHour_0 : decode cX3_goHour 0 = .ok (.iconst 0, 1) := by decide +kernel
theorem dX3_goHour_1 : decode cX3_goHour 1 = .ok (.istore_n 1, 1) := by decide +kernel
theorem dX3_goHour_2 : decode cX3_goHour 2 = .ok (.iload_n 1, 1) := by decide +kernel
theorem dX3_goHour_3 : decode cX3_goHour 3 = .ok (.aload_n 0, 1) := by decide +kernel
theorem dX3_goHour_4 : decode cX3_goHour 4 = .ok (.getfield 46, 3) := by decide +kernel
theorem dX3_goHour_7 : decode cX3_goHour 7 = .ok (.if_icmp .ge 47, 3) := by decide +kernel
theorem dX3_goHour_10 : decode cX3_goHour 10 = .ok (.aload_n 0, 1) := by decide +kernel
theorem dX3_goHour_11 : decode cX3_goHour 11 = .ok (.getfield 24, 3) := by decide +kernel
theorem dX3_goHour_14 : decode cX3_goHour 14 = .ok (.iload_n 1, 1) := by decide +kernel
theorem dX3_goHour_15 : decode cX3_goHour 15 = .ok (.baload, 1) := by decide +kernel
theorem dX3_goHour_16 : decode cX3_goHour 16 = .ok (.ifCond .ne 32, 3) := by decide +kernel
theorem dX3_goHour_19 : decode cX3_goHour 19 = .ok (.aload_n 0, 1) := by decide +kernel
theorem dX3_goHour_20 : decode cX3_goHour 20 = .ok (.getfield 21, 3) := by decide +kernel
theorem dX3_goHour_23 : decode cX3_goHour 23 = .ok (.iload_n 1, 1) := by decide +kernel
theorem dX3_goHour_24 : decode cX3_goHour 24 = .ok (.aload_n 0, 1) := by decide +kernel
theorem dX3_goHour_25 : decode cX3_goHour 25 = .ok (.iload_n 1, 1) := by decide +kernel
theorem dX3_goHour_26 : decode cX3_goHour 26 = .ok (.invokevirtual 93, 3) := by decide +kernel
theorem dX3_goHour_29 : decode cX3_goHour 29 = .ok (.iastore, 1) := by decide +kernel
theorem dX3_goHour_30 : decode cX3_goHour 30 = .ok (.aload_n 0, 1) := by decide +kernel
theorem dX3_goHour_31 : decode cX3_goHour 31 = .ok (.aload_n 0, 1) := by decide +kernel
theorem dX3_goHour_32 : decode cX3_goHour 32 = .ok (.getfield 21, 3) := by decide +kernel
theorem dX3_goHour_35 : decode cX3_goHour 35 = .ok (.iload_n 1, 1) := by decide +kernel
theorem dX3_goHour_36 : decode cX3_goHour 36 = .ok (.iaload, 1) := by decide +kernel
theorem dX3_goHour_37 : decode cX3_goHour 37 = .ok (.aload_n 0, 1) := by decide +kernel
theorem dX3_goHour_38 : decode cX3_goHour 38 = .ok (.iload_n 1, 1) := by decide +kernel
theorem dX3_goHour_39 : decode cX3_goHour 39 = .ok (.invokevirtual 73, 3) := by decide +kernel
theorem dX3_goHour_42 : decode cX3_goHour 42 = .ok (.invokevirtual 97, 3) := by decide +kernel
theorem dX3_goHour_45 : decode cX3_goHour 45 = .ok (.invokevirtual 101, 3) := by decide +kernel
theorem dX3_goHour_48 : decode cX3_goHour 48 = .ok (.iinc 1 1, 3) := by decide +kernel
theorem dX3_goHour_51 : decode cX3_goHour 51 = .ok (.goto (-49), 3) := by decide +kernel
theorem dX3_goHour_54 : decode cX3_goHour 54 = .ok (.aload_n 0, 1) := by decide +kernel
theorem dX3_goHour_55 : decode cX3_goHour 55 = .ok (.dup, 1) := by decide +kernel
theorem dX3_goHour_56 : decode cX3_goHour 56 = .ok (.getfield 42, 3) := by decide +kernel
theorem dX3_goHour_59 : decode cX3_goHour 59 = .ok (.iconst 1, 1) := by decide +kernel
theorem dX3_goHour_60 : decode cX3_goHour 60 = .ok (.iadd, 1) := by decide +kernel
theorem dX3_goHour_61 : decode cX3_goHour 61 = .ok (.putfield 42, 3) := by decide +kernel
theorem dX3_goHour_64 : decode cX3_goHour 64 = .ok (.aload_n 0, 1) := by decide +kernel
theorem dX3_goHour_65 : decode cX3_goHour 65 = .ok (.getfield 42, 3) := by decide +kernel
theorem dX3_goHour_68 : decode cX3_goHour 68 = .ok (.bipush 10, 2) := by decide +kernel
theorem dX3_goHour_70 : decode cX3_goHour 70 = .ok (.irem, 1) := by decide +kernel
theorem dX3_goHour_71 : decode cX3_goHour 71 = .ok (.ifCond .ne 35, 3) := by decide +kernel
theorem dX3_goHour_74 : decode cX3_goHour 74 = .ok (.iconst 0, 1) := by decide +kernel
theorem dX3_goHour_75 : decode cX3_goHour 75 = .ok (.istore_n 1, 1) := by decide +kernel
theorem dX3_goHour_76 : decode cX3_goHour 76 = .ok (.iload_n 1, 1) := by decide +kernel
theorem dX3_goHour_77 : decode cX3_goHour 77 = .ok (.bipush 25, 2) := by decide +kernel
theorem dX3_goHour_79 : decode cX3_goHour 79 = .ok (.if_icmp .ge 27, 3) := by decide +kernel
theorem dX3_goHour_82 : decode cX3_goHour 82 = .ok (.aload_n 0, 1) := by decide +kernel
theorem dX3_goHour_83 : decode cX3_goHour 83 = .ok (.getfield 9, 3) := by decide +kernel
theorem dX3_goHour_86 : decode cX3_goHour 86 = .ok (.iload_n 1, 1) := by decide +kernel
theorem dX3_goHour_87 : decode cX3_goHour 87 = .ok (.iconst 0, 1) := by decide +kernel
theorem dX3_goHour_88 : decode cX3_goHour 88 = .ok (.aload_n 0, 1) := by decide +kernel
theorem dX3_goHour_89 : decode cX3_goHour 89 = .ok (.getfield 9, 3) := by decide +kernel
theorem dX3_goHour_92 : decode cX3_goHour 92 = .ok (.iload_n 1, 1) := by decide +kernel
theorem dX3_goHour_93 : decode cX3_goHour 93 = .ok (.iaload, 1) := by decide +kernel
theorem dX3_goHour_94 : decode cX3_goHour 94 = .ok (.iconst 1, 1) := by decide +kernel
theorem dX3_goHour_95 : decode cX3_goHour 95 = .ok (.isub, 1) := by decide +kernel
theorem dX3_goHour_96 : decode cX3_goHour 96 = .ok (.invokestatic 64, 3) := by decide +kernel
theorem dX3_goHour_99 : decode cX3_goHour 99 = .ok (.iastore, 1) := by decide +kernel
theorem dX3_goHour_100 : decode cX3_goHour 100 = .ok (.iinc 1 1, 3) := by decide +kernel
theorem dX3_goHour_103 : decode cX3_goHour 103 = .ok (.goto (-27), 3) := by decide +kernel
theorem dX3_goHour_106 : decode cX3_goHour 106 = .ok (.return_, 1) := by decide +kernel
theorem dX3_goHours_0 : decode cX3_goHours 0 = .ok (.iconst 0, 1) := by decide +kernel
theorem dX3_goHours_1 : decode cX3_goHours 1 = .ok (.istore_n 2, 1) := by decide +kernel
theorem dX3_goHours_2 : decode cX3_goHours 2 = .ok (.iload_n 2, 1) := by decide +kernel
theorem dX3_goHours_3 : decode cX3_goHours 3 = .ok (.iload_n 1, 1) := by decide +kernel
theorem dX3_goHours_4 : decode cX3_goHours 4 = .ok (.if_icmp .ge 13, 3) := by decide +kernel
theorem dX3_goHours_7 : decode cX3_goHours 7 = .ok (.aload_n 0, 1) := by decide +kernel
theorem dX3_goHours_8 : decode cX3_goHours 8 = .ok (.invokevirtual 104, 3) := by decide +kernel
theorem dX3_goHours_11 : decode cX3_goHours 11 = .ok (.iinc 2 1, 3) := by decide +kernel
theorem dX3_goHours_14 : decode cX3_goHours 14 = .ok (.goto (-12), 3) := by decide +kernel
theorem dX3_goHours_17 : decode cX3_goHours 17 = .ok (.return_, 1) := by decide +kernel
theorem dX3_hoursTo_0 : decode cX3_hoursTo 0 = .ok (.iconst 0, 1) := by decide +kernel
theorem dX3_hoursTo_1 : decode cX3_hoursTo 1 = .ok (.istore_n 3, 1) := by decide +kernel
theorem dX3_hoursTo_2 : decode cX3_hoursTo 2 = .ok (.iload_n 3, 1) := by decide +kernel
theorem dX3_hoursTo_3 : decode cX3_hoursTo 3 = .ok (.bipush 40, 2) := by decide +kernel
theorem dX3_hoursTo_5 : decode cX3_hoursTo 5 = .ok (.if_icmp .gt 25, 3) := by decide +kernel
theorem dX3_hoursTo_8 : decode cX3_hoursTo 8 = .ok (.aload_n 0, 1) := by decide +kernel
theorem dX3_hoursTo_9 : decode cX3_hoursTo 9 = .ok (.getfield 21, 3) := by decide +kernel
theorem dX3_hoursTo_12 : decode cX3_hoursTo 12 = .ok (.iload_n 1, 1) := by decide +kernel
theorem dX3_hoursTo_13 : decode cX3_hoursTo 13 = .ok (.iaload, 1) := by decide +kernel
theorem dX3_hoursTo_14 : decode cX3_hoursTo 14 = .ok (.iload_n 2, 1) := by decide +kernel
theorem dX3_hoursTo_15 : decode cX3_hoursTo 15 = .ok (.if_icmp .ne 5, 3) := by decide +kernel
theorem dX3_hoursTo_18 : decode cX3_hoursTo 18 = .ok (.iload_n 3, 1) := by decide +kernel
theorem dX3_hoursTo_19 : decode cX3_hoursTo 19 = .ok (.ireturn, 1) := by decide +kernel
theorem dX3_hoursTo_20 : decode cX3_hoursTo 20 = .ok (.aload_n 0, 1) := by decide +kernel
theorem dX3_hoursTo_21 : decode cX3_hoursTo 21 = .ok (.invokevirtual 104, 3) := by decide +kernel
theorem dX3_hoursTo_24 : decode cX3_hoursTo 24 = .ok (.iinc 3 1, 3) := by decide +kernel
theorem dX3_hoursTo_27 : decode cX3_hoursTo 27 = .ok (.goto (-25), 3) := by decide +kernel
theorem dX3_hoursTo_30 : decode cX3_hoursTo 30 = .ok (.bipush (-5), 2) := by decide +kernel
theorem dX3_hoursTo_32 : decode cX3_hoursTo 32 = .ok (.ireturn, 1) := by decide +kernel
theorem dX3_stepsTo_0 : decode cX3_stepsTo 0 = .ok (.iconst 0, 1) := by decide +kernel
theorem dX3_stepsTo_1 : decode cX3_stepsTo 1 = .ok (.istore_n 3, 1) := by decide +kernel
theorem dX3_stepsTo_2 : decode cX3_stepsTo 2 = .ok (.iconst 0, 1) := by decide +kernel
theorem dX3_stepsTo_3 : decode cX3_stepsTo 3 = .ok (.istore 4, 2) := by decide +kernel
theorem dX3_stepsTo_5 : decode cX3_stepsTo 5 = .ok (.iload 4, 2) := by decide +kernel
theorem dX3_stepsTo_7 : decode cX3_stepsTo 7 = .ok (.bipush 25, 2) := by decide +kernel
theorem dX3_stepsTo_9 : decode cX3_stepsTo 9 = .ok (.if_icmp .ge 25, 3) := by decide +kernel
theorem dX3_stepsTo_12 : decode cX3_stepsTo 12 = .ok (.aload_n 0, 1) := by decide +kernel
theorem dX3_stepsTo_13 : decode cX3_stepsTo 13 = .ok (.iload 4, 2) := by decide +kernel
theorem dX3_stepsTo_15 : decode cX3_stepsTo 15 = .ok (.invokevirtual 60, 3) := by decide +kernel
theorem dX3_stepsTo_18 : decode cX3_stepsTo 18 = .ok (.ifCond .ne 10, 3) := by decide +kernel
theorem dX3_stepsTo_21 : decode cX3_stepsTo 21 = .ok (.iload_n 3, 1) := by decide +kernel
theorem dX3_stepsTo_22 : decode cX3_stepsTo 22 = .ok (.iconst 1, 1) := by decide +kernel
theorem dX3_stepsTo_23 : decode cX3_stepsTo 23 = .ok (.iload 4, 2) := by decide +kernel
theorem dX3_stepsTo_25 : decode cX3_stepsTo 25 = .ok (.ishl, 1) := by decide +kernel
theorem dX3_stepsTo_26 : decode cX3_stepsTo 26 = .ok (.ior, 1) := by decide +kernel
theorem dX3_stepsTo_27 : decode cX3_stepsTo 27 = .ok (.istore_n 3, 1) := by decide +kernel
theorem dX3_stepsTo_28 : decode cX3_stepsTo 28 = .ok (.iinc 4 1, 3) := by decide +kernel
theorem dX3_stepsTo_31 : decode cX3_stepsTo 31 = .ok (.goto (-26), 3) := by decide +kernel
theorem dX3_stepsTo_34 : decode cX3_stepsTo 34 = .ok (.iconst 1, 1) := by decide +kernel
theorem dX3_stepsTo_35 : decode cX3_stepsTo 35 = .ok (.aload_n 0, 1) := by decide +kernel
theorem dX3_stepsTo_36 : decode cX3_stepsTo 36 = .ok (.getfield 21, 3) := by decide +kernel
theorem dX3_stepsTo_39 : decode cX3_stepsTo 39 = .ok (.iload_n 1, 1) := by decide +kernel
theorem dX3_stepsTo_40 : decode cX3_stepsTo 40 = .ok (.iaload, 1) := by decide +kernel
theorem dX3_stepsTo_41 : decode cX3_stepsTo 41 = .ok (.ishl, 1) := by decide +kernel
theorem dX3_stepsTo_42 : decode cX3_stepsTo 42 = .ok (.istore 4, 2) := by decide +kernel
theorem dX3_stepsTo_44 : decode cX3_stepsTo 44 = .ok (.iconst 0, 1) := by decide +kernel
theorem dX3_stepsTo_45 : decode cX3_stepsTo 45 = .ok (.istore 5, 2) := by decide +kernel
theorem dX3_stepsTo_47 : decode cX3_stepsTo 47 = .ok (.iload 5, 2) := by decide +kernel
theorem dX3_stepsTo_49 : decode cX3_stepsTo 49 = .ok (.bipush 25, 2) := by decide +kernel
theorem dX3_stepsTo_51 : decode cX3_stepsTo 51 = .ok (.if_icmp .ge 62, 3) := by decide +kernel
theorem dX3_stepsTo_54 : decode cX3_stepsTo 54 = .ok (.iload 4, 2) := by decide +kernel
theorem dX3_stepsTo_56 : decode cX3_stepsTo 56 = .ok (.iload_n 2, 1) := by decide +kernel
theorem dX3_stepsTo_57 : decode cX3_stepsTo 57 = .ok (.ishr, 1) := by decide +kernel
theorem dX3_stepsTo_58 : decode cX3_stepsTo 58 = .ok (.iconst 1, 1) := by decide +kernel
theorem dX3_stepsTo_59 : decode cX3_stepsTo 59 = .ok (.iand, 1) := by decide +kernel
theorem dX3_stepsTo_60 : decode cX3_stepsTo 60 = .ok (.iconst 1, 1) := by decide +kernel
theorem dX3_stepsTo_61 : decode cX3_stepsTo 61 = .ok (.if_icmp .ne 6, 3) := by decide +kernel
theorem dX3_stepsTo_64 : decode cX3_stepsTo 64 = .ok (.iload 5, 2) := by decide +kernel
theorem dX3_stepsTo_66 : decode cX3_stepsTo 66 = .ok (.ireturn, 1) := by decide +kernel
theorem dX3_stepsTo_67 : decode cX3_stepsTo 67 = .ok (.iload 4, 2) := by decide +kernel
theorem dX3_stepsTo_69 : decode cX3_stepsTo 69 = .ok (.iconst 5, 1) := by decide +kernel
theorem dX3_stepsTo_70 : decode cX3_stepsTo 70 = .ok (.ishr, 1) := by decide +kernel
theorem dX3_stepsTo_71 : decode cX3_stepsTo 71 = .ok (.iload 4, 2) := by decide +kernel
theorem dX3_stepsTo_73 : decode cX3_stepsTo 73 = .ok (.iconst 5, 1) := by decide +kernel
theorem dX3_stepsTo_74 : decode cX3_stepsTo 74 = .ok (.ishl, 1) := by decide +kernel
theorem dX3_stepsTo_75 : decode cX3_stepsTo 75 = .ok (.ior, 1) := by decide +kernel
theorem dX3_stepsTo_76 : decode cX3_stepsTo 76 = .ok (.istore 6, 2) := by decide +kernel
theorem dX3_stepsTo_78 : decode cX3_stepsTo 78 = .ok (.iload 4, 2) := by decide +kernel
theorem dX3_stepsTo_80 : decode cX3_stepsTo 80 = .ok (.ldc 107, 2) := by decide +kernel
theorem dX3_stepsTo_82 : decode cX3_stepsTo 82 = .ok (.iand, 1) := by decide +kernel
theorem dX3_stepsTo_83 : decode cX3_stepsTo 83 = .ok (.iconst 1, 1) := by decide +kernel
theorem dX3_stepsTo_84 : decode cX3_stepsTo 84 = .ok (.ishr, 1) := by decide +kernel
theorem dX3_stepsTo_85 : decode cX3_stepsTo 85 = .ok (.iload 4, 2) := by decide +kernel
theorem dX3_stepsTo_87 : decode cX3_stepsTo 87 = .ok (.ldc 108, 2) := by decide +kernel
theorem dX3_stepsTo_89 : decode cX3_stepsTo 89 = .ok (.iand, 1) := by decide +kernel
theorem dX3_stepsTo_90 : decode cX3_stepsTo 90 = .ok (.iconst 1, 1) := by decide +kernel
theorem dX3_stepsTo_91 : decode cX3_stepsTo 91 = .ok (.ishl, 1) := by decide +kernel
theorem dX3_stepsTo_92 : decode cX3_stepsTo 92 = .ok (.ior, 1) := by decide +kernel
theorem dX3_stepsTo_93 : decode cX3_stepsTo 93 = .ok (.istore 7, 2) := by decide +kernel
theorem dX3_stepsTo_95 : decode cX3_stepsTo 95 = .ok (.iload 4, 2) := by decide +kernel
theorem dX3_stepsTo_97 : decode cX3_stepsTo 97 = .ok (.iload 6, 2) := by decide +kernel
theorem dX3_stepsTo_99 : decode cX3_stepsTo 99 = .ok (.iload 7, 2) := by decide +kernel
theorem dX3_stepsTo_101 : decode cX3_stepsTo 101 = .ok (.ior, 1) := by decide +kernel
theorem dX3_stepsTo_102 : decode cX3_stepsTo 102 = .ok (.iload_n 3, 1) := by decide +kernel
theorem dX3_stepsTo_103 : decode cX3_stepsTo 103 = .ok (.iand, 1) := by decide +kernel
theorem dX3_stepsTo_104 : decode cX3_stepsTo 104 = .ok (.ior, 1) := by decide +kernel
theorem dX3_stepsTo_105 : decode cX3_stepsTo 105 = .ok (.istore 4, 2) := by decide +kernel
theorem dX3_stepsTo_107 : decode cX3_stepsTo 107 = .ok (.iinc 5 1, 3) := by decide +kernel
theorem dX3_stepsTo_110 : decode cX3_stepsTo 110 = .ok (.goto (-63), 3) := by decide +kernel
theorem dX3_stepsTo_113 : decode cX3_stepsTo 113 = .ok (.bipush (-5), 2) := by decide +kernel
theorem dX3_stepsTo_115 : decode cX3_stepsTo 115 = .ok (.ireturn, 1) := by decide +kernel
theorem dX4_init_0 : decode cX4_init 0 = .ok (.aload_n 0, 1) := by decide +kernel
theorem dX4_init_1 : decode cX4_init 1 = .ok (.invokespecial 1, 3) := by decide +kernel
theorem dX4_init_4 : decode cX4_init 4 = .ok (.return_, 1) := by decide +kernel
theorem dX4_tread_0 : decode cX4_tread 0 = .ok (.bipush 6, 2) := by decide +kernel
theorem dX4_tread_2 : decode cX4_tread 2 = .ok (.ireturn, 1) := by decide +kernel
theorem dX4_pullBy_0 : decode cX4_pullBy 0 = .ok (.aload_n 2, 1) := by decide +kernel
theorem dX4_pullBy_1 : decode cX4_pullBy 1 = .ok (.getfield 7, 3) := by decide +kernel
theorem dX4_pullBy_4 : decode cX4_pullBy 4 = .ok (.iconst 2, 1) := by decide +kernel
theorem dX4_pullBy_5 : decode cX4_pullBy 5 = .ok (.irem, 1) := by decide +kernel
theorem dX4_pullBy_6 : decode cX4_pullBy 6 = .ok (.iconst 1, 1) := by decide +kernel
theorem dX4_pullBy_7 : decode cX4_pullBy 7 = .ok (.if_icmp .ne 9, 3) := by decide +kernel
theorem dX4_pullBy_10 : decode cX4_pullBy 10 = .ok (.iload_n 1, 1) := by decide +kernel
theorem dX4_pullBy_11 : decode cX4_pullBy 11 = .ok (.iconst 2, 1) := by decide +kernel
theorem dX4_pullBy_12 : decode cX4_pullBy 12 = .ok (.idiv, 1) := by decide +kernel
theorem dX4_pullBy_13 : decode cX4_pullBy 13 = .ok (.goto 4, 3) := by decide +kernel
theorem dX4_pullBy_16 : decode cX4_pullBy 16 = .ok (.iload_n 1, 1) := by decide +kernel
theorem dX4_pullBy_17 : decode cX4_pullBy 17 = .ok (.ireturn, 1) := by decide +kernel
theorem dX4_tells_0 : decode cX4_tells 0 = .ok (.aload_n 1, 1) := by decide +kernel
theorem dX4_tells_1 : decode cX4_tells 1 = .ok (.bipush 40, 2) := by decide +kernel
theorem dX4_tells_3 : decode cX4_tells 3 = .ok (.invokevirtual 13, 3) := by decide +kernel
theorem dX4_tells_6 : decode cX4_tells 6 = .ok (.aload_n 0, 1) := by decide +kernel
theorem dX4_tells_7 : decode cX4_tells 7 = .ok (.aload_n 1, 1) := by decide +kernel
theorem dX4_tells_8 : decode cX4_tells 8 = .ok (.iload_n 2, 1) := by decide +kernel
theorem dX4_tells_9 : decode cX4_tells 9 = .ok (.invokespecial 19, 3) := by decide +kernel
theorem dX4_tells_12 : decode cX4_tells 12 = .ok (.aload_n 0, 1) := by decide +kernel
theorem dX4_tells_13 : decode cX4_tells 13 = .ok (.aload_n 1, 1) := by decide +kernel
theorem dX4_tells_14 : decode cX4_tells 14 = .ok (.iconst 1, 1) := by decide +kernel
theorem dX4_tells_15 : decode cX4_tells 15 = .ok (.invokevirtual 23, 3) := by decide +kernel
theorem dX4_tells_18 : decode cX4_tells 18 = .ok (.iadd, 1) := by decide +kernel
theorem dX4_tells_19 : decode cX4_tells 19 = .ok (.ireturn, 1) := by decide +kernel
theorem dX5_init_0 : decode cX5_init 0 = .ok (.aload_n 0, 1) := by decide +kernel
theorem dX5_init_1 : decode cX5_init 1 = .ok (.invokespecial 3, 3) := by decide +kernel
theorem dX5_init_4 : decode cX5_init 4 = .ok (.aload_n 0, 1) := by decide +kernel
theorem dX5_init_5 : decode cX5_init 5 = .ok (.iload_n 1, 1) := by decide +kernel
theorem dX5_init_6 : decode cX5_init 6 = .ok (.putfield 9, 3) := by decide +kernel
theorem dX5_init_9 : decode cX5_init 9 = .ok (.aload_n 0, 1) := by decide +kernel
theorem dX5_init_10 : decode cX5_init 10 = .ok (.iload_n 1, 1) := by decide +kernel
theorem dX5_init_11 : decode cX5_init 11 = .ok (.iconst 3, 1) := by decide +kernel
theorem dX5_init_12 : decode cX5_init 12 = .ok (.imul, 1) := by decide +kernel
theorem dX5_init_13 : decode cX5_init 13 = .ok (.newarray .int, 2) := by decide +kernel
theorem dX5_init_15 : decode cX5_init 15 = .ok (.putfield 15, 3) := by decide +kernel
theorem dX5_init_18 : decode cX5_init 18 = .ok (.return_, 1) := by decide +kernel
theorem dX5_clear_0 : decode cX5_clear 0 = .ok (.aload_n 0, 1) := by decide +kernel
theorem dX5_clear_1 : decode cX5_clear 1 = .ok (.iconst 0, 1) := by decide +kernel
theorem dX5_clear_2 : decode cX5_clear 2 = .ok (.putfield 19, 3) := by decide +kernel
theorem dX5_clear_5 : decode cX5_clear 5 = .ok (.iconst 0, 1) := by decide +kernel
theorem dX5_clear_6 : decode cX5_clear 6 = .ok (.ireturn, 1) := by decide +kernel
theorem dX5_add_0 : decode cX5_add 0 = .ok (.aload_n 0, 1) := by decide +kernel
theorem dX5_add_1 : decode cX5_add 1 = .ok (.getfield 19, 3) := by decide +kernel
theorem dX5_add_4 : decode cX5_add 4 = .ok (.aload_n 0, 1) := by decide +kernel
theorem dX5_add_5 : decode cX5_add 5 = .ok (.getfield 9, 3) := by decide +kernel
theorem dX5_add_8 : decode cX5_add 8 = .ok (.if_icmp .lt 6, 3) := by decide +kernel
theorem dX5_add_11 : decode cX5_add 11 = .ok (.bipush (-4), 2) := by decide +kernel
theorem dX5_add_13 : decode cX5_add 13 = .ok (.ireturn, 1) := by decide +kernel
theorem dX5_add_14 : decode cX5_add 14 = .ok (.aload_n 0, 1) := by decide +kernel
theorem dX5_add_15 : decode cX5_add 15 = .ok (.getfield 15, 3) := by decide +kernel
theorem dX5_add_18 : decode cX5_add 18 = .ok (.aload_n 0, 1) := by decide +kernel
theorem dX5_add_19 : decode cX5_add 19 = .ok (.getfield 19, 3) := by decide +kernel
theorem dX5_add_22 : decode cX5_add 22 = .ok (.iconst 3, 1) := by decide +kernel
theorem dX5_add_23 : decode cX5_add 23 = .ok (.imul, 1) := by decide +kernel
theorem dX5_add_24 : decode cX5_add 24 = .ok (.iload_n 1, 1) := by decide +kernel
theorem dX5_add_25 : decode cX5_add 25 = .ok (.iastore, 1) := by decide +kernel
theorem dX5_add_26 : decode cX5_add 26 = .ok (.aload_n 0, 1) := by decide +kernel
theorem dX5_add_27 : decode cX5_add 27 = .ok (.getfield 15, 3) := by decide +kernel
theorem dX5_add_30 : decode cX5_add 30 = .ok (.aload_n 0, 1) := by decide +kernel
theorem dX5_add_31 : decode cX5_add 31 = .ok (.getfield 19, 3) := by decide +kernel
theorem dX5_add_34 : decode cX5_add 34 = .ok (.iconst 3, 1) := by decide +kernel
theorem dX5_add_35 : decode cX5_add 35 = .ok (.imul, 1) := by decide +kernel
theorem dX5_add_36 : decode cX5_add 36 = .ok (.iconst 1, 1) := by decide +kernel
theorem dX5_add_37 : decode cX5_add 37 = .ok (.iadd, 1) := by decide +kernel
theorem dX5_add_38 : decode cX5_add 38 = .ok (.iload_n 2, 1) := by decide +kernel
theorem dX5_add_39 : decode cX5_add 39 = .ok (.iastore, 1) := by decide +kernel
theorem dX5_add_40 : decode cX5_add 40 = .ok (.aload_n 0, 1) := by decide +kernel
theorem dX5_add_41 : decode cX5_add 41 = .ok (.getfield 15, 3) := by decide +kernel
theorem dX5_add_44 : decode cX5_add 44 = .ok (.aload_n 0, 1) := by decide +kernel
theorem dX5_add_45 : decode cX5_add 45 = .ok (.getfield 19, 3) := by decide +kernel
theorem dX5_add_48 : decode cX5_add 48 = .ok (.iconst 3, 1) := by decide +kernel
theorem dX5_add_49 : decode cX5_add 49 = .ok (.imul, 1) := by decide +kernel
theorem dX5_add_50 : decode cX5_add 50 = .ok (.iconst 2, 1) := by decide +kernel
theorem dX5_add_51 : decode cX5_add 51 = .ok (.iadd, 1) := by decide +kernel
theorem dX5_add_52 : decode cX5_add 52 = .ok (.iload_n 3, 1) := by decide +kernel
theorem dX5_add_53 : decode cX5_add 53 = .ok (.iastore, 1) := by decide +kernel
theorem dX5_add_54 : decode cX5_add 54 = .ok (.aload_n 0, 1) := by decide +kernel
theorem dX5_add_55 : decode cX5_add 55 = .ok (.dup, 1) := by decide +kernel
theorem dX5_add_56 : decode cX5_add 56 = .ok (.getfield 19, 3) := by decide +kernel
theorem dX5_add_59 : decode cX5_add 59 = .ok (.iconst 1, 1) := by decide +kernel
theorem dX5_add_60 : decode cX5_add 60 = .ok (.iadd, 1) := by decide +kernel
theorem dX5_add_61 : decode cX5_add 61 = .ok (.putfield 19, 3) := by decide +kernel
theorem dX5_add_64 : decode cX5_add 64 = .ok (.aload_n 0, 1) := by decide +kernel
theorem dX5_add_65 : decode cX5_add 65 = .ok (.getfield 19, 3) := by decide +kernel
theorem dX5_add_68 : decode cX5_add 68 = .ok (.ireturn, 1) := by decide +kernel
theorem dX5_part_0 : decode cX5_part 0 = .ok (.aload_n 0, 1) := by decide +kernel
theorem dX5_part_1 : decode cX5_part 1 = .ok (.getfield 15, 3) := by decide +kernel
theorem dX5_part_4 : decode cX5_part 4 = .ok (.iload_n 1, 1) := by decide +kernel
theorem dX5_part_5 : decode cX5_part 5 = .ok (.iconst 3, 1) := by decide +kernel
theorem dX5_part_6 : decode cX5_part 6 = .ok (.imul, 1) := by decide +kernel
theorem dX5_part_7 : decode cX5_part 7 = .ok (.iload_n 2, 1) := by decide +kernel
theorem dX5_part_8 : decode cX5_part 8 = .ok (.iadd, 1) := by decide +kernel
theorem dX5_part_9 : decode cX5_part 9 = .ok (.iaload, 1) := by decide +kernel
theorem dX5_part_10 : decode cX5_part 10 = .ok (.ireturn, 1) := by decide +kernel
theorem dX5_take_0 : decode cX5_take 0 = .ok (.aload_n 0, 1) := by decide +kernel
theorem dX5_take_1 : decode cX5_take 1 = .ok (.aload_n 1, 1) := by decide +kernel
theorem dX5_take_2 : decode cX5_take 2 = .ok (.getfield 19, 3) := by decide +kernel
theorem dX5_take_5 : decode cX5_take 5 = .ok (.putfield 19, 3) := by decide +kernel
theorem dX5_take_8 : decode cX5_take 8 = .ok (.aload_n 1, 1) := by decide +kernel
theorem dX5_take_9 : decode cX5_take 9 = .ok (.getfield 15, 3) := by decide +kernel
theorem dX5_take_12 : decode cX5_take 12 = .ok (.iconst 0, 1) := by decide +kernel
theorem dX5_take_13 : decode cX5_take 13 = .ok (.aload_n 0, 1) := by decide +kernel
theorem dX5_take_14 : decode cX5_take 14 = .ok (.getfield 15, 3) := by decide +kernel
theorem dX5_take_17 : decode cX5_take 17 = .ok (.iconst 0, 1) := by decide +kernel
theorem dX5_take_18 : decode cX5_take 18 = .ok (.aload_n 0, 1) := by decide +kernel
theorem dX5_take_19 : decode cX5_take 19 = .ok (.getfield 15, 3) := by decide +kernel
theorem dX5_take_22 : decode cX5_take 22 = .ok (.arraylength, 1) := by decide +kernel
theorem dX5_take_23 : decode cX5_take 23 = .ok (.invokestatic 22, 3) := by decide +kernel
theorem dX5_take_26 : decode cX5_take 26 = .ok (.return_, 1) := by decide +kernel
theorem dX6_init_0 : decode cX6_init 0 = .ok (.aload_n 0, 1) := by decide +kernel
theorem dX6_init_1 : decode cX6_init 1 = .ok (.invokespecial 1, 3) := by decide +kernel
theorem dX6_init_4 : decode cX6_init 4 = .ok (.return_, 1) := by decide +kernel
theorem dX6_tread_0 : decode cX6_tread 0 = .ok (.iconst 1, 1) := by decide +kernel
theorem dX6_tread_1 : decode cX6_tread 1 = .ok (.ireturn, 1) := by decide +kernel
theorem dX6_pullBy_0 : decode cX6_pullBy 0 = .ok (.iload_n 1, 1) := by decide +kernel
theorem dX6_pullBy_1 : decode cX6_pullBy 1 = .ok (.ineg, 1) := by decide +kernel
theorem dX6_pullBy_2 : decode cX6_pullBy 2 = .ok (.ireturn, 1) := by decide +kernel
theorem dX6_bows_0 : decode cX6_bows 0 = .ok (.aload_n 1, 1) := by decide +kernel
theorem dX6_bows_1 : decode cX6_bows 1 = .ok (.bipush 30, 2) := by decide +kernel
theorem dX6_bows_3 : decode cX6_bows 3 = .ok (.invokevirtual 7, 3) := by decide +kernel
theorem dX6_bows_6 : decode cX6_bows 6 = .ok (.aload_n 0, 1) := by decide +kernel
theorem dX6_bows_7 : decode cX6_bows 7 = .ok (.aload_n 1, 1) := by decide +kernel
theorem dX6_bows_8 : decode cX6_bows 8 = .ok (.iload_n 2, 1) := by decide +kernel
theorem dX6_bows_9 : decode cX6_bows 9 = .ok (.iconst 3, 1) := by decide +kernel
theorem dX6_bows_10 : decode cX6_bows 10 = .ok (.imul, 1) := by decide +kernel
theorem dX6_bows_11 : decode cX6_bows 11 = .ok (.invokespecial 13, 3) := by decide +kernel
theorem dX6_bows_14 : decode cX6_bows 14 = .ok (.ireturn, 1) := by decide +kernel
theorem dX7_init_0 : decode cX7_init 0 = .ok (.aload_n 0, 1) := by decide +kernel
theorem dX7_init_1 : decode cX7_init 1 = .ok (.invokespecial 3, 3) := by decide +kernel
theorem dX7_init_4 : decode cX7_init 4 = .ok (.aload_n 0, 1) := by decide +kernel
theorem dX7_init_5 : decode cX7_init 5 = .ok (.bipush 100, 2) := by decide +kernel
theorem dX7_init_7 : decode cX7_init 7 = .ok (.newarray .int, 2) := by decide +kernel
theorem dX7_init_9 : decode cX7_init 9 = .ok (.putfield 9, 3) := by decide +kernel
theorem dX7_init_12 : decode cX7_init 12 = .ok (.aload_n 0, 1) := by decide +kernel
theorem dX7_init_13 : decode cX7_init 13 = .ok (.bipush 95, 2) := by decide +kernel
theorem dX7_init_15 : decode cX7_init 15 = .ok (.putfield 15, 3) := by decide +kernel
theorem dX7_init_18 : decode cX7_init 18 = .ok (.return_, 1) := by decide +kernel
theorem dX7_readFrom_0 : decode cX7_readFrom 0 = .ok (.aload_n 0, 1) := by decide +kernel
theorem dX7_readFrom_1 : decode cX7_readFrom 1 = .ok (.aload_n 1, 1) := by decide +kernel
theorem dX7_readFrom_2 : decode cX7_readFrom 2 = .ok (.putfield 19, 3) := by decide +kernel
theorem dX7_readFrom_5 : decode cX7_readFrom 5 = .ok (.aload_n 0, 1) := by decide +kernel
theorem dX7_readFrom_6 : decode cX7_readFrom 6 = .ok (.iload_n 2, 1) := by decide +kernel
theorem dX7_readFrom_7 : decode cX7_readFrom 7 = .ok (.putfield 23, 3) := by decide +kernel
theorem dX7_readFrom_10 : decode cX7_readFrom 10 = .ok (.aload_n 0, 1) := by decide +kernel
theorem dX7_readFrom_11 : decode cX7_readFrom 11 = .ok (.iconst 0, 1) := by decide +kernel
theorem dX7_readFrom_12 : decode cX7_readFrom 12 = .ok (.putfield 26, 3) := by decide +kernel
theorem dX7_readFrom_15 : decode cX7_readFrom 15 = .ok (.aload_n 0, 1) := by decide +kernel
theorem dX7_readFrom_16 : decode cX7_readFrom 16 = .ok (.bipush 95, 2) := by decide +kernel
theorem dX7_readFrom_18 : decode cX7_readFrom 18 = .ok (.putfield 15, 3) := by decide +kernel
theorem dX7_readFrom_21 : decode cX7_readFrom 21 = .ok (.aload_n 0, 1) := by decide +kernel
theorem dX7_readFrom_22 : decode cX7_readFrom 22 = .ok (.iconst 0, 1) := by decide +kernel
theorem dX7_readFrom_23 : decode cX7_readFrom 23 = .ok (.invokevirtual 29, 3) := by decide +kernel
theorem dX7_readFrom_26 : decode cX7_readFrom 26 = .ok (.iconst 1, 1) := by decide +kernel
theorem dX7_readFrom_27 : decode cX7_readFrom 27 = .ok (.istore_n 3, 1) := by decide +kernel
theorem dX7_readFrom_28 : decode cX7_readFrom 28 = .ok (.iload_n 3, 1) := by decide +kernel
theorem dX7_readFrom_29 : decode cX7_readFrom 29 = .ok (.bipush 10, 2) := by decide +kernel
theorem dX7_readFrom_31 : decode cX7_readFrom 31 = .ok (.if_icmp .gt 55, 3) := by decide +kernel
theorem dX7_readFrom_34 : decode cX7_readFrom 34 = .ok (.aload_n 0, 1) := by decide +kernel
theorem dX7_readFrom_35 : decode cX7_readFrom 35 = .ok (.invokevirtual 33, 3) := by decide +kernel
theorem dX7_readFrom_38 : decode cX7_readFrom 38 = .ok (.ifCond .ne 5, 3) := by decide +kernel
theorem dX7_readFrom_41 : decode cX7_readFrom 41 = .ok (.iconst 0, 1) := by decide +kernel
theorem dX7_readFrom_42 : decode cX7_readFrom 42 = .ok (.ireturn, 1) := by decide +kernel
theorem dX7_readFrom_43 : decode cX7_readFrom 43 = .ok (.aload_n 0, 1) := by decide +kernel
theorem dX7_readFrom_44 : decode cX7_readFrom 44 = .ok (.getfield 37, 3) := by decide +kernel
theorem dX7_readFrom_47 : decode cX7_readFrom 47 = .ok (.iconst (-1), 1) := by decide +kernel
theorem dX7_readFrom_48 : decode cX7_readFrom 48 = .ok (.if_icmp .ne 5, 3) := by decide +kernel
theorem dX7_readFrom_51 : decode cX7_readFrom 51 = .ok (.iconst 1, 1) := by decide +kernel
theorem dX7_readFrom_52 : decode cX7_readFrom 52 = .ok (.ireturn, 1) := by decide +kernel
theorem dX7_readFrom_53 : decode cX7_readFrom 53 = .ok (.aload_n 0, 1) := by decide +kernel
theorem dX7_readFrom_54 : decode cX7_readFrom 54 = .ok (.getfield 37, 3) := by decide +kernel
theorem dX7_readFrom_57 : decode cX7_readFrom 57 = .ok (.bipush 59, 2) := by decide +kernel
theorem dX7_readFrom_59 : decode cX7_readFrom 59 = .ok (.if_icmp .ne 9, 3) := by decide +kernel
theorem dX7_readFrom_62 : decode cX7_readFrom 62 = .ok (.iload_n 3, 1) := by decide +kernel
theorem dX7_readFrom_63 : decode cX7_readFrom 63 = .ok (.bipush 10, 2) := by decide +kernel
theorem dX7_readFrom_65 : decode cX7_readFrom 65 = .ok (.if_icmp .ne 5, 3) := by decide +kernel
theorem dX7_readFrom_68 : decode cX7_readFrom 68 = .ok (.iconst 0, 1) := by decide +kernel
theorem dX7_readFrom_69 : decode cX7_readFrom 69 = .ok (.ireturn, 1) := by decide +kernel
theorem dX7_readFrom_70 : decode cX7_readFrom 70 = .ok (.aload_n 0, 1) := by decide +kernel
theorem dX7_readFrom_71 : decode cX7_readFrom 71 = .ok (.aload_n 0, 1) := by decide +kernel
theorem dX7_readFrom_72 : decode cX7_readFrom 72 = .ok (.getfield 40, 3) := by decide +kernel
theorem dX7_readFrom_75 : decode cX7_readFrom 75 = .ok (.iconst 1, 1) := by decide +kernel
theorem dX7_readFrom_76 : decode cX7_readFrom 76 = .ok (.iadd, 1) := by decide +kernel
theorem dX7_readFrom_77 : decode cX7_readFrom 77 = .ok (.invokevirtual 29, 3) := by decide +kernel
theorem dX7_readFrom_80 : decode cX7_readFrom 80 = .ok (.iinc 3 1, 3) := by decide +kernel
theorem dX7_readFrom_83 : decode cX7_readFrom 83 = .ok (.goto (-55), 3) := by decide +kernel
theorem dX7_readFrom_86 : decode cX7_readFrom 86 = .ok (.iconst 0, 1) := by decide +kernel
theorem dX7_readFrom_87 : decode cX7_readFrom 87 = .ok (.ireturn, 1) := by decide +kernel
theorem dX7_goTo_0 : decode cX7_goTo 0 = .ok (.aload_n 0, 1) := by decide +kernel
theorem dX7_goTo_1 : decode cX7_goTo 1 = .ok (.iload_n 1, 1) := by decide +kernel
theorem dX7_goTo_2 : decode cX7_goTo 2 = .ok (.putfield 40, 3) := by decide +kernel
theorem dX7_goTo_5 : decode cX7_goTo 5 = .ok (.aload_n 0, 1) := by decide +kernel
theorem dX7_goTo_6 : decode cX7_goTo 6 = .ok (.iload_n 1, 1) := by decide +kernel
theorem dX7_goTo_7 : decode cX7_goTo 7 = .ok (.ifCond .lt 20, 3) := by decide +kernel
theorem dX7_goTo_10 : decode cX7_goTo 10 = .ok (.iload_n 1, 1) := by decide +kernel
theorem dX7_goTo_11 : decode cX7_goTo 11 = .ok (.aload_n 0, 1) := by decide +kernel
theorem dX7_goTo_12 : decode cX7_goTo 12 = .ok (.getfield 23, 3) := by decide +kernel
theorem dX7_goTo_15 : decode cX7_goTo 15 = .ok (.if_icmp .ge 12, 3) := by decide +kernel
theorem dX7_goTo_18 : decode cX7_goTo 18 = .ok (.aload_n 0, 1) := by decide +kernel
theorem dX7_goTo_19 : decode cX7_goTo 19 = .ok (.getfield 19, 3) := by decide +kernel
theorem dX7_goTo_22 : decode cX7_goTo 22 = .ok (.iload_n 1, 1) := by decide +kernel
theorem dX7_goTo_23 : decode cX7_goTo 23 = .ok (.baload, 1) := by decide +kernel
theorem dX7_goTo_24 : decode cX7_goTo 24 = .ok (.goto 4, 3) := by decide +kernel
theorem dX7_goTo_27 : decode cX7_goTo 27 = .ok (.iconst (-1), 1) := by decide +kernel
theorem dX7_goTo_28 : decode cX7_goTo 28 = .ok (.putfield 37, 3) := by decide +kernel
theorem dX7_goTo_31 : decode cX7_goTo 31 = .ok (.return_, 1) := by decide +kernel
theorem dX7_readWord_0 : decode cX7_readWord 0 = .ok (.iconst 0, 1) := by decide +kernel
theorem dX7_readWord_1 : decode cX7_readWord 1 = .ok (.istore_n 2, 1) := by decide +kernel
theorem dX7_readWord_2 : decode cX7_readWord 2 = .ok (.iload_n 2, 1) := by decide +kernel
theorem dX7_readWord_3 : decode cX7_readWord 3 = .ok (.aload_n 1, 1) := by decide +kernel
theorem dX7_readWord_4 : decode cX7_readWord 4 = .ok (.invokevirtual 43, 3) := by decide +kernel
theorem dX7_readWord_7 : decode cX7_readWord 7 = .ok (.if_icmp .ge 33, 3) := by decide +kernel
theorem dX7_readWord_10 : decode cX7_readWord 10 = .ok (.aload_n 0, 1) := by decide +kernel
theorem dX7_readWord_11 : decode cX7_readWord 11 = .ok (.getfield 37, 3) := by decide +kernel
theorem dX7_readWord_14 : decode cX7_readWord 14 = .ok (.aload_n 1, 1) := by decide +kernel
theorem dX7_readWord_15 : decode cX7_readWord 15 = .ok (.iload_n 2, 1) := by decide +kernel
theorem dX7_readWord_16 : decode cX7_readWord 16 = .ok (.invokevirtual 48, 3) := by decide +kernel
theorem dX7_readWord_19 : decode cX7_readWord 19 = .ok (.if_icmp .eq 5, 3) := by decide +kernel
theorem dX7_readWord_22 : decode cX7_readWord 22 = .ok (.iconst 0, 1) := by decide +kernel
theorem dX7_readWord_23 : decode cX7_readWord 23 = .ok (.ireturn, 1) := by decide +kernel
theorem dX7_readWord_24 : decode cX7_readWord 24 = .ok (.aload_n 0, 1) := by decide +kernel
theorem dX7_readWord_25 : decode cX7_readWord 25 = .ok (.aload_n 0, 1) := by decide +kernel
theorem dX7_readWord_26 : decode cX7_readWord 26 = .ok (.getfield 40, 3) := by decide +kernel
theorem dX7_readWord_29 : decode cX7_readWord 29 = .ok (.iconst 1, 1) := by decide +kernel
theorem dX7_readWord_30 : decode cX7_readWord 30 = .ok (.iadd, 1) := by decide +kernel
theorem dX7_readWord_31 : decode cX7_readWord 31 = .ok (.invokevirtual 29, 3) := by decide +kernel
theorem dX7_readWord_34 : decode cX7_readWord 34 = .ok (.iinc 2 1, 3) := by decide +kernel
theorem dX7_readWord_37 : decode cX7_readWord 37 = .ok (.goto (-35), 3) := by decide +kernel
theorem dX7_readWord_40 : decode cX7_readWord 40 = .ok (.iconst 1, 1) := by decide +kernel
theorem dX7_readWord_41 : decode cX7_readWord 41 = .ok (.ireturn, 1) := by decide +kernel
theorem dX7_readClause_0 : decode cX7_readClause 0 = .ok (.iconst 4, 1) := by decide +kernel
theorem dX7_readClause_1 : decode cX7_readClause 1 = .ok (.istore_n 1, 1) := by decide +kernel
theorem dX7_readClause_2 : decode cX7_readClause 2 = .ok (.aload_n 0, 1) := by decide +kernel
theorem dX7_readClause_3 : decode cX7_readClause 3 = .ok (.getfield 37, 3) := by decide +kernel
theorem dX7_readClause_6 : decode cX7_readClause 6 = .ok (.bipush 100, 2) := by decide +kernel
theorem dX7_readClause_8 : decode cX7_readClause 8 = .ok (.if_icmp .ne 14, 3) := by decide +kernel
theorem dX7_readClause_11 : decode cX7_readClause 11 = .ok (.aload_n 0, 1) := by decide +kernel
theorem dX7_readClause_12 : decode cX7_readClause 12 = .ok (.ldc 52, 2) := by decide +kernel
theorem dX7_readClause_14 : decode cX7_readClause 14 = .ok (.invokevirtual 54, 3) := by decide +kernel
theorem dX7_readClause_17 : decode cX7_readClause 17 = .ok (.ifCond .ne 43, 3) := by decide +kernel
theorem dX7_readClause_20 : decode cX7_readClause 20 = .ok (.iconst 0, 1) := by decide +kernel
theorem dX7_readClause_21 : decode cX7_readClause 21 = .ok (.ireturn, 1) := by decide +kernel
theorem dX7_readClause_22 : decode cX7_readClause 22 = .ok (.aload_n 0, 1) := by decide +kernel
theorem dX7_readClause_23 : decode cX7_readClause 23 = .ok (.ldc 58, 2) := by decide +kernel
theorem dX7_readClause_25 : decode cX7_readClause 25 = .ok (.invokevirtual 54, 3) := by decide +kernel
theorem dX7_readClause_28 : decode cX7_readClause 28 = .ok (.ifCond .ne 5, 3) := by decide +kernel
theorem dX7_readClause_31 : decode cX7_readClause 31 = .ok (.iconst 0, 1) := by decide +kernel
theorem dX7_readClause_32 : decode cX7_readClause 32 = .ok (.ireturn, 1) := by decide +kernel
theorem dX7_readClause_33 : decode cX7_readClause 33 = .ok (.iconst 5, 1) := by decide +kernel
theorem dX7_readClause_34 : decode cX7_readClause 34 = .ok (.istore_n 1, 1) := by decide +kernel
theorem dX7_readClause_35 : decode cX7_readClause 35 = .ok (.aload_n 0, 1) := by decide +kernel
theorem dX7_readClause_36 : decode cX7_readClause 36 = .ok (.getfield 37, 3) := by decide +kernel
theorem dX7_readClause_39 : decode cX7_readClause 39 = .ok (.bipush 114, 2) := by decide +kernel
theorem dX7_readClause_41 : decode cX7_readClause 41 = .ok (.if_icmp .eq 8, 3) := by decide +kernel
theorem dX7_readClause_44 : decode cX7_readClause 44 = .ok (.aload_n 0, 1) := by decide +kernel
theorem dX7_readClause_45 : decode cX7_readClause 45 = .ok (.invokevirtual 60, 3) := by decide +kernel
theorem dX7_readClause_48 : decode cX7_readClause 48 = .ok (.ireturn, 1) := by decide +kernel
theorem dX7_readClause_49 : decode cX7_readClause 49 = .ok (.aload_n 0, 1) := by decide +kernel
theorem dX7_readClause_50 : decode cX7_readClause 50 = .ok (.ldc 63, 2) := by decide +kernel
theorem dX7_readClause_52 : decode cX7_readClause 52 = .ok (.invokevirtual 54, 3) := by decide +kernel
theorem dX7_readClause_55 : decode cX7_readClause 55 = .ok (.ifCond .ne 5, 3) := by decide +kernel
theorem dX7_readClause_58 : decode cX7_readClause 58 = .ok (.iconst 0, 1) := by decide +kernel
theorem dX7_readClause_59 : decode cX7_readClause 59 = .ok (.ireturn, 1) := by decide +kernel
theorem dX7_readClause_60 : decode cX7_readClause 60 = .ok (.aload_n 0, 1) := by decide +kernel
theorem dX7_readClause_61 : decode cX7_readClause 61 = .ok (.invokevirtual 65, 3) := by decide +kernel
theorem dX7_readClause_64 : decode cX7_readClause 64 = .ok (.istore_n 2, 1) := by decide +kernel
theorem dX7_readClause_65 : decode cX7_readClause 65 = .ok (.iload_n 2, 1) := by decide +kernel
theorem dX7_readClause_66 : decode cX7_readClause 66 = .ok (.iconst (-1), 1) := by decide +kernel
theorem dX7_readClause_67 : decode cX7_readClause 67 = .ok (.if_icmp .eq 20, 3) := by decide +kernel
theorem dX7_readClause_70 : decode cX7_readClause 70 = .ok (.aload_n 0, 1) := by decide +kernel
theorem dX7_readClause_71 : decode cX7_readClause 71 = .ok (.ldc 68, 2) := by decide +kernel
theorem dX7_readClause_73 : decode cX7_readClause 73 = .ok (.invokevirtual 54, 3) := by decide +kernel
theorem dX7_readClause_76 : decode cX7_readClause 76 = .ok (.ifCond .eq 11, 3) := by decide +kernel
theorem dX7_readClause_79 : decode cX7_readClause 79 = .ok (.aload_n 0, 1) := by decide +kernel
theorem dX7_readClause_80 : decode cX7_readClause 80 = .ok (.iconst 0, 1) := by decide +kernel
theorem dX7_readClause_81 : decode cX7_readClause 81 = .ok (.invokevirtual 70, 3) := by decide +kernel
theorem dX7_readClause_84 : decode cX7_readClause 84 = .ok (.ifCond .ne 5, 3) := by decide +kernel
theorem dX7_readClause_87 : decode cX7_readClause 87 = .ok (.iconst 0, 1) := by decide +kernel
theorem dX7_readClause_88 : decode cX7_readClause 88 = .ok (.ireturn, 1) := by decide +kernel
theorem dX7_readClause_89 : decode cX7_readClause 89 = .ok (.aload_n 0, 1) := by decide +kernel
theorem dX7_readClause_90 : decode cX7_readClause 90 = .ok (.iload_n 1, 1) := by decide +kernel
theorem dX7_readClause_91 : decode cX7_readClause 91 = .ok (.iload_n 2, 1) := by decide +kernel
theorem dX7_readClause_92 : decode cX7_readClause 92 = .ok (.invokevirtual 74, 3) := by decide +kernel
theorem dX7_readClause_95 : decode cX7_readClause 95 = .ok (.iconst 1, 1) := by decide +kernel
theorem dX7_readClause_96 : decode cX7_readClause 96 = .ok (.ireturn, 1) := by decide +kernel
theorem dX7_readBald_0 : decode cX7_readBald 0 = .ok (.aload_n 0, 1) := by decide +kernel
theorem dX7_readBald_1 : decode cX7_readBald 1 = .ok (.ldc 78, 2) := by decide +kernel
theorem dX7_readBald_3 : decode cX7_readBald 3 = .ok (.invokevirtual 54, 3) := by decide +kernel
theorem dX7_readBald_6 : decode cX7_readBald 6 = .ok (.ifCond .ne 5, 3) := by decide +kernel
theorem dX7_readBald_9 : decode cX7_readBald 9 = .ok (.iconst 0, 1) := by decide +kernel
theorem dX7_readBald_10 : decode cX7_readBald 10 = .ok (.ireturn, 1) := by decide +kernel
theorem dX7_readBald_11 : decode cX7_readBald 11 = .ok (.aload_n 0, 1) := by decide +kernel
theorem dX7_readBald_12 : decode cX7_readBald 12 = .ok (.invokevirtual 65, 3) := by decide +kernel
theorem dX7_readBald_15 : decode cX7_readBald 15 = .ok (.istore_n 1, 1) := by decide +kernel
theorem dX7_readBald_16 : decode cX7_readBald 16 = .ok (.iload_n 1, 1) := by decide +kernel
theorem dX7_readBald_17 : decode cX7_readBald 17 = .ok (.iconst (-1), 1) := by decide +kernel
theorem dX7_readBald_18 : decode cX7_readBald 18 = .ok (.if_icmp .ne 5, 3) := by decide +kernel
theorem dX7_readBald_21 : decode cX7_readBald 21 = .ok (.iconst 0, 1) := by decide +kernel
theorem dX7_readBald_22 : decode cX7_readBald 22 = .ok (.ireturn, 1) := by decide +kernel
theorem dX7_readBald_23 : decode cX7_readBald 23 = .ok (.aload_n 0, 1) := by decide +kernel
theorem dX7_readBald_24 : decode cX7_readBald 24 = .ok (.iload_n 1, 1) := by decide +kernel
theorem dX7_readBald_25 : decode cX7_readBald 25 = .ok (.putfield 15, 3) := by decide +kernel
theorem dX7_readBald_28 : decode cX7_readBald 28 = .ok (.iconst 1, 1) := by decide +kernel
theorem dX7_readBald_29 : decode cX7_readBald 29 = .ok (.ireturn, 1) := by decide +kernel
theorem dX7_readNumber_0 : decode cX7_readNumber 0 = .ok (.aload_n 0, 1) := by decide +kernel
theorem dX7_readNumber_1 : decode cX7_readNumber 1 = .ok (.getfield 37, 3) := by decide +kernel
theorem dX7_readNumber_4 : decode cX7_readNumber 4 = .ok (.bipush 48, 2) := by decide +kernel
theorem dX7_readNumber_6 : decode cX7_readNumber 6 = .ok (.if_icmp .lt 12, 3) := by decide +kernel
theorem dX7_readNumber_9 : decode cX7_readNumber 9 = .ok (.aload_n 0, 1) := by decide +kernel
theorem dX7_readNumber_10 : decode cX7_readNumber 10 = .ok (.getfield 37, 3) := by decide +kernel
theorem dX7_readNumber_13 : decode cX7_readNumber 13 = .ok (.bipush 57, 2) := by decide +kernel
theorem dX7_readNumber_15 : decode cX7_readNumber 15 = .ok (.if_icmp .le 5, 3) := by decide +kernel
theorem dX7_readNumber_18 : decode cX7_readNumber 18 = .ok (.iconst (-1), 1) := by decide +kernel
theorem dX7_readNumber_19 : decode cX7_readNumber 19 = .ok (.ireturn, 1) := by decide +kernel
theorem dX7_readNumber_20 : decode cX7_readNumber 20 = .ok (.aload_n 0, 1) := by decide +kernel
theorem dX7_readNumber_21 : decode cX7_readNumber 21 = .ok (.getfield 37, 3) := by decide +kernel
theorem dX7_readNumber_24 : decode cX7_readNumber 24 = .ok (.bipush 48, 2) := by decide +kernel
theorem dX7_readNumber_26 : decode cX7_readNumber 26 = .ok (.isub, 1) := by decide +kernel
theorem dX7_readNumber_27 : decode cX7_readNumber 27 = .ok (.istore_n 1, 1) := by decide +kernel
theorem dX7_readNumber_28 : decode cX7_readNumber 28 = .ok (.aload_n 0, 1) := by decide +kernel
theorem dX7_readNumber_29 : decode cX7_readNumber 29 = .ok (.aload_n 0, 1) := by decide +kernel
theorem dX7_readNumber_30 : decode cX7_readNumber 30 = .ok (.getfield 40, 3) := by decide +kernel
theorem dX7_readNumber_33 : decode cX7_readNumber 33 = .ok (.iconst 1, 1) := by decide +kernel
theorem dX7_readNumber_34 : decode cX7_readNumber 34 = .ok (.iadd, 1) := by decide +kernel
theorem dX7_readNumber_35 : decode cX7_readNumber 35 = .ok (.invokevirtual 29, 3) := by decide +kernel
theorem dX7_readNumber_38 : decode cX7_readNumber 38 = .ok (.aload_n 0, 1) := by decide +kernel
theorem dX7_readNumber_39 : decode cX7_readNumber 39 = .ok (.getfield 37, 3) := by decide +kernel
theorem dX7_readNumber_42 : decode cX7_readNumber 42 = .ok (.bipush 48, 2) := by decide +kernel
theorem dX7_readNumber_44 : decode cX7_readNumber 44 = .ok (.if_icmp .lt 35, 3) := by decide +kernel
theorem dX7_readNumber_47 : decode cX7_readNumber 47 = .ok (.aload_n 0, 1) := by decide +kernel
theorem dX7_readNumber_48 : decode cX7_readNumber 48 = .ok (.getfield 37, 3) := by decide +kernel
theorem dX7_readNumber_51 : decode cX7_readNumber 51 = .ok (.bipush 57, 2) := by decide +kernel
theorem dX7_readNumber_53 : decode cX7_readNumber 53 = .ok (.if_icmp .gt 26, 3) := by decide +kernel
theorem dX7_readNumber_56 : decode cX7_readNumber 56 = .ok (.iload_n 1, 1) := by decide +kernel
theorem dX7_readNumber_57 : decode cX7_readNumber 57 = .ok (.bipush 10, 2) := by decide +kernel
theorem dX7_readNumber_59 : decode cX7_readNumber 59 = .ok (.imul, 1) := by decide +kernel
theorem dX7_readNumber_60 : decode cX7_readNumber 60 = .ok (.aload_n 0, 1) := by decide +kernel
theorem dX7_readNumber_61 : decode cX7_readNumber 61 = .ok (.getfield 37, 3) := by decide +kernel
theorem dX7_readNumber_64 : decode cX7_readNumber 64 = .ok (.iadd, 1) := by decide +kernel
theorem dX7_readNumber_65 : decode cX7_readNumber 65 = .ok (.bipush 48, 2) := by decide +kernel
theorem dX7_readNumber_67 : decode cX7_readNumber 67 = .ok (.isub, 1) := by decide +kernel
theorem dX7_readNumber_68 : decode cX7_readNumber 68 = .ok (.istore_n 1, 1) := by decide +kernel
theorem dX7_readNumber_69 : decode cX7_readNumber 69 = .ok (.aload_n 0, 1) := by decide +kernel
theorem dX7_readNumber_70 : decode cX7_readNumber 70 = .ok (.aload_n 0, 1) := by decide +kernel
theorem dX7_readNumber_71 : decode cX7_readNumber 71 = .ok (.getfield 40, 3) := by decide +kernel
theorem dX7_readNumber_74 : decode cX7_readNumber 74 = .ok (.iconst 1, 1) := by decide +kernel
theorem dX7_readNumber_75 : decode cX7_readNumber 75 = .ok (.iadd, 1) := by decide +kernel
theorem dX7_readNumber_76 : decode cX7_readNumber 76 = .ok (.invokevirtual 29, 3) := by decide +kernel
theorem dX7_readNumber_79 : decode cX7_readNumber 79 = .ok (.iload_n 1, 1) := by decide +kernel
theorem dX7_readNumber_80 : decode cX7_readNumber 80 = .ok (.ireturn, 1) := by decide +kernel
theorem dX7_readEither_0 : decode cX7_readEither 0 = .ok (.iconst 0, 1) := by decide +kernel
theorem dX7_readEither_1 : decode cX7_readEither 1 = .ok (.istore_n 2, 1) := by decide +kernel
theorem dX7_readEither_2 : decode cX7_readEither 2 = .ok (.iconst 0, 1) := by decide +kernel
theorem dX7_readEither_3 : decode cX7_readEither 3 = .ok (.istore_n 3, 1) := by decide +kernel
theorem dX7_readEither_4 : decode cX7_readEither 4 = .ok (.iconst 0, 1) := by decide +kernel
theorem dX7_readEither_5 : decode cX7_readEither 5 = .ok (.istore 4, 2) := by decide +kernel
theorem dX7_readEither_7 : decode cX7_readEither 7 = .ok (.iload 4, 2) := by decide +kernel
theorem dX7_readEither_9 : decode cX7_readEither 9 = .ok (.bipush 100, 2) := by decide +kernel
theorem dX7_readEither_11 : decode cX7_readEither 11 = .ok (.if_icmp .ge 89, 3) := by decide +kernel
theorem dX7_readEither_14 : decode cX7_readEither 14 = .ok (.aload_n 0, 1) := by decide +kernel
theorem dX7_readEither_15 : decode cX7_readEither 15 = .ok (.iload_n 1, 1) := by decide +kernel
theorem dX7_readEither_16 : decode cX7_readEither 16 = .ok (.invokevirtual 80, 3) := by decide +kernel
theorem dX7_readEither_19 : decode cX7_readEither 19 = .ok (.ifCond .ne 5, 3) := by decide +kernel
theorem dX7_readEither_22 : decode cX7_readEither 22 = .ok (.iconst 0, 1) := by decide +kernel
theorem dX7_readEither_23 : decode cX7_readEither 23 = .ok (.ireturn, 1) := by decide +kernel
theorem dX7_readEither_24 : decode cX7_readEither 24 = .ok (.iload_n 2, 1) := by decide +kernel
theorem dX7_readEither_25 : decode cX7_readEither 25 = .ok (.ifCond .eq 9, 3) := by decide +kernel
theorem dX7_readEither_28 : decode cX7_readEither 28 = .ok (.aload_n 0, 1) := by decide +kernel
theorem dX7_readEither_29 : decode cX7_readEither 29 = .ok (.iconst 2, 1) := by decide +kernel
theorem dX7_readEither_30 : decode cX7_readEither 30 = .ok (.iconst 0, 1) := by decide +kernel
theorem dX7_readEither_31 : decode cX7_readEither 31 = .ok (.invokevirtual 74, 3) := by decide +kernel
theorem dX7_readEither_34 : decode cX7_readEither 34 = .ok (.aload_n 0, 1) := by decide +kernel
theorem dX7_readEither_35 : decode cX7_readEither 35 = .ok (.getfield 37, 3) := by decide +kernel
theorem dX7_readEither_38 : decode cX7_readEither 38 = .ok (.bipush 38, 2) := by decide +kernel
theorem dX7_readEither_40 : decode cX7_readEither 40 = .ok (.if_icmp .ne 7, 3) := by decide +kernel
theorem dX7_readEither_43 : decode cX7_readEither 43 = .ok (.iconst 1, 1) := by decide +kernel
theorem dX7_readEither_44 : decode cX7_readEither 44 = .ok (.goto 4, 3) := by decide +kernel
theorem dX7_readEither_47 : decode cX7_readEither 47 = .ok (.iconst 0, 1) := by decide +kernel
theorem dX7_readEither_48 : decode cX7_readEither 48 = .ok (.istore_n 2, 1) := by decide +kernel
theorem dX7_readEither_49 : decode cX7_readEither 49 = .ok (.iload_n 2, 1) := by decide +kernel
theorem dX7_readEither_50 : decode cX7_readEither 50 = .ok (.ifCond .ne 34, 3) := by decide +kernel
theorem dX7_readEither_53 : decode cX7_readEither 53 = .ok (.iload_n 3, 1) := by decide +kernel
theorem dX7_readEither_54 : decode cX7_readEither 54 = .ok (.ifCond .eq 9, 3) := by decide +kernel
theorem dX7_readEither_57 : decode cX7_readEither 57 = .ok (.aload_n 0, 1) := by decide +kernel
theorem dX7_readEither_58 : decode cX7_readEither 58 = .ok (.iconst 3, 1) := by decide +kernel
theorem dX7_readEither_59 : decode cX7_readEither 59 = .ok (.iconst 0, 1) := by decide +kernel
theorem dX7_readEither_60 : decode cX7_readEither 60 = .ok (.invokevirtual 74, 3) := by decide +kernel
theorem dX7_readEither_63 : decode cX7_readEither 63 = .ok (.aload_n 0, 1) := by decide +kernel
theorem dX7_readEither_64 : decode cX7_readEither 64 = .ok (.getfield 37, 3) := by decide +kernel
theorem dX7_readEither_67 : decode cX7_readEither 67 = .ok (.bipush 124, 2) := by decide +kernel
theorem dX7_readEither_69 : decode cX7_readEither 69 = .ok (.if_icmp .ne 7, 3) := by decide +kernel
theorem dX7_readEither_72 : decode cX7_readEither 72 = .ok (.iconst 1, 1) := by decide +kernel
theorem dX7_readEither_73 : decode cX7_readEither 73 = .ok (.goto 4, 3) := by decide +kernel
theorem dX7_readEither_76 : decode cX7_readEither 76 = .ok (.iconst 0, 1) := by decide +kernel
theorem dX7_readEither_77 : decode cX7_readEither 77 = .ok (.istore_n 3, 1) := by decide +kernel
theorem dX7_readEither_78 : decode cX7_readEither 78 = .ok (.iload_n 3, 1) := by decide +kernel
theorem dX7_readEither_79 : decode cX7_readEither 79 = .ok (.ifCond .ne 5, 3) := by decide +kernel
theorem dX7_readEither_82 : decode cX7_readEither 82 = .ok (.iconst 1, 1) := by decide +kernel
theorem dX7_readEither_83 : decode cX7_readEither 83 = .ok (.ireturn, 1) := by decide +kernel
theorem dX7_readEither_84 : decode cX7_readEither 84 = .ok (.aload_n 0, 1) := by decide +kernel
theorem dX7_readEither_85 : decode cX7_readEither 85 = .ok (.aload_n 0, 1) := by decide +kernel
theorem dX7_readEither_86 : decode cX7_readEither 86 = .ok (.getfield 40, 3) := by decide +kernel
theorem dX7_readEither_89 : decode cX7_readEither 89 = .ok (.iconst 1, 1) := by decide +kernel
theorem dX7_readEither_90 : decode cX7_readEither 90 = .ok (.iadd, 1) := by decide +kernel
theorem dX7_readEither_91 : decode cX7_readEither 91 = .ok (.invokevirtual 29, 3) := by decide +kernel
theorem dX7_readEither_94 : decode cX7_readEither 94 = .ok (.iinc 4 1, 3) := by decide +kernel
theorem dX7_readEither_97 : decode cX7_readEither 97 = .ok (.goto (-90), 3) := by decide +kernel
theorem dX7_readEither_100 : decode cX7_readEither 100 = .ok (.iconst 0, 1) := by decide +kernel
theorem dX7_readEither_101 : decode cX7_readEither 101 = .ok (.ireturn, 1) := by decide +kernel
theorem dX7_readFactor_0 : decode cX7_readFactor 0 = .ok (.aload_n 0, 1) := by decide +kernel
theorem dX7_readFactor_1 : decode cX7_readFactor 1 = .ok (.getfield 37, 3) := by decide +kernel
theorem dX7_readFactor_4 : decode cX7_readFactor 4 = .ok (.bipush 33, 2) := by decide +kernel
theorem dX7_readFactor_6 : decode cX7_readFactor 6 = .ok (.if_icmp .eq 17, 3) := by decide +kernel
theorem dX7_readFactor_9 : decode cX7_readFactor 9 = .ok (.aload_n 0, 1) := by decide +kernel
theorem dX7_readFactor_10 : decode cX7_readFactor 10 = .ok (.getfield 37, 3) := by decide +kernel
theorem dX7_readFactor_13 : decode cX7_readFactor 13 = .ok (.bipush 40, 2) := by decide +kernel
theorem dX7_readFactor_15 : decode cX7_readFactor 15 = .ok (.if_icmp .eq 8, 3) := by decide +kernel
theorem dX7_readFactor_18 : decode cX7_readFactor 18 = .ok (.aload_n 0, 1) := by decide +kernel
theorem dX7_readFactor_19 : decode cX7_readFactor 19 = .ok (.invokevirtual 83, 3) := by decide +kernel
theorem dX7_readFactor_22 : decode cX7_readFactor 22 = .ok (.ireturn, 1) := by decide +kernel
theorem dX7_readFactor_23 : decode cX7_readFactor 23 = .ok (.iload_n 1, 1) := by decide +kernel
theorem dX7_readFactor_24 : decode cX7_readFactor 24 = .ok (.iconst 4, 1) := by decide +kernel
theorem dX7_readFactor_25 : decode cX7_readFactor 25 = .ok (.if_icmp .lt 5, 3) := by decide +kernel
theorem dX7_readFactor_28 : decode cX7_readFactor 28 = .ok (.iconst 0, 1) := by decide +kernel
theorem dX7_readFactor_29 : decode cX7_readFactor 29 = .ok (.ireturn, 1) := by decide +kernel
theorem dX7_readFactor_30 : decode cX7_readFactor 30 = .ok (.aload_n 0, 1) := by decide +kernel
theorem dX7_readFactor_31 : decode cX7_readFactor 31 = .ok (.getfield 37, 3) := by decide +kernel
theorem dX7_readFactor_34 : decode cX7_readFactor 34 = .ok (.bipush 33, 2) := by decide +kernel
theorem dX7_readFactor_36 : decode cX7_readFactor 36 = .ok (.if_icmp .ne 7, 3) := by decide +kernel
theorem dX7_readFactor_39 : decode cX7_readFactor 39 = .ok (.iconst 1, 1) := by decide +kernel
theorem dX7_readFactor_40 : decode cX7_readFactor 40 = .ok (.goto 4, 3) := by decide +kernel
theorem dX7_readFactor_43 : decode cX7_readFactor 43 = .ok (.iconst 0, 1) := by decide +kernel
theorem dX7_readFactor_44 : decode cX7_readFactor 44 = .ok (.istore_n 2, 1) := by decide +kernel
theorem dX7_readFactor_45 : decode cX7_readFactor 45 = .ok (.aload_n 0, 1) := by decide +kernel
theorem dX7_readFactor_46 : decode cX7_readFactor 46 = .ok (.aload_n 0, 1) := by decide +kernel
theorem dX7_readFactor_47 : decode cX7_readFactor 47 = .ok (.getfield 40, 3) := by decide +kernel
theorem dX7_readFactor_50 : decode cX7_readFactor 50 = .ok (.iconst 1, 1) := by decide +kernel
theorem dX7_readFactor_51 : decode cX7_readFactor 51 = .ok (.iadd, 1) := by decide +kernel
theorem dX7_readFactor_52 : decode cX7_readFactor 52 = .ok (.invokevirtual 29, 3) := by decide +kernel
theorem dX7_readFactor_55 : decode cX7_readFactor 55 = .ok (.iload_n 2, 1) := by decide +kernel
theorem dX7_readFactor_56 : decode cX7_readFactor 56 = .ok (.ifCond .ne 28, 3) := by decide +kernel
theorem dX7_readFactor_59 : decode cX7_readFactor 59 = .ok (.aload_n 0, 1) := by decide +kernel
theorem dX7_readFactor_60 : decode cX7_readFactor 60 = .ok (.iload_n 1, 1) := by decide +kernel
theorem dX7_readFactor_61 : decode cX7_readFactor 61 = .ok (.iconst 1, 1) := by decide +kernel
theorem dX7_readFactor_62 : decode cX7_readFactor 62 = .ok (.iadd, 1) := by decide +kernel
theorem dX7_readFactor_63 : decode cX7_readFactor 63 = .ok (.invokevirtual 70, 3) := by decide +kernel
theorem dX7_readFactor_66 : decode cX7_readFactor 66 = .ok (.ifCond .eq 16, 3) := by decide +kernel
theorem dX7_readFactor_69 : decode cX7_readFactor 69 = .ok (.aload_n 0, 1) := by decide +kernel
theorem dX7_readFactor_70 : decode cX7_readFactor 70 = .ok (.ldc 86, 2) := by decide +kernel
theorem dX7_readFactor_72 : decode cX7_readFactor 72 = .ok (.invokevirtual 54, 3) := by decide +kernel
theorem dX7_readFactor_75 : decode cX7_readFactor 75 = .ok (.ifCond .eq 7, 3) := by decide +kernel
theorem dX7_readFactor_78 : decode cX7_readFactor 78 = .ok (.iconst 1, 1) := by decide +kernel
theorem dX7_readFactor_79 : decode cX7_readFactor 79 = .ok (.goto 4, 3) := by decide +kernel
theorem dX7_readFactor_82 : decode cX7_readFactor 82 = .ok (.iconst 0, 1) := by decide +kernel
theorem dX7_readFactor_83 : decode cX7_readFactor 83 = .ok (.ireturn, 1) := by decide +kernel
theorem dX7_readFactor_84 : decode cX7_readFactor 84 = .ok (.aload_n 0, 1) := by decide +kernel
theorem dX7_readFactor_85 : decode cX7_readFactor 85 = .ok (.iload_n 1, 1) := by decide +kernel
theorem dX7_readFactor_86 : decode cX7_readFactor 86 = .ok (.iconst 1, 1) := by decide +kernel
theorem dX7_readFactor_87 : decode cX7_readFactor 87 = .ok (.iadd, 1) := by decide +kernel
theorem dX7_readFactor_88 : decode cX7_readFactor 88 = .ok (.invokevirtual 80, 3) := by decide +kernel
theorem dX7_readFactor_91 : decode cX7_readFactor 91 = .ok (.ifCond .ne 5, 3) := by decide +kernel
theorem dX7_readFactor_94 : decode cX7_readFactor 94 = .ok (.iconst 0, 1) := by decide +kernel
theorem dX7_readFactor_95 : decode cX7_readFactor 95 = .ok (.ireturn, 1) := by decide +kernel
theorem dX7_readFactor_96 : decode cX7_readFactor 96 = .ok (.aload_n 0, 1) := by decide +kernel
theorem dX7_readFactor_97 : decode cX7_readFactor 97 = .ok (.iconst 1, 1) := by decide +kernel
theorem dX7_readFactor_98 : decode cX7_readFactor 98 = .ok (.iconst 0, 1) := by decide +kernel
theorem dX7_readFactor_99 : decode cX7_readFactor 99 = .ok (.invokevirtual 74, 3) := by decide +kernel
theorem dX7_readFactor_102 : decode cX7_readFactor 102 = .ok (.iconst 1, 1) := by decide +kernel
theorem dX7_readFactor_103 : decode cX7_readFactor 103 = .ok (.ireturn, 1) := by decide +kernel
theorem dX7_readTest_0 : decode cX7_readTest 0 = .ok (.aload_n 0, 1) := by decide +kernel
theorem dX7_readTest_1 : decode cX7_readTest 1 = .ok (.getfield 37, 3) := by decide +kernel
theorem dX7_readTest_4 : decode cX7_readTest 4 = .ok (.ifCond .ge 7, 3) := by decide +kernel
theorem dX7_readTest_7 : decode cX7_readTest 7 = .ok (.iconst (-1), 1) := by decide +kernel
theorem dX7_readTest_8 : decode cX7_readTest 8 = .ok (.goto 13, 3) := by decide +kernel
theorem dX7_readTest_11 : decode cX7_readTest 11 = .ok (.ldc 88, 2) := by decide +kernel
theorem dX7_readTest_13 : decode cX7_readTest 13 = .ok (.aload_n 0, 1) := by decide +kernel
theorem dX7_readTest_14 : decode cX7_readTest 14 = .ok (.getfield 37, 3) := by decide +kernel
theorem dX7_readTest_17 : decode cX7_readTest 17 = .ok (.i2c, 1) := by decide +kernel
theorem dX7_readTest_18 : decode cX7_readTest 18 = .ok (.invokevirtual 90, 3) := by decide +kernel
theorem dX7_readTest_21 : decode cX7_readTest 21 = .ok (.istore_n 1, 1) := by decide +kernel
theorem dX7_readTest_22 : decode cX7_readTest 22 = .ok (.iload_n 1, 1) := by decide +kernel
theorem dX7_readTest_23 : decode cX7_readTest 23 = .ok (.ifCond .ge 5, 3) := by decide +kernel
theorem dX7_readTest_26 : decode cX7_readTest 26 = .ok (.iconst 0, 1) := by decide +kernel
theorem dX7_readTest_27 : decode cX7_readTest 27 = .ok (.ireturn, 1) := by decide +kernel
theorem dX7_readTest_28 : decode cX7_readTest 28 = .ok (.aload_n 0, 1) := by decide +kernel
theorem dX7_readTest_29 : decode cX7_readTest 29 = .ok (.aload_n 0, 1) := by decide +kernel
theorem dX7_readTest_30 : decode cX7_readTest 30 = .ok (.getfield 40, 3) := by decide +kernel
theorem dX7_readTest_33 : decode cX7_readTest 33 = .ok (.iconst 1, 1) := by decide +kernel
theorem dX7_readTest_34 : decode cX7_readTest 34 = .ok (.iadd, 1) := by decide +kernel
theorem dX7_readTest_35 : decode cX7_readTest 35 = .ok (.invokevirtual 29, 3) := by decide +kernel
theorem dX7_readTest_38 : decode cX7_readTest 38 = .ok (.aload_n 0, 1) := by decide +kernel
theorem dX7_readTest_39 : decode cX7_readTest 39 = .ok (.getfield 37, 3) := by decide +kernel
theorem dX7_readTest_42 : decode cX7_readTest 42 = .ok (.ifCond .ge 7, 3) := by decide +kernel
theorem dX7_readTest_45 : decode cX7_readTest 45 = .ok (.iconst (-1), 1) := by decide +kernel
theorem dX7_readTest_46 : decode cX7_readTest 46 = .ok (.goto 13, 3) := by decide +kernel
theorem dX7_readTest_49 : decode cX7_readTest 49 = .ok (.ldc 94, 2) := by decide +kernel
theorem dX7_readTest_51 : decode cX7_readTest 51 = .ok (.aload_n 0, 1) := by decide +kernel
theorem dX7_readTest_52 : decode cX7_readTest 52 = .ok (.getfield 37, 3) := by decide +kernel
theorem dX7_readTest_55 : decode cX7_readTest 55 = .ok (.i2c, 1) := by decide +kernel
theorem dX7_readTest_56 : decode cX7_readTest 56 = .ok (.invokevirtual 90, 3) := by decide +kernel
theorem dX7_readTest_59 : decode cX7_readTest 59 = .ok (.istore_n 2, 1) := by decide +kernel
theorem dX7_readTest_60 : decode cX7_readTest 60 = .ok (.iload_n 2, 1) := by decide +kernel
theorem dX7_readTest_61 : decode cX7_readTest 61 = .ok (.ifCond .ge 5, 3) := by decide +kernel
theorem dX7_readTest_64 : decode cX7_readTest 64 = .ok (.iconst 0, 1) := by decide +kernel
theorem dX7_readTest_65 : decode cX7_readTest 65 = .ok (.ireturn, 1) := by decide +kernel
theorem dX7_readTest_66 : decode cX7_readTest 66 = .ok (.aload_n 0, 1) := by decide +kernel
theorem dX7_readTest_67 : decode cX7_readTest 67 = .ok (.aload_n 0, 1) := by decide +kernel
theorem dX7_readTest_68 : decode cX7_readTest 68 = .ok (.getfield 40, 3) := by decide +kernel
theorem dX7_readTest_71 : decode cX7_readTest 71 = .ok (.iconst 1, 1) := by decide +kernel
theorem dX7_readTest_72 : decode cX7_readTest 72 = .ok (.iadd, 1) := by decide +kernel
theorem dX7_readTest_73 : decode cX7_readTest 73 = .ok (.invokevirtual 29, 3) := by decide +kernel
theorem dX7_readTest_76 : decode cX7_readTest 76 = .ok (.aload_n 0, 1) := by decide +kernel
theorem dX7_readTest_77 : decode cX7_readTest 77 = .ok (.invokevirtual 65, 3) := by decide +kernel
theorem dX7_readTest_80 : decode cX7_readTest 80 = .ok (.istore_n 3, 1) := by decide +kernel
theorem dX7_readTest_81 : decode cX7_readTest 81 = .ok (.iload_n 3, 1) := by decide +kernel
theorem dX7_readTest_82 : decode cX7_readTest 82 = .ok (.iconst (-1), 1) := by decide +kernel
theorem dX7_readTest_83 : decode cX7_readTest 83 = .ok (.if_icmp .ne 5, 3) := by decide +kernel
theorem dX7_readTest_86 : decode cX7_readTest 86 = .ok (.iconst 0, 1) := by decide +kernel
theorem dX7_readTest_87 : decode cX7_readTest 87 = .ok (.ireturn, 1) := by decide +kernel
theorem dX7_readTest_88 : decode cX7_readTest 88 = .ok (.aload_n 0, 1) := by decide +kernel
theorem dX7_readTest_89 : decode cX7_readTest 89 = .ok (.iconst 0, 1) := by decide +kernel
theorem dX7_readTest_90 : decode cX7_readTest 90 = .ok (.iload_n 1, 1) := by decide +kernel
theorem dX7_readTest_91 : decode cX7_readTest 91 = .ok (.bipush 9, 2) := by decide +kernel
theorem dX7_readTest_93 : decode cX7_readTest 93 = .ok (.ishl, 1) := by decide +kernel
theorem dX7_readTest_94 : decode cX7_readTest 94 = .ok (.iload_n 2, 1) := by decide +kernel
theorem dX7_readTest_95 : decode cX7_readTest 95 = .ok (.bipush 7, 2) := by decide +kernel
theorem dX7_readTest_97 : decode cX7_readTest 97 = .ok (.ishl, 1) := by decide +kernel
theorem dX7_readTest_98 : decode cX7_readTest 98 = .ok (.ior, 1) := by decide +kernel
theorem dX7_readTest_99 : decode cX7_readTest 99 = .ok (.iload_n 3, 1) := by decide +kernel
theorem dX7_readTest_100 : decode cX7_readTest 100 = .ok (.ior, 1) := by decide +kernel
theorem dX7_readTest_101 : decode cX7_readTest 101 = .ok (.invokevirtual 74, 3) := by decide +kernel
theorem dX7_readTest_104 : decode cX7_readTest 104 = .ok (.iconst 1, 1) := by decide +kernel
theorem dX7_readTest_105 : decode cX7_readTest 105 = .ok (.ireturn, 1) := by decide +kernel
theorem dX7_addStep_0 : decode cX7_addStep 0 = .ok (.aload_n 0, 1) := by decide +kernel
theorem dX7_addStep_1 : decode cX7_addStep 1 = .ok (.getfield 26, 3) := by decide +kernel
theorem dX7_addStep_4 : decode cX7_addStep 4 = .ok (.bipush 100, 2) := by decide +kernel
theorem dX7_addStep_6 : decode cX7_addStep 6 = .ok (.if_icmp .ge 28, 3) := by decide +kernel
theorem dX7_addStep_9 : decode cX7_addStep 9 = .ok (.aload_n 0, 1) := by decide +kernel
theorem dX7_addStep_10 : decode cX7_addStep 10 = .ok (.getfield 9, 3) := by decide +kernel
theorem dX7_addStep_13 : decode cX7_addStep 13 = .ok (.aload_n 0, 1) := by decide +kernel
theorem dX7_addStep_14 : decode cX7_addStep 14 = .ok (.getfield 26, 3) := by decide +kernel
theorem dX7_addStep_17 : decode cX7_addStep 17 = .ok (.iload_n 1, 1) := by decide +kernel
theorem dX7_addStep_18 : decode cX7_addStep 18 = .ok (.bipush 12, 2) := by decide +kernel
theorem dX7_addStep_20 : decode cX7_addStep 20 = .ok (.ishl, 1) := by decide +kernel
theorem dX7_addStep_21 : decode cX7_addStep 21 = .ok (.iload_n 2, 1) := by decide +kernel
theorem dX7_addStep_22 : decode cX7_addStep 22 = .ok (.ior, 1) := by decide +kernel
theorem dX7_addStep_23 : decode cX7_addStep 23 = .ok (.iastore, 1) := by decide +kernel
theorem dX7_addStep_24 : decode cX7_addStep 24 = .ok (.aload_n 0, 1) := by decide +kernel
theorem dX7_addStep_25 : decode cX7_addStep 25 = .ok (.dup, 1) := by decide +kernel
theorem dX7_addStep_26 : decode cX7_addStep 26 = .ok (.getfield 26, 3) := by decide +kernel
theorem dX7_addStep_29 : decode cX7_addStep 29 = .ok (.iconst 1, 1) := by decide +kernel
theorem dX7_addStep_30 : decode cX7_addStep 30 = .ok (.iadd, 1) := by decide +kernel
theorem dX7_addStep_31 : decode cX7_addStep 31 = .ok (.putfield 26, 3) := by decide +kernel
theorem dX7_addStep_34 : decode cX7_addStep 34 = .ok (.return_, 1) := by decide +kernel
theorem dX7_drawsBy_0 : decode cX7_drawsBy 0 = .ok (.iconst 0, 1) := by decide +kernel
theorem dX7_drawsBy_1 : decode cX7_drawsBy 1 = .ok (.istore_n 2, 1) := by decide +kernel
theorem dX7_drawsBy_2 : decode cX7_drawsBy 2 = .ok (.iconst 0, 1) := by decide +kernel
theorem dX7_drawsBy_3 : decode cX7_drawsBy 3 = .ok (.istore_n 3, 1) := by decide +kernel
theorem dX7_drawsBy_4 : decode cX7_drawsBy 4 = .ok (.iconst 0, 1) := by decide +kernel
theorem dX7_drawsBy_5 : decode cX7_drawsBy 5 = .ok (.istore 4, 2) := by decide +kernel
theorem dX7_drawsBy_7 : decode cX7_drawsBy 7 = .ok (.iload 4, 2) := by decide +kernel
theorem dX7_drawsBy_9 : decode cX7_drawsBy 9 = .ok (.aload_n 0, 1) := by decide +kernel
theorem dX7_drawsBy_10 : decode cX7_drawsBy 10 = .ok (.getfield 26, 3) := by decide +kernel
theorem dX7_drawsBy_13 : decode cX7_drawsBy 13 = .ok (.if_icmp .ge 140, 3) := by decide +kernel
theorem dX7_drawsBy_16 : decode cX7_drawsBy 16 = .ok (.iload_n 3, 1) := by decide +kernel
theorem dX7_drawsBy_17 : decode cX7_drawsBy 17 = .ok (.iconst 1, 1) := by decide +kernel
theorem dX7_drawsBy_18 : decode cX7_drawsBy 18 = .ok (.iand, 1) := by decide +kernel
theorem dX7_drawsBy_19 : decode cX7_drawsBy 19 = .ok (.istore 5, 2) := by decide +kernel
theorem dX7_drawsBy_21 : decode cX7_drawsBy 21 = .ok (.aload_n 0, 1) := by decide +kernel
theorem dX7_drawsBy_22 : decode cX7_drawsBy 22 = .ok (.getfield 9, 3) := by decide +kernel
theorem dX7_drawsBy_25 : decode cX7_drawsBy 25 = .ok (.iload 4, 2) := by decide +kernel
theorem dX7_drawsBy_27 : decode cX7_drawsBy 27 = .ok (.iaload, 1) := by decide +kernel
theorem dX7_drawsBy_28 : decode cX7_drawsBy 28 = .ok (.sipush 4095, 3) := by decide +kernel
theorem dX7_drawsBy_31 : decode cX7_drawsBy 31 = .ok (.iand, 1) := by decide +kernel
theorem dX7_drawsBy_32 : decode cX7_drawsBy 32 = .ok (.istore 6, 2) := by decide +kernel
theorem dX7_drawsBy_34 : decode cX7_drawsBy 34 = .ok (.aload_n 0, 1) := by decide +kernel
theorem dX7_drawsBy_35 : decode cX7_drawsBy 35 = .ok (.getfield 9, 3) := by decide +kernel
theorem dX7_drawsBy_38 : decode cX7_drawsBy 38 = .ok (.iload 4, 2) := by decide +kernel
theorem dX7_drawsBy_40 : decode cX7_drawsBy 40 = .ok (.iaload, 1) := by decide +kernel
theorem dX7_drawsBy_41 : decode cX7_drawsBy 41 = .ok (.bipush 12, 2) := by decide +kernel
theorem dX7_drawsBy_43 : decode cX7_drawsBy 43 = .ok (.ishr, 1) := by decide +kernel
theorem dX7_drawsBy_44 : decode cX7_drawsBy 44 = .ok (.tableswitch 93 0 4 #[36, 50, 57, 70, 80], 36) := by decide +kernel
theorem dX7_drawsBy_80 : decode cX7_drawsBy 80 = .ok (.iload_n 3, 1) := by decide +kernel
theorem dX7_drawsBy_81 : decode cX7_drawsBy 81 = .ok (.iconst 1, 1) := by decide +kernel
theorem dX7_drawsBy_82 : decode cX7_drawsBy 82 = .ok (.ishl, 1) := by decide +kernel
theorem dX7_drawsBy_83 : decode cX7_drawsBy 83 = .ok (.iload 6, 2) := by decide +kernel
theorem dX7_drawsBy_85 : decode cX7_drawsBy 85 = .ok (.aload_n 1, 1) := by decide +kernel
theorem dX7_drawsBy_86 : decode cX7_drawsBy 86 = .ok (.invokestatic 96, 3) := by decide +kernel
theorem dX7_drawsBy_89 : decode cX7_drawsBy 89 = .ok (.ior, 1) := by decide +kernel
theorem dX7_drawsBy_90 : decode cX7_drawsBy 90 = .ok (.istore_n 3, 1) := by decide +kernel
theorem dX7_drawsBy_91 : decode cX7_drawsBy 91 = .ok (.goto 56, 3) := by decide +kernel
theorem dX7_drawsBy_94 : decode cX7_drawsBy 94 = .ok (.iload_n 3, 1) := by decide +kernel
theorem dX7_drawsBy_95 : decode cX7_drawsBy 95 = .ok (.iconst 1, 1) := by decide +kernel
theorem dX7_drawsBy_96 : decode cX7_drawsBy 96 = .ok (.ixor, 1) := by decide +kernel
theorem dX7_drawsBy_97 : decode cX7_drawsBy 97 = .ok (.istore_n 3, 1) := by decide +kernel
theorem dX7_drawsBy_98 : decode cX7_drawsBy 98 = .ok (.goto 49, 3) := by decide +kernel
theorem dX7_drawsBy_101 : decode cX7_drawsBy 101 = .ok (.iload_n 3, 1) := by decide +kernel
theorem dX7_drawsBy_102 : decode cX7_drawsBy 102 = .ok (.iconst 1, 1) := by decide +kernel
theorem dX7_drawsBy_103 : decode cX7_drawsBy 103 = .ok (.ishr, 1) := by decide +kernel
theorem dX7_drawsBy_104 : decode cX7_drawsBy 104 = .ok (.bipush (-2), 2) := by decide +kernel
theorem dX7_drawsBy_106 : decode cX7_drawsBy 106 = .ok (.iload 5, 2) := by decide +kernel
theorem dX7_drawsBy_108 : decode cX7_drawsBy 108 = .ok (.ior, 1) := by decide +kernel
theorem dX7_drawsBy_109 : decode cX7_drawsBy 109 = .ok (.iand, 1) := by decide +kernel
theorem dX7_drawsBy_110 : decode cX7_drawsBy 110 = .ok (.istore_n 3, 1) := by decide +kernel
theorem dX7_drawsBy_111 : decode cX7_drawsBy 111 = .ok (.goto 36, 3) := by decide +kernel
theorem dX7_drawsBy_114 : decode cX7_drawsBy 114 = .ok (.iload_n 3, 1) := by decide +kernel
theorem dX7_drawsBy_115 : decode cX7_drawsBy 115 = .ok (.iconst 1, 1) := by decide +kernel
theorem dX7_drawsBy_116 : decode cX7_drawsBy 116 = .ok (.ishr, 1) := by decide +kernel
theorem dX7_drawsBy_117 : decode cX7_drawsBy 117 = .ok (.iload 5, 2) := by decide +kernel
theorem dX7_drawsBy_119 : decode cX7_drawsBy 119 = .ok (.ior, 1) := by decide +kernel
theorem dX7_drawsBy_120 : decode cX7_drawsBy 120 = .ok (.istore_n 3, 1) := by decide +kernel
theorem dX7_drawsBy_121 : decode cX7_drawsBy 121 = .ok (.goto 26, 3) := by decide +kernel
theorem dX7_drawsBy_124 : decode cX7_drawsBy 124 = .ok (.iload_n 2, 1) := by decide +kernel
theorem dX7_drawsBy_125 : decode cX7_drawsBy 125 = .ok (.iload 5, 2) := by decide +kernel
theorem dX7_drawsBy_127 : decode cX7_drawsBy 127 = .ok (.iload 6, 2) := by decide +kernel
theorem dX7_drawsBy_129 : decode cX7_drawsBy 129 = .ok (.imul, 1) := by decide +kernel
theorem dX7_drawsBy_130 : decode cX7_drawsBy 130 = .ok (.iadd, 1) := by decide +kernel
theorem dX7_drawsBy_131 : decode cX7_drawsBy 131 = .ok (.istore_n 2, 1) := by decide +kernel
theorem dX7_drawsBy_132 : decode cX7_drawsBy 132 = .ok (.iconst 0, 1) := by decide +kernel
theorem dX7_drawsBy_133 : decode cX7_drawsBy 133 = .ok (.istore_n 3, 1) := by decide +kernel
theorem dX7_drawsBy_134 : decode cX7_drawsBy 134 = .ok (.goto 13, 3) := by decide +kernel
theorem dX7_drawsBy_137 : decode cX7_drawsBy 137 = .ok (.iload_n 2, 1) := by decide +kernel
theorem dX7_drawsBy_138 : decode cX7_drawsBy 138 = .ok (.iload 5, 2) := by decide +kernel
theorem dX7_drawsBy_140 : decode cX7_drawsBy 140 = .ok (.iload 6, 2) := by decide +kernel
theorem dX7_drawsBy_142 : decode cX7_drawsBy 142 = .ok (.imul, 1) := by decide +kernel
theorem dX7_drawsBy_143 : decode cX7_drawsBy 143 = .ok (.isub, 1) := by decide +kernel
theorem dX7_drawsBy_144 : decode cX7_drawsBy 144 = .ok (.istore_n 2, 1) := by decide +kernel
theorem dX7_drawsBy_145 : decode cX7_drawsBy 145 = .ok (.iconst 0, 1) := by decide +kernel
theorem dX7_drawsBy_146 : decode cX7_drawsBy 146 = .ok (.istore_n 3, 1) := by decide +kernel
theorem dX7_drawsBy_147 : decode cX7_drawsBy 147 = .ok (.iinc 4 1, 3) := by decide +kernel
theorem dX7_drawsBy_150 : decode cX7_drawsBy 150 = .ok (.goto (-143), 3) := by decide +kernel
theorem dX7_drawsBy_153 : decode cX7_drawsBy 153 = .ok (.iload_n 2, 1) := by decide +kernel
theorem dX7_drawsBy_154 : decode cX7_drawsBy 154 = .ok (.ireturn, 1) := by decide +kernel
theorem dX7_holds_0 : decode cX7_holds 0 = .ok (.aload_n 1, 1) := by decide +kernel
theorem dX7_holds_1 : decode cX7_holds 1 = .ok (.iload_n 0, 1) := by decide +kernel
theorem dX7_holds_2 : decode cX7_holds 2 = .ok (.bipush 9, 2) := by decide +kernel
theorem dX7_holds_4 : decode cX7_holds 4 = .ok (.ishr, 1) := by decide +kernel
theorem dX7_holds_5 : decode cX7_holds 5 = .ok (.iaload, 1) := by decide +kernel
theorem dX7_holds_6 : decode cX7_holds 6 = .ok (.istore_n 2, 1) := by decide +kernel
theorem dX7_holds_7 : decode cX7_holds 7 = .ok (.iload_n 0, 1) := by decide +kernel
theorem dX7_holds_8 : decode cX7_holds 8 = .ok (.bipush 127, 2) := by decide +kernel
theorem dX7_holds_10 : decode cX7_holds 10 = .ok (.iand, 1) := by decide +kernel
theorem dX7_holds_11 : decode cX7_holds 11 = .ok (.istore_n 3, 1) := by decide +kernel
theorem dX7_holds_12 : decode cX7_holds 12 = .ok (.iload_n 0, 1) := by decide +kernel
theorem dX7_holds_13 : decode cX7_holds 13 = .ok (.bipush 7, 2) := by decide +kernel
theorem dX7_holds_15 : decode cX7_holds 15 = .ok (.ishr, 1) := by decide +kernel
theorem dX7_holds_16 : decode cX7_holds 16 = .ok (.iconst 3, 1) := by decide +kernel
theorem dX7_holds_17 : decode cX7_holds 17 = .ok (.iand, 1) := by decide +kernel
theorem dX7_holds_18 : decode cX7_holds 18 = .ok (.lookupswitch 56 #[(0, 26), (1, 41)], 26) := by decide +kernel
theorem dX7_holds_44 : decode cX7_holds 44 = .ok (.iload_n 2, 1) := by decide +kernel
theorem dX7_holds_45 : decode cX7_holds 45 = .ok (.iload_n 3, 1) := by decide +kernel
theorem dX7_holds_46 : decode cX7_holds 46 = .ok (.if_icmp .ge 7, 3) := by decide +kernel
theorem dX7_holds_49 : decode cX7_holds 49 = .ok (.iconst 1, 1) := by decide +kernel
theorem dX7_holds_50 : decode cX7_holds 50 = .ok (.goto 4, 3) := by decide +kernel
theorem dX7_holds_53 : decode cX7_holds 53 = .ok (.iconst 0, 1) := by decide +kernel
theorem dX7_holds_54 : decode cX7_holds 54 = .ok (.istore 4, 2) := by decide +kernel
theorem dX7_holds_56 : decode cX7_holds 56 = .ok (.goto 30, 3) := by decide +kernel
theorem dX7_holds_59 : decode cX7_holds 59 = .ok (.iload_n 2, 1) := by decide +kernel
theorem dX7_holds_60 : decode cX7_holds 60 = .ok (.iload_n 3, 1) := by decide +kernel
theorem dX7_holds_61 : decode cX7_holds 61 = .ok (.if_icmp .ne 7, 3) := by decide +kernel
theorem dX7_holds_64 : decode cX7_holds 64 = .ok (.iconst 1, 1) := by decide +kernel
theorem dX7_holds_65 : decode cX7_holds 65 = .ok (.goto 4, 3) := by decide +kernel
theorem dX7_holds_68 : decode cX7_holds 68 = .ok (.iconst 0, 1) := by decide +kernel
theorem dX7_holds_69 : decode cX7_holds 69 = .ok (.istore 4, 2) := by decide +kernel
theorem dX7_holds_71 : decode cX7_holds 71 = .ok (.goto 15, 3) := by decide +kernel
theorem dX7_holds_74 : decode cX7_holds 74 = .ok (.iload_n 2, 1) := by decide +kernel
theorem dX7_holds_75 : decode cX7_holds 75 = .ok (.iload_n 3, 1) := by decide +kernel
theorem dX7_holds_76 : decode cX7_holds 76 = .ok (.if_icmp .le 7, 3) := by decide +kernel
theorem dX7_holds_79 : decode cX7_holds 79 = .ok (.iconst 1, 1) := by decide +kernel
theorem dX7_holds_80 : decode cX7_holds 80 = .ok (.goto 4, 3) := by decide +kernel
theorem dX7_holds_83 : decode cX7_holds 83 = .ok (.iconst 0, 1) := by decide +kernel
theorem dX7_holds_84 : decode cX7_holds 84 = .ok (.istore 4, 2) := by decide +kernel
theorem dX7_holds_86 : decode cX7_holds 86 = .ok (.iload 4, 2) := by decide +kernel
theorem dX7_holds_88 : decode cX7_holds 88 = .ok (.ifCond .eq 7, 3) := by decide +kernel
theorem dX7_holds_91 : decode cX7_holds 91 = .ok (.iconst 1, 1) := by decide +kernel
theorem dX7_holds_92 : decode cX7_holds 92 = .ok (.goto 4, 3) := by decide +kernel
theorem dX7_holds_95 : decode cX7_holds 95 = .ok (.iconst 0, 1) := by decide +kernel
theorem dX7_holds_96 : decode cX7_holds 96 = .ok (.ireturn, 1) := by decide +kernel
theorem dX8_init_0 : decode cX8_init 0 = .ok (.aload_n 0, 1) := by decide +kernel
theorem dX8_init_1 : decode cX8_init 1 = .ok (.invokespecial 3, 3) := by decide +kernel
theorem dX8_init_4 : decode cX8_init 4 = .ok (.return_, 1) := by decide +kernel
theorem dX8_pullBy_0 : decode cX8_pullBy 0 = .ok (.aload_n 2, 1) := by decide +kernel
theorem dX8_pullBy_1 : decode cX8_pullBy 1 = .ok (.getfield 9, 3) := by decide +kernel
theorem dX8_pullBy_4 : decode cX8_pullBy 4 = .ok (.iload_n 3, 1) := by decide +kernel
theorem dX8_pullBy_5 : decode cX8_pullBy 5 = .ok (.iconst 4, 1) := by decide +kernel
theorem dX8_pullBy_6 : decode cX8_pullBy 6 = .ok (.imul, 1) := by decide +kernel
theorem dX8_pullBy_7 : decode cX8_pullBy 7 = .ok (.aload_n 2, 1) := by decide +kernel
theorem dX8_pullBy_8 : decode cX8_pullBy 8 = .ok (.getfield 15, 3) := by decide +kernel
theorem dX8_pullBy_11 : decode cX8_pullBy 11 = .ok (.iconst 4, 1) := by decide +kernel
theorem dX8_pullBy_12 : decode cX8_pullBy 12 = .ok (.irem, 1) := by decide +kernel
theorem dX8_pullBy_13 : decode cX8_pullBy 13 = .ok (.iadd, 1) := by decide +kernel
theorem dX8_pullBy_14 : decode cX8_pullBy 14 = .ok (.iaload, 1) := by decide +kernel
theorem dX8_pullBy_15 : decode cX8_pullBy 15 = .ok (.istore 5, 2) := by decide +kernel
theorem dX8_pullBy_17 : decode cX8_pullBy 17 = .ok (.aload_n 0, 1) := by decide +kernel
theorem dX8_pullBy_18 : decode cX8_pullBy 18 = .ok (.iload_n 1, 1) := by decide +kernel
theorem dX8_pullBy_19 : decode cX8_pullBy 19 = .ok (.aload_n 2, 1) := by decide +kernel
theorem dX8_pullBy_20 : decode cX8_pullBy 20 = .ok (.iload_n 3, 1) := by decide +kernel
theorem dX8_pullBy_21 : decode cX8_pullBy 21 = .ok (.iload 4, 2) := by decide +kernel
theorem dX8_pullBy_23 : decode cX8_pullBy 23 = .ok (.invokespecial 19, 3) := by decide +kernel
theorem dX8_pullBy_26 : decode cX8_pullBy 26 = .ok (.iload 5, 2) := by decide +kernel
theorem dX8_pullBy_28 : decode cX8_pullBy 28 = .ok (.iadd, 1) := by decide +kernel
theorem dX8_pullBy_29 : decode cX8_pullBy 29 = .ok (.ireturn, 1) := by decide +kernel
theorem dX8_walks_0 : decode cX8_walks 0 = .ok (.aload_n 1, 1) := by decide +kernel
theorem dX8_walks_1 : decode cX8_walks 1 = .ok (.bipush 70, 2) := by decide +kernel
theorem dX8_walks_3 : decode cX8_walks 3 = .ok (.invokevirtual 23, 3) := by decide +kernel
theorem dX8_walks_6 : decode cX8_walks 6 = .ok (.aload_n 0, 1) := by decide +kernel
theorem dX8_walks_7 : decode cX8_walks 7 = .ok (.aload_n 1, 1) := by decide +kernel
theorem dX8_walks_8 : decode cX8_walks 8 = .ok (.iload_n 2, 1) := by decide +kernel
theorem dX8_walks_9 : decode cX8_walks 9 = .ok (.invokespecial 29, 3) := by decide +kernel
theorem dX8_walks_12 : decode cX8_walks 12 = .ok (.aload_n 0, 1) := by decide +kernel
theorem dX8_walks_13 : decode cX8_walks 13 = .ok (.aload_n 1, 1) := by decide +kernel
theorem dX8_walks_14 : decode cX8_walks 14 = .ok (.iconst 2, 1) := by decide +kernel
theorem dX8_walks_15 : decode cX8_walks 15 = .ok (.invokespecial 33, 3) := by decide +kernel
theorem dX8_walks_18 : decode cX8_walks 18 = .ok (.iadd, 1) := by decide +kernel
theorem dX8_walks_19 : decode cX8_walks 19 = .ok (.ireturn, 1) := by decide +kernel
theorem dX8_bows_0 : decode cX8_bows 0 = .ok (.aload_n 1, 1) := by decide +kernel
theorem dX8_bows_1 : decode cX8_bows 1 = .ok (.bipush 71, 2) := by decide +kernel
theorem dX8_bows_3 : decode cX8_bows 3 = .ok (.invokevirtual 23, 3) := by decide +kernel
theorem dX8_bows_6 : decode cX8_bows 6 = .ok (.aload_n 0, 1) := by decide +kernel
theorem dX8_bows_7 : decode cX8_bows 7 = .ok (.aload_n 1, 1) := by decide +kernel
theorem dX8_bows_8 : decode cX8_bows 8 = .ok (.iload_n 2, 1) := by decide +kernel
theorem dX8_bows_9 : decode cX8_bows 9 = .ok (.invokespecial 33, 3) := by decide +kernel
theorem dX8_bows_12 : decode cX8_bows 12 = .ok (.aload_n 1, 1) := by decide +kernel
theorem dX8_bows_13 : decode cX8_bows 13 = .ok (.getfield 36, 3) := by decide +kernel
theorem dX8_bows_16 : decode cX8_bows 16 = .ok (.ixor, 1) := by decide +kernel
theorem dX8_bows_17 : decode cX8_bows 17 = .ok (.ireturn, 1) := by decide +kernel
theorem dX9_init_0 : decode cX9_init 0 = .ok (.aload_n 0, 1) := by decide +kernel
theorem dX9_init_1 : decode cX9_init 1 = .ok (.invokespecial 1, 3) := by decide +kernel
theorem dX9_init_4 : decode cX9_init 4 = .ok (.return_, 1) := by decide +kernel
theorem dX9_tread_0 : decode cX9_tread 0 = .ok (.iconst 3, 1) := by decide +kernel
theorem dX9_tread_1 : decode cX9_tread 1 = .ok (.ireturn, 1) := by decide +kernel
theorem dX9_walks_0 : decode cX9_walks 0 = .ok (.aload_n 1, 1) := by decide +kernel
theorem dX9_walks_1 : decode cX9_walks 1 = .ok (.bipush 20, 2) := by decide +kernel
theorem dX9_walks_3 : decode cX9_walks 3 = .ok (.invokevirtual 7, 3) := by decide +kernel
theorem dX9_walks_6 : decode cX9_walks 6 = .ok (.aload_n 0, 1) := by decide +kernel
theorem dX9_walks_7 : decode cX9_walks 7 = .ok (.aload_n 1, 1) := by decide +kernel
theorem dX9_walks_8 : decode cX9_walks 8 = .ok (.iload_n 2, 1) := by decide +kernel
theorem dX9_walks_9 : decode cX9_walks 9 = .ok (.invokespecial 13, 3) := by decide +kernel
theorem dX9_walks_12 : decode cX9_walks 12 = .ok (.bipush 6, 2) := by decide +kernel
theorem dX9_walks_14 : decode cX9_walks 14 = .ok (.ixor, 1) := by decide +kernel
theorem dX9_walks_15 : decode cX9_walks 15 = .ok (.ireturn, 1) := by decide +kernel
theorem dX10_init_0 : decode cX10_init 0 = .ok (.aload_n 0, 1) := by decide +kernel
theorem dX10_init_1 : decode cX10_init 1 = .ok (.invokespecial 1, 3) := by decide +kernel
theorem dX10_init_4 : decode cX10_init 4 = .ok (.return_, 1) := by decide +kernel
theorem dX10_tread_0 : decode cX10_tread 0 = .ok (.iconst 2, 1) := by decide +kernel
theorem dX10_tread_1 : decode cX10_tread 1 = .ok (.ireturn, 1) := by decide +kernel
theorem dX10_pullBy_0 : decode cX10_pullBy 0 = .ok (.iload_n 1, 1) := by decide +kernel
theorem dX10_pullBy_1 : decode cX10_pullBy 1 = .ok (.ireturn, 1) := by decide +kernel
theorem dX10_bows_0 : decode cX10_bows 0 = .ok (.aload_n 1, 1) := by decide +kernel
theorem dX10_bows_1 : decode cX10_bows 1 = .ok (.bipush 10, 2) := by decide +kernel
theorem dX10_bows_3 : decode cX10_bows 3 = .ok (.invokevirtual 7, 3) := by decide +kernel
theorem dX10_bows_6 : decode cX10_bows 6 = .ok (.iload_n 2, 1) := by decide +kernel
theorem dX10_bows_7 : decode cX10_bows 7 = .ok (.aload_n 1, 1) := by decide +kernel
theorem dX10_bows_8 : decode cX10_bows 8 = .ok (.getfield 13, 3) := by decide +kernel
theorem dX10_bows_11 : decode cX10_bows 11 = .ok (.iadd, 1) := by decide +kernel
theorem dX10_bows_12 : decode cX10_bows 12 = .ok (.ireturn, 1) := by decide +kernel
theorem dX10_walks_0 : decode cX10_walks 0 = .ok (.aload_n 1, 1) := by decide +kernel
theorem dX10_walks_1 : decode cX10_walks 1 = .ok (.bipush 11, 2) := by decide +kernel
theorem dX10_walks_3 : decode cX10_walks 3 = .ok (.invokevirtual 7, 3) := by decide +kernel
theorem dX10_walks_6 : decode cX10_walks 6 = .ok (.aload_n 0, 1) := by decide +kernel
theorem dX10_walks_7 : decode cX10_walks 7 = .ok (.aload_n 1, 1) := by decide +kernel
theorem dX10_walks_8 : decode cX10_walks 8 = .ok (.iload_n 2, 1) := by decide +kernel
theorem dX10_walks_9 : decode cX10_walks 9 = .ok (.invokevirtual 17, 3) := by decide +kernel
theorem dX10_walks_12 : decode cX10_walks 12 = .ok (.aload_n 1, 1) := by decide +kernel
theorem dX10_walks_13 : decode cX10_walks 13 = .ok (.getfield 23, 3) := by decide +kernel
theorem dX10_walks_16 : decode cX10_walks 16 = .ok (.isub, 1) := by decide +kernel
theorem dX10_walks_17 : decode cX10_walks 17 = .ok (.ireturn, 1) := by decide +kernel
theorem dX10_tells_0 : decode cX10_tells 0 = .ok (.aload_n 1, 1) := by decide +kernel
theorem dX10_tells_1 : decode cX10_tells 1 = .ok (.bipush 12, 2) := by decide +kernel
theorem dX10_tells_3 : decode cX10_tells 3 = .ok (.invokevirtual 7, 3) := by decide +kernel
theorem dX10_tells_6 : decode cX10_tells 6 = .ok (.aload_n 0, 1) := by decide +kernel
theorem dX10_tells_7 : decode cX10_tells 7 = .ok (.aload_n 1, 1) := by decide +kernel
theorem dX10_tells_8 : decode cX10_tells 8 = .ok (.iload_n 2, 1) := by decide +kernel
theorem dX10_tells_9 : decode cX10_tells 9 = .ok (.invokevirtual 26, 3) := by decide +kernel
theorem dX10_tells_12 : decode cX10_tells 12 = .ok (.iconst 2, 1) := by decide +kernel
theorem dX10_tells_13 : decode cX10_tells 13 = .ok (.imul, 1) := by decide +kernel
theorem dX10_tells_14 : decode cX10_tells 14 = .ok (.ireturn, 1) := by decide +kernel
