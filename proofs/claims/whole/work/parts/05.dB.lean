theorem dX11_ends_45 : decode cX11_ends 45 = .ok (.aload_n 0, 1) := by decide +kernel
theorem dX11_ends_46 : decode cX11_ends 46 = .ok (.getfield 20, 3) := by decide +kernel
theorem dX11_ends_49 : decode cX11_ends 49 = .ok (.iload_n 2, 1) := by decide +kernel
theorem dX11_ends_50 : decode cX11_ends 50 = .ok (.iconst 1, 1) := by decide +kernel
theorem dX11_ends_51 : decode cX11_ends 51 = .ok (.invokevirtual 229, 3) := by decide +kernel
theorem dX11_ends_54 : decode cX11_ends 54 = .ok (.invokevirtual 232, 3) := by decide +kernel
theorem dX11_ends_57 : decode cX11_ends 57 = .ok (.iinc 2 1, 3) := by decide +kernel
theorem dX11_ends_60 : decode cX11_ends 60 = .ok (.goto (-36), 3) := by decide +kernel
theorem dX11_ends_63 : decode cX11_ends 63 = .ok (.iload_n 1, 1) := by decide +kernel
theorem dX11_ends_64 : decode cX11_ends 64 = .ok (.ifCond .ne 13, 3) := by decide +kernel
theorem dX11_ends_67 : decode cX11_ends 67 = .ok (.aload_n 0, 1) := by decide +kernel
theorem dX11_ends_68 : decode cX11_ends 68 = .ok (.getfield 94, 3) := by decide +kernel
theorem dX11_ends_71 : decode cX11_ends 71 = .ok (.invokevirtual 175, 3) := by decide +kernel
theorem dX11_ends_74 : decode cX11_ends 74 = .ok (.goto 10, 3) := by decide +kernel
theorem dX11_ends_77 : decode cX11_ends 77 = .ok (.aload_n 0, 1) := by decide +kernel
theorem dX11_ends_78 : decode cX11_ends 78 = .ok (.getfield 94, 3) := by decide +kernel
theorem dX11_ends_81 : decode cX11_ends 81 = .ok (.invokevirtual 172, 3) := by decide +kernel
theorem dX11_ends_84 : decode cX11_ends 84 = .ok (.ireturn, 1) := by decide +kernel
theorem dX11_book_0 : decode cX11_book 0 = .ok (.iload_n 1, 1) := by decide +kernel
theorem dX11_book_1 : decode cX11_book 1 = .ok (.iconst (-1), 1) := by decide +kernel
theorem dX11_book_2 : decode cX11_book 2 = .ok (.if_icmp .ne 11, 3) := by decide +kernel
theorem dX11_book_5 : decode cX11_book 5 = .ok (.aload_n 0, 1) := by decide +kernel
theorem dX11_book_6 : decode cX11_book 6 = .ok (.getfield 23, 3) := by decide +kernel
theorem dX11_book_9 : decode cX11_book 9 = .ok (.invokevirtual 207, 3) := by decide +kernel
theorem dX11_book_12 : decode cX11_book 12 = .ok (.ireturn, 1) := by decide +kernel
theorem dX11_book_13 : decode cX11_book 13 = .ok (.aload_n 0, 1) := by decide +kernel
theorem dX11_book_14 : decode cX11_book 14 = .ok (.iload_n 1, 1) := by decide +kernel
theorem dX11_book_15 : decode cX11_book 15 = .ok (.invokevirtual 111, 3) := by decide +kernel
theorem dX11_book_18 : decode cX11_book 18 = .ok (.ifCond .eq 10, 3) := by decide +kernel
theorem dX11_book_21 : decode cX11_book 21 = .ok (.iload_n 2, 1) := by decide +kernel
theorem dX11_book_22 : decode cX11_book 22 = .ok (.invokestatic 100, 3) := by decide +kernel
theorem dX11_book_25 : decode cX11_book 25 = .ok (.ifCond .ne 5, 3) := by decide +kernel
theorem dX11_book_28 : decode cX11_book 28 = .ok (.iconst (-1), 1) := by decide +kernel
theorem dX11_book_29 : decode cX11_book 29 = .ok (.ireturn, 1) := by decide +kernel
theorem dX11_book_30 : decode cX11_book 30 = .ok (.aload_n 0, 1) := by decide +kernel
theorem dX11_book_31 : decode cX11_book 31 = .ok (.getfield 23, 3) := by decide +kernel
theorem dX11_book_34 : decode cX11_book 34 = .ok (.iload_n 1, 1) := by decide +kernel
theorem dX11_book_35 : decode cX11_book 35 = .ok (.iload_n 2, 1) := by decide +kernel
theorem dX11_book_36 : decode cX11_book 36 = .ok (.iconst 0, 1) := by decide +kernel
theorem dX11_book_37 : decode cX11_book 37 = .ok (.invokevirtual 210, 3) := by decide +kernel
theorem dX11_book_40 : decode cX11_book 40 = .ok (.ireturn, 1) := by decide +kernel
theorem dX11_looked_0 : decode cX11_looked 0 = .ok (.iconst 0, 1) := by decide +kernel
theorem dX11_looked_1 : decode cX11_looked 1 = .ok (.istore_n 1, 1) := by decide +kernel
theorem dX11_looked_2 : decode cX11_looked 2 = .ok (.iload_n 1, 1) := by decide +kernel
theorem dX11_looked_3 : decode cX11_looked 3 = .ok (.aload_n 0, 1) := by decide +kernel
theorem dX11_looked_4 : decode cX11_looked 4 = .ok (.getfield 23, 3) := by decide +kernel
theorem dX11_looked_7 : decode cX11_looked 7 = .ok (.getfield 226, 3) := by decide +kernel
theorem dX11_looked_10 : decode cX11_looked 10 = .ok (.if_icmp .ge 40, 3) := by decide +kernel
theorem dX11_looked_13 : decode cX11_looked 13 = .ok (.aload_n 0, 1) := by decide +kernel
theorem dX11_looked_14 : decode cX11_looked 14 = .ok (.getfield 90, 3) := by decide +kernel
theorem dX11_looked_17 : decode cX11_looked 17 = .ok (.getfield 120, 3) := by decide +kernel
theorem dX11_looked_20 : decode cX11_looked 20 = .ok (.aload_n 0, 1) := by decide +kernel
theorem dX11_looked_21 : decode cX11_looked 21 = .ok (.getfield 23, 3) := by decide +kernel
theorem dX11_looked_24 : decode cX11_looked 24 = .ok (.iload_n 1, 1) := by decide +kernel
theorem dX11_looked_25 : decode cX11_looked 25 = .ok (.iconst 0, 1) := by decide +kernel
theorem dX11_looked_26 : decode cX11_looked 26 = .ok (.invokevirtual 229, 3) := by decide +kernel
theorem dX11_looked_29 : decode cX11_looked 29 = .ok (.iaload, 1) := by decide +kernel
theorem dX11_looked_30 : decode cX11_looked 30 = .ok (.aload_n 0, 1) := by decide +kernel
theorem dX11_looked_31 : decode cX11_looked 31 = .ok (.getfield 23, 3) := by decide +kernel
theorem dX11_looked_34 : decode cX11_looked 34 = .ok (.iload_n 1, 1) := by decide +kernel
theorem dX11_looked_35 : decode cX11_looked 35 = .ok (.iconst 1, 1) := by decide +kernel
theorem dX11_looked_36 : decode cX11_looked 36 = .ok (.invokevirtual 229, 3) := by decide +kernel
theorem dX11_looked_39 : decode cX11_looked 39 = .ok (.if_icmp .eq 5, 3) := by decide +kernel
theorem dX11_looked_42 : decode cX11_looked 42 = .ok (.iload_n 1, 1) := by decide +kernel
theorem dX11_looked_43 : decode cX11_looked 43 = .ok (.ireturn, 1) := by decide +kernel
theorem dX11_looked_44 : decode cX11_looked 44 = .ok (.iinc 1 1, 3) := by decide +kernel
theorem dX11_looked_47 : decode cX11_looked 47 = .ok (.goto (-45), 3) := by decide +kernel
theorem dX11_looked_50 : decode cX11_looked 50 = .ok (.bipush (-5), 2) := by decide +kernel
theorem dX11_looked_52 : decode cX11_looked 52 = .ok (.ireturn, 1) := by decide +kernel
theorem dX11_judge_0 : decode cX11_judge 0 = .ok (.iload_n 1, 1) := by decide +kernel
theorem dX11_judge_1 : decode cX11_judge 1 = .ok (.invokestatic 235, 3) := by decide +kernel
theorem dX11_judge_4 : decode cX11_judge 4 = .ok (.ifCond .ne 5, 3) := by decide +kernel
theorem dX11_judge_7 : decode cX11_judge 7 = .ok (.iconst (-1), 1) := by decide +kernel
theorem dX11_judge_8 : decode cX11_judge 8 = .ok (.ireturn, 1) := by decide +kernel
theorem dX11_judge_9 : decode cX11_judge 9 = .ok (.aload_n 0, 1) := by decide +kernel
theorem dX11_judge_10 : decode cX11_judge 10 = .ok (.getfield 53, 3) := by decide +kernel
theorem dX11_judge_13 : decode cX11_judge 13 = .ok (.iload_n 1, 1) := by decide +kernel
theorem dX11_judge_14 : decode cX11_judge 14 = .ok (.iaload, 1) := by decide +kernel
theorem dX11_judge_15 : decode cX11_judge 15 = .ok (.iconst (-1), 1) := by decide +kernel
theorem dX11_judge_16 : decode cX11_judge 16 = .ok (.if_icmp .ne 6, 3) := by decide +kernel
theorem dX11_judge_19 : decode cX11_judge 19 = .ok (.bipush 100, 2) := by decide +kernel
theorem dX11_judge_21 : decode cX11_judge 21 = .ok (.ireturn, 1) := by decide +kernel
theorem dX11_judge_22 : decode cX11_judge 22 = .ok (.aload_n 0, 1) := by decide +kernel
theorem dX11_judge_23 : decode cX11_judge 23 = .ok (.getfield 53, 3) := by decide +kernel
theorem dX11_judge_26 : decode cX11_judge 26 = .ok (.iload_n 1, 1) := by decide +kernel
theorem dX11_judge_27 : decode cX11_judge 27 = .ok (.iaload, 1) := by decide +kernel
theorem dX11_judge_28 : decode cX11_judge 28 = .ok (.ifCond .eq 6, 3) := by decide +kernel
theorem dX11_judge_31 : decode cX11_judge 31 = .ok (.bipush (-12), 2) := by decide +kernel
theorem dX11_judge_33 : decode cX11_judge 33 = .ok (.ireturn, 1) := by decide +kernel
theorem dX11_judge_34 : decode cX11_judge 34 = .ok (.iload_n 2, 1) := by decide +kernel
theorem dX11_judge_35 : decode cX11_judge 35 = .ok (.ifCond .ge 6, 3) := by decide +kernel
theorem dX11_judge_38 : decode cX11_judge 38 = .ok (.bipush 100, 2) := by decide +kernel
theorem dX11_judge_40 : decode cX11_judge 40 = .ok (.ireturn, 1) := by decide +kernel
theorem dX11_judge_41 : decode cX11_judge 41 = .ok (.iconst 0, 1) := by decide +kernel
theorem dX11_judge_42 : decode cX11_judge 42 = .ok (.istore_n 3, 1) := by decide +kernel
theorem dX11_judge_43 : decode cX11_judge 43 = .ok (.iload_n 3, 1) := by decide +kernel
theorem dX11_judge_44 : decode cX11_judge 44 = .ok (.bipush 25, 2) := by decide +kernel
theorem dX11_judge_46 : decode cX11_judge 46 = .ok (.if_icmp .ge 55, 3) := by decide +kernel
theorem dX11_judge_49 : decode cX11_judge 49 = .ok (.iload_n 2, 1) := by decide +kernel
theorem dX11_judge_50 : decode cX11_judge 50 = .ok (.aload_n 0, 1) := by decide +kernel
theorem dX11_judge_51 : decode cX11_judge 51 = .ok (.getfield 57, 3) := by decide +kernel
theorem dX11_judge_54 : decode cX11_judge 54 = .ok (.iload_n 1, 1) := by decide +kernel
theorem dX11_judge_55 : decode cX11_judge 55 = .ok (.iaload, 1) := by decide +kernel
theorem dX11_judge_56 : decode cX11_judge 56 = .ok (.iload_n 3, 1) := by decide +kernel
theorem dX11_judge_57 : decode cX11_judge 57 = .ok (.isub, 1) := by decide +kernel
theorem dX11_judge_58 : decode cX11_judge 58 = .ok (.if_icmp .lt 8, 3) := by decide +kernel
theorem dX11_judge_61 : decode cX11_judge 61 = .ok (.bipush 100, 2) := by decide +kernel
theorem dX11_judge_63 : decode cX11_judge 63 = .ok (.iload_n 3, 1) := by decide +kernel
theorem dX11_judge_64 : decode cX11_judge 64 = .ok (.iadd, 1) := by decide +kernel
theorem dX11_judge_65 : decode cX11_judge 65 = .ok (.ireturn, 1) := by decide +kernel
theorem dX11_judge_66 : decode cX11_judge 66 = .ok (.aload_n 0, 1) := by decide +kernel
theorem dX11_judge_67 : decode cX11_judge 67 = .ok (.getfield 60, 3) := by decide +kernel
theorem dX11_judge_70 : decode cX11_judge 70 = .ok (.iload_n 1, 1) := by decide +kernel
theorem dX11_judge_71 : decode cX11_judge 71 = .ok (.bipush 60, 2) := by decide +kernel
theorem dX11_judge_73 : decode cX11_judge 73 = .ok (.imul, 1) := by decide +kernel
theorem dX11_judge_74 : decode cX11_judge 74 = .ok (.iload_n 2, 1) := by decide +kernel
theorem dX11_judge_75 : decode cX11_judge 75 = .ok (.iadd, 1) := by decide +kernel
theorem dX11_judge_76 : decode cX11_judge 76 = .ok (.iload_n 3, 1) := by decide +kernel
theorem dX11_judge_77 : decode cX11_judge 77 = .ok (.iadd, 1) := by decide +kernel
theorem dX11_judge_78 : decode cX11_judge 78 = .ok (.laload, 1) := by decide +kernel
theorem dX11_judge_79 : decode cX11_judge 79 = .ok (.aload_n 0, 1) := by decide +kernel
theorem dX11_judge_80 : decode cX11_judge 80 = .ok (.getfield 90, 3) := by decide +kernel
theorem dX11_judge_83 : decode cX11_judge 83 = .ok (.getfield 143, 3) := by decide +kernel
theorem dX11_judge_86 : decode cX11_judge 86 = .ok (.iload_n 3, 1) := by decide +kernel
theorem dX11_judge_87 : decode cX11_judge 87 = .ok (.iaload, 1) := by decide +kernel
theorem dX11_judge_88 : decode cX11_judge 88 = .ok (.i2l, 1) := by decide +kernel
theorem dX11_judge_89 : decode cX11_judge 89 = .ok (.lcmp, 1) := by decide +kernel
theorem dX11_judge_90 : decode cX11_judge 90 = .ok (.ifCond .eq 5, 3) := by decide +kernel
theorem dX11_judge_93 : decode cX11_judge 93 = .ok (.iload_n 3, 1) := by decide +kernel
theorem dX11_judge_94 : decode cX11_judge 94 = .ok (.ireturn, 1) := by decide +kernel
theorem dX11_judge_95 : decode cX11_judge 95 = .ok (.iinc 3 1, 3) := by decide +kernel
theorem dX11_judge_98 : decode cX11_judge 98 = .ok (.goto (-55), 3) := by decide +kernel
theorem dX11_judge_101 : decode cX11_judge 101 = .ok (.bipush (-5), 2) := by decide +kernel
theorem dX11_judge_103 : decode cX11_judge 103 = .ok (.ireturn, 1) := by decide +kernel
theorem dX11_image_0 : decode cX11_image 0 = .ok (.aload_n 0, 1) := by decide +kernel
theorem dX11_image_1 : decode cX11_image 1 = .ok (.iconst 1, 1) := by decide +kernel
theorem dX11_image_2 : decode cX11_image 2 = .ok (.putfield 238, 3) := by decide +kernel
theorem dX11_image_5 : decode cX11_image 5 = .ok (.aload_n 0, 1) := by decide +kernel
theorem dX11_image_6 : decode cX11_image 6 = .ok (.getfield 97, 3) := by decide +kernel
theorem dX11_image_9 : decode cX11_image 9 = .ok (.aload_n 0, 1) := by decide +kernel
theorem dX11_image_10 : decode cX11_image 10 = .ok (.getfield 90, 3) := by decide +kernel
theorem dX11_image_13 : decode cX11_image 13 = .ok (.invokevirtual 187, 3) := by decide +kernel
theorem dX11_image_16 : decode cX11_image 16 = .ok (.aload_n 0, 1) := by decide +kernel
theorem dX11_image_17 : decode cX11_image 17 = .ok (.getfield 26, 3) := by decide +kernel
theorem dX11_image_20 : decode cX11_image 20 = .ok (.aload_n 0, 1) := by decide +kernel
theorem dX11_image_21 : decode cX11_image 21 = .ok (.getfield 16, 3) := by decide +kernel
theorem dX11_image_24 : decode cX11_image 24 = .ok (.invokevirtual 242, 3) := by decide +kernel
theorem dX11_image_27 : decode cX11_image 27 = .ok (.aload_n 0, 1) := by decide +kernel
theorem dX11_image_28 : decode cX11_image 28 = .ok (.getfield 29, 3) := by decide +kernel
theorem dX11_image_31 : decode cX11_image 31 = .ok (.aload_n 0, 1) := by decide +kernel
theorem dX11_image_32 : decode cX11_image 32 = .ok (.getfield 20, 3) := by decide +kernel
theorem dX11_image_35 : decode cX11_image 35 = .ok (.invokevirtual 242, 3) := by decide +kernel
theorem dX11_image_38 : decode cX11_image 38 = .ok (.aload_n 0, 1) := by decide +kernel
theorem dX11_image_39 : decode cX11_image 39 = .ok (.getfield 32, 3) := by decide +kernel
theorem dX11_image_42 : decode cX11_image 42 = .ok (.aload_n 0, 1) := by decide +kernel
theorem dX11_image_43 : decode cX11_image 43 = .ok (.getfield 23, 3) := by decide +kernel
theorem dX11_image_46 : decode cX11_image 46 = .ok (.invokevirtual 242, 3) := by decide +kernel
theorem dX11_image_49 : decode cX11_image 49 = .ok (.aload_n 0, 1) := by decide +kernel
theorem dX11_image_50 : decode cX11_image 50 = .ok (.getfield 90, 3) := by decide +kernel
theorem dX11_image_53 : decode cX11_image 53 = .ok (.getfield 245, 3) := by decide +kernel
theorem dX11_image_56 : decode cX11_image 56 = .ok (.ireturn, 1) := by decide +kernel
theorem dX11_undo_0 : decode cX11_undo 0 = .ok (.aload_n 0, 1) := by decide +kernel
theorem dX11_undo_1 : decode cX11_undo 1 = .ok (.getfield 238, 3) := by decide +kernel
theorem dX11_undo_4 : decode cX11_undo 4 = .ok (.ifCond .ne 6, 3) := by decide +kernel
theorem dX11_undo_7 : decode cX11_undo 7 = .ok (.bipush (-3), 2) := by decide +kernel
theorem dX11_undo_9 : decode cX11_undo 9 = .ok (.ireturn, 1) := by decide +kernel
theorem dX11_undo_10 : decode cX11_undo 10 = .ok (.aload_n 0, 1) := by decide +kernel
theorem dX11_undo_11 : decode cX11_undo 11 = .ok (.getfield 90, 3) := by decide +kernel
theorem dX11_undo_14 : decode cX11_undo 14 = .ok (.aload_n 0, 1) := by decide +kernel
theorem dX11_undo_15 : decode cX11_undo 15 = .ok (.getfield 97, 3) := by decide +kernel
theorem dX11_undo_18 : decode cX11_undo 18 = .ok (.invokevirtual 187, 3) := by decide +kernel
theorem dX11_undo_21 : decode cX11_undo 21 = .ok (.aload_n 0, 1) := by decide +kernel
theorem dX11_undo_22 : decode cX11_undo 22 = .ok (.getfield 16, 3) := by decide +kernel
theorem dX11_undo_25 : decode cX11_undo 25 = .ok (.aload_n 0, 1) := by decide +kernel
theorem dX11_undo_26 : decode cX11_undo 26 = .ok (.getfield 26, 3) := by decide +kernel
theorem dX11_undo_29 : decode cX11_undo 29 = .ok (.invokevirtual 242, 3) := by decide +kernel
theorem dX11_undo_32 : decode cX11_undo 32 = .ok (.aload_n 0, 1) := by decide +kernel
theorem dX11_undo_33 : decode cX11_undo 33 = .ok (.getfield 20, 3) := by decide +kernel
theorem dX11_undo_36 : decode cX11_undo 36 = .ok (.aload_n 0, 1) := by decide +kernel
theorem dX11_undo_37 : decode cX11_undo 37 = .ok (.getfield 29, 3) := by decide +kernel
theorem dX11_undo_40 : decode cX11_undo 40 = .ok (.invokevirtual 242, 3) := by decide +kernel
theorem dX11_undo_43 : decode cX11_undo 43 = .ok (.aload_n 0, 1) := by decide +kernel
theorem dX11_undo_44 : decode cX11_undo 44 = .ok (.getfield 23, 3) := by decide +kernel
theorem dX11_undo_47 : decode cX11_undo 47 = .ok (.aload_n 0, 1) := by decide +kernel
theorem dX11_undo_48 : decode cX11_undo 48 = .ok (.getfield 32, 3) := by decide +kernel
theorem dX11_undo_51 : decode cX11_undo 51 = .ok (.invokevirtual 242, 3) := by decide +kernel
theorem dX11_undo_54 : decode cX11_undo 54 = .ok (.aload_n 0, 1) := by decide +kernel
theorem dX11_undo_55 : decode cX11_undo 55 = .ok (.getfield 90, 3) := by decide +kernel
theorem dX11_undo_58 : decode cX11_undo 58 = .ok (.getfield 245, 3) := by decide +kernel
theorem dX11_undo_61 : decode cX11_undo 61 = .ok (.ireturn, 1) := by decide +kernel
theorem dX11_act_0 : decode cX11_act 0 = .ok (.aload_n 0, 1) := by decide +kernel
theorem dX11_act_1 : decode cX11_act 1 = .ok (.getfield 49, 3) := by decide +kernel
theorem dX11_act_4 : decode cX11_act 4 = .ok (.iconst 0, 1) := by decide +kernel
theorem dX11_act_5 : decode cX11_act 5 = .ok (.putfield 248, 3) := by decide +kernel
theorem dX11_act_8 : decode cX11_act 8 = .ok (.aload_n 0, 1) := by decide +kernel
theorem dX11_act_9 : decode cX11_act 9 = .ok (.iload_n 1, 1) := by decide +kernel
theorem dX11_act_10 : decode cX11_act 10 = .ok (.invokevirtual 111, 3) := by decide +kernel
theorem dX11_act_13 : decode cX11_act 13 = .ok (.ifCond .ne 5, 3) := by decide +kernel
theorem dX11_act_16 : decode cX11_act 16 = .ok (.iconst 0, 1) := by decide +kernel
theorem dX11_act_17 : decode cX11_act 17 = .ok (.ireturn, 1) := by decide +kernel
theorem dX11_act_18 : decode cX11_act 18 = .ok (.aload_n 0, 1) := by decide +kernel
theorem dX11_act_19 : decode cX11_act 19 = .ok (.getfield 49, 3) := by decide +kernel
theorem dX11_act_22 : decode cX11_act 22 = .ok (.iload_n 1, 1) := by decide +kernel
theorem dX11_act_23 : decode cX11_act 23 = .ok (.putfield 251, 3) := by decide +kernel
theorem dX11_act_26 : decode cX11_act 26 = .ok (.aload_n 0, 1) := by decide +kernel
theorem dX11_act_27 : decode cX11_act 27 = .ok (.getfield 49, 3) := by decide +kernel
theorem dX11_act_30 : decode cX11_act 30 = .ok (.aload_n 0, 1) := by decide +kernel
theorem dX11_act_31 : decode cX11_act 31 = .ok (.getfield 90, 3) := by decide +kernel
theorem dX11_act_34 : decode cX11_act 34 = .ok (.getfield 117, 3) := by decide +kernel
theorem dX11_act_37 : decode cX11_act 37 = .ok (.iload_n 1, 1) := by decide +kernel
theorem dX11_act_38 : decode cX11_act 38 = .ok (.iaload, 1) := by decide +kernel
theorem dX11_act_39 : decode cX11_act 39 = .ok (.putfield 254, 3) := by decide +kernel
theorem dX11_act_42 : decode cX11_act 42 = .ok (.aload_n 0, 1) := by decide +kernel
theorem dX11_act_43 : decode cX11_act 43 = .ok (.getfield 90, 3) := by decide +kernel
theorem dX11_act_46 : decode cX11_act 46 = .ok (.iload_n 1, 1) := by decide +kernel
theorem dX11_act_47 : decode cX11_act 47 = .ok (.invokevirtual 131, 3) := by decide +kernel
theorem dX11_act_50 : decode cX11_act 50 = .ok (.astore 4, 2) := by decide +kernel
theorem dX11_act_52 : decode cX11_act 52 = .ok (.iload_n 2, 1) := by decide +kernel
theorem dX11_act_53 : decode cX11_act 53 = .ok (.tableswitch 60 0 2 #[27, 38, 49], 27) := by decide +kernel
theorem dX11_act_80 : decode cX11_act 80 = .ok (.aload 4, 2) := by decide +kernel
theorem dX11_act_82 : decode cX11_act 82 = .ok (.aload_n 0, 1) := by decide +kernel
theorem dX11_act_83 : decode cX11_act 83 = .ok (.getfield 49, 3) := by decide +kernel
theorem dX11_act_86 : decode cX11_act 86 = .ok (.iload_n 3, 1) := by decide +kernel
theorem dX11_act_87 : decode cX11_act 87 = .ok (.invokevirtual 256, 3) := by decide +kernel
theorem dX11_act_90 : decode cX11_act 90 = .ok (.ireturn, 1) := by decide +kernel
theorem dX11_act_91 : decode cX11_act 91 = .ok (.aload 4, 2) := by decide +kernel
theorem dX11_act_93 : decode cX11_act 93 = .ok (.aload_n 0, 1) := by decide +kernel
theorem dX11_act_94 : decode cX11_act 94 = .ok (.getfield 49, 3) := by decide +kernel
theorem dX11_act_97 : decode cX11_act 97 = .ok (.iload_n 3, 1) := by decide +kernel
theorem dX11_act_98 : decode cX11_act 98 = .ok (.invokevirtual 260, 3) := by decide +kernel
theorem dX11_act_101 : decode cX11_act 101 = .ok (.ireturn, 1) := by decide +kernel
theorem dX11_act_102 : decode cX11_act 102 = .ok (.aload 4, 2) := by decide +kernel
theorem dX11_act_104 : decode cX11_act 104 = .ok (.aload_n 0, 1) := by decide +kernel
theorem dX11_act_105 : decode cX11_act 105 = .ok (.getfield 49, 3) := by decide +kernel
theorem dX11_act_108 : decode cX11_act 108 = .ok (.iload_n 3, 1) := by decide +kernel
theorem dX11_act_109 : decode cX11_act 109 = .ok (.invokevirtual 263, 3) := by decide +kernel
theorem dX11_act_112 : decode cX11_act 112 = .ok (.ireturn, 1) := by decide +kernel
theorem dX11_act_113 : decode cX11_act 113 = .ok (.iconst 0, 1) := by decide +kernel
theorem dX11_act_114 : decode cX11_act 114 = .ok (.ireturn, 1) := by decide +kernel
theorem dX11_trace_0 : decode cX11_trace 0 = .ok (.iload_n 1, 1) := by decide +kernel
theorem dX11_trace_1 : decode cX11_trace 1 = .ok (.ifCond .lt 20, 3) := by decide +kernel
theorem dX11_trace_4 : decode cX11_trace 4 = .ok (.iload_n 1, 1) := by decide +kernel
theorem dX11_trace_5 : decode cX11_trace 5 = .ok (.aload_n 0, 1) := by decide +kernel
theorem dX11_trace_6 : decode cX11_trace 6 = .ok (.getfield 49, 3) := by decide +kernel
theorem dX11_trace_9 : decode cX11_trace 9 = .ok (.getfield 248, 3) := by decide +kernel
theorem dX11_trace_12 : decode cX11_trace 12 = .ok (.if_icmp .ge 9, 3) := by decide +kernel
theorem dX11_trace_15 : decode cX11_trace 15 = .ok (.iload_n 1, 1) := by decide +kernel
theorem dX11_trace_16 : decode cX11_trace 16 = .ok (.bipush 20, 2) := by decide +kernel
theorem dX11_trace_18 : decode cX11_trace 18 = .ok (.if_icmp .lt 5, 3) := by decide +kernel
theorem dX11_trace_21 : decode cX11_trace 21 = .ok (.iconst (-1), 1) := by decide +kernel
theorem dX11_trace_22 : decode cX11_trace 22 = .ok (.ireturn, 1) := by decide +kernel
theorem dX11_trace_23 : decode cX11_trace 23 = .ok (.aload_n 0, 1) := by decide +kernel
theorem dX11_trace_24 : decode cX11_trace 24 = .ok (.getfield 49, 3) := by decide +kernel
theorem dX11_trace_27 : decode cX11_trace 27 = .ok (.getfield 266, 3) := by decide +kernel
theorem dX11_trace_30 : decode cX11_trace 30 = .ok (.iload_n 1, 1) := by decide +kernel
theorem dX11_trace_31 : decode cX11_trace 31 = .ok (.iaload, 1) := by decide +kernel
theorem dX11_trace_32 : decode cX11_trace 32 = .ok (.ireturn, 1) := by decide +kernel
theorem dX11_taken_0 : decode cX11_taken 0 = .ok (.iload_n 2, 1) := by decide +kernel
theorem dX11_taken_1 : decode cX11_taken 1 = .ok (.ifCond .lt 9, 3) := by decide +kernel
theorem dX11_taken_4 : decode cX11_taken 4 = .ok (.iload_n 2, 1) := by decide +kernel
theorem dX11_taken_5 : decode cX11_taken 5 = .ok (.bipush 7, 2) := by decide +kernel
theorem dX11_taken_7 : decode cX11_taken 7 = .ok (.if_icmp .lt 6, 3) := by decide +kernel
theorem dX11_taken_10 : decode cX11_taken 10 = .ok (.bipush (-2), 2) := by decide +kernel
theorem dX11_taken_12 : decode cX11_taken 12 = .ok (.ireturn, 1) := by decide +kernel
theorem dX11_taken_13 : decode cX11_taken 13 = .ok (.aload_n 0, 1) := by decide +kernel
theorem dX11_taken_14 : decode cX11_taken 14 = .ok (.iload_n 1, 1) := by decide +kernel
theorem dX11_taken_15 : decode cX11_taken 15 = .ok (.invokevirtual 111, 3) := by decide +kernel
theorem dX11_taken_18 : decode cX11_taken 18 = .ok (.ifCond .ne 6, 3) := by decide +kernel
theorem dX11_taken_21 : decode cX11_taken 21 = .ok (.bipush (-11), 2) := by decide +kernel
theorem dX11_taken_23 : decode cX11_taken 23 = .ok (.ireturn, 1) := by decide +kernel
theorem dX11_taken_24 : decode cX11_taken 24 = .ok (.aload_n 0, 1) := by decide +kernel
theorem dX11_taken_25 : decode cX11_taken 25 = .ok (.getfield 90, 3) := by decide +kernel
theorem dX11_taken_28 : decode cX11_taken 28 = .ok (.getfield 114, 3) := by decide +kernel
theorem dX11_taken_31 : decode cX11_taken 31 = .ok (.iload_n 1, 1) := by decide +kernel
theorem dX11_taken_32 : decode cX11_taken 32 = .ok (.iaload, 1) := by decide +kernel
theorem dX11_taken_33 : decode cX11_taken 33 = .ok (.istore_n 3, 1) := by decide +kernel
theorem dX11_taken_34 : decode cX11_taken 34 = .ok (.iload_n 3, 1) := by decide +kernel
theorem dX11_taken_35 : decode cX11_taken 35 = .ok (.istore 4, 2) := by decide +kernel
theorem dX11_taken_37 : decode cX11_taken 37 = .ok (.iconst 0, 1) := by decide +kernel
theorem dX11_taken_38 : decode cX11_taken 38 = .ok (.istore 5, 2) := by decide +kernel
theorem dX11_taken_40 : decode cX11_taken 40 = .ok (.iload 5, 2) := by decide +kernel
theorem dX11_taken_42 : decode cX11_taken 42 = .ok (.bipush 7, 2) := by decide +kernel
theorem dX11_taken_44 : decode cX11_taken 44 = .ok (.if_icmp .ge 30, 3) := by decide +kernel
theorem dX11_taken_47 : decode cX11_taken 47 = .ok (.iload 4, 2) := by decide +kernel
theorem dX11_taken_49 : decode cX11_taken 49 = .ok (.ifCond .lt 25, 3) := by decide +kernel
theorem dX11_taken_52 : decode cX11_taken 52 = .ok (.iload 4, 2) := by decide +kernel
theorem dX11_taken_54 : decode cX11_taken 54 = .ok (.iload_n 2, 1) := by decide +kernel
theorem dX11_taken_55 : decode cX11_taken 55 = .ok (.if_icmp .ne 5, 3) := by decide +kernel
theorem dX11_taken_58 : decode cX11_taken 58 = .ok (.iload_n 3, 1) := by decide +kernel
theorem dX11_taken_59 : decode cX11_taken 59 = .ok (.ireturn, 1) := by decide +kernel
theorem dX11_taken_60 : decode cX11_taken 60 = .ok (.getstatic 269, 3) := by decide +kernel
theorem dX11_taken_63 : decode cX11_taken 63 = .ok (.iload 4, 2) := by decide +kernel
theorem dX11_taken_65 : decode cX11_taken 65 = .ok (.iaload, 1) := by decide +kernel
theorem dX11_taken_66 : decode cX11_taken 66 = .ok (.istore 4, 2) := by decide +kernel
theorem dX11_taken_68 : decode cX11_taken 68 = .ok (.iinc 5 1, 3) := by decide +kernel
theorem dX11_taken_71 : decode cX11_taken 71 = .ok (.goto (-31), 3) := by decide +kernel
theorem dX11_taken_74 : decode cX11_taken 74 = .ok (.bipush (-12), 2) := by decide +kernel
theorem dX11_taken_76 : decode cX11_taken 76 = .ok (.ireturn, 1) := by decide +kernel
theorem dX11_count_0 : decode cX11_count 0 = .ok (.iload_n 1, 1) := by decide +kernel
theorem dX11_count_1 : decode cX11_count 1 = .ok (.tableswitch 93 0 6 #[43, 51, 56, 64, 72, 80, 85], 43) := by decide +kernel
theorem dX11_count_44 : decode cX11_count 44 = .ok (.aload_n 0, 1) := by decide +kernel
theorem dX11_count_45 : decode cX11_count 45 = .ok (.getfield 90, 3) := by decide +kernel
theorem dX11_count_48 : decode cX11_count 48 = .ok (.getfield 245, 3) := by decide +kernel
theorem dX11_count_51 : decode cX11_count 51 = .ok (.ireturn, 1) := by decide +kernel
theorem dX11_count_52 : decode cX11_count 52 = .ok (.aload_n 0, 1) := by decide +kernel
theorem dX11_count_53 : decode cX11_count 53 = .ok (.getfield 153, 3) := by decide +kernel
theorem dX11_count_56 : decode cX11_count 56 = .ok (.ireturn, 1) := by decide +kernel
theorem dX11_count_57 : decode cX11_count 57 = .ok (.aload_n 0, 1) := by decide +kernel
theorem dX11_count_58 : decode cX11_count 58 = .ok (.getfield 16, 3) := by decide +kernel
theorem dX11_count_61 : decode cX11_count 61 = .ok (.getfield 226, 3) := by decide +kernel
theorem dX11_count_64 : decode cX11_count 64 = .ok (.ireturn, 1) := by decide +kernel
theorem dX11_count_65 : decode cX11_count 65 = .ok (.aload_n 0, 1) := by decide +kernel
theorem dX11_count_66 : decode cX11_count 66 = .ok (.getfield 20, 3) := by decide +kernel
theorem dX11_count_69 : decode cX11_count 69 = .ok (.getfield 226, 3) := by decide +kernel
theorem dX11_count_72 : decode cX11_count 72 = .ok (.ireturn, 1) := by decide +kernel
theorem dX11_count_73 : decode cX11_count 73 = .ok (.aload_n 0, 1) := by decide +kernel
theorem dX11_count_74 : decode cX11_count 74 = .ok (.getfield 23, 3) := by decide +kernel
theorem dX11_count_77 : decode cX11_count 77 = .ok (.getfield 226, 3) := by decide +kernel
theorem dX11_count_80 : decode cX11_count 80 = .ok (.ireturn, 1) := by decide +kernel
theorem dX11_count_81 : decode cX11_count 81 = .ok (.aload_n 0, 1) := by decide +kernel
theorem dX11_count_82 : decode cX11_count 82 = .ok (.getfield 149, 3) := by decide +kernel
theorem dX11_count_85 : decode cX11_count 85 = .ok (.ireturn, 1) := by decide +kernel
theorem dX11_count_86 : decode cX11_count 86 = .ok (.aload_n 0, 1) := by decide +kernel
theorem dX11_count_87 : decode cX11_count 87 = .ok (.getfield 49, 3) := by decide +kernel
theorem dX11_count_90 : decode cX11_count 90 = .ok (.getfield 248, 3) := by decide +kernel
theorem dX11_count_93 : decode cX11_count 93 = .ok (.ireturn, 1) := by decide +kernel
theorem dX11_count_94 : decode cX11_count 94 = .ok (.bipush (-2), 2) := by decide +kernel
theorem dX11_count_96 : decode cX11_count 96 = .ok (.ireturn, 1) := by decide +kernel
theorem dX11_tape_0 : decode cX11_tape 0 = .ok (.iload_n 1, 1) := by decide +kernel
theorem dX11_tape_1 : decode cX11_tape 1 = .ok (.invokestatic 235, 3) := by decide +kernel
theorem dX11_tape_4 : decode cX11_tape 4 = .ok (.ifCond .ne 5, 3) := by decide +kernel
theorem dX11_tape_7 : decode cX11_tape 7 = .ok (.iconst (-1), 1) := by decide +kernel
theorem dX11_tape_8 : decode cX11_tape 8 = .ok (.ireturn, 1) := by decide +kernel
theorem dX11_tape_9 : decode cX11_tape 9 = .ok (.iload_n 2, 1) := by decide +kernel
theorem dX11_tape_10 : decode cX11_tape 10 = .ok (.iconst (-1), 1) := by decide +kernel
theorem dX11_tape_11 : decode cX11_tape 11 = .ok (.if_icmp .ne 12, 3) := by decide +kernel
theorem dX11_tape_14 : decode cX11_tape 14 = .ok (.aload_n 0, 1) := by decide +kernel
theorem dX11_tape_15 : decode cX11_tape 15 = .ok (.getfield 53, 3) := by decide +kernel
theorem dX11_tape_18 : decode cX11_tape 18 = .ok (.iload_n 1, 1) := by decide +kernel
theorem dX11_tape_19 : decode cX11_tape 19 = .ok (.iconst (-1), 1) := by decide +kernel
theorem dX11_tape_20 : decode cX11_tape 20 = .ok (.iastore, 1) := by decide +kernel
theorem dX11_tape_21 : decode cX11_tape 21 = .ok (.iconst 1, 1) := by decide +kernel
theorem dX11_tape_22 : decode cX11_tape 22 = .ok (.ireturn, 1) := by decide +kernel
theorem dX11_tape_23 : decode cX11_tape 23 = .ok (.iload_n 2, 1) := by decide +kernel
theorem dX11_tape_24 : decode cX11_tape 24 = .ok (.ifCond .lt 14, 3) := by decide +kernel
theorem dX11_tape_27 : decode cX11_tape 27 = .ok (.iload_n 2, 1) := by decide +kernel
theorem dX11_tape_28 : decode cX11_tape 28 = .ok (.iconst 5, 1) := by decide +kernel
theorem dX11_tape_29 : decode cX11_tape 29 = .ok (.if_icmp .ge 9, 3) := by decide +kernel
theorem dX11_tape_32 : decode cX11_tape 32 = .ok (.iload_n 3, 1) := by decide +kernel
theorem dX11_tape_33 : decode cX11_tape 33 = .ok (.bipush 60, 2) := by decide +kernel
theorem dX11_tape_35 : decode cX11_tape 35 = .ok (.if_icmp .le 6, 3) := by decide +kernel
theorem dX11_tape_38 : decode cX11_tape 38 = .ok (.bipush (-2), 2) := by decide +kernel
theorem dX11_tape_40 : decode cX11_tape 40 = .ok (.ireturn, 1) := by decide +kernel
theorem dX11_tape_41 : decode cX11_tape 41 = .ok (.iload_n 3, 1) := by decide +kernel
theorem dX11_tape_42 : decode cX11_tape 42 = .ok (.ifCond .ge 6, 3) := by decide +kernel
theorem dX11_tape_45 : decode cX11_tape 45 = .ok (.bipush (-14), 2) := by decide +kernel
theorem dX11_tape_47 : decode cX11_tape 47 = .ok (.ireturn, 1) := by decide +kernel
theorem dX11_tape_48 : decode cX11_tape 48 = .ok (.aload_n 0, 1) := by decide +kernel
theorem dX11_tape_49 : decode cX11_tape 49 = .ok (.getfield 53, 3) := by decide +kernel
theorem dX11_tape_52 : decode cX11_tape 52 = .ok (.iload_n 1, 1) := by decide +kernel
theorem dX11_tape_53 : decode cX11_tape 53 = .ok (.iload_n 2, 1) := by decide +kernel
theorem dX11_tape_54 : decode cX11_tape 54 = .ok (.iastore, 1) := by decide +kernel
theorem dX11_tape_55 : decode cX11_tape 55 = .ok (.aload_n 0, 1) := by decide +kernel
theorem dX11_tape_56 : decode cX11_tape 56 = .ok (.getfield 57, 3) := by decide +kernel
theorem dX11_tape_59 : decode cX11_tape 59 = .ok (.iload_n 1, 1) := by decide +kernel
theorem dX11_tape_60 : decode cX11_tape 60 = .ok (.iload_n 3, 1) := by decide +kernel
theorem dX11_tape_61 : decode cX11_tape 61 = .ok (.iastore, 1) := by decide +kernel
theorem dX11_tape_62 : decode cX11_tape 62 = .ok (.iconst 0, 1) := by decide +kernel
theorem dX11_tape_63 : decode cX11_tape 63 = .ok (.istore 4, 2) := by decide +kernel
theorem dX11_tape_65 : decode cX11_tape 65 = .ok (.iload 4, 2) := by decide +kernel
theorem dX11_tape_67 : decode cX11_tape 67 = .ok (.iload_n 3, 1) := by decide +kernel
theorem dX11_tape_68 : decode cX11_tape 68 = .ok (.if_icmp .ge 22, 3) := by decide +kernel
theorem dX11_tape_71 : decode cX11_tape 71 = .ok (.aload_n 0, 1) := by decide +kernel
theorem dX11_tape_72 : decode cX11_tape 72 = .ok (.getfield 60, 3) := by decide +kernel
theorem dX11_tape_75 : decode cX11_tape 75 = .ok (.iload_n 1, 1) := by decide +kernel
theorem dX11_tape_76 : decode cX11_tape 76 = .ok (.bipush 60, 2) := by decide +kernel
theorem dX11_tape_78 : decode cX11_tape 78 = .ok (.imul, 1) := by decide +kernel
theorem dX11_tape_79 : decode cX11_tape 79 = .ok (.iload 4, 2) := by decide +kernel
theorem dX11_tape_81 : decode cX11_tape 81 = .ok (.iadd, 1) := by decide +kernel
theorem dX11_tape_82 : decode cX11_tape 82 = .ok (.lconst 0, 1) := by decide +kernel
theorem dX11_tape_83 : decode cX11_tape 83 = .ok (.lastore, 1) := by decide +kernel
theorem dX11_tape_84 : decode cX11_tape 84 = .ok (.iinc 4 1, 3) := by decide +kernel
theorem dX11_tape_87 : decode cX11_tape 87 = .ok (.goto (-22), 3) := by decide +kernel
theorem dX11_tape_90 : decode cX11_tape 90 = .ok (.iconst 1, 1) := by decide +kernel
theorem dX11_tape_91 : decode cX11_tape 91 = .ok (.ireturn, 1) := by decide +kernel
theorem dX11_item_0 : decode cX11_item 0 = .ok (.iload_n 1, 1) := by decide +kernel
theorem dX11_item_1 : decode cX11_item 1 = .ok (.invokestatic 235, 3) := by decide +kernel
theorem dX11_item_4 : decode cX11_item 4 = .ok (.ifCond .ne 5, 3) := by decide +kernel
theorem dX11_item_7 : decode cX11_item 7 = .ok (.iconst (-1), 1) := by decide +kernel
theorem dX11_item_8 : decode cX11_item 8 = .ok (.ireturn, 1) := by decide +kernel
theorem dX11_item_9 : decode cX11_item 9 = .ok (.aload_n 0, 1) := by decide +kernel
theorem dX11_item_10 : decode cX11_item 10 = .ok (.getfield 53, 3) := by decide +kernel
theorem dX11_item_13 : decode cX11_item 13 = .ok (.iload_n 1, 1) := by decide +kernel
theorem dX11_item_14 : decode cX11_item 14 = .ok (.iaload, 1) := by decide +kernel
theorem dX11_item_15 : decode cX11_item 15 = .ok (.iconst (-1), 1) := by decide +kernel
theorem dX11_item_16 : decode cX11_item 16 = .ok (.if_icmp .ne 6, 3) := by decide +kernel
theorem dX11_item_19 : decode cX11_item 19 = .ok (.bipush (-11), 2) := by decide +kernel
theorem dX11_item_21 : decode cX11_item 21 = .ok (.ireturn, 1) := by decide +kernel
theorem dX11_item_22 : decode cX11_item 22 = .ok (.iload_n 2, 1) := by decide +kernel
theorem dX11_item_23 : decode cX11_item 23 = .ok (.ifCond .lt 13, 3) := by decide +kernel
theorem dX11_item_26 : decode cX11_item 26 = .ok (.iload_n 2, 1) := by decide +kernel
theorem dX11_item_27 : decode cX11_item 27 = .ok (.aload_n 0, 1) := by decide +kernel
theorem dX11_item_28 : decode cX11_item 28 = .ok (.getfield 57, 3) := by decide +kernel
theorem dX11_item_31 : decode cX11_item 31 = .ok (.iload_n 1, 1) := by decide +kernel
theorem dX11_item_32 : decode cX11_item 32 = .ok (.iaload, 1) := by decide +kernel
theorem dX11_item_33 : decode cX11_item 33 = .ok (.if_icmp .lt 6, 3) := by decide +kernel
theorem dX11_item_36 : decode cX11_item 36 = .ok (.bipush (-13), 2) := by decide +kernel
theorem dX11_item_38 : decode cX11_item 38 = .ok (.ireturn, 1) := by decide +kernel
theorem dX11_item_39 : decode cX11_item 39 = .ok (.aload_n 0, 1) := by decide +kernel
theorem dX11_item_40 : decode cX11_item 40 = .ok (.getfield 60, 3) := by decide +kernel
theorem dX11_item_43 : decode cX11_item 43 = .ok (.iload_n 1, 1) := by decide +kernel
theorem dX11_item_44 : decode cX11_item 44 = .ok (.bipush 60, 2) := by decide +kernel
theorem dX11_item_46 : decode cX11_item 46 = .ok (.imul, 1) := by decide +kernel
theorem dX11_item_47 : decode cX11_item 47 = .ok (.iload_n 2, 1) := by decide +kernel
theorem dX11_item_48 : decode cX11_item 48 = .ok (.iadd, 1) := by decide +kernel
theorem dX11_item_49 : decode cX11_item 49 = .ok (.aload_n 0, 1) := by decide +kernel
theorem dX11_item_50 : decode cX11_item 50 = .ok (.getfield 53, 3) := by decide +kernel
theorem dX11_item_53 : decode cX11_item 53 = .ok (.iload_n 1, 1) := by decide +kernel
theorem dX11_item_54 : decode cX11_item 54 = .ok (.iaload, 1) := by decide +kernel
theorem dX11_item_55 : decode cX11_item 55 = .ok (.lload_n 3, 1) := by decide +kernel
theorem dX11_item_56 : decode cX11_item 56 = .ok (.invokestatic 272, 3) := by decide +kernel
theorem dX11_item_59 : decode cX11_item 59 = .ok (.lastore, 1) := by decide +kernel
theorem dX11_item_60 : decode cX11_item 60 = .ok (.iconst 1, 1) := by decide +kernel
theorem dX11_item_61 : decode cX11_item 61 = .ok (.ireturn, 1) := by decide +kernel
theorem dX11_read_0 : decode cX11_read 0 = .ok (.iload_n 1, 1) := by decide +kernel
theorem dX11_read_1 : decode cX11_read 1 = .ok (.invokestatic 235, 3) := by decide +kernel
theorem dX11_read_4 : decode cX11_read 4 = .ok (.ifCond .eq 27, 3) := by decide +kernel
theorem dX11_read_7 : decode cX11_read 7 = .ok (.aload_n 0, 1) := by decide +kernel
theorem dX11_read_8 : decode cX11_read 8 = .ok (.getfield 53, 3) := by decide +kernel
theorem dX11_read_11 : decode cX11_read 11 = .ok (.iload_n 1, 1) := by decide +kernel
theorem dX11_read_12 : decode cX11_read 12 = .ok (.iaload, 1) := by decide +kernel
theorem dX11_read_13 : decode cX11_read 13 = .ok (.iconst (-1), 1) := by decide +kernel
theorem dX11_read_14 : decode cX11_read 14 = .ok (.if_icmp .eq 17, 3) := by decide +kernel
theorem dX11_read_17 : decode cX11_read 17 = .ok (.iload_n 2, 1) := by decide +kernel
theorem dX11_read_18 : decode cX11_read 18 = .ok (.ifCond .lt 13, 3) := by decide +kernel
theorem dX11_read_21 : decode cX11_read 21 = .ok (.iload_n 2, 1) := by decide +kernel
theorem dX11_read_22 : decode cX11_read 22 = .ok (.aload_n 0, 1) := by decide +kernel
theorem dX11_read_23 : decode cX11_read 23 = .ok (.getfield 57, 3) := by decide +kernel
theorem dX11_read_26 : decode cX11_read 26 = .ok (.iload_n 1, 1) := by decide +kernel
theorem dX11_read_27 : decode cX11_read 27 = .ok (.iaload, 1) := by decide +kernel
theorem dX11_read_28 : decode cX11_read 28 = .ok (.if_icmp .lt 7, 3) := by decide +kernel
theorem dX11_read_31 : decode cX11_read 31 = .ok (.ldc2_w 220, 3) := by decide +kernel
theorem dX11_read_34 : decode cX11_read 34 = .ok (.lreturn, 1) := by decide +kernel
theorem dX11_read_35 : decode cX11_read 35 = .ok (.aload_n 0, 1) := by decide +kernel
theorem dX11_read_36 : decode cX11_read 36 = .ok (.getfield 60, 3) := by decide +kernel
theorem dX11_read_39 : decode cX11_read 39 = .ok (.iload_n 1, 1) := by decide +kernel
theorem dX11_read_40 : decode cX11_read 40 = .ok (.bipush 60, 2) := by decide +kernel
theorem dX11_read_42 : decode cX11_read 42 = .ok (.imul, 1) := by decide +kernel
theorem dX11_read_43 : decode cX11_read 43 = .ok (.iload_n 2, 1) := by decide +kernel
theorem dX11_read_44 : decode cX11_read 44 = .ok (.iadd, 1) := by decide +kernel
theorem dX11_read_45 : decode cX11_read 45 = .ok (.laload, 1) := by decide +kernel
theorem dX11_read_46 : decode cX11_read 46 = .ok (.lreturn, 1) := by decide +kernel
theorem dX11_shift_0 : decode cX11_shift 0 = .ok (.iload_n 1, 1) := by decide +kernel
theorem dX11_shift_1 : decode cX11_shift 1 = .ok (.invokestatic 235, 3) := by decide +kernel
theorem dX11_shift_4 : decode cX11_shift 4 = .ok (.ifCond .eq 10, 3) := by decide +kernel
theorem dX11_shift_7 : decode cX11_shift 7 = .ok (.iload_n 3, 1) := by decide +kernel
theorem dX11_shift_8 : decode cX11_shift 8 = .ok (.invokestatic 235, 3) := by decide +kernel
theorem dX11_shift_11 : decode cX11_shift 11 = .ok (.ifCond .ne 5, 3) := by decide +kernel
theorem dX11_shift_14 : decode cX11_shift 14 = .ok (.iconst (-1), 1) := by decide +kernel
theorem dX11_shift_15 : decode cX11_shift 15 = .ok (.ireturn, 1) := by decide +kernel
theorem dX11_shift_16 : decode cX11_shift 16 = .ok (.aload_n 0, 1) := by decide +kernel
theorem dX11_shift_17 : decode cX11_shift 17 = .ok (.getfield 53, 3) := by decide +kernel
theorem dX11_shift_20 : decode cX11_shift 20 = .ok (.iload_n 1, 1) := by decide +kernel
theorem dX11_shift_21 : decode cX11_shift 21 = .ok (.iaload, 1) := by decide +kernel
theorem dX11_shift_22 : decode cX11_shift 22 = .ok (.iconst (-1), 1) := by decide +kernel
theorem dX11_shift_23 : decode cX11_shift 23 = .ok (.if_icmp .eq 13, 3) := by decide +kernel
theorem dX11_shift_26 : decode cX11_shift 26 = .ok (.aload_n 0, 1) := by decide +kernel
theorem dX11_shift_27 : decode cX11_shift 27 = .ok (.getfield 53, 3) := by decide +kernel
theorem dX11_shift_30 : decode cX11_shift 30 = .ok (.iload_n 3, 1) := by decide +kernel
theorem dX11_shift_31 : decode cX11_shift 31 = .ok (.iaload, 1) := by decide +kernel
theorem dX11_shift_32 : decode cX11_shift 32 = .ok (.iconst (-1), 1) := by decide +kernel
theorem dX11_shift_33 : decode cX11_shift 33 = .ok (.if_icmp .ne 6, 3) := by decide +kernel
theorem dX11_shift_36 : decode cX11_shift 36 = .ok (.bipush (-11), 2) := by decide +kernel
theorem dX11_shift_38 : decode cX11_shift 38 = .ok (.ireturn, 1) := by decide +kernel
theorem dX11_shift_39 : decode cX11_shift 39 = .ok (.aload_n 0, 1) := by decide +kernel
theorem dX11_shift_40 : decode cX11_shift 40 = .ok (.getfield 53, 3) := by decide +kernel
theorem dX11_shift_43 : decode cX11_shift 43 = .ok (.iload_n 1, 1) := by decide +kernel
theorem dX11_shift_44 : decode cX11_shift 44 = .ok (.iaload, 1) := by decide +kernel
theorem dX11_shift_45 : decode cX11_shift 45 = .ok (.aload_n 0, 1) := by decide +kernel
theorem dX11_shift_46 : decode cX11_shift 46 = .ok (.getfield 53, 3) := by decide +kernel
theorem dX11_shift_49 : decode cX11_shift 49 = .ok (.iload_n 3, 1) := by decide +kernel
theorem dX11_shift_50 : decode cX11_shift 50 = .ok (.iaload, 1) := by decide +kernel
theorem dX11_shift_51 : decode cX11_shift 51 = .ok (.if_icmp .eq 6, 3) := by decide +kernel
theorem dX11_shift_54 : decode cX11_shift 54 = .ok (.bipush (-12), 2) := by decide +kernel
theorem dX11_shift_56 : decode cX11_shift 56 = .ok (.ireturn, 1) := by decide +kernel
theorem dX11_shift_57 : decode cX11_shift 57 = .ok (.aload_n 0, 1) := by decide +kernel
theorem dX11_shift_58 : decode cX11_shift 58 = .ok (.iload_n 1, 1) := by decide +kernel
theorem dX11_shift_59 : decode cX11_shift 59 = .ok (.iload_n 2, 1) := by decide +kernel
theorem dX11_shift_60 : decode cX11_shift 60 = .ok (.iload 5, 2) := by decide +kernel
theorem dX11_shift_62 : decode cX11_shift 62 = .ok (.invokevirtual 276, 3) := by decide +kernel
theorem dX11_shift_65 : decode cX11_shift 65 = .ok (.ifCond .eq 15, 3) := by decide +kernel
theorem dX11_shift_68 : decode cX11_shift 68 = .ok (.aload_n 0, 1) := by decide +kernel
theorem dX11_shift_69 : decode cX11_shift 69 = .ok (.iload_n 3, 1) := by decide +kernel
theorem dX11_shift_70 : decode cX11_shift 70 = .ok (.iload 4, 2) := by decide +kernel
theorem dX11_shift_72 : decode cX11_shift 72 = .ok (.iload 5, 2) := by decide +kernel
theorem dX11_shift_74 : decode cX11_shift 74 = .ok (.invokevirtual 276, 3) := by decide +kernel
theorem dX11_shift_77 : decode cX11_shift 77 = .ok (.ifCond .ne 6, 3) := by decide +kernel
theorem dX11_shift_80 : decode cX11_shift 80 = .ok (.bipush (-13), 2) := by decide +kernel
theorem dX11_shift_82 : decode cX11_shift 82 = .ok (.ireturn, 1) := by decide +kernel
theorem dX11_shift_83 : decode cX11_shift 83 = .ok (.aload_n 0, 1) := by decide +kernel
theorem dX11_shift_84 : decode cX11_shift 84 = .ok (.getfield 60, 3) := by decide +kernel
theorem dX11_shift_87 : decode cX11_shift 87 = .ok (.iload_n 1, 1) := by decide +kernel
theorem dX11_shift_88 : decode cX11_shift 88 = .ok (.bipush 60, 2) := by decide +kernel
theorem dX11_shift_90 : decode cX11_shift 90 = .ok (.imul, 1) := by decide +kernel
theorem dX11_shift_91 : decode cX11_shift 91 = .ok (.iload_n 2, 1) := by decide +kernel
theorem dX11_shift_92 : decode cX11_shift 92 = .ok (.iadd, 1) := by decide +kernel
theorem dX11_shift_93 : decode cX11_shift 93 = .ok (.aload_n 0, 1) := by decide +kernel
theorem dX11_shift_94 : decode cX11_shift 94 = .ok (.getfield 60, 3) := by decide +kernel
theorem dX11_shift_97 : decode cX11_shift 97 = .ok (.iload_n 3, 1) := by decide +kernel
theorem dX11_shift_98 : decode cX11_shift 98 = .ok (.bipush 60, 2) := by decide +kernel
theorem dX11_shift_100 : decode cX11_shift 100 = .ok (.imul, 1) := by decide +kernel
theorem dX11_shift_101 : decode cX11_shift 101 = .ok (.iload 4, 2) := by decide +kernel
theorem dX11_shift_103 : decode cX11_shift 103 = .ok (.iadd, 1) := by decide +kernel
theorem dX11_shift_104 : decode cX11_shift 104 = .ok (.iload 5, 2) := by decide +kernel
theorem dX11_shift_106 : decode cX11_shift 106 = .ok (.invokestatic 280, 3) := by decide +kernel
theorem dX11_shift_109 : decode cX11_shift 109 = .ok (.iload 5, 2) := by decide +kernel
theorem dX11_shift_111 : decode cX11_shift 111 = .ok (.ireturn, 1) := by decide +kernel
theorem dX11_isPerson_0 : decode cX11_isPerson 0 = .ok (.iload_n 1, 1) := by decide +kernel
theorem dX11_isPerson_1 : decode cX11_isPerson 1 = .ok (.ifCond .lt 18, 3) := by decide +kernel
theorem dX11_isPerson_4 : decode cX11_isPerson 4 = .ok (.iload_n 1, 1) := by decide +kernel
theorem dX11_isPerson_5 : decode cX11_isPerson 5 = .ok (.aload_n 0, 1) := by decide +kernel
theorem dX11_isPerson_6 : decode cX11_isPerson 6 = .ok (.getfield 90, 3) := by decide +kernel
theorem dX11_isPerson_9 : decode cX11_isPerson 9 = .ok (.getfield 245, 3) := by decide +kernel
theorem dX11_isPerson_12 : decode cX11_isPerson 12 = .ok (.if_icmp .ge 7, 3) := by decide +kernel
theorem dX11_isPerson_15 : decode cX11_isPerson 15 = .ok (.iconst 1, 1) := by decide +kernel
theorem dX11_isPerson_16 : decode cX11_isPerson 16 = .ok (.goto 4, 3) := by decide +kernel
theorem dX11_isPerson_19 : decode cX11_isPerson 19 = .ok (.iconst 0, 1) := by decide +kernel
theorem dX11_isPerson_20 : decode cX11_isPerson 20 = .ok (.ireturn, 1) := by decide +kernel
theorem dX11_isCell_0 : decode cX11_isCell 0 = .ok (.iload_n 0, 1) := by decide +kernel
theorem dX11_isCell_1 : decode cX11_isCell 1 = .ok (.ifCond .lt 13, 3) := by decide +kernel
theorem dX11_isCell_4 : decode cX11_isCell 4 = .ok (.iload_n 0, 1) := by decide +kernel
theorem dX11_isCell_5 : decode cX11_isCell 5 = .ok (.bipush 25, 2) := by decide +kernel
theorem dX11_isCell_7 : decode cX11_isCell 7 = .ok (.if_icmp .ge 7, 3) := by decide +kernel
theorem dX11_isCell_10 : decode cX11_isCell 10 = .ok (.iconst 1, 1) := by decide +kernel
theorem dX11_isCell_11 : decode cX11_isCell 11 = .ok (.goto 4, 3) := by decide +kernel
theorem dX11_isCell_14 : decode cX11_isCell 14 = .ok (.iconst 0, 1) := by decide +kernel
theorem dX11_isCell_15 : decode cX11_isCell 15 = .ok (.ireturn, 1) := by decide +kernel
theorem dX11_isDigit_0 : decode cX11_isDigit 0 = .ok (.iload_n 0, 1) := by decide +kernel
theorem dX11_isDigit_1 : decode cX11_isDigit 1 = .ok (.ifCond .lt 13, 3) := by decide +kernel
theorem dX11_isDigit_4 : decode cX11_isDigit 4 = .ok (.iload_n 0, 1) := by decide +kernel
theorem dX11_isDigit_5 : decode cX11_isDigit 5 = .ok (.bipush 9, 2) := by decide +kernel
theorem dX11_isDigit_7 : decode cX11_isDigit 7 = .ok (.if_icmp .gt 7, 3) := by decide +kernel
theorem dX11_isDigit_10 : decode cX11_isDigit 10 = .ok (.iconst 1, 1) := by decide +kernel
theorem dX11_isDigit_11 : decode cX11_isDigit 11 = .ok (.goto 4, 3) := by decide +kernel
theorem dX11_isDigit_14 : decode cX11_isDigit 14 = .ok (.iconst 0, 1) := by decide +kernel
theorem dX11_isDigit_15 : decode cX11_isDigit 15 = .ok (.ireturn, 1) := by decide +kernel
theorem dX11_isAskedSpan_0 : decode cX11_isAskedSpan 0 = .ok (.iload_n 0, 1) := by decide +kernel
theorem dX11_isAskedSpan_1 : decode cX11_isAskedSpan 1 = .ok (.ifCond .lt 13, 3) := by decide +kernel
theorem dX11_isAskedSpan_4 : decode cX11_isAskedSpan 4 = .ok (.iload_n 0, 1) := by decide +kernel
theorem dX11_isAskedSpan_5 : decode cX11_isAskedSpan 5 = .ok (.bipush 40, 2) := by decide +kernel
theorem dX11_isAskedSpan_7 : decode cX11_isAskedSpan 7 = .ok (.if_icmp .gt 7, 3) := by decide +kernel
theorem dX11_isAskedSpan_10 : decode cX11_isAskedSpan 10 = .ok (.iconst 1, 1) := by decide +kernel
theorem dX11_isAskedSpan_11 : decode cX11_isAskedSpan 11 = .ok (.goto 4, 3) := by decide +kernel
theorem dX11_isAskedSpan_14 : decode cX11_isAskedSpan 14 = .ok (.iconst 0, 1) := by decide +kernel
theorem dX11_isAskedSpan_15 : decode cX11_isAskedSpan 15 = .ok (.ireturn, 1) := by decide +kernel
theorem dX11_isFractionPart_0 : decode cX11_isFractionPart 0 = .ok (.iload_n 0, 1) := by decide +kernel
theorem dX11_isFractionPart_1 : decode cX11_isFractionPart 1 = .ok (.ifCond .eq 8, 3) := by decide +kernel
theorem dX11_isFractionPart_4 : decode cX11_isFractionPart 4 = .ok (.iload_n 0, 1) := by decide +kernel
theorem dX11_isFractionPart_5 : decode cX11_isFractionPart 5 = .ok (.iconst 1, 1) := by decide +kernel
theorem dX11_isFractionPart_6 : decode cX11_isFractionPart 6 = .ok (.if_icmp .ne 7, 3) := by decide +kernel
theorem dX11_isFractionPart_9 : decode cX11_isFractionPart 9 = .ok (.iconst 1, 1) := by decide +kernel
theorem dX11_isFractionPart_10 : decode cX11_isFractionPart 10 = .ok (.goto 4, 3) := by decide +kernel
theorem dX11_isFractionPart_13 : decode cX11_isFractionPart 13 = .ok (.iconst 0, 1) := by decide +kernel
theorem dX11_isFractionPart_14 : decode cX11_isFractionPart 14 = .ok (.ireturn, 1) := by decide +kernel
theorem dX11_isTape_0 : decode cX11_isTape 0 = .ok (.iload_n 0, 1) := by decide +kernel
theorem dX11_isTape_1 : decode cX11_isTape 1 = .ok (.ifCond .lt 13, 3) := by decide +kernel
theorem dX11_isTape_4 : decode cX11_isTape 4 = .ok (.iload_n 0, 1) := by decide +kernel
theorem dX11_isTape_5 : decode cX11_isTape 5 = .ok (.bipush 6, 2) := by decide +kernel
theorem dX11_isTape_7 : decode cX11_isTape 7 = .ok (.if_icmp .ge 7, 3) := by decide +kernel
theorem dX11_isTape_10 : decode cX11_isTape 10 = .ok (.iconst 1, 1) := by decide +kernel
theorem dX11_isTape_11 : decode cX11_isTape 11 = .ok (.goto 4, 3) := by decide +kernel
theorem dX11_isTape_14 : decode cX11_isTape 14 = .ok (.iconst 0, 1) := by decide +kernel
theorem dX11_isTape_15 : decode cX11_isTape 15 = .ok (.ireturn, 1) := by decide +kernel
theorem dX11_hasItems_0 : decode cX11_hasItems 0 = .ok (.iload_n 2, 1) := by decide +kernel
theorem dX11_hasItems_1 : decode cX11_hasItems 1 = .ok (.ifCond .lt 23, 3) := by decide +kernel
theorem dX11_hasItems_4 : decode cX11_hasItems 4 = .ok (.iload_n 3, 1) := by decide +kernel
theorem dX11_hasItems_5 : decode cX11_hasItems 5 = .ok (.ifCond .lt 19, 3) := by decide +kernel
theorem dX11_hasItems_8 : decode cX11_hasItems 8 = .ok (.iload_n 3, 1) := by decide +kernel
theorem dX11_hasItems_9 : decode cX11_hasItems 9 = .ok (.aload_n 0, 1) := by decide +kernel
theorem dX11_hasItems_10 : decode cX11_hasItems 10 = .ok (.getfield 57, 3) := by decide +kernel
theorem dX11_hasItems_13 : decode cX11_hasItems 13 = .ok (.iload_n 1, 1) := by decide +kernel
theorem dX11_hasItems_14 : decode cX11_hasItems 14 = .ok (.iaload, 1) := by decide +kernel
theorem dX11_hasItems_15 : decode cX11_hasItems 15 = .ok (.iload_n 2, 1) := by decide +kernel
theorem dX11_hasItems_16 : decode cX11_hasItems 16 = .ok (.isub, 1) := by decide +kernel
theorem dX11_hasItems_17 : decode cX11_hasItems 17 = .ok (.if_icmp .gt 7, 3) := by decide +kernel
theorem dX11_hasItems_20 : decode cX11_hasItems 20 = .ok (.iconst 1, 1) := by decide +kernel
theorem dX11_hasItems_21 : decode cX11_hasItems 21 = .ok (.goto 4, 3) := by decide +kernel
theorem dX11_hasItems_24 : decode cX11_hasItems 24 = .ok (.iconst 0, 1) := by decide +kernel
theorem dX11_hasItems_25 : decode cX11_hasItems 25 = .ok (.ireturn, 1) := by decide +kernel
theorem dX11_asItem_0 : decode cX11_asItem 0 = .ok (.iload_n 0, 1) := by decide +kernel
theorem dX11_asItem_1 : decode cX11_asItem 1 = .ok (.tableswitch 61 0 4 #[35, 40, 45, 61, 49], 35) := by decide +kernel
theorem dX11_asItem_36 : decode cX11_asItem 36 = .ok (.lload_n 1, 1) := by decide +kernel
theorem dX11_asItem_37 : decode cX11_asItem 37 = .ok (.l2i, 1) := by decide +kernel
theorem dX11_asItem_38 : decode cX11_asItem 38 = .ok (.i2b, 1) := by decide +kernel
theorem dX11_asItem_39 : decode cX11_asItem 39 = .ok (.i2l, 1) := by decide +kernel
theorem dX11_asItem_40 : decode cX11_asItem 40 = .ok (.lreturn, 1) := by decide +kernel
theorem dX11_asItem_41 : decode cX11_asItem 41 = .ok (.lload_n 1, 1) := by decide +kernel
theorem dX11_asItem_42 : decode cX11_asItem 42 = .ok (.l2i, 1) := by decide +kernel
theorem dX11_asItem_43 : decode cX11_asItem 43 = .ok (.i2s, 1) := by decide +kernel
theorem dX11_asItem_44 : decode cX11_asItem 44 = .ok (.i2l, 1) := by decide +kernel
theorem dX11_asItem_45 : decode cX11_asItem 45 = .ok (.lreturn, 1) := by decide +kernel
theorem dX11_asItem_46 : decode cX11_asItem 46 = .ok (.lload_n 1, 1) := by decide +kernel
theorem dX11_asItem_47 : decode cX11_asItem 47 = .ok (.l2i, 1) := by decide +kernel
theorem dX11_asItem_48 : decode cX11_asItem 48 = .ok (.i2l, 1) := by decide +kernel
theorem dX11_asItem_49 : decode cX11_asItem 49 = .ok (.lreturn, 1) := by decide +kernel
theorem dX11_asItem_50 : decode cX11_asItem 50 = .ok (.lload_n 1, 1) := by decide +kernel
theorem dX11_asItem_51 : decode cX11_asItem 51 = .ok (.lconst 0, 1) := by decide +kernel
theorem dX11_asItem_52 : decode cX11_asItem 52 = .ok (.lcmp, 1) := by decide +kernel
theorem dX11_asItem_53 : decode cX11_asItem 53 = .ok (.ifCond .eq 7, 3) := by decide +kernel
theorem dX11_asItem_56 : decode cX11_asItem 56 = .ok (.lconst 1, 1) := by decide +kernel
theorem dX11_asItem_57 : decode cX11_asItem 57 = .ok (.goto 4, 3) := by decide +kernel
theorem dX11_asItem_60 : decode cX11_asItem 60 = .ok (.lconst 0, 1) := by decide +kernel
theorem dX11_asItem_61 : decode cX11_asItem 61 = .ok (.lreturn, 1) := by decide +kernel
theorem dX11_asItem_62 : decode cX11_asItem 62 = .ok (.lload_n 1, 1) := by decide +kernel
theorem dX11_asItem_63 : decode cX11_asItem 63 = .ok (.lreturn, 1) := by decide +kernel
theorem dX11_nextTo_0 : decode cX11_nextTo 0 = .ok (.iload_n 1, 1) := by decide +kernel
theorem dX11_nextTo_1 : decode cX11_nextTo 1 = .ok (.tableswitch 69 0 2 #[27, 40, 55], 27) := by decide +kernel
theorem dX11_nextTo_28 : decode cX11_nextTo 28 = .ok (.iload_n 0, 1) := by decide +kernel
theorem dX11_nextTo_29 : decode cX11_nextTo 29 = .ok (.iconst 5, 1) := by decide +kernel
theorem dX11_nextTo_30 : decode cX11_nextTo 30 = .ok (.if_icmp .lt 9, 3) := by decide +kernel
theorem dX11_nextTo_33 : decode cX11_nextTo 33 = .ok (.iload_n 0, 1) := by decide +kernel
theorem dX11_nextTo_34 : decode cX11_nextTo 34 = .ok (.iconst 5, 1) := by decide +kernel
theorem dX11_nextTo_35 : decode cX11_nextTo 35 = .ok (.isub, 1) := by decide +kernel
theorem dX11_nextTo_36 : decode cX11_nextTo 36 = .ok (.goto 4, 3) := by decide +kernel
theorem dX11_nextTo_39 : decode cX11_nextTo 39 = .ok (.iconst (-1), 1) := by decide +kernel
theorem dX11_nextTo_40 : decode cX11_nextTo 40 = .ok (.ireturn, 1) := by decide +kernel
theorem dX11_nextTo_41 : decode cX11_nextTo 41 = .ok (.iload_n 0, 1) := by decide +kernel
theorem dX11_nextTo_42 : decode cX11_nextTo 42 = .ok (.iconst 5, 1) := by decide +kernel
theorem dX11_nextTo_43 : decode cX11_nextTo 43 = .ok (.irem, 1) := by decide +kernel
theorem dX11_nextTo_44 : decode cX11_nextTo 44 = .ok (.iconst 4, 1) := by decide +kernel
theorem dX11_nextTo_45 : decode cX11_nextTo 45 = .ok (.if_icmp .ge 9, 3) := by decide +kernel
theorem dX11_nextTo_48 : decode cX11_nextTo 48 = .ok (.iload_n 0, 1) := by decide +kernel
theorem dX11_nextTo_49 : decode cX11_nextTo 49 = .ok (.iconst 1, 1) := by decide +kernel
theorem dX11_nextTo_50 : decode cX11_nextTo 50 = .ok (.iadd, 1) := by decide +kernel
theorem dX11_nextTo_51 : decode cX11_nextTo 51 = .ok (.goto 4, 3) := by decide +kernel
theorem dX11_nextTo_54 : decode cX11_nextTo 54 = .ok (.iconst (-1), 1) := by decide +kernel
theorem dX11_nextTo_55 : decode cX11_nextTo 55 = .ok (.ireturn, 1) := by decide +kernel
theorem dX11_nextTo_56 : decode cX11_nextTo 56 = .ok (.iload_n 0, 1) := by decide +kernel
theorem dX11_nextTo_57 : decode cX11_nextTo 57 = .ok (.bipush 20, 2) := by decide +kernel
theorem dX11_nextTo_59 : decode cX11_nextTo 59 = .ok (.if_icmp .ge 9, 3) := by decide +kernel
theorem dX11_nextTo_62 : decode cX11_nextTo 62 = .ok (.iload_n 0, 1) := by decide +kernel
theorem dX11_nextTo_63 : decode cX11_nextTo 63 = .ok (.iconst 5, 1) := by decide +kernel
theorem dX11_nextTo_64 : decode cX11_nextTo 64 = .ok (.iadd, 1) := by decide +kernel
theorem dX11_nextTo_65 : decode cX11_nextTo 65 = .ok (.goto 4, 3) := by decide +kernel
theorem dX11_nextTo_68 : decode cX11_nextTo 68 = .ok (.iconst (-1), 1) := by decide +kernel
theorem dX11_nextTo_69 : decode cX11_nextTo 69 = .ok (.ireturn, 1) := by decide +kernel
theorem dX11_nextTo_70 : decode cX11_nextTo 70 = .ok (.iload_n 0, 1) := by decide +kernel
theorem dX11_nextTo_71 : decode cX11_nextTo 71 = .ok (.iconst 5, 1) := by decide +kernel
theorem dX11_nextTo_72 : decode cX11_nextTo 72 = .ok (.irem, 1) := by decide +kernel
theorem dX11_nextTo_73 : decode cX11_nextTo 73 = .ok (.ifCond .le 9, 3) := by decide +kernel
theorem dX11_nextTo_76 : decode cX11_nextTo 76 = .ok (.iload_n 0, 1) := by decide +kernel
theorem dX11_nextTo_77 : decode cX11_nextTo 77 = .ok (.iconst 1, 1) := by decide +kernel
theorem dX11_nextTo_78 : decode cX11_nextTo 78 = .ok (.isub, 1) := by decide +kernel
theorem dX11_nextTo_79 : decode cX11_nextTo 79 = .ok (.goto 4, 3) := by decide +kernel
theorem dX11_nextTo_82 : decode cX11_nextTo 82 = .ok (.iconst (-1), 1) := by decide +kernel
theorem dX11_nextTo_83 : decode cX11_nextTo 83 = .ok (.ireturn, 1) := by decide +kernel
theorem dX11_isNext_0 : decode cX11_isNext 0 = .ok (.iconst 0, 1) := by decide +kernel
theorem dX11_isNext_1 : decode cX11_isNext 1 = .ok (.istore_n 2, 1) := by decide +kernel
theorem dX11_isNext_2 : decode cX11_isNext 2 = .ok (.iload_n 2, 1) := by decide +kernel
theorem dX11_isNext_3 : decode cX11_isNext 3 = .ok (.iconst 4, 1) := by decide +kernel
theorem dX11_isNext_4 : decode cX11_isNext 4 = .ok (.if_icmp .ge 20, 3) := by decide +kernel
theorem dX11_isNext_7 : decode cX11_isNext 7 = .ok (.iload_n 0, 1) := by decide +kernel
theorem dX11_isNext_8 : decode cX11_isNext 8 = .ok (.iload_n 2, 1) := by decide +kernel
theorem dX11_isNext_9 : decode cX11_isNext 9 = .ok (.invokestatic 286, 3) := by decide +kernel
theorem dX11_isNext_12 : decode cX11_isNext 12 = .ok (.iload_n 1, 1) := by decide +kernel
theorem dX11_isNext_13 : decode cX11_isNext 13 = .ok (.if_icmp .ne 5, 3) := by decide +kernel
theorem dX11_isNext_16 : decode cX11_isNext 16 = .ok (.iconst 1, 1) := by decide +kernel
theorem dX11_isNext_17 : decode cX11_isNext 17 = .ok (.ireturn, 1) := by decide +kernel
theorem dX11_isNext_18 : decode cX11_isNext 18 = .ok (.iinc 2 1, 3) := by decide +kernel
theorem dX11_isNext_21 : decode cX11_isNext 21 = .ok (.goto (-19), 3) := by decide +kernel
theorem dX11_isNext_24 : decode cX11_isNext 24 = .ok (.iconst 0, 1) := by decide +kernel
theorem dX11_isNext_25 : decode cX11_isNext 25 = .ok (.ireturn, 1) := by decide +kernel
theorem dX11_shareOfCells_0 : decode cX11_shareOfCells 0 = .ok (.iconst 1, 1) := by decide +kernel
theorem dX11_shareOfCells_1 : decode cX11_shareOfCells 1 = .ok (.istore_n 2, 1) := by decide +kernel
theorem dX11_shareOfCells_2 : decode cX11_shareOfCells 2 = .ok (.iload_n 0, 1) := by decide +kernel
theorem dX11_shareOfCells_3 : decode cX11_shareOfCells 3 = .ok (.bipush 25, 2) := by decide +kernel
theorem dX11_shareOfCells_5 : decode cX11_shareOfCells 5 = .ok (.irem, 1) := by decide +kernel
theorem dX11_shareOfCells_6 : decode cX11_shareOfCells 6 = .ok (.ifCond .ne 9, 3) := by decide +kernel
theorem dX11_shareOfCells_9 : decode cX11_shareOfCells 9 = .ok (.bipush 25, 2) := by decide +kernel
theorem dX11_shareOfCells_11 : decode cX11_shareOfCells 11 = .ok (.istore_n 2, 1) := by decide +kernel
theorem dX11_shareOfCells_12 : decode cX11_shareOfCells 12 = .ok (.goto 11, 3) := by decide +kernel
theorem dX11_shareOfCells_15 : decode cX11_shareOfCells 15 = .ok (.iload_n 0, 1) := by decide +kernel
theorem dX11_shareOfCells_16 : decode cX11_shareOfCells 16 = .ok (.iconst 5, 1) := by decide +kernel
theorem dX11_shareOfCells_17 : decode cX11_shareOfCells 17 = .ok (.irem, 1) := by decide +kernel
theorem dX11_shareOfCells_18 : decode cX11_shareOfCells 18 = .ok (.ifCond .ne 5, 3) := by decide +kernel
theorem dX11_shareOfCells_21 : decode cX11_shareOfCells 21 = .ok (.iconst 5, 1) := by decide +kernel
theorem dX11_shareOfCells_22 : decode cX11_shareOfCells 22 = .ok (.istore_n 2, 1) := by decide +kernel
theorem dX11_shareOfCells_23 : decode cX11_shareOfCells 23 = .ok (.iload_n 1, 1) := by decide +kernel
theorem dX11_shareOfCells_24 : decode cX11_shareOfCells 24 = .ok (.ifCond .ne 10, 3) := by decide +kernel
theorem dX11_shareOfCells_27 : decode cX11_shareOfCells 27 = .ok (.iload_n 0, 1) := by decide +kernel
theorem dX11_shareOfCells_28 : decode cX11_shareOfCells 28 = .ok (.iload_n 2, 1) := by decide +kernel
theorem dX11_shareOfCells_29 : decode cX11_shareOfCells 29 = .ok (.idiv, 1) := by decide +kernel
theorem dX11_shareOfCells_30 : decode cX11_shareOfCells 30 = .ok (.i2l, 1) := by decide +kernel
theorem dX11_shareOfCells_31 : decode cX11_shareOfCells 31 = .ok (.goto 8, 3) := by decide +kernel
theorem dX11_shareOfCells_34 : decode cX11_shareOfCells 34 = .ok (.bipush 25, 2) := by decide +kernel
theorem dX11_shareOfCells_36 : decode cX11_shareOfCells 36 = .ok (.iload_n 2, 1) := by decide +kernel
theorem dX11_shareOfCells_37 : decode cX11_shareOfCells 37 = .ok (.idiv, 1) := by decide +kernel
theorem dX11_shareOfCells_38 : decode cX11_shareOfCells 38 = .ok (.i2l, 1) := by decide +kernel
theorem dX11_shareOfCells_39 : decode cX11_shareOfCells 39 = .ok (.lreturn, 1) := by decide +kernel
theorem dX11_blockOf_0 : decode cX11_blockOf 0 = .ok (.aload_n 0, 1) := by decide +kernel
theorem dX11_blockOf_1 : decode cX11_blockOf 1 = .ok (.iload_n 1, 1) := by decide +kernel
theorem dX11_blockOf_2 : decode cX11_blockOf 2 = .ok (.invokevirtual 289, 3) := by decide +kernel
theorem dX11_blockOf_5 : decode cX11_blockOf 5 = .ok (.aload_n 0, 1) := by decide +kernel
theorem dX11_blockOf_6 : decode cX11_blockOf 6 = .ok (.getfield 94, 3) := by decide +kernel
theorem dX11_blockOf_9 : decode cX11_blockOf 9 = .ok (.iload_n 1, 1) := by decide +kernel
theorem dX11_blockOf_10 : decode cX11_blockOf 10 = .ok (.iload_n 2, 1) := by decide +kernel
theorem dX11_blockOf_11 : decode cX11_blockOf 11 = .ok (.invokevirtual 191, 3) := by decide +kernel
theorem dX11_blockOf_14 : decode cX11_blockOf 14 = .ok (.invokestatic 292, 3) := by decide +kernel
theorem dX11_blockOf_17 : decode cX11_blockOf 17 = .ok (.istore_n 3, 1) := by decide +kernel
theorem dX11_blockOf_18 : decode cX11_blockOf 18 = .ok (.bipush (-5), 2) := by decide +kernel
theorem dX11_blockOf_20 : decode cX11_blockOf 20 = .ok (.istore 4, 2) := by decide +kernel
theorem dX11_blockOf_22 : decode cX11_blockOf 22 = .ok (.iconst 0, 1) := by decide +kernel
theorem dX11_blockOf_23 : decode cX11_blockOf 23 = .ok (.istore 5, 2) := by decide +kernel
theorem dX11_blockOf_25 : decode cX11_blockOf 25 = .ok (.iload 5, 2) := by decide +kernel
theorem dX11_blockOf_27 : decode cX11_blockOf 27 = .ok (.bipush 25, 2) := by decide +kernel
theorem dX11_blockOf_29 : decode cX11_blockOf 29 = .ok (.if_icmp .ge 82, 3) := by decide +kernel
theorem dX11_blockOf_32 : decode cX11_blockOf 32 = .ok (.iload_n 3, 1) := by decide +kernel
theorem dX11_blockOf_33 : decode cX11_blockOf 33 = .ok (.bipush 40, 2) := by decide +kernel
theorem dX11_blockOf_35 : decode cX11_blockOf 35 = .ok (.if_icmp .gt 76, 3) := by decide +kernel
theorem dX11_blockOf_38 : decode cX11_blockOf 38 = .ok (.iload 5, 2) := by decide +kernel
theorem dX11_blockOf_40 : decode cX11_blockOf 40 = .ok (.iload_n 2, 1) := by decide +kernel
theorem dX11_blockOf_41 : decode cX11_blockOf 41 = .ok (.if_icmp .eq 64, 3) := by decide +kernel
theorem dX11_blockOf_44 : decode cX11_blockOf 44 = .ok (.iload 5, 2) := by decide +kernel
theorem dX11_blockOf_46 : decode cX11_blockOf 46 = .ok (.aload_n 0, 1) := by decide +kernel
theorem dX11_blockOf_47 : decode cX11_blockOf 47 = .ok (.getfield 90, 3) := by decide +kernel
theorem dX11_blockOf_50 : decode cX11_blockOf 50 = .ok (.getfield 120, 3) := by decide +kernel
theorem dX11_blockOf_53 : decode cX11_blockOf 53 = .ok (.iload_n 1, 1) := by decide +kernel
theorem dX11_blockOf_54 : decode cX11_blockOf 54 = .ok (.iaload, 1) := by decide +kernel
theorem dX11_blockOf_55 : decode cX11_blockOf 55 = .ok (.if_icmp .ne 6, 3) := by decide +kernel
theorem dX11_blockOf_58 : decode cX11_blockOf 58 = .ok (.goto 47, 3) := by decide +kernel
theorem dX11_blockOf_61 : decode cX11_blockOf 61 = .ok (.aload_n 0, 1) := by decide +kernel
theorem dX11_blockOf_62 : decode cX11_blockOf 62 = .ok (.iload_n 1, 1) := by decide +kernel
theorem dX11_blockOf_63 : decode cX11_blockOf 63 = .ok (.invokevirtual 289, 3) := by decide +kernel
theorem dX11_blockOf_66 : decode cX11_blockOf 66 = .ok (.aload_n 0, 1) := by decide +kernel
theorem dX11_blockOf_67 : decode cX11_blockOf 67 = .ok (.getfield 94, 3) := by decide +kernel
theorem dX11_blockOf_70 : decode cX11_blockOf 70 = .ok (.getfield 143, 3) := by decide +kernel
theorem dX11_blockOf_73 : decode cX11_blockOf 73 = .ok (.iload 5, 2) := by decide +kernel
theorem dX11_blockOf_75 : decode cX11_blockOf 75 = .ok (.bipush 99, 2) := by decide +kernel
theorem dX11_blockOf_77 : decode cX11_blockOf 77 = .ok (.iastore, 1) := by decide +kernel
theorem dX11_blockOf_78 : decode cX11_blockOf 78 = .ok (.aload_n 0, 1) := by decide +kernel
theorem dX11_blockOf_79 : decode cX11_blockOf 79 = .ok (.getfield 94, 3) := by decide +kernel
theorem dX11_blockOf_82 : decode cX11_blockOf 82 = .ok (.iload_n 1, 1) := by decide +kernel
theorem dX11_blockOf_83 : decode cX11_blockOf 83 = .ok (.iload_n 2, 1) := by decide +kernel
theorem dX11_blockOf_84 : decode cX11_blockOf 84 = .ok (.invokevirtual 191, 3) := by decide +kernel
theorem dX11_blockOf_87 : decode cX11_blockOf 87 = .ok (.invokestatic 292, 3) := by decide +kernel
theorem dX11_blockOf_90 : decode cX11_blockOf 90 = .ok (.istore 6, 2) := by decide +kernel
theorem dX11_blockOf_92 : decode cX11_blockOf 92 = .ok (.iload 6, 2) := by decide +kernel
theorem dX11_blockOf_94 : decode cX11_blockOf 94 = .ok (.iload_n 3, 1) := by decide +kernel
theorem dX11_blockOf_95 : decode cX11_blockOf 95 = .ok (.if_icmp .le 10, 3) := by decide +kernel
theorem dX11_blockOf_98 : decode cX11_blockOf 98 = .ok (.iload 6, 2) := by decide +kernel
theorem dX11_blockOf_100 : decode cX11_blockOf 100 = .ok (.istore_n 3, 1) := by decide +kernel
theorem dX11_blockOf_101 : decode cX11_blockOf 101 = .ok (.iload 5, 2) := by decide +kernel
theorem dX11_blockOf_103 : decode cX11_blockOf 103 = .ok (.istore 4, 2) := by decide +kernel
theorem dX11_blockOf_105 : decode cX11_blockOf 105 = .ok (.iinc 5 1, 3) := by decide +kernel
theorem dX11_blockOf_108 : decode cX11_blockOf 108 = .ok (.goto (-83), 3) := by decide +kernel
theorem dX11_blockOf_111 : decode cX11_blockOf 111 = .ok (.iload 4, 2) := by decide +kernel
theorem dX11_blockOf_113 : decode cX11_blockOf 113 = .ok (.ireturn, 1) := by decide +kernel
theorem dX11_leaveAloneInTrial_0 : decode cX11_leaveAloneInTrial 0 = .ok (.aload_n 0, 1) := by decide +kernel
theorem dX11_leaveAloneInTrial_1 : decode cX11_leaveAloneInTrial 1 = .ok (.getfield 94, 3) := by decide +kernel
theorem dX11_leaveAloneInTrial_4 : decode cX11_leaveAloneInTrial 4 = .ok (.aload_n 0, 1) := by decide +kernel
theorem dX11_leaveAloneInTrial_5 : decode cX11_leaveAloneInTrial 5 = .ok (.getfield 90, 3) := by decide +kernel
theorem dX11_leaveAloneInTrial_8 : decode cX11_leaveAloneInTrial 8 = .ok (.invokevirtual 187, 3) := by decide +kernel
theorem dX11_leaveAloneInTrial_11 : decode cX11_leaveAloneInTrial 11 = .ok (.iconst 0, 1) := by decide +kernel
theorem dX11_leaveAloneInTrial_12 : decode cX11_leaveAloneInTrial 12 = .ok (.istore_n 2, 1) := by decide +kernel
theorem dX11_leaveAloneInTrial_13 : decode cX11_leaveAloneInTrial 13 = .ok (.iload_n 2, 1) := by decide +kernel
theorem dX11_leaveAloneInTrial_14 : decode cX11_leaveAloneInTrial 14 = .ok (.aload_n 0, 1) := by decide +kernel
theorem dX11_leaveAloneInTrial_15 : decode cX11_leaveAloneInTrial 15 = .ok (.getfield 94, 3) := by decide +kernel
theorem dX11_leaveAloneInTrial_18 : decode cX11_leaveAloneInTrial 18 = .ok (.getfield 245, 3) := by decide +kernel
theorem dX11_leaveAloneInTrial_21 : decode cX11_leaveAloneInTrial 21 = .ok (.if_icmp .ge 24, 3) := by decide +kernel
theorem dX11_leaveAloneInTrial_24 : decode cX11_leaveAloneInTrial 24 = .ok (.iload_n 2, 1) := by decide +kernel
theorem dX11_leaveAloneInTrial_25 : decode cX11_leaveAloneInTrial 25 = .ok (.iload_n 1, 1) := by decide +kernel
theorem dX11_leaveAloneInTrial_26 : decode cX11_leaveAloneInTrial 26 = .ok (.if_icmp .eq 13, 3) := by decide +kernel
theorem dX11_leaveAloneInTrial_29 : decode cX11_leaveAloneInTrial 29 = .ok (.aload_n 0, 1) := by decide +kernel
theorem dX11_leaveAloneInTrial_30 : decode cX11_leaveAloneInTrial 30 = .ok (.getfield 94, 3) := by decide +kernel
theorem dX11_leaveAloneInTrial_33 : decode cX11_leaveAloneInTrial 33 = .ok (.getfield 123, 3) := by decide +kernel
theorem dX11_leaveAloneInTrial_36 : decode cX11_leaveAloneInTrial 36 = .ok (.iload_n 2, 1) := by decide +kernel
theorem dX11_leaveAloneInTrial_37 : decode cX11_leaveAloneInTrial 37 = .ok (.iconst 1, 1) := by decide +kernel
theorem dX11_leaveAloneInTrial_38 : decode cX11_leaveAloneInTrial 38 = .ok (.bastore, 1) := by decide +kernel
theorem dX11_leaveAloneInTrial_39 : decode cX11_leaveAloneInTrial 39 = .ok (.iinc 2 1, 3) := by decide +kernel
theorem dX11_leaveAloneInTrial_42 : decode cX11_leaveAloneInTrial 42 = .ok (.goto (-29), 3) := by decide +kernel
theorem dX11_leaveAloneInTrial_45 : decode cX11_leaveAloneInTrial 45 = .ok (.return_, 1) := by decide +kernel
theorem dX11_orTooLate_0 : decode cX11_orTooLate 0 = .ok (.iload_n 0, 1) := by decide +kernel
theorem dX11_orTooLate_1 : decode cX11_orTooLate 1 = .ok (.bipush (-5), 2) := by decide +kernel
theorem dX11_orTooLate_3 : decode cX11_orTooLate 3 = .ok (.if_icmp .ne 8, 3) := by decide +kernel
theorem dX11_orTooLate_6 : decode cX11_orTooLate 6 = .ok (.bipush 41, 2) := by decide +kernel
theorem dX11_orTooLate_8 : decode cX11_orTooLate 8 = .ok (.goto 4, 3) := by decide +kernel
theorem dX11_orTooLate_11 : decode cX11_orTooLate 11 = .ok (.iload_n 0, 1) := by decide +kernel
theorem dX11_orTooLate_12 : decode cX11_orTooLate 12 = .ok (.ireturn, 1) := by decide +kernel
theorem dX11_trialGoesAsSeen_0 : decode cX11_trialGoesAsSeen 0 = .ok (.iconst 0, 1) := by decide +kernel
theorem dX11_trialGoesAsSeen_1 : decode cX11_trialGoesAsSeen 1 = .ok (.istore_n 1, 1) := by decide +kernel
theorem dX11_trialGoesAsSeen_2 : decode cX11_trialGoesAsSeen 2 = .ok (.iconst 0, 1) := by decide +kernel
theorem dX11_trialGoesAsSeen_3 : decode cX11_trialGoesAsSeen 3 = .ok (.istore_n 2, 1) := by decide +kernel
theorem dX11_trialGoesAsSeen_4 : decode cX11_trialGoesAsSeen 4 = .ok (.iload_n 2, 1) := by decide +kernel
theorem dX11_trialGoesAsSeen_5 : decode cX11_trialGoesAsSeen 5 = .ok (.aload_n 0, 1) := by decide +kernel
theorem dX11_trialGoesAsSeen_6 : decode cX11_trialGoesAsSeen 6 = .ok (.getfield 16, 3) := by decide +kernel
theorem dX11_trialGoesAsSeen_9 : decode cX11_trialGoesAsSeen 9 = .ok (.getfield 226, 3) := by decide +kernel
theorem dX11_trialGoesAsSeen_12 : decode cX11_trialGoesAsSeen 12 = .ok (.if_icmp .ge 23, 3) := by decide +kernel
theorem dX11_trialGoesAsSeen_15 : decode cX11_trialGoesAsSeen 15 = .ok (.iload_n 1, 1) := by decide +kernel
theorem dX11_trialGoesAsSeen_16 : decode cX11_trialGoesAsSeen 16 = .ok (.aload_n 0, 1) := by decide +kernel
theorem dX11_trialGoesAsSeen_17 : decode cX11_trialGoesAsSeen 17 = .ok (.getfield 16, 3) := by decide +kernel
theorem dX11_trialGoesAsSeen_20 : decode cX11_trialGoesAsSeen 20 = .ok (.iload_n 2, 1) := by decide +kernel
theorem dX11_trialGoesAsSeen_21 : decode cX11_trialGoesAsSeen 21 = .ok (.iconst 1, 1) := by decide +kernel
theorem dX11_trialGoesAsSeen_22 : decode cX11_trialGoesAsSeen 22 = .ok (.invokevirtual 229, 3) := by decide +kernel
theorem dX11_trialGoesAsSeen_25 : decode cX11_trialGoesAsSeen 25 = .ok (.invokestatic 295, 3) := by decide +kernel
theorem dX11_trialGoesAsSeen_28 : decode cX11_trialGoesAsSeen 28 = .ok (.istore_n 1, 1) := by decide +kernel
theorem dX11_trialGoesAsSeen_29 : decode cX11_trialGoesAsSeen 29 = .ok (.iinc 2 1, 3) := by decide +kernel
theorem dX11_trialGoesAsSeen_32 : decode cX11_trialGoesAsSeen 32 = .ok (.goto (-28), 3) := by decide +kernel
theorem dX11_trialGoesAsSeen_35 : decode cX11_trialGoesAsSeen 35 = .ok (.iconst 0, 1) := by decide +kernel
theorem dX11_trialGoesAsSeen_36 : decode cX11_trialGoesAsSeen 36 = .ok (.istore_n 2, 1) := by decide +kernel
theorem dX11_trialGoesAsSeen_37 : decode cX11_trialGoesAsSeen 37 = .ok (.iload_n 2, 1) := by decide +kernel
theorem dX11_trialGoesAsSeen_38 : decode cX11_trialGoesAsSeen 38 = .ok (.iload_n 1, 1) := by decide +kernel
theorem dX11_trialGoesAsSeen_39 : decode cX11_trialGoesAsSeen 39 = .ok (.if_icmp .gt 30, 3) := by decide +kernel
theorem dX11_trialGoesAsSeen_42 : decode cX11_trialGoesAsSeen 42 = .ok (.iload_n 2, 1) := by decide +kernel
theorem dX11_trialGoesAsSeen_43 : decode cX11_trialGoesAsSeen 43 = .ok (.ifCond .le 10, 3) := by decide +kernel
theorem dX11_trialGoesAsSeen_46 : decode cX11_trialGoesAsSeen 46 = .ok (.aload_n 0, 1) := by decide +kernel
theorem dX11_trialGoesAsSeen_47 : decode cX11_trialGoesAsSeen 47 = .ok (.getfield 94, 3) := by decide +kernel
theorem dX11_trialGoesAsSeen_50 : decode cX11_trialGoesAsSeen 50 = .ok (.invokevirtual 300, 3) := by decide +kernel
theorem dX11_trialGoesAsSeen_53 : decode cX11_trialGoesAsSeen 53 = .ok (.aload_n 0, 1) := by decide +kernel
theorem dX11_trialGoesAsSeen_54 : decode cX11_trialGoesAsSeen 54 = .ok (.iload_n 2, 1) := by decide +kernel
theorem dX11_trialGoesAsSeen_55 : decode cX11_trialGoesAsSeen 55 = .ok (.invokevirtual 303, 3) := by decide +kernel
theorem dX11_trialGoesAsSeen_58 : decode cX11_trialGoesAsSeen 58 = .ok (.ifCond .ne 5, 3) := by decide +kernel
theorem dX11_trialGoesAsSeen_61 : decode cX11_trialGoesAsSeen 61 = .ok (.iconst 0, 1) := by decide +kernel
theorem dX11_trialGoesAsSeen_62 : decode cX11_trialGoesAsSeen 62 = .ok (.ireturn, 1) := by decide +kernel
theorem dX11_trialGoesAsSeen_63 : decode cX11_trialGoesAsSeen 63 = .ok (.iinc 2 1, 3) := by decide +kernel
theorem dX11_trialGoesAsSeen_66 : decode cX11_trialGoesAsSeen 66 = .ok (.goto (-29), 3) := by decide +kernel
theorem dX11_trialGoesAsSeen_69 : decode cX11_trialGoesAsSeen 69 = .ok (.iconst 1, 1) := by decide +kernel
theorem dX11_trialGoesAsSeen_70 : decode cX11_trialGoesAsSeen 70 = .ok (.ireturn, 1) := by decide +kernel
theorem dX11_trialIsAsSeen_0 : decode cX11_trialIsAsSeen 0 = .ok (.iconst 0, 1) := by decide +kernel
theorem dX11_trialIsAsSeen_1 : decode cX11_trialIsAsSeen 1 = .ok (.istore_n 2, 1) := by decide +kernel
theorem dX11_trialIsAsSeen_2 : decode cX11_trialIsAsSeen 2 = .ok (.iload_n 2, 1) := by decide +kernel
theorem dX11_trialIsAsSeen_3 : decode cX11_trialIsAsSeen 3 = .ok (.aload_n 0, 1) := by decide +kernel
theorem dX11_trialIsAsSeen_4 : decode cX11_trialIsAsSeen 4 = .ok (.getfield 16, 3) := by decide +kernel
theorem dX11_trialIsAsSeen_7 : decode cX11_trialIsAsSeen 7 = .ok (.getfield 226, 3) := by decide +kernel
theorem dX11_trialIsAsSeen_10 : decode cX11_trialIsAsSeen 10 = .ok (.if_icmp .ge 53, 3) := by decide +kernel
theorem dX11_trialIsAsSeen_13 : decode cX11_trialIsAsSeen 13 = .ok (.aload_n 0, 1) := by decide +kernel
theorem dX11_trialIsAsSeen_14 : decode cX11_trialIsAsSeen 14 = .ok (.getfield 16, 3) := by decide +kernel
theorem dX11_trialIsAsSeen_17 : decode cX11_trialIsAsSeen 17 = .ok (.iload_n 2, 1) := by decide +kernel
theorem dX11_trialIsAsSeen_18 : decode cX11_trialIsAsSeen 18 = .ok (.iconst 1, 1) := by decide +kernel
theorem dX11_trialIsAsSeen_19 : decode cX11_trialIsAsSeen 19 = .ok (.invokevirtual 229, 3) := by decide +kernel
theorem dX11_trialIsAsSeen_22 : decode cX11_trialIsAsSeen 22 = .ok (.iload_n 1, 1) := by decide +kernel
theorem dX11_trialIsAsSeen_23 : decode cX11_trialIsAsSeen 23 = .ok (.if_icmp .ne 34, 3) := by decide +kernel
theorem dX11_trialIsAsSeen_26 : decode cX11_trialIsAsSeen 26 = .ok (.aload_n 0, 1) := by decide +kernel
theorem dX11_trialIsAsSeen_27 : decode cX11_trialIsAsSeen 27 = .ok (.getfield 94, 3) := by decide +kernel
theorem dX11_trialIsAsSeen_30 : decode cX11_trialIsAsSeen 30 = .ok (.getfield 120, 3) := by decide +kernel
theorem dX11_trialIsAsSeen_33 : decode cX11_trialIsAsSeen 33 = .ok (.aload_n 0, 1) := by decide +kernel
theorem dX11_trialIsAsSeen_34 : decode cX11_trialIsAsSeen 34 = .ok (.getfield 16, 3) := by decide +kernel
theorem dX11_trialIsAsSeen_37 : decode cX11_trialIsAsSeen 37 = .ok (.iload_n 2, 1) := by decide +kernel
theorem dX11_trialIsAsSeen_38 : decode cX11_trialIsAsSeen 38 = .ok (.iconst 0, 1) := by decide +kernel
theorem dX11_trialIsAsSeen_39 : decode cX11_trialIsAsSeen 39 = .ok (.invokevirtual 229, 3) := by decide +kernel
theorem dX11_trialIsAsSeen_42 : decode cX11_trialIsAsSeen 42 = .ok (.iaload, 1) := by decide +kernel
theorem dX11_trialIsAsSeen_43 : decode cX11_trialIsAsSeen 43 = .ok (.aload_n 0, 1) := by decide +kernel
theorem dX11_trialIsAsSeen_44 : decode cX11_trialIsAsSeen 44 = .ok (.getfield 16, 3) := by decide +kernel
theorem dX11_trialIsAsSeen_47 : decode cX11_trialIsAsSeen 47 = .ok (.iload_n 2, 1) := by decide +kernel
theorem dX11_trialIsAsSeen_48 : decode cX11_trialIsAsSeen 48 = .ok (.iconst 2, 1) := by decide +kernel
theorem dX11_trialIsAsSeen_49 : decode cX11_trialIsAsSeen 49 = .ok (.invokevirtual 229, 3) := by decide +kernel
theorem dX11_trialIsAsSeen_52 : decode cX11_trialIsAsSeen 52 = .ok (.if_icmp .eq 5, 3) := by decide +kernel
theorem dX11_trialIsAsSeen_55 : decode cX11_trialIsAsSeen 55 = .ok (.iconst 0, 1) := by decide +kernel
theorem dX11_trialIsAsSeen_56 : decode cX11_trialIsAsSeen 56 = .ok (.ireturn, 1) := by decide +kernel
theorem dX11_trialIsAsSeen_57 : decode cX11_trialIsAsSeen 57 = .ok (.iinc 2 1, 3) := by decide +kernel
theorem dX11_trialIsAsSeen_60 : decode cX11_trialIsAsSeen 60 = .ok (.goto (-58), 3) := by decide +kernel
theorem dX11_trialIsAsSeen_63 : decode cX11_trialIsAsSeen 63 = .ok (.iconst 1, 1) := by decide +kernel
theorem dX11_trialIsAsSeen_64 : decode cX11_trialIsAsSeen 64 = .ok (.ireturn, 1) := by decide +kernel
theorem dX11_carryOutInTrial_0 : decode cX11_carryOutInTrial 0 = .ok (.iload_n 1, 1) := by decide +kernel
theorem dX11_carryOutInTrial_1 : decode cX11_carryOutInTrial 1 = .ok (.lookupswitch 50 #[(0, 27), (1, 37)], 27) := by decide +kernel
theorem dX11_carryOutInTrial_28 : decode cX11_carryOutInTrial 28 = .ok (.aload_n 0, 1) := by decide +kernel
theorem dX11_carryOutInTrial_29 : decode cX11_carryOutInTrial 29 = .ok (.getfield 94, 3) := by decide +kernel
theorem dX11_carryOutInTrial_32 : decode cX11_carryOutInTrial 32 = .ok (.invokevirtual 300, 3) := by decide +kernel
theorem dX11_carryOutInTrial_35 : decode cX11_carryOutInTrial 35 = .ok (.goto 35, 3) := by decide +kernel
theorem dX11_carryOutInTrial_38 : decode cX11_carryOutInTrial 38 = .ok (.aload_n 0, 1) := by decide +kernel
theorem dX11_carryOutInTrial_39 : decode cX11_carryOutInTrial 39 = .ok (.getfield 94, 3) := by decide +kernel
theorem dX11_carryOutInTrial_42 : decode cX11_carryOutInTrial 42 = .ok (.iload_n 2, 1) := by decide +kernel
theorem dX11_carryOutInTrial_43 : decode cX11_carryOutInTrial 43 = .ok (.bipush 10, 2) := by decide +kernel
theorem dX11_carryOutInTrial_45 : decode cX11_carryOutInTrial 45 = .ok (.invokevirtual 204, 3) := by decide +kernel
theorem dX11_carryOutInTrial_48 : decode cX11_carryOutInTrial 48 = .ok (.goto 22, 3) := by decide +kernel
theorem dX11_carryOutInTrial_51 : decode cX11_carryOutInTrial 51 = .ok (.aload_n 0, 1) := by decide +kernel
theorem dX11_carryOutInTrial_52 : decode cX11_carryOutInTrial 52 = .ok (.getfield 94, 3) := by decide +kernel
theorem dX11_carryOutInTrial_55 : decode cX11_carryOutInTrial 55 = .ok (.getfield 123, 3) := by decide +kernel
theorem dX11_carryOutInTrial_58 : decode cX11_carryOutInTrial 58 = .ok (.iload_n 2, 1) := by decide +kernel
theorem dX11_carryOutInTrial_59 : decode cX11_carryOutInTrial 59 = .ok (.iload_n 1, 1) := by decide +kernel
theorem dX11_carryOutInTrial_60 : decode cX11_carryOutInTrial 60 = .ok (.iconst 2, 1) := by decide +kernel
theorem dX11_carryOutInTrial_61 : decode cX11_carryOutInTrial 61 = .ok (.if_icmp .ne 7, 3) := by decide +kernel
theorem dX11_carryOutInTrial_64 : decode cX11_carryOutInTrial 64 = .ok (.iconst 1, 1) := by decide +kernel
theorem dX11_carryOutInTrial_65 : decode cX11_carryOutInTrial 65 = .ok (.goto 4, 3) := by decide +kernel
theorem dX11_carryOutInTrial_68 : decode cX11_carryOutInTrial 68 = .ok (.iconst 0, 1) := by decide +kernel
theorem dX11_carryOutInTrial_69 : decode cX11_carryOutInTrial 69 = .ok (.bastore, 1) := by decide +kernel
theorem dX11_carryOutInTrial_70 : decode cX11_carryOutInTrial 70 = .ok (.return_, 1) := by decide +kernel
