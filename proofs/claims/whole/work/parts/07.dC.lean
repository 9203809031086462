theorem dX12_sum_95 : decode cX12_sum 95 = .ok (.iadd, 1) := by decide +kernel
theorem dX12_sum_96 : decode cX12_sum 96 = .ok (.istore_n 3, 1) := by decide +kernel
theorem dX12_sum_97 : decode cX12_sum 97 = .ok (.iinc 4 1, 3) := by decide +kernel
theorem dX12_sum_100 : decode cX12_sum 100 = .ok (.goto (-90), 3) := by decide +kernel
theorem dX12_sum_103 : decode cX12_sum 103 = .ok (.iload_n 3, 1) := by decide +kernel
theorem dX12_sum_104 : decode cX12_sum 104 = .ok (.ireturn, 1) := by decide +kernel
theorem dX12_baldFrom_0 : decode cX12_baldFrom 0 = .ok (.bipush 95, 2) := by decide +kernel
theorem dX12_baldFrom_2 : decode cX12_baldFrom 2 = .ok (.istore_n 1, 1) := by decide +kernel
theorem dX12_baldFrom_3 : decode cX12_baldFrom 3 = .ok (.iconst 0, 1) := by decide +kernel
theorem dX12_baldFrom_4 : decode cX12_baldFrom 4 = .ok (.istore_n 2, 1) := by decide +kernel
theorem dX12_baldFrom_5 : decode cX12_baldFrom 5 = .ok (.aload_n 0, 1) := by decide +kernel
theorem dX12_baldFrom_6 : decode cX12_baldFrom 6 = .ok (.getfield 101, 3) := by decide +kernel
theorem dX12_baldFrom_9 : decode cX12_baldFrom 9 = .ok (.iconst (-1), 1) := by decide +kernel
theorem dX12_baldFrom_10 : decode cX12_baldFrom 10 = .ok (.if_icmp .eq 55, 3) := by decide +kernel
theorem dX12_baldFrom_13 : decode cX12_baldFrom 13 = .ok (.iload_n 2, 1) := by decide +kernel
theorem dX12_baldFrom_14 : decode cX12_baldFrom 14 = .ok (.aload_n 0, 1) := by decide +kernel
theorem dX12_baldFrom_15 : decode cX12_baldFrom 15 = .ok (.getfield 33, 3) := by decide +kernel
theorem dX12_baldFrom_18 : decode cX12_baldFrom 18 = .ok (.aload_n 0, 1) := by decide +kernel
theorem dX12_baldFrom_19 : decode cX12_baldFrom 19 = .ok (.getfield 101, 3) := by decide +kernel
theorem dX12_baldFrom_22 : decode cX12_baldFrom 22 = .ok (.iaload, 1) := by decide +kernel
theorem dX12_baldFrom_23 : decode cX12_baldFrom 23 = .ok (.if_icmp .ge 42, 3) := by decide +kernel
theorem dX12_baldFrom_26 : decode cX12_baldFrom 26 = .ok (.aload_n 0, 1) := by decide +kernel
theorem dX12_baldFrom_27 : decode cX12_baldFrom 27 = .ok (.getfield 36, 3) := by decide +kernel
theorem dX12_baldFrom_30 : decode cX12_baldFrom 30 = .ok (.bipush 10, 2) := by decide +kernel
theorem dX12_baldFrom_32 : decode cX12_baldFrom 32 = .ok (.aload_n 0, 1) := by decide +kernel
theorem dX12_baldFrom_33 : decode cX12_baldFrom 33 = .ok (.getfield 101, 3) := by decide +kernel
theorem dX12_baldFrom_36 : decode cX12_baldFrom 36 = .ok (.imul, 1) := by decide +kernel
theorem dX12_baldFrom_37 : decode cX12_baldFrom 37 = .ok (.iload_n 2, 1) := by decide +kernel
theorem dX12_baldFrom_38 : decode cX12_baldFrom 38 = .ok (.iadd, 1) := by decide +kernel
theorem dX12_baldFrom_39 : decode cX12_baldFrom 39 = .ok (.iaload, 1) := by decide +kernel
theorem dX12_baldFrom_40 : decode cX12_baldFrom 40 = .ok (.iconst 2, 1) := by decide +kernel
theorem dX12_baldFrom_41 : decode cX12_baldFrom 41 = .ok (.if_icmp .ne 18, 3) := by decide +kernel
theorem dX12_baldFrom_44 : decode cX12_baldFrom 44 = .ok (.aload_n 0, 1) := by decide +kernel
theorem dX12_baldFrom_45 : decode cX12_baldFrom 45 = .ok (.getfield 39, 3) := by decide +kernel
theorem dX12_baldFrom_48 : decode cX12_baldFrom 48 = .ok (.bipush 10, 2) := by decide +kernel
theorem dX12_baldFrom_50 : decode cX12_baldFrom 50 = .ok (.aload_n 0, 1) := by decide +kernel
theorem dX12_baldFrom_51 : decode cX12_baldFrom 51 = .ok (.getfield 101, 3) := by decide +kernel
theorem dX12_baldFrom_54 : decode cX12_baldFrom 54 = .ok (.imul, 1) := by decide +kernel
theorem dX12_baldFrom_55 : decode cX12_baldFrom 55 = .ok (.iload_n 2, 1) := by decide +kernel
theorem dX12_baldFrom_56 : decode cX12_baldFrom 56 = .ok (.iadd, 1) := by decide +kernel
theorem dX12_baldFrom_57 : decode cX12_baldFrom 57 = .ok (.iaload, 1) := by decide +kernel
theorem dX12_baldFrom_58 : decode cX12_baldFrom 58 = .ok (.istore_n 1, 1) := by decide +kernel
theorem dX12_baldFrom_59 : decode cX12_baldFrom 59 = .ok (.iinc 2 1, 3) := by decide +kernel
theorem dX12_baldFrom_62 : decode cX12_baldFrom 62 = .ok (.goto (-57), 3) := by decide +kernel
theorem dX12_baldFrom_65 : decode cX12_baldFrom 65 = .ok (.iload_n 1, 1) := by decide +kernel
theorem dX12_baldFrom_66 : decode cX12_baldFrom 66 = .ok (.ireturn, 1) := by decide +kernel
theorem dX12_pullOf_0 : decode cX12_pullOf 0 = .ok (.aload_n 0, 1) := by decide +kernel
theorem dX12_pullOf_1 : decode cX12_pullOf 1 = .ok (.iload_n 1, 1) := by decide +kernel
theorem dX12_pullOf_2 : decode cX12_pullOf 2 = .ok (.iload_n 2, 1) := by decide +kernel
theorem dX12_pullOf_3 : decode cX12_pullOf 3 = .ok (.invokevirtual 218, 3) := by decide +kernel
theorem dX12_pullOf_6 : decode cX12_pullOf 6 = .ok (.istore_n 3, 1) := by decide +kernel
theorem dX12_pullOf_7 : decode cX12_pullOf 7 = .ok (.aload_n 0, 1) := by decide +kernel
theorem dX12_pullOf_8 : decode cX12_pullOf 8 = .ok (.getfield 208, 3) := by decide +kernel
theorem dX12_pullOf_11 : decode cX12_pullOf 11 = .ok (.iconst 2, 1) := by decide +kernel
theorem dX12_pullOf_12 : decode cX12_pullOf 12 = .ok (.irem, 1) := by decide +kernel
theorem dX12_pullOf_13 : decode cX12_pullOf 13 = .ok (.iconst 1, 1) := by decide +kernel
theorem dX12_pullOf_14 : decode cX12_pullOf 14 = .ok (.if_icmp .ne 9, 3) := by decide +kernel
theorem dX12_pullOf_17 : decode cX12_pullOf 17 = .ok (.iload_n 3, 1) := by decide +kernel
theorem dX12_pullOf_18 : decode cX12_pullOf 18 = .ok (.iconst 2, 1) := by decide +kernel
theorem dX12_pullOf_19 : decode cX12_pullOf 19 = .ok (.idiv, 1) := by decide +kernel
theorem dX12_pullOf_20 : decode cX12_pullOf 20 = .ok (.goto 4, 3) := by decide +kernel
theorem dX12_pullOf_23 : decode cX12_pullOf 23 = .ok (.iload_n 3, 1) := by decide +kernel
theorem dX12_pullOf_24 : decode cX12_pullOf 24 = .ok (.istore 4, 2) := by decide +kernel
theorem dX12_pullOf_26 : decode cX12_pullOf 26 = .ok (.aload_n 0, 1) := by decide +kernel
theorem dX12_pullOf_27 : decode cX12_pullOf 27 = .ok (.getfield 15, 3) := by decide +kernel
theorem dX12_pullOf_30 : decode cX12_pullOf 30 = .ok (.iload_n 1, 1) := by decide +kernel
theorem dX12_pullOf_31 : decode cX12_pullOf 31 = .ok (.iaload, 1) := by decide +kernel
theorem dX12_pullOf_32 : decode cX12_pullOf 32 = .ok (.tableswitch 114 2 6 #[36, 39, 42, 61, 95], 36) := by decide +kernel
theorem dX12_pullOf_68 : decode cX12_pullOf 68 = .ok (.iload_n 3, 1) := by decide +kernel
theorem dX12_pullOf_69 : decode cX12_pullOf 69 = .ok (.ineg, 1) := by decide +kernel
theorem dX12_pullOf_70 : decode cX12_pullOf 70 = .ok (.ireturn, 1) := by decide +kernel
theorem dX12_pullOf_71 : decode cX12_pullOf 71 = .ok (.iload 4, 2) := by decide +kernel
theorem dX12_pullOf_73 : decode cX12_pullOf 73 = .ok (.ireturn, 1) := by decide +kernel
theorem dX12_pullOf_74 : decode cX12_pullOf 74 = .ok (.iload_n 2, 1) := by decide +kernel
theorem dX12_pullOf_75 : decode cX12_pullOf 75 = .ok (.iconst 2, 1) := by decide +kernel
theorem dX12_pullOf_76 : decode cX12_pullOf 76 = .ok (.irem, 1) := by decide +kernel
theorem dX12_pullOf_77 : decode cX12_pullOf 77 = .ok (.ifCond .ne 14, 3) := by decide +kernel
theorem dX12_pullOf_80 : decode cX12_pullOf 80 = .ok (.iload_n 3, 1) := by decide +kernel
theorem dX12_pullOf_81 : decode cX12_pullOf 81 = .ok (.aload_n 0, 1) := by decide +kernel
theorem dX12_pullOf_82 : decode cX12_pullOf 82 = .ok (.getfield 18, 3) := by decide +kernel
theorem dX12_pullOf_85 : decode cX12_pullOf 85 = .ok (.iload_n 1, 1) := by decide +kernel
theorem dX12_pullOf_86 : decode cX12_pullOf 86 = .ok (.iaload, 1) := by decide +kernel
theorem dX12_pullOf_87 : decode cX12_pullOf 87 = .ok (.iadd, 1) := by decide +kernel
theorem dX12_pullOf_88 : decode cX12_pullOf 88 = .ok (.goto 4, 3) := by decide +kernel
theorem dX12_pullOf_91 : decode cX12_pullOf 91 = .ok (.iload_n 3, 1) := by decide +kernel
theorem dX12_pullOf_92 : decode cX12_pullOf 92 = .ok (.ireturn, 1) := by decide +kernel
theorem dX12_pullOf_93 : decode cX12_pullOf 93 = .ok (.aload_n 0, 1) := by decide +kernel
theorem dX12_pullOf_94 : decode cX12_pullOf 94 = .ok (.getfield 21, 3) := by decide +kernel
theorem dX12_pullOf_97 : decode cX12_pullOf 97 = .ok (.iload_n 1, 1) := by decide +kernel
theorem dX12_pullOf_98 : decode cX12_pullOf 98 = .ok (.iaload, 1) := by decide +kernel
theorem dX12_pullOf_99 : decode cX12_pullOf 99 = .ok (.iconst 5, 1) := by decide +kernel
theorem dX12_pullOf_100 : decode cX12_pullOf 100 = .ok (.irem, 1) := by decide +kernel
theorem dX12_pullOf_101 : decode cX12_pullOf 101 = .ok (.iconst 4, 1) := by decide +kernel
theorem dX12_pullOf_102 : decode cX12_pullOf 102 = .ok (.if_icmp .ge 22, 3) := by decide +kernel
theorem dX12_pullOf_105 : decode cX12_pullOf 105 = .ok (.iload_n 2, 1) := by decide +kernel
theorem dX12_pullOf_106 : decode cX12_pullOf 106 = .ok (.aload_n 0, 1) := by decide +kernel
theorem dX12_pullOf_107 : decode cX12_pullOf 107 = .ok (.getfield 21, 3) := by decide +kernel
theorem dX12_pullOf_110 : decode cX12_pullOf 110 = .ok (.iload_n 1, 1) := by decide +kernel
theorem dX12_pullOf_111 : decode cX12_pullOf 111 = .ok (.iaload, 1) := by decide +kernel
theorem dX12_pullOf_112 : decode cX12_pullOf 112 = .ok (.iconst 1, 1) := by decide +kernel
theorem dX12_pullOf_113 : decode cX12_pullOf 113 = .ok (.iadd, 1) := by decide +kernel
theorem dX12_pullOf_114 : decode cX12_pullOf 114 = .ok (.if_icmp .ne 10, 3) := by decide +kernel
theorem dX12_pullOf_117 : decode cX12_pullOf 117 = .ok (.bipush 20, 2) := by decide +kernel
theorem dX12_pullOf_119 : decode cX12_pullOf 119 = .ok (.iload_n 3, 1) := by decide +kernel
theorem dX12_pullOf_120 : decode cX12_pullOf 120 = .ok (.isub, 1) := by decide +kernel
theorem dX12_pullOf_121 : decode cX12_pullOf 121 = .ok (.goto 5, 3) := by decide +kernel
theorem dX12_pullOf_124 : decode cX12_pullOf 124 = .ok (.iload_n 3, 1) := by decide +kernel
theorem dX12_pullOf_125 : decode cX12_pullOf 125 = .ok (.ineg, 1) := by decide +kernel
theorem dX12_pullOf_126 : decode cX12_pullOf 126 = .ok (.ireturn, 1) := by decide +kernel
theorem dX12_pullOf_127 : decode cX12_pullOf 127 = .ok (.iload 4, 2) := by decide +kernel
theorem dX12_pullOf_129 : decode cX12_pullOf 129 = .ok (.aload_n 0, 1) := by decide +kernel
theorem dX12_pullOf_130 : decode cX12_pullOf 130 = .ok (.getfield 27, 3) := by decide +kernel
theorem dX12_pullOf_133 : decode cX12_pullOf 133 = .ok (.iconst 4, 1) := by decide +kernel
theorem dX12_pullOf_134 : decode cX12_pullOf 134 = .ok (.iload_n 1, 1) := by decide +kernel
theorem dX12_pullOf_135 : decode cX12_pullOf 135 = .ok (.imul, 1) := by decide +kernel
theorem dX12_pullOf_136 : decode cX12_pullOf 136 = .ok (.aload_n 0, 1) := by decide +kernel
theorem dX12_pullOf_137 : decode cX12_pullOf 137 = .ok (.getfield 208, 3) := by decide +kernel
theorem dX12_pullOf_140 : decode cX12_pullOf 140 = .ok (.iconst 4, 1) := by decide +kernel
theorem dX12_pullOf_141 : decode cX12_pullOf 141 = .ok (.irem, 1) := by decide +kernel
theorem dX12_pullOf_142 : decode cX12_pullOf 142 = .ok (.iadd, 1) := by decide +kernel
theorem dX12_pullOf_143 : decode cX12_pullOf 143 = .ok (.iaload, 1) := by decide +kernel
theorem dX12_pullOf_144 : decode cX12_pullOf 144 = .ok (.iadd, 1) := by decide +kernel
theorem dX12_pullOf_145 : decode cX12_pullOf 145 = .ok (.ireturn, 1) := by decide +kernel
theorem dX12_pullOf_146 : decode cX12_pullOf 146 = .ok (.iload_n 3, 1) := by decide +kernel
theorem dX12_pullOf_147 : decode cX12_pullOf 147 = .ok (.ireturn, 1) := by decide +kernel
theorem dX12_tread_0 : decode cX12_tread 0 = .ok (.aload_n 0, 1) := by decide +kernel
theorem dX12_tread_1 : decode cX12_tread 1 = .ok (.getfield 15, 3) := by decide +kernel
theorem dX12_tread_4 : decode cX12_tread 4 = .ok (.iload_n 1, 1) := by decide +kernel
theorem dX12_tread_5 : decode cX12_tread 5 = .ok (.iaload, 1) := by decide +kernel
theorem dX12_tread_6 : decode cX12_tread 6 = .ok (.tableswitch 45 1 6 #[38, 40, 42, 38, 45, 42], 38) := by decide +kernel
theorem dX12_tread_44 : decode cX12_tread 44 = .ok (.iconst 3, 1) := by decide +kernel
theorem dX12_tread_45 : decode cX12_tread 45 = .ok (.ireturn, 1) := by decide +kernel
theorem dX12_tread_46 : decode cX12_tread 46 = .ok (.iconst 1, 1) := by decide +kernel
theorem dX12_tread_47 : decode cX12_tread 47 = .ok (.ireturn, 1) := by decide +kernel
theorem dX12_tread_48 : decode cX12_tread 48 = .ok (.bipush 6, 2) := by decide +kernel
theorem dX12_tread_50 : decode cX12_tread 50 = .ok (.ireturn, 1) := by decide +kernel
theorem dX12_tread_51 : decode cX12_tread 51 = .ok (.iconst 2, 1) := by decide +kernel
theorem dX12_tread_52 : decode cX12_tread 52 = .ok (.ireturn, 1) := by decide +kernel
theorem dX12_isBald_0 : decode cX12_isBald 0 = .ok (.aload_n 0, 1) := by decide +kernel
theorem dX12_isBald_1 : decode cX12_isBald 1 = .ok (.getfield 9, 3) := by decide +kernel
theorem dX12_isBald_4 : decode cX12_isBald 4 = .ok (.iload_n 1, 1) := by decide +kernel
theorem dX12_isBald_5 : decode cX12_isBald 5 = .ok (.iaload, 1) := by decide +kernel
theorem dX12_isBald_6 : decode cX12_isBald 6 = .ok (.aload_n 0, 1) := by decide +kernel
theorem dX12_isBald_7 : decode cX12_isBald 7 = .ok (.invokevirtual 221, 3) := by decide +kernel
theorem dX12_isBald_10 : decode cX12_isBald 10 = .ok (.if_icmp .lt 7, 3) := by decide +kernel
theorem dX12_isBald_13 : decode cX12_isBald 13 = .ok (.iconst 1, 1) := by decide +kernel
theorem dX12_isBald_14 : decode cX12_isBald 14 = .ok (.goto 4, 3) := by decide +kernel
theorem dX12_isBald_17 : decode cX12_isBald 17 = .ok (.iconst 0, 1) := by decide +kernel
theorem dX12_isBald_18 : decode cX12_isBald 18 = .ok (.ireturn, 1) := by decide +kernel
theorem dX12_next_0 : decode cX12_next 0 = .ok (.iload_n 1, 1) := by decide +kernel
theorem dX12_next_1 : decode cX12_next 1 = .ok (.tableswitch 69 0 2 #[27, 40, 55], 27) := by decide +kernel
theorem dX12_next_28 : decode cX12_next 28 = .ok (.iload_n 0, 1) := by decide +kernel
theorem dX12_next_29 : decode cX12_next 29 = .ok (.iconst 5, 1) := by decide +kernel
theorem dX12_next_30 : decode cX12_next 30 = .ok (.if_icmp .ge 7, 3) := by decide +kernel
theorem dX12_next_33 : decode cX12_next 33 = .ok (.iconst (-1), 1) := by decide +kernel
theorem dX12_next_34 : decode cX12_next 34 = .ok (.goto 6, 3) := by decide +kernel
theorem dX12_next_37 : decode cX12_next 37 = .ok (.iload_n 0, 1) := by decide +kernel
theorem dX12_next_38 : decode cX12_next 38 = .ok (.iconst 5, 1) := by decide +kernel
theorem dX12_next_39 : decode cX12_next 39 = .ok (.isub, 1) := by decide +kernel
theorem dX12_next_40 : decode cX12_next 40 = .ok (.ireturn, 1) := by decide +kernel
theorem dX12_next_41 : decode cX12_next 41 = .ok (.iload_n 0, 1) := by decide +kernel
theorem dX12_next_42 : decode cX12_next 42 = .ok (.iconst 5, 1) := by decide +kernel
theorem dX12_next_43 : decode cX12_next 43 = .ok (.irem, 1) := by decide +kernel
theorem dX12_next_44 : decode cX12_next 44 = .ok (.iconst 4, 1) := by decide +kernel
theorem dX12_next_45 : decode cX12_next 45 = .ok (.if_icmp .ne 7, 3) := by decide +kernel
theorem dX12_next_48 : decode cX12_next 48 = .ok (.iconst (-1), 1) := by decide +kernel
theorem dX12_next_49 : decode cX12_next 49 = .ok (.goto 6, 3) := by decide +kernel
theorem dX12_next_52 : decode cX12_next 52 = .ok (.iload_n 0, 1) := by decide +kernel
theorem dX12_next_53 : decode cX12_next 53 = .ok (.iconst 1, 1) := by decide +kernel
theorem dX12_next_54 : decode cX12_next 54 = .ok (.iadd, 1) := by decide +kernel
theorem dX12_next_55 : decode cX12_next 55 = .ok (.ireturn, 1) := by decide +kernel
theorem dX12_next_56 : decode cX12_next 56 = .ok (.iload_n 0, 1) := by decide +kernel
theorem dX12_next_57 : decode cX12_next 57 = .ok (.bipush 19, 2) := by decide +kernel
theorem dX12_next_59 : decode cX12_next 59 = .ok (.if_icmp .le 7, 3) := by decide +kernel
theorem dX12_next_62 : decode cX12_next 62 = .ok (.iconst (-1), 1) := by decide +kernel
theorem dX12_next_63 : decode cX12_next 63 = .ok (.goto 6, 3) := by decide +kernel
theorem dX12_next_66 : decode cX12_next 66 = .ok (.iload_n 0, 1) := by decide +kernel
theorem dX12_next_67 : decode cX12_next 67 = .ok (.iconst 5, 1) := by decide +kernel
theorem dX12_next_68 : decode cX12_next 68 = .ok (.iadd, 1) := by decide +kernel
theorem dX12_next_69 : decode cX12_next 69 = .ok (.ireturn, 1) := by decide +kernel
theorem dX12_next_70 : decode cX12_next 70 = .ok (.iload_n 0, 1) := by decide +kernel
theorem dX12_next_71 : decode cX12_next 71 = .ok (.iconst 5, 1) := by decide +kernel
theorem dX12_next_72 : decode cX12_next 72 = .ok (.irem, 1) := by decide +kernel
theorem dX12_next_73 : decode cX12_next 73 = .ok (.ifCond .ne 7, 3) := by decide +kernel
theorem dX12_next_76 : decode cX12_next 76 = .ok (.iconst (-1), 1) := by decide +kernel
theorem dX12_next_77 : decode cX12_next 77 = .ok (.goto 6, 3) := by decide +kernel
theorem dX12_next_80 : decode cX12_next 80 = .ok (.iload_n 0, 1) := by decide +kernel
theorem dX12_next_81 : decode cX12_next 81 = .ok (.iconst 1, 1) := by decide +kernel
theorem dX12_next_82 : decode cX12_next 82 = .ok (.isub, 1) := by decide +kernel
theorem dX12_next_83 : decode cX12_next 83 = .ok (.ireturn, 1) := by decide +kernel
theorem dX12_sent_0 : decode cX12_sent 0 = .ok (.aload_n 0, 1) := by decide +kernel
theorem dX12_sent_1 : decode cX12_sent 1 = .ok (.getfield 21, 3) := by decide +kernel
theorem dX12_sent_4 : decode cX12_sent 4 = .ok (.iload_n 1, 1) := by decide +kernel
theorem dX12_sent_5 : decode cX12_sent 5 = .ok (.iaload, 1) := by decide +kernel
theorem dX12_sent_6 : decode cX12_sent 6 = .ok (.istore_n 2, 1) := by decide +kernel
theorem dX12_sent_7 : decode cX12_sent 7 = .ok (.iconst 0, 1) := by decide +kernel
theorem dX12_sent_8 : decode cX12_sent 8 = .ok (.istore_n 3, 1) := by decide +kernel
theorem dX12_sent_9 : decode cX12_sent 9 = .ok (.iconst 0, 1) := by decide +kernel
theorem dX12_sent_10 : decode cX12_sent 10 = .ok (.istore 4, 2) := by decide +kernel
theorem dX12_sent_12 : decode cX12_sent 12 = .ok (.iload 4, 2) := by decide +kernel
theorem dX12_sent_14 : decode cX12_sent 14 = .ok (.iconst 4, 1) := by decide +kernel
theorem dX12_sent_15 : decode cX12_sent 15 = .ok (.if_icmp .ge 74, 3) := by decide +kernel
theorem dX12_sent_18 : decode cX12_sent 18 = .ok (.aload_n 0, 1) := by decide +kernel
theorem dX12_sent_19 : decode cX12_sent 19 = .ok (.getfield 21, 3) := by decide +kernel
theorem dX12_sent_22 : decode cX12_sent 22 = .ok (.iload_n 1, 1) := by decide +kernel
theorem dX12_sent_23 : decode cX12_sent 23 = .ok (.iaload, 1) := by decide +kernel
theorem dX12_sent_24 : decode cX12_sent 24 = .ok (.iload 4, 2) := by decide +kernel
theorem dX12_sent_26 : decode cX12_sent 26 = .ok (.invokestatic 224, 3) := by decide +kernel
theorem dX12_sent_29 : decode cX12_sent 29 = .ok (.istore 5, 2) := by decide +kernel
theorem dX12_sent_31 : decode cX12_sent 31 = .ok (.iload 5, 2) := by decide +kernel
theorem dX12_sent_33 : decode cX12_sent 33 = .ok (.iconst (-1), 1) := by decide +kernel
theorem dX12_sent_34 : decode cX12_sent 34 = .ok (.if_icmp .eq 49, 3) := by decide +kernel
theorem dX12_sent_37 : decode cX12_sent 37 = .ok (.aload_n 0, 1) := by decide +kernel
theorem dX12_sent_38 : decode cX12_sent 38 = .ok (.iload 5, 2) := by decide +kernel
theorem dX12_sent_40 : decode cX12_sent 40 = .ok (.invokevirtual 227, 3) := by decide +kernel
theorem dX12_sent_43 : decode cX12_sent 43 = .ok (.ifCond .eq 6, 3) := by decide +kernel
theorem dX12_sent_46 : decode cX12_sent 46 = .ok (.goto 37, 3) := by decide +kernel
theorem dX12_sent_49 : decode cX12_sent 49 = .ok (.aload_n 0, 1) := by decide +kernel
theorem dX12_sent_50 : decode cX12_sent 50 = .ok (.iload_n 1, 1) := by decide +kernel
theorem dX12_sent_51 : decode cX12_sent 51 = .ok (.iload 5, 2) := by decide +kernel
theorem dX12_sent_53 : decode cX12_sent 53 = .ok (.invokevirtual 126, 3) := by decide +kernel
theorem dX12_sent_56 : decode cX12_sent 56 = .ok (.istore 6, 2) := by decide +kernel
theorem dX12_sent_58 : decode cX12_sent 58 = .ok (.iload_n 2, 1) := by decide +kernel
theorem dX12_sent_59 : decode cX12_sent 59 = .ok (.aload_n 0, 1) := by decide +kernel
theorem dX12_sent_60 : decode cX12_sent 60 = .ok (.getfield 21, 3) := by decide +kernel
theorem dX12_sent_63 : decode cX12_sent 63 = .ok (.iload_n 1, 1) := by decide +kernel
theorem dX12_sent_64 : decode cX12_sent 64 = .ok (.iaload, 1) := by decide +kernel
theorem dX12_sent_65 : decode cX12_sent 65 = .ok (.if_icmp .eq 12, 3) := by decide +kernel
theorem dX12_sent_68 : decode cX12_sent 68 = .ok (.iload 6, 2) := by decide +kernel
theorem dX12_sent_70 : decode cX12_sent 70 = .ok (.iload_n 3, 1) := by decide +kernel
theorem dX12_sent_71 : decode cX12_sent 71 = .ok (.if_icmp .gt 6, 3) := by decide +kernel
theorem dX12_sent_74 : decode cX12_sent 74 = .ok (.goto 9, 3) := by decide +kernel
theorem dX12_sent_77 : decode cX12_sent 77 = .ok (.iload 6, 2) := by decide +kernel
theorem dX12_sent_79 : decode cX12_sent 79 = .ok (.istore_n 3, 1) := by decide +kernel
theorem dX12_sent_80 : decode cX12_sent 80 = .ok (.iload 5, 2) := by decide +kernel
theorem dX12_sent_82 : decode cX12_sent 82 = .ok (.istore_n 2, 1) := by decide +kernel
theorem dX12_sent_83 : decode cX12_sent 83 = .ok (.iinc 4 1, 3) := by decide +kernel
theorem dX12_sent_86 : decode cX12_sent 86 = .ok (.goto (-74), 3) := by decide +kernel
theorem dX12_sent_89 : decode cX12_sent 89 = .ok (.iload_n 2, 1) := by decide +kernel
theorem dX12_sent_90 : decode cX12_sent 90 = .ok (.ireturn, 1) := by decide +kernel
theorem dX12_held_0 : decode cX12_held 0 = .ok (.iconst 0, 1) := by decide +kernel
theorem dX12_held_1 : decode cX12_held 1 = .ok (.bipush 99, 2) := by decide +kernel
theorem dX12_held_3 : decode cX12_held 3 = .ok (.iload_n 0, 1) := by decide +kernel
theorem dX12_held_4 : decode cX12_held 4 = .ok (.invokestatic 230, 3) := by decide +kernel
theorem dX12_held_7 : decode cX12_held 7 = .ok (.invokestatic 235, 3) := by decide +kernel
theorem dX12_held_10 : decode cX12_held 10 = .ok (.ireturn, 1) := by decide +kernel
theorem dX12_goesHour_0 : decode cX12_goesHour 0 = .ok (.iconst 0, 1) := by decide +kernel
theorem dX12_goesHour_1 : decode cX12_goesHour 1 = .ok (.istore_n 1, 1) := by decide +kernel
theorem dX12_goesHour_2 : decode cX12_goesHour 2 = .ok (.iload_n 1, 1) := by decide +kernel
theorem dX12_goesHour_3 : decode cX12_goesHour 3 = .ok (.aload_n 0, 1) := by decide +kernel
theorem dX12_goesHour_4 : decode cX12_goesHour 4 = .ok (.getfield 105, 3) := by decide +kernel
theorem dX12_goesHour_7 : decode cX12_goesHour 7 = .ok (.if_icmp .ge 64, 3) := by decide +kernel
theorem dX12_goesHour_10 : decode cX12_goesHour 10 = .ok (.aload_n 0, 1) := by decide +kernel
theorem dX12_goesHour_11 : decode cX12_goesHour 11 = .ok (.getfield 24, 3) := by decide +kernel
theorem dX12_goesHour_14 : decode cX12_goesHour 14 = .ok (.iload_n 1, 1) := by decide +kernel
theorem dX12_goesHour_15 : decode cX12_goesHour 15 = .ok (.iaload, 1) := by decide +kernel
theorem dX12_goesHour_16 : decode cX12_goesHour 16 = .ok (.iconst 1, 1) := by decide +kernel
theorem dX12_goesHour_17 : decode cX12_goesHour 17 = .ok (.if_icmp .ne 6, 3) := by decide +kernel
theorem dX12_goesHour_20 : decode cX12_goesHour 20 = .ok (.goto 45, 3) := by decide +kernel
theorem dX12_goesHour_23 : decode cX12_goesHour 23 = .ok (.aload_n 0, 1) := by decide +kernel
theorem dX12_goesHour_24 : decode cX12_goesHour 24 = .ok (.getfield 21, 3) := by decide +kernel
theorem dX12_goesHour_27 : decode cX12_goesHour 27 = .ok (.iload_n 1, 1) := by decide +kernel
theorem dX12_goesHour_28 : decode cX12_goesHour 28 = .ok (.aload_n 0, 1) := by decide +kernel
theorem dX12_goesHour_29 : decode cX12_goesHour 29 = .ok (.iload_n 1, 1) := by decide +kernel
theorem dX12_goesHour_30 : decode cX12_goesHour 30 = .ok (.invokevirtual 119, 3) := by decide +kernel
theorem dX12_goesHour_33 : decode cX12_goesHour 33 = .ok (.iastore, 1) := by decide +kernel
theorem dX12_goesHour_34 : decode cX12_goesHour 34 = .ok (.aload_n 0, 1) := by decide +kernel
theorem dX12_goesHour_35 : decode cX12_goesHour 35 = .ok (.getfield 9, 3) := by decide +kernel
theorem dX12_goesHour_38 : decode cX12_goesHour 38 = .ok (.aload_n 0, 1) := by decide +kernel
theorem dX12_goesHour_39 : decode cX12_goesHour 39 = .ok (.getfield 21, 3) := by decide +kernel
theorem dX12_goesHour_42 : decode cX12_goesHour 42 = .ok (.iload_n 1, 1) := by decide +kernel
theorem dX12_goesHour_43 : decode cX12_goesHour 43 = .ok (.iaload, 1) := by decide +kernel
theorem dX12_goesHour_44 : decode cX12_goesHour 44 = .ok (.aload_n 0, 1) := by decide +kernel
theorem dX12_goesHour_45 : decode cX12_goesHour 45 = .ok (.getfield 9, 3) := by decide +kernel
theorem dX12_goesHour_48 : decode cX12_goesHour 48 = .ok (.aload_n 0, 1) := by decide +kernel
theorem dX12_goesHour_49 : decode cX12_goesHour 49 = .ok (.getfield 21, 3) := by decide +kernel
theorem dX12_goesHour_52 : decode cX12_goesHour 52 = .ok (.iload_n 1, 1) := by decide +kernel
theorem dX12_goesHour_53 : decode cX12_goesHour 53 = .ok (.iaload, 1) := by decide +kernel
theorem dX12_goesHour_54 : decode cX12_goesHour 54 = .ok (.iaload, 1) := by decide +kernel
theorem dX12_goesHour_55 : decode cX12_goesHour 55 = .ok (.aload_n 0, 1) := by decide +kernel
theorem dX12_goesHour_56 : decode cX12_goesHour 56 = .ok (.iload_n 1, 1) := by decide +kernel
theorem dX12_goesHour_57 : decode cX12_goesHour 57 = .ok (.invokevirtual 123, 3) := by decide +kernel
theorem dX12_goesHour_60 : decode cX12_goesHour 60 = .ok (.iadd, 1) := by decide +kernel
theorem dX12_goesHour_61 : decode cX12_goesHour 61 = .ok (.invokestatic 238, 3) := by decide +kernel
theorem dX12_goesHour_64 : decode cX12_goesHour 64 = .ok (.iastore, 1) := by decide +kernel
theorem dX12_goesHour_65 : decode cX12_goesHour 65 = .ok (.iinc 1 1, 3) := by decide +kernel
theorem dX12_goesHour_68 : decode cX12_goesHour 68 = .ok (.goto (-66), 3) := by decide +kernel
theorem dX12_goesHour_71 : decode cX12_goesHour 71 = .ok (.aload_n 0, 1) := by decide +kernel
theorem dX12_goesHour_72 : decode cX12_goesHour 72 = .ok (.dup, 1) := by decide +kernel
theorem dX12_goesHour_73 : decode cX12_goesHour 73 = .ok (.getfield 208, 3) := by decide +kernel
theorem dX12_goesHour_76 : decode cX12_goesHour 76 = .ok (.iconst 1, 1) := by decide +kernel
theorem dX12_goesHour_77 : decode cX12_goesHour 77 = .ok (.iadd, 1) := by decide +kernel
theorem dX12_goesHour_78 : decode cX12_goesHour 78 = .ok (.putfield 208, 3) := by decide +kernel
theorem dX12_goesHour_81 : decode cX12_goesHour 81 = .ok (.aload_n 0, 1) := by decide +kernel
theorem dX12_goesHour_82 : decode cX12_goesHour 82 = .ok (.getfield 208, 3) := by decide +kernel
theorem dX12_goesHour_85 : decode cX12_goesHour 85 = .ok (.bipush 10, 2) := by decide +kernel
theorem dX12_goesHour_87 : decode cX12_goesHour 87 = .ok (.irem, 1) := by decide +kernel
theorem dX12_goesHour_88 : decode cX12_goesHour 88 = .ok (.ifCond .ne 34, 3) := by decide +kernel
theorem dX12_goesHour_91 : decode cX12_goesHour 91 = .ok (.iconst 0, 1) := by decide +kernel
theorem dX12_goesHour_92 : decode cX12_goesHour 92 = .ok (.istore_n 1, 1) := by decide +kernel
theorem dX12_goesHour_93 : decode cX12_goesHour 93 = .ok (.iload_n 1, 1) := by decide +kernel
theorem dX12_goesHour_94 : decode cX12_goesHour 94 = .ok (.bipush 25, 2) := by decide +kernel
theorem dX12_goesHour_96 : decode cX12_goesHour 96 = .ok (.if_icmp .ge 26, 3) := by decide +kernel
theorem dX12_goesHour_99 : decode cX12_goesHour 99 = .ok (.aload_n 0, 1) := by decide +kernel
theorem dX12_goesHour_100 : decode cX12_goesHour 100 = .ok (.getfield 9, 3) := by decide +kernel
theorem dX12_goesHour_103 : decode cX12_goesHour 103 = .ok (.iload_n 1, 1) := by decide +kernel
theorem dX12_goesHour_104 : decode cX12_goesHour 104 = .ok (.aload_n 0, 1) := by decide +kernel
theorem dX12_goesHour_105 : decode cX12_goesHour 105 = .ok (.getfield 9, 3) := by decide +kernel
theorem dX12_goesHour_108 : decode cX12_goesHour 108 = .ok (.iload_n 1, 1) := by decide +kernel
theorem dX12_goesHour_109 : decode cX12_goesHour 109 = .ok (.iaload, 1) := by decide +kernel
theorem dX12_goesHour_110 : decode cX12_goesHour 110 = .ok (.iconst 1, 1) := by decide +kernel
theorem dX12_goesHour_111 : decode cX12_goesHour 111 = .ok (.isub, 1) := by decide +kernel
theorem dX12_goesHour_112 : decode cX12_goesHour 112 = .ok (.invokestatic 238, 3) := by decide +kernel
theorem dX12_goesHour_115 : decode cX12_goesHour 115 = .ok (.iastore, 1) := by decide +kernel
theorem dX12_goesHour_116 : decode cX12_goesHour 116 = .ok (.iinc 1 1, 3) := by decide +kernel
theorem dX12_goesHour_119 : decode cX12_goesHour 119 = .ok (.goto (-26), 3) := by decide +kernel
theorem dX12_goesHour_122 : decode cX12_goesHour 122 = .ok (.return_, 1) := by decide +kernel
theorem dX12_balds_0 : decode cX12_balds 0 = .ok (.iconst 0, 1) := by decide +kernel
theorem dX12_balds_1 : decode cX12_balds 1 = .ok (.istore_n 1, 1) := by decide +kernel
theorem dX12_balds_2 : decode cX12_balds 2 = .ok (.iconst 0, 1) := by decide +kernel
theorem dX12_balds_3 : decode cX12_balds 3 = .ok (.istore_n 2, 1) := by decide +kernel
theorem dX12_balds_4 : decode cX12_balds 4 = .ok (.iload_n 2, 1) := by decide +kernel
theorem dX12_balds_5 : decode cX12_balds 5 = .ok (.bipush 25, 2) := by decide +kernel
theorem dX12_balds_7 : decode cX12_balds 7 = .ok (.if_icmp .ge 20, 3) := by decide +kernel
theorem dX12_balds_10 : decode cX12_balds 10 = .ok (.aload_n 0, 1) := by decide +kernel
theorem dX12_balds_11 : decode cX12_balds 11 = .ok (.iload_n 2, 1) := by decide +kernel
theorem dX12_balds_12 : decode cX12_balds 12 = .ok (.invokevirtual 227, 3) := by decide +kernel
theorem dX12_balds_15 : decode cX12_balds 15 = .ok (.ifCond .eq 6, 3) := by decide +kernel
theorem dX12_balds_18 : decode cX12_balds 18 = .ok (.iinc 1 1, 3) := by decide +kernel
theorem dX12_balds_21 : decode cX12_balds 21 = .ok (.iinc 2 1, 3) := by decide +kernel
theorem dX12_balds_24 : decode cX12_balds 24 = .ok (.goto (-20), 3) := by decide +kernel
theorem dX12_balds_27 : decode cX12_balds 27 = .ok (.iload_n 1, 1) := by decide +kernel
theorem dX12_balds_28 : decode cX12_balds 28 = .ok (.ireturn, 1) := by decide +kernel
theorem dX12_allWear_0 : decode cX12_allWear 0 = .ok (.iconst 0, 1) := by decide +kernel
theorem dX12_allWear_1 : decode cX12_allWear 1 = .ok (.istore_n 1, 1) := by decide +kernel
theorem dX12_allWear_2 : decode cX12_allWear 2 = .ok (.iconst 0, 1) := by decide +kernel
theorem dX12_allWear_3 : decode cX12_allWear 3 = .ok (.istore_n 2, 1) := by decide +kernel
theorem dX12_allWear_4 : decode cX12_allWear 4 = .ok (.iload_n 2, 1) := by decide +kernel
theorem dX12_allWear_5 : decode cX12_allWear 5 = .ok (.bipush 25, 2) := by decide +kernel
theorem dX12_allWear_7 : decode cX12_allWear 7 = .ok (.if_icmp .ge 18, 3) := by decide +kernel
theorem dX12_allWear_10 : decode cX12_allWear 10 = .ok (.iload_n 1, 1) := by decide +kernel
theorem dX12_allWear_11 : decode cX12_allWear 11 = .ok (.aload_n 0, 1) := by decide +kernel
theorem dX12_allWear_12 : decode cX12_allWear 12 = .ok (.getfield 9, 3) := by decide +kernel
theorem dX12_allWear_15 : decode cX12_allWear 15 = .ok (.iload_n 2, 1) := by decide +kernel
theorem dX12_allWear_16 : decode cX12_allWear 16 = .ok (.iaload, 1) := by decide +kernel
theorem dX12_allWear_17 : decode cX12_allWear 17 = .ok (.iadd, 1) := by decide +kernel
theorem dX12_allWear_18 : decode cX12_allWear 18 = .ok (.istore_n 1, 1) := by decide +kernel
theorem dX12_allWear_19 : decode cX12_allWear 19 = .ok (.iinc 2 1, 3) := by decide +kernel
theorem dX12_allWear_22 : decode cX12_allWear 22 = .ok (.goto (-18), 3) := by decide +kernel
theorem dX12_allWear_25 : decode cX12_allWear 25 = .ok (.iload_n 1, 1) := by decide +kernel
theorem dX12_allWear_26 : decode cX12_allWear 26 = .ok (.ireturn, 1) := by decide +kernel
theorem dX12_beating_0 : decode cX12_beating 0 = .ok (.iconst 0, 1) := by decide +kernel
theorem dX12_beating_1 : decode cX12_beating 1 = .ok (.istore_n 1, 1) := by decide +kernel
theorem dX12_beating_2 : decode cX12_beating 2 = .ok (.iconst 0, 1) := by decide +kernel
theorem dX12_beating_3 : decode cX12_beating 3 = .ok (.istore_n 2, 1) := by decide +kernel
theorem dX12_beating_4 : decode cX12_beating 4 = .ok (.iload_n 2, 1) := by decide +kernel
theorem dX12_beating_5 : decode cX12_beating 5 = .ok (.bipush 25, 2) := by decide +kernel
theorem dX12_beating_7 : decode cX12_beating 7 = .ok (.if_icmp .ge 20, 3) := by decide +kernel
theorem dX12_beating_10 : decode cX12_beating 10 = .ok (.iload_n 1, 1) := by decide +kernel
theorem dX12_beating_11 : decode cX12_beating 11 = .ok (.aload_n 0, 1) := by decide +kernel
theorem dX12_beating_12 : decode cX12_beating 12 = .ok (.getfield 9, 3) := by decide +kernel
theorem dX12_beating_15 : decode cX12_beating 15 = .ok (.iload_n 2, 1) := by decide +kernel
theorem dX12_beating_16 : decode cX12_beating 16 = .ok (.iaload, 1) := by decide +kernel
theorem dX12_beating_17 : decode cX12_beating 17 = .ok (.invokestatic 235, 3) := by decide +kernel
theorem dX12_beating_20 : decode cX12_beating 20 = .ok (.istore_n 1, 1) := by decide +kernel
theorem dX12_beating_21 : decode cX12_beating 21 = .ok (.iinc 2 1, 3) := by decide +kernel
theorem dX12_beating_24 : decode cX12_beating 24 = .ok (.goto (-20), 3) := by decide +kernel
theorem dX12_beating_27 : decode cX12_beating 27 = .ok (.iconst 0, 1) := by decide +kernel
theorem dX12_beating_28 : decode cX12_beating 28 = .ok (.istore_n 2, 1) := by decide +kernel
theorem dX12_beating_29 : decode cX12_beating 29 = .ok (.iload_n 2, 1) := by decide +kernel
theorem dX12_beating_30 : decode cX12_beating 30 = .ok (.bipush 99, 2) := by decide +kernel
theorem dX12_beating_32 : decode cX12_beating 32 = .ok (.if_icmp .gt 24, 3) := by decide +kernel
theorem dX12_beating_35 : decode cX12_beating 35 = .ok (.iload_n 1, 1) := by decide +kernel
theorem dX12_beating_36 : decode cX12_beating 36 = .ok (.iload_n 2, 1) := by decide +kernel
theorem dX12_beating_37 : decode cX12_beating 37 = .ok (.isub, 1) := by decide +kernel
theorem dX12_beating_38 : decode cX12_beating 38 = .ok (.invokestatic 238, 3) := by decide +kernel
theorem dX12_beating_41 : decode cX12_beating 41 = .ok (.aload_n 0, 1) := by decide +kernel
theorem dX12_beating_42 : decode cX12_beating 42 = .ok (.invokevirtual 221, 3) := by decide +kernel
theorem dX12_beating_45 : decode cX12_beating 45 = .ok (.if_icmp .ge 5, 3) := by decide +kernel
theorem dX12_beating_48 : decode cX12_beating 48 = .ok (.iload_n 2, 1) := by decide +kernel
theorem dX12_beating_49 : decode cX12_beating 49 = .ok (.ireturn, 1) := by decide +kernel
theorem dX12_beating_50 : decode cX12_beating 50 = .ok (.iinc 2 1, 3) := by decide +kernel
theorem dX12_beating_53 : decode cX12_beating 53 = .ok (.goto (-24), 3) := by decide +kernel
theorem dX12_beating_56 : decode cX12_beating 56 = .ok (.bipush (-5), 2) := by decide +kernel
theorem dX12_beating_58 : decode cX12_beating 58 = .ok (.ireturn, 1) := by decide +kernel
theorem dX12_told_0 : decode cX12_told 0 = .ok (.iload_n 1, 1) := by decide +kernel
theorem dX12_told_1 : decode cX12_told 1 = .ok (.bipush 10, 2) := by decide +kernel
theorem dX12_told_3 : decode cX12_told 3 = .ok (.isub, 1) := by decide +kernel
theorem dX12_told_4 : decode cX12_told 4 = .ok (.invokestatic 112, 3) := by decide +kernel
theorem dX12_told_7 : decode cX12_told 7 = .ok (.ifCond .eq 13, 3) := by decide +kernel
theorem dX12_told_10 : decode cX12_told 10 = .ok (.aload_n 0, 1) := by decide +kernel
theorem dX12_told_11 : decode cX12_told 11 = .ok (.getfield 9, 3) := by decide +kernel
theorem dX12_told_14 : decode cX12_told 14 = .ok (.iload_n 1, 1) := by decide +kernel
theorem dX12_told_15 : decode cX12_told 15 = .ok (.bipush 10, 2) := by decide +kernel
theorem dX12_told_17 : decode cX12_told 17 = .ok (.isub, 1) := by decide +kernel
theorem dX12_told_18 : decode cX12_told 18 = .ok (.iaload, 1) := by decide +kernel
theorem dX12_told_19 : decode cX12_told 19 = .ok (.ireturn, 1) := by decide +kernel
theorem dX12_told_20 : decode cX12_told 20 = .ok (.iload_n 1, 1) := by decide +kernel
theorem dX12_told_21 : decode cX12_told 21 = .ok (.tableswitch 60 0 4 #[35, 40, 45, 50, 55], 35) := by decide +kernel
theorem dX12_told_56 : decode cX12_told 56 = .ok (.aload_n 0, 1) := by decide +kernel
theorem dX12_told_57 : decode cX12_told 57 = .ok (.getfield 208, 3) := by decide +kernel
theorem dX12_told_60 : decode cX12_told 60 = .ok (.ireturn, 1) := by decide +kernel
theorem dX12_told_61 : decode cX12_told 61 = .ok (.aload_n 0, 1) := by decide +kernel
theorem dX12_told_62 : decode cX12_told 62 = .ok (.invokevirtual 221, 3) := by decide +kernel
theorem dX12_told_65 : decode cX12_told 65 = .ok (.ireturn, 1) := by decide +kernel
theorem dX12_told_66 : decode cX12_told 66 = .ok (.aload_n 0, 1) := by decide +kernel
theorem dX12_told_67 : decode cX12_told 67 = .ok (.invokevirtual 241, 3) := by decide +kernel
theorem dX12_told_70 : decode cX12_told 70 = .ok (.ireturn, 1) := by decide +kernel
theorem dX12_told_71 : decode cX12_told 71 = .ok (.aload_n 0, 1) := by decide +kernel
theorem dX12_told_72 : decode cX12_told 72 = .ok (.invokevirtual 244, 3) := by decide +kernel
theorem dX12_told_75 : decode cX12_told 75 = .ok (.ireturn, 1) := by decide +kernel
theorem dX12_told_76 : decode cX12_told 76 = .ok (.aload_n 0, 1) := by decide +kernel
theorem dX12_told_77 : decode cX12_told 77 = .ok (.invokevirtual 247, 3) := by decide +kernel
theorem dX12_told_80 : decode cX12_told 80 = .ok (.ireturn, 1) := by decide +kernel
theorem dX12_told_81 : decode cX12_told 81 = .ok (.iconst (-1), 1) := by decide +kernel
theorem dX12_told_82 : decode cX12_told 82 = .ok (.ireturn, 1) := by decide +kernel
theorem dX12_pass_0 : decode cX12_pass 0 = .ok (.iload_n 1, 1) := by decide +kernel
theorem dX12_pass_1 : decode cX12_pass 1 = .ok (.iconst 0, 1) := by decide +kernel
theorem dX12_pass_2 : decode cX12_pass 2 = .ok (.bipush 60, 2) := by decide +kernel
theorem dX12_pass_4 : decode cX12_pass 4 = .ok (.invokestatic 108, 3) := by decide +kernel
theorem dX12_pass_7 : decode cX12_pass 7 = .ok (.ifCond .ne 6, 3) := by decide +kernel
theorem dX12_pass_10 : decode cX12_pass 10 = .ok (.bipush (-2), 2) := by decide +kernel
theorem dX12_pass_12 : decode cX12_pass 12 = .ok (.ireturn, 1) := by decide +kernel
theorem dX12_pass_13 : decode cX12_pass 13 = .ok (.aload_n 0, 1) := by decide +kernel
theorem dX12_pass_14 : decode cX12_pass 14 = .ok (.getfield 208, 3) := by decide +kernel
theorem dX12_pass_17 : decode cX12_pass 17 = .ok (.iload_n 1, 1) := by decide +kernel
theorem dX12_pass_18 : decode cX12_pass 18 = .ok (.iadd, 1) := by decide +kernel
theorem dX12_pass_19 : decode cX12_pass 19 = .ok (.sipush 9999, 3) := by decide +kernel
theorem dX12_pass_22 : decode cX12_pass 22 = .ok (.if_icmp .le 6, 3) := by decide +kernel
theorem dX12_pass_25 : decode cX12_pass 25 = .ok (.bipush (-3), 2) := by decide +kernel
theorem dX12_pass_27 : decode cX12_pass 27 = .ok (.ireturn, 1) := by decide +kernel
theorem dX12_pass_28 : decode cX12_pass 28 = .ok (.iconst 0, 1) := by decide +kernel
theorem dX12_pass_29 : decode cX12_pass 29 = .ok (.istore_n 2, 1) := by decide +kernel
theorem dX12_pass_30 : decode cX12_pass 30 = .ok (.iload_n 2, 1) := by decide +kernel
theorem dX12_pass_31 : decode cX12_pass 31 = .ok (.iload_n 1, 1) := by decide +kernel
theorem dX12_pass_32 : decode cX12_pass 32 = .ok (.if_icmp .ge 13, 3) := by decide +kernel
theorem dX12_pass_35 : decode cX12_pass 35 = .ok (.aload_n 0, 1) := by decide +kernel
theorem dX12_pass_36 : decode cX12_pass 36 = .ok (.invokevirtual 250, 3) := by decide +kernel
theorem dX12_pass_39 : decode cX12_pass 39 = .ok (.iinc 2 1, 3) := by decide +kernel
theorem dX12_pass_42 : decode cX12_pass 42 = .ok (.goto (-12), 3) := by decide +kernel
theorem dX12_pass_45 : decode cX12_pass 45 = .ok (.aload_n 0, 1) := by decide +kernel
theorem dX12_pass_46 : decode cX12_pass 46 = .ok (.getfield 208, 3) := by decide +kernel
theorem dX12_pass_49 : decode cX12_pass 49 = .ok (.ireturn, 1) := by decide +kernel
theorem dX12_on_0 : decode cX12_on 0 = .ok (.iload_n 2, 1) := by decide +kernel
theorem dX12_on_1 : decode cX12_on 1 = .ok (.ifCond .eq 26, 3) := by decide +kernel
theorem dX12_on_4 : decode cX12_on 4 = .ok (.iload_n 2, 1) := by decide +kernel
theorem dX12_on_5 : decode cX12_on 5 = .ok (.bipush 10, 2) := by decide +kernel
theorem dX12_on_7 : decode cX12_on 7 = .ok (.isub, 1) := by decide +kernel
theorem dX12_on_8 : decode cX12_on 8 = .ok (.invokestatic 112, 3) := by decide +kernel
theorem dX12_on_11 : decode cX12_on 11 = .ok (.ifCond .ne 16, 3) := by decide +kernel
theorem dX12_on_14 : decode cX12_on 14 = .ok (.aload_n 0, 1) := by decide +kernel
theorem dX12_on_15 : decode cX12_on 15 = .ok (.iload_n 2, 1) := by decide +kernel
theorem dX12_on_16 : decode cX12_on 16 = .ok (.bipush 40, 2) := by decide +kernel
theorem dX12_on_18 : decode cX12_on 18 = .ok (.isub, 1) := by decide +kernel
theorem dX12_on_19 : decode cX12_on 19 = .ok (.invokevirtual 116, 3) := by decide +kernel
theorem dX12_on_22 : decode cX12_on 22 = .ok (.ifCond .ne 5, 3) := by decide +kernel
theorem dX12_on_25 : decode cX12_on 25 = .ok (.iconst (-1), 1) := by decide +kernel
theorem dX12_on_26 : decode cX12_on 26 = .ok (.ireturn, 1) := by decide +kernel
theorem dX12_on_27 : decode cX12_on 27 = .ok (.iload_n 1, 1) := by decide +kernel
theorem dX12_on_28 : decode cX12_on 28 = .ok (.iconst 0, 1) := by decide +kernel
theorem dX12_on_29 : decode cX12_on 29 = .ok (.bipush 40, 2) := by decide +kernel
theorem dX12_on_31 : decode cX12_on 31 = .ok (.invokestatic 108, 3) := by decide +kernel
theorem dX12_on_34 : decode cX12_on 34 = .ok (.ifCond .ne 6, 3) := by decide +kernel
theorem dX12_on_37 : decode cX12_on 37 = .ok (.bipush (-2), 2) := by decide +kernel
theorem dX12_on_39 : decode cX12_on 39 = .ok (.ireturn, 1) := by decide +kernel
theorem dX12_on_40 : decode cX12_on 40 = .ok (.aload_n 0, 1) := by decide +kernel
theorem dX12_on_41 : decode cX12_on 41 = .ok (.aload_n 0, 1) := by decide +kernel
theorem dX12_on_42 : decode cX12_on 42 = .ok (.getfield 82, 3) := by decide +kernel
theorem dX12_on_45 : decode cX12_on 45 = .ok (.invokevirtual 253, 3) := by decide +kernel
theorem dX12_on_48 : decode cX12_on 48 = .ok (.iconst 0, 1) := by decide +kernel
theorem dX12_on_49 : decode cX12_on 49 = .ok (.istore_n 3, 1) := by decide +kernel
theorem dX12_on_50 : decode cX12_on 50 = .ok (.iload_n 3, 1) := by decide +kernel
theorem dX12_on_51 : decode cX12_on 51 = .ok (.iload_n 1, 1) := by decide +kernel
theorem dX12_on_52 : decode cX12_on 52 = .ok (.if_icmp .ge 13, 3) := by decide +kernel
theorem dX12_on_55 : decode cX12_on 55 = .ok (.aload_n 0, 1) := by decide +kernel
theorem dX12_on_56 : decode cX12_on 56 = .ok (.invokevirtual 250, 3) := by decide +kernel
theorem dX12_on_59 : decode cX12_on 59 = .ok (.iinc 3 1, 3) := by decide +kernel
theorem dX12_on_62 : decode cX12_on 62 = .ok (.goto (-12), 3) := by decide +kernel
theorem dX12_on_65 : decode cX12_on 65 = .ok (.iload_n 2, 1) := by decide +kernel
theorem dX12_on_66 : decode cX12_on 66 = .ok (.ifCond .ne 10, 3) := by decide +kernel
theorem dX12_on_69 : decode cX12_on 69 = .ok (.aload_n 0, 1) := by decide +kernel
theorem dX12_on_70 : decode cX12_on 70 = .ok (.invokevirtual 241, 3) := by decide +kernel
theorem dX12_on_73 : decode cX12_on 73 = .ok (.goto 30, 3) := by decide +kernel
theorem dX12_on_76 : decode cX12_on 76 = .ok (.iload_n 2, 1) := by decide +kernel
theorem dX12_on_77 : decode cX12_on 77 = .ok (.bipush 40, 2) := by decide +kernel
theorem dX12_on_79 : decode cX12_on 79 = .ok (.if_icmp .ge 15, 3) := by decide +kernel
theorem dX12_on_82 : decode cX12_on 82 = .ok (.aload_n 0, 1) := by decide +kernel
theorem dX12_on_83 : decode cX12_on 83 = .ok (.getfield 9, 3) := by decide +kernel
theorem dX12_on_86 : decode cX12_on 86 = .ok (.iload_n 2, 1) := by decide +kernel
theorem dX12_on_87 : decode cX12_on 87 = .ok (.bipush 10, 2) := by decide +kernel
theorem dX12_on_89 : decode cX12_on 89 = .ok (.isub, 1) := by decide +kernel
theorem dX12_on_90 : decode cX12_on 90 = .ok (.iaload, 1) := by decide +kernel
theorem dX12_on_91 : decode cX12_on 91 = .ok (.goto 12, 3) := by decide +kernel
theorem dX12_on_94 : decode cX12_on 94 = .ok (.aload_n 0, 1) := by decide +kernel
theorem dX12_on_95 : decode cX12_on 95 = .ok (.getfield 21, 3) := by decide +kernel
theorem dX12_on_98 : decode cX12_on 98 = .ok (.iload_n 2, 1) := by decide +kernel
theorem dX12_on_99 : decode cX12_on 99 = .ok (.bipush 40, 2) := by decide +kernel
theorem dX12_on_101 : decode cX12_on 101 = .ok (.isub, 1) := by decide +kernel
theorem dX12_on_102 : decode cX12_on 102 = .ok (.iaload, 1) := by decide +kernel
theorem dX12_on_103 : decode cX12_on 103 = .ok (.istore_n 3, 1) := by decide +kernel
theorem dX12_on_104 : decode cX12_on 104 = .ok (.aload_n 0, 1) := by decide +kernel
theorem dX12_on_105 : decode cX12_on 105 = .ok (.aload_n 0, 1) := by decide +kernel
theorem dX12_on_106 : decode cX12_on 106 = .ok (.getfield 82, 3) := by decide +kernel
theorem dX12_on_109 : decode cX12_on 109 = .ok (.invokevirtual 257, 3) := by decide +kernel
theorem dX12_on_112 : decode cX12_on 112 = .ok (.iload_n 3, 1) := by decide +kernel
theorem dX12_on_113 : decode cX12_on 113 = .ok (.ireturn, 1) := by decide +kernel
theorem dX12_gets_0 : decode cX12_gets 0 = .ok (.aload_n 0, 1) := by decide +kernel
theorem dX12_gets_1 : decode cX12_gets 1 = .ok (.aload_n 0, 1) := by decide +kernel
theorem dX12_gets_2 : decode cX12_gets 2 = .ok (.getfield 82, 3) := by decide +kernel
theorem dX12_gets_5 : decode cX12_gets 5 = .ok (.invokevirtual 253, 3) := by decide +kernel
theorem dX12_gets_8 : decode cX12_gets 8 = .ok (.bipush (-5), 2) := by decide +kernel
theorem dX12_gets_10 : decode cX12_gets 10 = .ok (.istore_n 3, 1) := by decide +kernel
theorem dX12_gets_11 : decode cX12_gets 11 = .ok (.iconst 0, 1) := by decide +kernel
theorem dX12_gets_12 : decode cX12_gets 12 = .ok (.istore 4, 2) := by decide +kernel
theorem dX12_gets_14 : decode cX12_gets 14 = .ok (.iload 4, 2) := by decide +kernel
theorem dX12_gets_16 : decode cX12_gets 16 = .ok (.bipush 41, 2) := by decide +kernel
theorem dX12_gets_18 : decode cX12_gets 18 = .ok (.if_icmp .ge 37, 3) := by decide +kernel
theorem dX12_gets_21 : decode cX12_gets 21 = .ok (.iload_n 3, 1) := by decide +kernel
theorem dX12_gets_22 : decode cX12_gets 22 = .ok (.bipush (-5), 2) := by decide +kernel
theorem dX12_gets_24 : decode cX12_gets 24 = .ok (.if_icmp .ne 31, 3) := by decide +kernel
theorem dX12_gets_27 : decode cX12_gets 27 = .ok (.iload 4, 2) := by decide +kernel
theorem dX12_gets_29 : decode cX12_gets 29 = .ok (.ifCond .le 7, 3) := by decide +kernel
theorem dX12_gets_32 : decode cX12_gets 32 = .ok (.aload_n 0, 1) := by decide +kernel
theorem dX12_gets_33 : decode cX12_gets 33 = .ok (.invokevirtual 250, 3) := by decide +kernel
theorem dX12_gets_36 : decode cX12_gets 36 = .ok (.aload_n 0, 1) := by decide +kernel
theorem dX12_gets_37 : decode cX12_gets 37 = .ok (.getfield 21, 3) := by decide +kernel
theorem dX12_gets_40 : decode cX12_gets 40 = .ok (.iload_n 1, 1) := by decide +kernel
theorem dX12_gets_41 : decode cX12_gets 41 = .ok (.iaload, 1) := by decide +kernel
theorem dX12_gets_42 : decode cX12_gets 42 = .ok (.iload_n 2, 1) := by decide +kernel
theorem dX12_gets_43 : decode cX12_gets 43 = .ok (.if_icmp .ne 6, 3) := by decide +kernel
theorem dX12_gets_46 : decode cX12_gets 46 = .ok (.iload 4, 2) := by decide +kernel
theorem dX12_gets_48 : decode cX12_gets 48 = .ok (.istore_n 3, 1) := by decide +kernel
theorem dX12_gets_49 : decode cX12_gets 49 = .ok (.iinc 4 1, 3) := by decide +kernel
theorem dX12_gets_52 : decode cX12_gets 52 = .ok (.goto (-38), 3) := by decide +kernel
theorem dX12_gets_55 : decode cX12_gets 55 = .ok (.aload_n 0, 1) := by decide +kernel
theorem dX12_gets_56 : decode cX12_gets 56 = .ok (.aload_n 0, 1) := by decide +kernel
theorem dX12_gets_57 : decode cX12_gets 57 = .ok (.getfield 82, 3) := by decide +kernel
theorem dX12_gets_60 : decode cX12_gets 60 = .ok (.invokevirtual 257, 3) := by decide +kernel
theorem dX12_gets_63 : decode cX12_gets 63 = .ok (.iload_n 3, 1) := by decide +kernel
theorem dX12_gets_64 : decode cX12_gets 64 = .ok (.ireturn, 1) := by decide +kernel
theorem dX12_steps_0 : decode cX12_steps 0 = .ok (.iconst 0, 1) := by decide +kernel
theorem dX12_steps_1 : decode cX12_steps 1 = .ok (.istore_n 3, 1) := by decide +kernel
theorem dX12_steps_2 : decode cX12_steps 2 = .ok (.iload_n 3, 1) := by decide +kernel
theorem dX12_steps_3 : decode cX12_steps 3 = .ok (.bipush 25, 2) := by decide +kernel
theorem dX12_steps_5 : decode cX12_steps 5 = .ok (.if_icmp .ge 31, 3) := by decide +kernel
theorem dX12_steps_8 : decode cX12_steps 8 = .ok (.aload_n 0, 1) := by decide +kernel
theorem dX12_steps_9 : decode cX12_steps 9 = .ok (.getfield 88, 3) := by decide +kernel
theorem dX12_steps_12 : decode cX12_steps 12 = .ok (.iload_n 3, 1) := by decide +kernel
theorem dX12_steps_13 : decode cX12_steps 13 = .ok (.iload_n 3, 1) := by decide +kernel
theorem dX12_steps_14 : decode cX12_steps 14 = .ok (.aload_n 0, 1) := by decide +kernel
theorem dX12_steps_15 : decode cX12_steps 15 = .ok (.getfield 21, 3) := by decide +kernel
theorem dX12_steps_18 : decode cX12_steps 18 = .ok (.iload_n 1, 1) := by decide +kernel
theorem dX12_steps_19 : decode cX12_steps 19 = .ok (.iaload, 1) := by decide +kernel
theorem dX12_steps_20 : decode cX12_steps 20 = .ok (.if_icmp .ne 7, 3) := by decide +kernel
theorem dX12_steps_23 : decode cX12_steps 23 = .ok (.iconst 0, 1) := by decide +kernel
theorem dX12_steps_24 : decode cX12_steps 24 = .ok (.goto 5, 3) := by decide +kernel
theorem dX12_steps_27 : decode cX12_steps 27 = .ok (.bipush (-5), 2) := by decide +kernel
theorem dX12_steps_29 : decode cX12_steps 29 = .ok (.iastore, 1) := by decide +kernel
theorem dX12_steps_30 : decode cX12_steps 30 = .ok (.iinc 3 1, 3) := by decide +kernel
theorem dX12_steps_33 : decode cX12_steps 33 = .ok (.goto (-31), 3) := by decide +kernel
theorem dX12_steps_36 : decode cX12_steps 36 = .ok (.iconst 0, 1) := by decide +kernel
theorem dX12_steps_37 : decode cX12_steps 37 = .ok (.istore_n 3, 1) := by decide +kernel
theorem dX12_steps_38 : decode cX12_steps 38 = .ok (.iload_n 3, 1) := by decide +kernel
theorem dX12_steps_39 : decode cX12_steps 39 = .ok (.bipush 25, 2) := by decide +kernel
theorem dX12_steps_41 : decode cX12_steps 41 = .ok (.if_icmp .ge 97, 3) := by decide +kernel
theorem dX12_steps_44 : decode cX12_steps 44 = .ok (.iconst 0, 1) := by decide +kernel
theorem dX12_steps_45 : decode cX12_steps 45 = .ok (.istore 4, 2) := by decide +kernel
theorem dX12_steps_47 : decode cX12_steps 47 = .ok (.iload 4, 2) := by decide +kernel
theorem dX12_steps_49 : decode cX12_steps 49 = .ok (.bipush 25, 2) := by decide +kernel
theorem dX12_steps_51 : decode cX12_steps 51 = .ok (.if_icmp .ge 81, 3) := by decide +kernel
theorem dX12_steps_54 : decode cX12_steps 54 = .ok (.iconst 0, 1) := by decide +kernel
theorem dX12_steps_55 : decode cX12_steps 55 = .ok (.istore 5, 2) := by decide +kernel
theorem dX12_steps_57 : decode cX12_steps 57 = .ok (.iload 5, 2) := by decide +kernel
theorem dX12_steps_59 : decode cX12_steps 59 = .ok (.iconst 4, 1) := by decide +kernel
theorem dX12_steps_60 : decode cX12_steps 60 = .ok (.if_icmp .ge 66, 3) := by decide +kernel
theorem dX12_steps_63 : decode cX12_steps 63 = .ok (.aload_n 0, 1) := by decide +kernel
theorem dX12_steps_64 : decode cX12_steps 64 = .ok (.getfield 88, 3) := by decide +kernel
theorem dX12_steps_67 : decode cX12_steps 67 = .ok (.iload 4, 2) := by decide +kernel
theorem dX12_steps_69 : decode cX12_steps 69 = .ok (.iaload, 1) := by decide +kernel
theorem dX12_steps_70 : decode cX12_steps 70 = .ok (.iload_n 3, 1) := by decide +kernel
theorem dX12_steps_71 : decode cX12_steps 71 = .ok (.if_icmp .ne 55, 3) := by decide +kernel
theorem dX12_steps_74 : decode cX12_steps 74 = .ok (.iload 4, 2) := by decide +kernel
theorem dX12_steps_76 : decode cX12_steps 76 = .ok (.iload 5, 2) := by decide +kernel
theorem dX12_steps_78 : decode cX12_steps 78 = .ok (.invokestatic 224, 3) := by decide +kernel
theorem dX12_steps_81 : decode cX12_steps 81 = .ok (.istore 6, 2) := by decide +kernel
theorem dX12_steps_83 : decode cX12_steps 83 = .ok (.iload 6, 2) := by decide +kernel
theorem dX12_steps_85 : decode cX12_steps 85 = .ok (.iconst (-1), 1) := by decide +kernel
theorem dX12_steps_86 : decode cX12_steps 86 = .ok (.if_icmp .eq 34, 3) := by decide +kernel
theorem dX12_steps_89 : decode cX12_steps 89 = .ok (.aload_n 0, 1) := by decide +kernel
theorem dX12_steps_90 : decode cX12_steps 90 = .ok (.getfield 88, 3) := by decide +kernel
theorem dX12_steps_93 : decode cX12_steps 93 = .ok (.iload 6, 2) := by decide +kernel
theorem dX12_steps_95 : decode cX12_steps 95 = .ok (.iaload, 1) := by decide +kernel
theorem dX12_steps_96 : decode cX12_steps 96 = .ok (.bipush (-5), 2) := by decide +kernel
theorem dX12_steps_98 : decode cX12_steps 98 = .ok (.if_icmp .ne 22, 3) := by decide +kernel
theorem dX12_steps_101 : decode cX12_steps 101 = .ok (.aload_n 0, 1) := by decide +kernel
theorem dX12_steps_102 : decode cX12_steps 102 = .ok (.iload 6, 2) := by decide +kernel
theorem dX12_steps_104 : decode cX12_steps 104 = .ok (.invokevirtual 227, 3) := by decide +kernel
theorem dX12_steps_107 : decode cX12_steps 107 = .ok (.ifCond .ne 13, 3) := by decide +kernel
theorem dX12_steps_110 : decode cX12_steps 110 = .ok (.aload_n 0, 1) := by decide +kernel
theorem dX12_steps_111 : decode cX12_steps 111 = .ok (.getfield 88, 3) := by decide +kernel
theorem dX12_steps_114 : decode cX12_steps 114 = .ok (.iload 6, 2) := by decide +kernel
theorem dX12_steps_116 : decode cX12_steps 116 = .ok (.iload_n 3, 1) := by decide +kernel
theorem dX12_steps_117 : decode cX12_steps 117 = .ok (.iconst 1, 1) := by decide +kernel
theorem dX12_steps_118 : decode cX12_steps 118 = .ok (.iadd, 1) := by decide +kernel
theorem dX12_steps_119 : decode cX12_steps 119 = .ok (.iastore, 1) := by decide +kernel
theorem dX12_steps_120 : decode cX12_steps 120 = .ok (.iinc 5 1, 3) := by decide +kernel
theorem dX12_steps_123 : decode cX12_steps 123 = .ok (.goto (-66), 3) := by decide +kernel
theorem dX12_steps_126 : decode cX12_steps 126 = .ok (.iinc 4 1, 3) := by decide +kernel
theorem dX12_steps_129 : decode cX12_steps 129 = .ok (.goto (-82), 3) := by decide +kernel
theorem dX12_steps_132 : decode cX12_steps 132 = .ok (.iinc 3 1, 3) := by decide +kernel
theorem dX12_steps_135 : decode cX12_steps 135 = .ok (.goto (-97), 3) := by decide +kernel
theorem dX12_steps_138 : decode cX12_steps 138 = .ok (.aload_n 0, 1) := by decide +kernel
theorem dX12_steps_139 : decode cX12_steps 139 = .ok (.getfield 88, 3) := by decide +kernel
theorem dX12_steps_142 : decode cX12_steps 142 = .ok (.iload_n 2, 1) := by decide +kernel
theorem dX12_steps_143 : decode cX12_steps 143 = .ok (.iaload, 1) := by decide +kernel
theorem dX12_steps_144 : decode cX12_steps 144 = .ok (.ireturn, 1) := by decide +kernel
theorem dX12_block_0 : decode cX12_block 0 = .ok (.aload_n 0, 1) := by decide +kernel
theorem dX12_block_1 : decode cX12_block 1 = .ok (.aload_n 0, 1) := by decide +kernel
theorem dX12_block_2 : decode cX12_block 2 = .ok (.getfield 85, 3) := by decide +kernel
theorem dX12_block_5 : decode cX12_block 5 = .ok (.invokevirtual 253, 3) := by decide +kernel
theorem dX12_block_8 : decode cX12_block 8 = .ok (.iconst 0, 1) := by decide +kernel
theorem dX12_block_9 : decode cX12_block 9 = .ok (.istore_n 3, 1) := by decide +kernel
theorem dX12_block_10 : decode cX12_block 10 = .ok (.iload_n 3, 1) := by decide +kernel
theorem dX12_block_11 : decode cX12_block 11 = .ok (.aload_n 0, 1) := by decide +kernel
theorem dX12_block_12 : decode cX12_block 12 = .ok (.getfield 105, 3) := by decide +kernel
theorem dX12_block_15 : decode cX12_block 15 = .ok (.if_icmp .ge 21, 3) := by decide +kernel
theorem dX12_block_18 : decode cX12_block 18 = .ok (.iload_n 3, 1) := by decide +kernel
theorem dX12_block_19 : decode cX12_block 19 = .ok (.iload_n 1, 1) := by decide +kernel
theorem dX12_block_20 : decode cX12_block 20 = .ok (.if_icmp .eq 10, 3) := by decide +kernel
theorem dX12_block_23 : decode cX12_block 23 = .ok (.aload_n 0, 1) := by decide +kernel
theorem dX12_block_24 : decode cX12_block 24 = .ok (.getfield 24, 3) := by decide +kernel
theorem dX12_block_27 : decode cX12_block 27 = .ok (.iload_n 3, 1) := by decide +kernel
theorem dX12_block_28 : decode cX12_block 28 = .ok (.iconst 1, 1) := by decide +kernel
theorem dX12_block_29 : decode cX12_block 29 = .ok (.iastore, 1) := by decide +kernel
theorem dX12_block_30 : decode cX12_block 30 = .ok (.iinc 3 1, 3) := by decide +kernel
theorem dX12_block_33 : decode cX12_block 33 = .ok (.goto (-23), 3) := by decide +kernel
theorem dX12_block_36 : decode cX12_block 36 = .ok (.aload_n 0, 1) := by decide +kernel
theorem dX12_block_37 : decode cX12_block 37 = .ok (.iload_n 1, 1) := by decide +kernel
theorem dX12_block_38 : decode cX12_block 38 = .ok (.iload_n 2, 1) := by decide +kernel
theorem dX12_block_39 : decode cX12_block 39 = .ok (.invokevirtual 260, 3) := by decide +kernel
theorem dX12_block_42 : decode cX12_block 42 = .ok (.istore_n 3, 1) := by decide +kernel
theorem dX12_block_43 : decode cX12_block 43 = .ok (.iload_n 3, 1) := by decide +kernel
theorem dX12_block_44 : decode cX12_block 44 = .ok (.bipush (-5), 2) := by decide +kernel
theorem dX12_block_46 : decode cX12_block 46 = .ok (.if_icmp .ne 8, 3) := by decide +kernel
theorem dX12_block_49 : decode cX12_block 49 = .ok (.bipush 99, 2) := by decide +kernel
theorem dX12_block_51 : decode cX12_block 51 = .ok (.goto 4, 3) := by decide +kernel
theorem dX12_block_54 : decode cX12_block 54 = .ok (.iload_n 3, 1) := by decide +kernel
theorem dX12_block_55 : decode cX12_block 55 = .ok (.istore 4, 2) := by decide +kernel
theorem dX12_block_57 : decode cX12_block 57 = .ok (.bipush (-5), 2) := by decide +kernel
theorem dX12_block_59 : decode cX12_block 59 = .ok (.istore 5, 2) := by decide +kernel
theorem dX12_block_61 : decode cX12_block 61 = .ok (.iconst 0, 1) := by decide +kernel
theorem dX12_block_62 : decode cX12_block 62 = .ok (.istore 6, 2) := by decide +kernel
theorem dX12_block_64 : decode cX12_block 64 = .ok (.iload 6, 2) := by decide +kernel
theorem dX12_block_66 : decode cX12_block 66 = .ok (.bipush 25, 2) := by decide +kernel
theorem dX12_block_68 : decode cX12_block 68 = .ok (.if_icmp .ge 93, 3) := by decide +kernel
theorem dX12_block_71 : decode cX12_block 71 = .ok (.iload 6, 2) := by decide +kernel
theorem dX12_block_73 : decode cX12_block 73 = .ok (.iload_n 2, 1) := by decide +kernel
theorem dX12_block_74 : decode cX12_block 74 = .ok (.if_icmp .eq 81, 3) := by decide +kernel
theorem dX12_block_77 : decode cX12_block 77 = .ok (.iload 6, 2) := by decide +kernel
theorem dX12_block_79 : decode cX12_block 79 = .ok (.aload_n 0, 1) := by decide +kernel
theorem dX12_block_80 : decode cX12_block 80 = .ok (.getfield 21, 3) := by decide +kernel
theorem dX12_block_83 : decode cX12_block 83 = .ok (.iload_n 1, 1) := by decide +kernel
theorem dX12_block_84 : decode cX12_block 84 = .ok (.iaload, 1) := by decide +kernel
theorem dX12_block_85 : decode cX12_block 85 = .ok (.if_icmp .ne 6, 3) := by decide +kernel
theorem dX12_block_88 : decode cX12_block 88 = .ok (.goto 67, 3) := by decide +kernel
theorem dX12_block_91 : decode cX12_block 91 = .ok (.aload_n 0, 1) := by decide +kernel
theorem dX12_block_92 : decode cX12_block 92 = .ok (.getfield 9, 3) := by decide +kernel
theorem dX12_block_95 : decode cX12_block 95 = .ok (.iload 6, 2) := by decide +kernel
theorem dX12_block_97 : decode cX12_block 97 = .ok (.iaload, 1) := by decide +kernel
theorem dX12_block_98 : decode cX12_block 98 = .ok (.istore 7, 2) := by decide +kernel
theorem dX12_block_100 : decode cX12_block 100 = .ok (.aload_n 0, 1) := by decide +kernel
theorem dX12_block_101 : decode cX12_block 101 = .ok (.getfield 9, 3) := by decide +kernel
theorem dX12_block_104 : decode cX12_block 104 = .ok (.iload 6, 2) := by decide +kernel
theorem dX12_block_106 : decode cX12_block 106 = .ok (.bipush 99, 2) := by decide +kernel
theorem dX12_block_108 : decode cX12_block 108 = .ok (.iastore, 1) := by decide +kernel
theorem dX12_block_109 : decode cX12_block 109 = .ok (.aload_n 0, 1) := by decide +kernel
theorem dX12_block_110 : decode cX12_block 110 = .ok (.iload_n 1, 1) := by decide +kernel
theorem dX12_block_111 : decode cX12_block 111 = .ok (.iload_n 2, 1) := by decide +kernel
theorem dX12_block_112 : decode cX12_block 112 = .ok (.invokevirtual 260, 3) := by decide +kernel
theorem dX12_block_115 : decode cX12_block 115 = .ok (.istore 8, 2) := by decide +kernel
theorem dX12_block_117 : decode cX12_block 117 = .ok (.aload_n 0, 1) := by decide +kernel
theorem dX12_block_118 : decode cX12_block 118 = .ok (.getfield 9, 3) := by decide +kernel
theorem dX12_block_121 : decode cX12_block 121 = .ok (.iload 6, 2) := by decide +kernel
theorem dX12_block_123 : decode cX12_block 123 = .ok (.iload 7, 2) := by decide +kernel
theorem dX12_block_125 : decode cX12_block 125 = .ok (.iastore, 1) := by decide +kernel
theorem dX12_block_126 : decode cX12_block 126 = .ok (.iload 8, 2) := by decide +kernel
theorem dX12_block_128 : decode cX12_block 128 = .ok (.bipush (-5), 2) := by decide +kernel
theorem dX12_block_130 : decode cX12_block 130 = .ok (.if_icmp .ne 7, 3) := by decide +kernel
theorem dX12_block_133 : decode cX12_block 133 = .ok (.bipush 99, 2) := by decide +kernel
theorem dX12_block_135 : decode cX12_block 135 = .ok (.istore 8, 2) := by decide +kernel
theorem dX12_block_137 : decode cX12_block 137 = .ok (.iload 8, 2) := by decide +kernel
theorem dX12_block_139 : decode cX12_block 139 = .ok (.iload 4, 2) := by decide +kernel
theorem dX12_block_141 : decode cX12_block 141 = .ok (.if_icmp .gt 6, 3) := by decide +kernel
theorem dX12_block_144 : decode cX12_block 144 = .ok (.goto 11, 3) := by decide +kernel
theorem dX12_block_147 : decode cX12_block 147 = .ok (.iload 8, 2) := by decide +kernel
theorem dX12_block_149 : decode cX12_block 149 = .ok (.istore 4, 2) := by decide +kernel
theorem dX12_block_151 : decode cX12_block 151 = .ok (.iload 6, 2) := by decide +kernel
theorem dX12_block_153 : decode cX12_block 153 = .ok (.istore 5, 2) := by decide +kernel
theorem dX12_block_155 : decode cX12_block 155 = .ok (.iinc 6 1, 3) := by decide +kernel
theorem dX12_block_158 : decode cX12_block 158 = .ok (.goto (-94), 3) := by decide +kernel
theorem dX12_block_161 : decode cX12_block 161 = .ok (.aload_n 0, 1) := by decide +kernel
theorem dX12_block_162 : decode cX12_block 162 = .ok (.aload_n 0, 1) := by decide +kernel
theorem dX12_block_163 : decode cX12_block 163 = .ok (.getfield 85, 3) := by decide +kernel
theorem dX12_block_166 : decode cX12_block 166 = .ok (.invokevirtual 257, 3) := by decide +kernel
theorem dX12_block_169 : decode cX12_block 169 = .ok (.iload 5, 2) := by decide +kernel
theorem dX12_block_171 : decode cX12_block 171 = .ok (.ireturn, 1) := by decide +kernel
theorem dX12_way_0 : decode cX12_way 0 = .ok (.aload_n 0, 1) := by decide +kernel
theorem dX12_way_1 : decode cX12_way 1 = .ok (.iload_n 1, 1) := by decide +kernel
theorem dX12_way_2 : decode cX12_way 2 = .ok (.invokevirtual 116, 3) := by decide +kernel
theorem dX12_way_5 : decode cX12_way 5 = .ok (.ifCond .eq 10, 3) := by decide +kernel
theorem dX12_way_8 : decode cX12_way 8 = .ok (.iload_n 2, 1) := by decide +kernel
theorem dX12_way_9 : decode cX12_way 9 = .ok (.invokestatic 112, 3) := by decide +kernel
theorem dX12_way_12 : decode cX12_way 12 = .ok (.ifCond .ne 5, 3) := by decide +kernel
theorem dX12_way_15 : decode cX12_way 15 = .ok (.iconst (-1), 1) := by decide +kernel
theorem dX12_way_16 : decode cX12_way 16 = .ok (.ireturn, 1) := by decide +kernel
theorem dX12_way_17 : decode cX12_way 17 = .ok (.iload_n 3, 1) := by decide +kernel
theorem dX12_way_18 : decode cX12_way 18 = .ok (.tableswitch 47 0 2 #[26, 33, 40], 26) := by decide +kernel
theorem dX12_way_44 : decode cX12_way 44 = .ok (.aload_n 0, 1) := by decide +kernel
theorem dX12_way_45 : decode cX12_way 45 = .ok (.iload_n 1, 1) := by decide +kernel
theorem dX12_way_46 : decode cX12_way 46 = .ok (.iload_n 2, 1) := by decide +kernel
theorem dX12_way_47 : decode cX12_way 47 = .ok (.invokevirtual 260, 3) := by decide +kernel
theorem dX12_way_50 : decode cX12_way 50 = .ok (.ireturn, 1) := by decide +kernel
theorem dX12_way_51 : decode cX12_way 51 = .ok (.aload_n 0, 1) := by decide +kernel
theorem dX12_way_52 : decode cX12_way 52 = .ok (.iload_n 1, 1) := by decide +kernel
theorem dX12_way_53 : decode cX12_way 53 = .ok (.iload_n 2, 1) := by decide +kernel
theorem dX12_way_54 : decode cX12_way 54 = .ok (.invokevirtual 263, 3) := by decide +kernel
theorem dX12_way_57 : decode cX12_way 57 = .ok (.ireturn, 1) := by decide +kernel
theorem dX12_way_58 : decode cX12_way 58 = .ok (.aload_n 0, 1) := by decide +kernel
theorem dX12_way_59 : decode cX12_way 59 = .ok (.iload_n 1, 1) := by decide +kernel
theorem dX12_way_60 : decode cX12_way 60 = .ok (.iload_n 2, 1) := by decide +kernel
theorem dX12_way_61 : decode cX12_way 61 = .ok (.invokevirtual 266, 3) := by decide +kernel
theorem dX12_way_64 : decode cX12_way 64 = .ok (.ireturn, 1) := by decide +kernel
theorem dX12_way_65 : decode cX12_way 65 = .ok (.iconst (-1), 1) := by decide +kernel
theorem dX12_way_66 : decode cX12_way 66 = .ok (.ireturn, 1) := by decide +kernel
theorem dX12_areNext_0 : decode cX12_areNext 0 = .ok (.iconst 0, 1) := by decide +kernel
theorem dX12_areNext_1 : decode cX12_areNext 1 = .ok (.istore_n 2, 1) := by decide +kernel
theorem dX12_areNext_2 : decode cX12_areNext 2 = .ok (.iload_n 2, 1) := by decide +kernel
theorem dX12_areNext_3 : decode cX12_areNext 3 = .ok (.iconst 4, 1) := by decide +kernel
theorem dX12_areNext_4 : decode cX12_areNext 4 = .ok (.if_icmp .ge 20, 3) := by decide +kernel
theorem dX12_areNext_7 : decode cX12_areNext 7 = .ok (.iload_n 0, 1) := by decide +kernel
theorem dX12_areNext_8 : decode cX12_areNext 8 = .ok (.iload_n 2, 1) := by decide +kernel
theorem dX12_areNext_9 : decode cX12_areNext 9 = .ok (.invokestatic 224, 3) := by decide +kernel
theorem dX12_areNext_12 : decode cX12_areNext 12 = .ok (.iload_n 1, 1) := by decide +kernel
theorem dX12_areNext_13 : decode cX12_areNext 13 = .ok (.if_icmp .ne 5, 3) := by decide +kernel
theorem dX12_areNext_16 : decode cX12_areNext 16 = .ok (.iconst 1, 1) := by decide +kernel
theorem dX12_areNext_17 : decode cX12_areNext 17 = .ok (.ireturn, 1) := by decide +kernel
theorem dX12_areNext_18 : decode cX12_areNext 18 = .ok (.iinc 2 1, 3) := by decide +kernel
theorem dX12_areNext_21 : decode cX12_areNext 21 = .ok (.goto (-19), 3) := by decide +kernel
theorem dX12_areNext_24 : decode cX12_areNext 24 = .ok (.iconst 0, 1) := by decide +kernel
theorem dX12_areNext_25 : decode cX12_areNext 25 = .ok (.ireturn, 1) := by decide +kernel
theorem dX12_night_0 : decode cX12_night 0 = .ok (.aload_n 0, 1) := by decide +kernel
theorem dX12_night_1 : decode cX12_night 1 = .ok (.iload_n 1, 1) := by decide +kernel
theorem dX12_night_2 : decode cX12_night 2 = .ok (.invokevirtual 116, 3) := by decide +kernel
theorem dX12_night_5 : decode cX12_night 5 = .ok (.ifCond .eq 10, 3) := by decide +kernel
theorem dX12_night_8 : decode cX12_night 8 = .ok (.iload_n 2, 1) := by decide +kernel
theorem dX12_night_9 : decode cX12_night 9 = .ok (.invokestatic 112, 3) := by decide +kernel
theorem dX12_night_12 : decode cX12_night 12 = .ok (.ifCond .ne 5, 3) := by decide +kernel
theorem dX12_night_15 : decode cX12_night 15 = .ok (.iconst (-1), 1) := by decide +kernel
theorem dX12_night_16 : decode cX12_night 16 = .ok (.ireturn, 1) := by decide +kernel
theorem dX12_night_17 : decode cX12_night 17 = .ok (.aload_n 0, 1) := by decide +kernel
theorem dX12_night_18 : decode cX12_night 18 = .ok (.getfield 21, 3) := by decide +kernel
theorem dX12_night_21 : decode cX12_night 21 = .ok (.iload_n 1, 1) := by decide +kernel
theorem dX12_night_22 : decode cX12_night 22 = .ok (.iaload, 1) := by decide +kernel
theorem dX12_night_23 : decode cX12_night 23 = .ok (.iload_n 2, 1) := by decide +kernel
theorem dX12_night_24 : decode cX12_night 24 = .ok (.invokestatic 269, 3) := by decide +kernel
theorem dX12_night_27 : decode cX12_night 27 = .ok (.ifCond .ne 6, 3) := by decide +kernel
theorem dX12_night_30 : decode cX12_night 30 = .ok (.bipush (-2), 2) := by decide +kernel
theorem dX12_night_32 : decode cX12_night 32 = .ok (.ireturn, 1) := by decide +kernel
theorem dX12_night_33 : decode cX12_night 33 = .ok (.aload_n 0, 1) := by decide +kernel
theorem dX12_night_34 : decode cX12_night 34 = .ok (.getfield 9, 3) := by decide +kernel
theorem dX12_night_37 : decode cX12_night 37 = .ok (.iload_n 2, 1) := by decide +kernel
theorem dX12_night_38 : decode cX12_night 38 = .ok (.iaload, 1) := by decide +kernel
theorem dX12_night_39 : decode cX12_night 39 = .ok (.istore_n 3, 1) := by decide +kernel
theorem dX12_night_40 : decode cX12_night 40 = .ok (.bipush (-5), 2) := by decide +kernel
theorem dX12_night_42 : decode cX12_night 42 = .ok (.istore 4, 2) := by decide +kernel
theorem dX12_night_44 : decode cX12_night 44 = .ok (.bipush 99, 2) := by decide +kernel
theorem dX12_night_46 : decode cX12_night 46 = .ok (.istore 5, 2) := by decide +kernel
theorem dX12_night_48 : decode cX12_night 48 = .ok (.iload 5, 2) := by decide +kernel
theorem dX12_night_50 : decode cX12_night 50 = .ok (.ifCond .lt 35, 3) := by decide +kernel
theorem dX12_night_53 : decode cX12_night 53 = .ok (.aload_n 0, 1) := by decide +kernel
theorem dX12_night_54 : decode cX12_night 54 = .ok (.getfield 9, 3) := by decide +kernel
theorem dX12_night_57 : decode cX12_night 57 = .ok (.iload_n 2, 1) := by decide +kernel
theorem dX12_night_58 : decode cX12_night 58 = .ok (.iload_n 3, 1) := by decide +kernel
theorem dX12_night_59 : decode cX12_night 59 = .ok (.iload 5, 2) := by decide +kernel
theorem dX12_night_61 : decode cX12_night 61 = .ok (.iadd, 1) := by decide +kernel
theorem dX12_night_62 : decode cX12_night 62 = .ok (.invokestatic 238, 3) := by decide +kernel
theorem dX12_night_65 : decode cX12_night 65 = .ok (.iastore, 1) := by decide +kernel
theorem dX12_night_66 : decode cX12_night 66 = .ok (.aload_n 0, 1) := by decide +kernel
theorem dX12_night_67 : decode cX12_night 67 = .ok (.iload_n 1, 1) := by decide +kernel
theorem dX12_night_68 : decode cX12_night 68 = .ok (.invokevirtual 119, 3) := by decide +kernel
theorem dX12_night_71 : decode cX12_night 71 = .ok (.iload_n 2, 1) := by decide +kernel
theorem dX12_night_72 : decode cX12_night 72 = .ok (.if_icmp .ne 7, 3) := by decide +kernel
theorem dX12_night_75 : decode cX12_night 75 = .ok (.iload 5, 2) := by decide +kernel
theorem dX12_night_77 : decode cX12_night 77 = .ok (.istore 4, 2) := by decide +kernel
theorem dX12_night_79 : decode cX12_night 79 = .ok (.iinc 5 (-1), 3) := by decide +kernel
theorem dX12_night_82 : decode cX12_night 82 = .ok (.goto (-34), 3) := by decide +kernel
theorem dX12_night_85 : decode cX12_night 85 = .ok (.aload_n 0, 1) := by decide +kernel
theorem dX12_night_86 : decode cX12_night 86 = .ok (.getfield 9, 3) := by decide +kernel
theorem dX12_night_89 : decode cX12_night 89 = .ok (.iload_n 2, 1) := by decide +kernel
theorem dX12_night_90 : decode cX12_night 90 = .ok (.iload_n 3, 1) := by decide +kernel
theorem dX12_night_91 : decode cX12_night 91 = .ok (.iastore, 1) := by decide +kernel
theorem dX12_night_92 : decode cX12_night 92 = .ok (.iload 4, 2) := by decide +kernel
theorem dX12_night_94 : decode cX12_night 94 = .ok (.ireturn, 1) := by decide +kernel
theorem dX12_see_0 : decode cX12_see 0 = .ok (.iload_n 1, 1) := by decide +kernel
theorem dX12_see_1 : decode cX12_see 1 = .ok (.iconst (-1), 1) := by decide +kernel
theorem dX12_see_2 : decode cX12_see 2 = .ok (.if_icmp .ne 10, 3) := by decide +kernel
theorem dX12_see_5 : decode cX12_see 5 = .ok (.aload_n 0, 1) := by decide +kernel
theorem dX12_see_6 : decode cX12_see 6 = .ok (.iconst 0, 1) := by decide +kernel
theorem dX12_see_7 : decode cX12_see 7 = .ok (.putfield 273, 3) := by decide +kernel
theorem dX12_see_10 : decode cX12_see 10 = .ok (.iconst 0, 1) := by decide +kernel
theorem dX12_see_11 : decode cX12_see 11 = .ok (.ireturn, 1) := by decide +kernel
theorem dX12_see_12 : decode cX12_see 12 = .ok (.aload_n 0, 1) := by decide +kernel
theorem dX12_see_13 : decode cX12_see 13 = .ok (.iload_n 1, 1) := by decide +kernel
theorem dX12_see_14 : decode cX12_see 14 = .ok (.invokevirtual 116, 3) := by decide +kernel
theorem dX12_see_17 : decode cX12_see 17 = .ok (.ifCond .eq 10, 3) := by decide +kernel
theorem dX12_see_20 : decode cX12_see 20 = .ok (.iload_n 3, 1) := by decide +kernel
theorem dX12_see_21 : decode cX12_see 21 = .ok (.invokestatic 112, 3) := by decide +kernel
theorem dX12_see_24 : decode cX12_see 24 = .ok (.ifCond .ne 5, 3) := by decide +kernel
theorem dX12_see_27 : decode cX12_see 27 = .ok (.iconst (-1), 1) := by decide +kernel
theorem dX12_see_28 : decode cX12_see 28 = .ok (.ireturn, 1) := by decide +kernel
theorem dX12_see_29 : decode cX12_see 29 = .ok (.iload_n 2, 1) := by decide +kernel
theorem dX12_see_30 : decode cX12_see 30 = .ok (.iconst 0, 1) := by decide +kernel
theorem dX12_see_31 : decode cX12_see 31 = .ok (.bipush 8, 2) := by decide +kernel
theorem dX12_see_33 : decode cX12_see 33 = .ok (.invokestatic 108, 3) := by decide +kernel
theorem dX12_see_36 : decode cX12_see 36 = .ok (.ifCond .ne 6, 3) := by decide +kernel
theorem dX12_see_39 : decode cX12_see 39 = .ok (.bipush (-2), 2) := by decide +kernel
theorem dX12_see_41 : decode cX12_see 41 = .ok (.ireturn, 1) := by decide +kernel
theorem dX12_see_42 : decode cX12_see 42 = .ok (.aload_n 0, 1) := by decide +kernel
theorem dX12_see_43 : decode cX12_see 43 = .ok (.getfield 273, 3) := by decide +kernel
theorem dX12_see_46 : decode cX12_see 46 = .ok (.iconst 5, 1) := by decide +kernel
theorem dX12_see_47 : decode cX12_see 47 = .ok (.if_icmp .ne 6, 3) := by decide +kernel
theorem dX12_see_50 : decode cX12_see 50 = .ok (.bipush (-4), 2) := by decide +kernel
theorem dX12_see_52 : decode cX12_see 52 = .ok (.ireturn, 1) := by decide +kernel
theorem dX12_see_53 : decode cX12_see 53 = .ok (.aload_n 0, 1) := by decide +kernel
theorem dX12_see_54 : decode cX12_see 54 = .ok (.getfield 55, 3) := by decide +kernel
theorem dX12_see_57 : decode cX12_see 57 = .ok (.aload_n 0, 1) := by decide +kernel
theorem dX12_see_58 : decode cX12_see 58 = .ok (.getfield 273, 3) := by decide +kernel
theorem dX12_see_61 : decode cX12_see 61 = .ok (.iload_n 1, 1) := by decide +kernel
theorem dX12_see_62 : decode cX12_see 62 = .ok (.iastore, 1) := by decide +kernel
theorem dX12_see_63 : decode cX12_see 63 = .ok (.aload_n 0, 1) := by decide +kernel
theorem dX12_see_64 : decode cX12_see 64 = .ok (.getfield 58, 3) := by decide +kernel
theorem dX12_see_67 : decode cX12_see 67 = .ok (.aload_n 0, 1) := by decide +kernel
theorem dX12_see_68 : decode cX12_see 68 = .ok (.getfield 273, 3) := by decide +kernel
theorem dX12_see_71 : decode cX12_see 71 = .ok (.iload_n 2, 1) := by decide +kernel
theorem dX12_see_72 : decode cX12_see 72 = .ok (.iastore, 1) := by decide +kernel
theorem dX12_see_73 : decode cX12_see 73 = .ok (.aload_n 0, 1) := by decide +kernel
theorem dX12_see_74 : decode cX12_see 74 = .ok (.getfield 61, 3) := by decide +kernel
theorem dX12_see_77 : decode cX12_see 77 = .ok (.aload_n 0, 1) := by decide +kernel
theorem dX12_see_78 : decode cX12_see 78 = .ok (.dup, 1) := by decide +kernel
theorem dX12_see_79 : decode cX12_see 79 = .ok (.getfield 273, 3) := by decide +kernel
theorem dX12_see_82 : decode cX12_see 82 = .ok (.dup_x1, 1) := by decide +kernel
theorem dX12_see_83 : decode cX12_see 83 = .ok (.iconst 1, 1) := by decide +kernel
theorem dX12_see_84 : decode cX12_see 84 = .ok (.iadd, 1) := by decide +kernel
theorem dX12_see_85 : decode cX12_see 85 = .ok (.putfield 273, 3) := by decide +kernel
theorem dX12_see_88 : decode cX12_see 88 = .ok (.iload_n 3, 1) := by decide +kernel
theorem dX12_see_89 : decode cX12_see 89 = .ok (.iastore, 1) := by decide +kernel
theorem dX12_see_90 : decode cX12_see 90 = .ok (.aload_n 0, 1) := by decide +kernel
theorem dX12_see_91 : decode cX12_see 91 = .ok (.getfield 273, 3) := by decide +kernel
theorem dX12_see_94 : decode cX12_see 94 = .ok (.ireturn, 1) := by decide +kernel
theorem dX12_isSeen_0 : decode cX12_isSeen 0 = .ok (.iconst 1, 1) := by decide +kernel
theorem dX12_isSeen_1 : decode cX12_isSeen 1 = .ok (.istore_n 1, 1) := by decide +kernel
theorem dX12_isSeen_2 : decode cX12_isSeen 2 = .ok (.iconst 0, 1) := by decide +kernel
theorem dX12_isSeen_3 : decode cX12_isSeen 3 = .ok (.istore_n 2, 1) := by decide +kernel
theorem dX12_isSeen_4 : decode cX12_isSeen 4 = .ok (.iload_n 2, 1) := by decide +kernel
theorem dX12_isSeen_5 : decode cX12_isSeen 5 = .ok (.bipush 9, 2) := by decide +kernel
theorem dX12_isSeen_7 : decode cX12_isSeen 7 = .ok (.if_icmp .ge 65, 3) := by decide +kernel
theorem dX12_isSeen_10 : decode cX12_isSeen 10 = .ok (.iload_n 2, 1) := by decide +kernel
theorem dX12_isSeen_11 : decode cX12_isSeen 11 = .ok (.ifCond .le 7, 3) := by decide +kernel
theorem dX12_isSeen_14 : decode cX12_isSeen 14 = .ok (.aload_n 0, 1) := by decide +kernel
theorem dX12_isSeen_15 : decode cX12_isSeen 15 = .ok (.invokevirtual 250, 3) := by decide +kernel
theorem dX12_isSeen_18 : decode cX12_isSeen 18 = .ok (.iconst 0, 1) := by decide +kernel
theorem dX12_isSeen_19 : decode cX12_isSeen 19 = .ok (.istore_n 3, 1) := by decide +kernel
theorem dX12_isSeen_20 : decode cX12_isSeen 20 = .ok (.iload_n 3, 1) := by decide +kernel
theorem dX12_isSeen_21 : decode cX12_isSeen 21 = .ok (.aload_n 0, 1) := by decide +kernel
theorem dX12_isSeen_22 : decode cX12_isSeen 22 = .ok (.getfield 273, 3) := by decide +kernel
theorem dX12_isSeen_25 : decode cX12_isSeen 25 = .ok (.if_icmp .ge 41, 3) := by decide +kernel
theorem dX12_isSeen_28 : decode cX12_isSeen 28 = .ok (.aload_n 0, 1) := by decide +kernel
theorem dX12_isSeen_29 : decode cX12_isSeen 29 = .ok (.getfield 58, 3) := by decide +kernel
theorem dX12_isSeen_32 : decode cX12_isSeen 32 = .ok (.iload_n 3, 1) := by decide +kernel
theorem dX12_isSeen_33 : decode cX12_isSeen 33 = .ok (.iaload, 1) := by decide +kernel
theorem dX12_isSeen_34 : decode cX12_isSeen 34 = .ok (.iload_n 2, 1) := by decide +kernel
theorem dX12_isSeen_35 : decode cX12_isSeen 35 = .ok (.if_icmp .ne 25, 3) := by decide +kernel
theorem dX12_isSeen_38 : decode cX12_isSeen 38 = .ok (.aload_n 0, 1) := by decide +kernel
theorem dX12_isSeen_39 : decode cX12_isSeen 39 = .ok (.getfield 21, 3) := by decide +kernel
theorem dX12_isSeen_42 : decode cX12_isSeen 42 = .ok (.aload_n 0, 1) := by decide +kernel
theorem dX12_isSeen_43 : decode cX12_isSeen 43 = .ok (.getfield 55, 3) := by decide +kernel
theorem dX12_isSeen_46 : decode cX12_isSeen 46 = .ok (.iload_n 3, 1) := by decide +kernel
theorem dX12_isSeen_47 : decode cX12_isSeen 47 = .ok (.iaload, 1) := by decide +kernel
theorem dX12_isSeen_48 : decode cX12_isSeen 48 = .ok (.iaload, 1) := by decide +kernel
theorem dX12_isSeen_49 : decode cX12_isSeen 49 = .ok (.aload_n 0, 1) := by decide +kernel
theorem dX12_isSeen_50 : decode cX12_isSeen 50 = .ok (.getfield 61, 3) := by decide +kernel
theorem dX12_isSeen_53 : decode cX12_isSeen 53 = .ok (.iload_n 3, 1) := by decide +kernel
theorem dX12_isSeen_54 : decode cX12_isSeen 54 = .ok (.iaload, 1) := by decide +kernel
theorem dX12_isSeen_55 : decode cX12_isSeen 55 = .ok (.if_icmp .eq 5, 3) := by decide +kernel
theorem dX12_isSeen_58 : decode cX12_isSeen 58 = .ok (.iconst 0, 1) := by decide +kernel
theorem dX12_isSeen_59 : decode cX12_isSeen 59 = .ok (.istore_n 1, 1) := by decide +kernel
theorem dX12_isSeen_60 : decode cX12_isSeen 60 = .ok (.iinc 3 1, 3) := by decide +kernel
theorem dX12_isSeen_63 : decode cX12_isSeen 63 = .ok (.goto (-43), 3) := by decide +kernel
theorem dX12_isSeen_66 : decode cX12_isSeen 66 = .ok (.iinc 2 1, 3) := by decide +kernel
theorem dX12_isSeen_69 : decode cX12_isSeen 69 = .ok (.goto (-65), 3) := by decide +kernel
theorem dX12_isSeen_72 : decode cX12_isSeen 72 = .ok (.iload_n 1, 1) := by decide +kernel
theorem dX12_isSeen_73 : decode cX12_isSeen 73 = .ok (.ireturn, 1) := by decide +kernel
theorem dX12_from_0 : decode cX12_from 0 = .ok (.aload_n 0, 1) := by decide +kernel
theorem dX12_from_1 : decode cX12_from 1 = .ok (.iload_n 1, 1) := by decide +kernel
theorem dX12_from_2 : decode cX12_from 2 = .ok (.invokevirtual 116, 3) := by decide +kernel
theorem dX12_from_5 : decode cX12_from 5 = .ok (.ifCond .ne 5, 3) := by decide +kernel
theorem dX12_from_8 : decode cX12_from 8 = .ok (.iconst (-1), 1) := by decide +kernel
theorem dX12_from_9 : decode cX12_from 9 = .ok (.ireturn, 1) := by decide +kernel
theorem dX12_from_10 : decode cX12_from 10 = .ok (.aload_n 0, 1) := by decide +kernel
theorem dX12_from_11 : decode cX12_from 11 = .ok (.aload_n 0, 1) := by decide +kernel
theorem dX12_from_12 : decode cX12_from 12 = .ok (.getfield 82, 3) := by decide +kernel
theorem dX12_from_15 : decode cX12_from 15 = .ok (.invokevirtual 253, 3) := by decide +kernel
theorem dX12_from_18 : decode cX12_from 18 = .ok (.iconst 0, 1) := by decide +kernel
theorem dX12_from_19 : decode cX12_from 19 = .ok (.istore_n 2, 1) := by decide +kernel
theorem dX12_from_20 : decode cX12_from 20 = .ok (.iconst 0, 1) := by decide +kernel
theorem dX12_from_21 : decode cX12_from 21 = .ok (.istore_n 3, 1) := by decide +kernel
theorem dX12_from_22 : decode cX12_from 22 = .ok (.iload_n 3, 1) := by decide +kernel
theorem dX12_from_23 : decode cX12_from 23 = .ok (.bipush 25, 2) := by decide +kernel
theorem dX12_from_25 : decode cX12_from 25 = .ok (.if_icmp .ge 37, 3) := by decide +kernel
theorem dX12_from_28 : decode cX12_from 28 = .ok (.aload_n 0, 1) := by decide +kernel
theorem dX12_from_29 : decode cX12_from 29 = .ok (.getfield 21, 3) := by decide +kernel
theorem dX12_from_32 : decode cX12_from 32 = .ok (.iload_n 1, 1) := by decide +kernel
theorem dX12_from_33 : decode cX12_from 33 = .ok (.iload_n 3, 1) := by decide +kernel
theorem dX12_from_34 : decode cX12_from 34 = .ok (.iastore, 1) := by decide +kernel
theorem dX12_from_35 : decode cX12_from 35 = .ok (.aload_n 0, 1) := by decide +kernel
theorem dX12_from_36 : decode cX12_from 36 = .ok (.invokevirtual 276, 3) := by decide +kernel
theorem dX12_from_39 : decode cX12_from 39 = .ok (.ifCond .eq 9, 3) := by decide +kernel
theorem dX12_from_42 : decode cX12_from 42 = .ok (.iload_n 2, 1) := by decide +kernel
theorem dX12_from_43 : decode cX12_from 43 = .ok (.iconst 1, 1) := by decide +kernel
theorem dX12_from_44 : decode cX12_from 44 = .ok (.iload_n 3, 1) := by decide +kernel
theorem dX12_from_45 : decode cX12_from 45 = .ok (.ishl, 1) := by decide +kernel
theorem dX12_from_46 : decode cX12_from 46 = .ok (.ior, 1) := by decide +kernel
theorem dX12_from_47 : decode cX12_from 47 = .ok (.istore_n 2, 1) := by decide +kernel
theorem dX12_from_48 : decode cX12_from 48 = .ok (.aload_n 0, 1) := by decide +kernel
theorem dX12_from_49 : decode cX12_from 49 = .ok (.aload_n 0, 1) := by decide +kernel
theorem dX12_from_50 : decode cX12_from 50 = .ok (.getfield 82, 3) := by decide +kernel
theorem dX12_from_53 : decode cX12_from 53 = .ok (.invokevirtual 257, 3) := by decide +kernel
theorem dX12_from_56 : decode cX12_from 56 = .ok (.iinc 3 1, 3) := by decide +kernel
theorem dX12_from_59 : decode cX12_from 59 = .ok (.goto (-37), 3) := by decide +kernel
theorem dX12_from_62 : decode cX12_from 62 = .ok (.iload_n 2, 1) := by decide +kernel
theorem dX12_from_63 : decode cX12_from 63 = .ok (.ireturn, 1) := by decide +kernel
theorem dX12_can_0 : decode cX12_can 0 = .ok (.aload_n 0, 1) := by decide +kernel
theorem dX12_can_1 : decode cX12_can 1 = .ok (.iload_n 1, 1) := by decide +kernel
theorem dX12_can_2 : decode cX12_can 2 = .ok (.invokevirtual 116, 3) := by decide +kernel
theorem dX12_can_5 : decode cX12_can 5 = .ok (.ifCond .eq 12, 3) := by decide +kernel
theorem dX12_can_8 : decode cX12_can 8 = .ok (.iload_n 2, 1) := by decide +kernel
theorem dX12_can_9 : decode cX12_can 9 = .ok (.iconst 0, 1) := by decide +kernel
theorem dX12_can_10 : decode cX12_can 10 = .ok (.iconst 1, 1) := by decide +kernel
theorem dX12_can_11 : decode cX12_can 11 = .ok (.invokestatic 108, 3) := by decide +kernel
theorem dX12_can_14 : decode cX12_can 14 = .ok (.ifCond .ne 5, 3) := by decide +kernel
theorem dX12_can_17 : decode cX12_can 17 = .ok (.iconst (-1), 1) := by decide +kernel
theorem dX12_can_18 : decode cX12_can 18 = .ok (.ireturn, 1) := by decide +kernel
theorem dX12_can_19 : decode cX12_can 19 = .ok (.aload_n 0, 1) := by decide +kernel
theorem dX12_can_20 : decode cX12_can 20 = .ok (.aload_n 0, 1) := by decide +kernel
theorem dX12_can_21 : decode cX12_can 21 = .ok (.getfield 82, 3) := by decide +kernel
theorem dX12_can_24 : decode cX12_can 24 = .ok (.invokevirtual 253, 3) := by decide +kernel
theorem dX12_can_27 : decode cX12_can 27 = .ok (.iconst 0, 1) := by decide +kernel
theorem dX12_can_28 : decode cX12_can 28 = .ok (.istore_n 3, 1) := by decide +kernel
theorem dX12_can_29 : decode cX12_can 29 = .ok (.bipush (-5), 2) := by decide +kernel
theorem dX12_can_31 : decode cX12_can 31 = .ok (.istore 4, 2) := by decide +kernel
theorem dX12_can_33 : decode cX12_can 33 = .ok (.bipush 9, 2) := by decide +kernel
theorem dX12_can_35 : decode cX12_can 35 = .ok (.istore 5, 2) := by decide +kernel
theorem dX12_can_37 : decode cX12_can 37 = .ok (.iload 5, 2) := by decide +kernel
theorem dX12_can_39 : decode cX12_can 39 = .ok (.ifCond .lt 39, 3) := by decide +kernel
theorem dX12_can_42 : decode cX12_can 42 = .ok (.aload_n 0, 1) := by decide +kernel
theorem dX12_can_43 : decode cX12_can 43 = .ok (.getfield 18, 3) := by decide +kernel
theorem dX12_can_46 : decode cX12_can 46 = .ok (.iload_n 1, 1) := by decide +kernel
theorem dX12_can_47 : decode cX12_can 47 = .ok (.iload 5, 2) := by decide +kernel
theorem dX12_can_49 : decode cX12_can 49 = .ok (.iastore, 1) := by decide +kernel
theorem dX12_can_50 : decode cX12_can 50 = .ok (.aload_n 0, 1) := by decide +kernel
theorem dX12_can_51 : decode cX12_can 51 = .ok (.invokevirtual 276, 3) := by decide +kernel
theorem dX12_can_54 : decode cX12_can 54 = .ok (.ifCond .eq 10, 3) := by decide +kernel
theorem dX12_can_57 : decode cX12_can 57 = .ok (.iinc 3 1, 3) := by decide +kernel
theorem dX12_can_60 : decode cX12_can 60 = .ok (.iload 5, 2) := by decide +kernel
theorem dX12_can_62 : decode cX12_can 62 = .ok (.istore 4, 2) := by decide +kernel
theorem dX12_can_64 : decode cX12_can 64 = .ok (.aload_n 0, 1) := by decide +kernel
theorem dX12_can_65 : decode cX12_can 65 = .ok (.aload_n 0, 1) := by decide +kernel
theorem dX12_can_66 : decode cX12_can 66 = .ok (.getfield 82, 3) := by decide +kernel
theorem dX12_can_69 : decode cX12_can 69 = .ok (.invokevirtual 257, 3) := by decide +kernel
theorem dX12_can_72 : decode cX12_can 72 = .ok (.iinc 5 (-1), 3) := by decide +kernel
theorem dX12_can_75 : decode cX12_can 75 = .ok (.goto (-38), 3) := by decide +kernel
theorem dX12_can_78 : decode cX12_can 78 = .ok (.iload_n 2, 1) := by decide +kernel
theorem dX12_can_79 : decode cX12_can 79 = .ok (.ifCond .ne 7, 3) := by decide +kernel
theorem dX12_can_82 : decode cX12_can 82 = .ok (.iload_n 3, 1) := by decide +kernel
theorem dX12_can_83 : decode cX12_can 83 = .ok (.goto 5, 3) := by decide +kernel
theorem dX12_can_86 : decode cX12_can 86 = .ok (.iload 4, 2) := by decide +kernel
theorem dX12_can_88 : decode cX12_can 88 = .ok (.ireturn, 1) := by decide +kernel
theorem dX12_part_0 : decode cX12_part 0 = .ok (.iload_n 0, 1) := by decide +kernel
theorem dX12_part_1 : decode cX12_part 1 = .ok (.istore_n 3, 1) := by decide +kernel
theorem dX12_part_2 : decode cX12_part 2 = .ok (.iload_n 1, 1) := by decide +kernel
theorem dX12_part_3 : decode cX12_part 3 = .ok (.istore 4, 2) := by decide +kernel
theorem dX12_part_5 : decode cX12_part 5 = .ok (.iload 4, 2) := by decide +kernel
theorem dX12_part_7 : decode cX12_part 7 = .ok (.ifCond .eq 19, 3) := by decide +kernel
theorem dX12_part_10 : decode cX12_part 10 = .ok (.iload_n 3, 1) := by decide +kernel
theorem dX12_part_11 : decode cX12_part 11 = .ok (.iload 4, 2) := by decide +kernel
theorem dX12_part_13 : decode cX12_part 13 = .ok (.irem, 1) := by decide +kernel
theorem dX12_part_14 : decode cX12_part 14 = .ok (.istore 5, 2) := by decide +kernel
theorem dX12_part_16 : decode cX12_part 16 = .ok (.iload 4, 2) := by decide +kernel
theorem dX12_part_18 : decode cX12_part 18 = .ok (.istore_n 3, 1) := by decide +kernel
theorem dX12_part_19 : decode cX12_part 19 = .ok (.iload 5, 2) := by decide +kernel
theorem dX12_part_21 : decode cX12_part 21 = .ok (.istore 4, 2) := by decide +kernel
theorem dX12_part_23 : decode cX12_part 23 = .ok (.goto (-18), 3) := by decide +kernel
theorem dX12_part_26 : decode cX12_part 26 = .ok (.iload_n 2, 1) := by decide +kernel
theorem dX12_part_27 : decode cX12_part 27 = .ok (.ifCond .ne 10, 3) := by decide +kernel
theorem dX12_part_30 : decode cX12_part 30 = .ok (.iload_n 0, 1) := by decide +kernel
theorem dX12_part_31 : decode cX12_part 31 = .ok (.iload_n 3, 1) := by decide +kernel
theorem dX12_part_32 : decode cX12_part 32 = .ok (.idiv, 1) := by decide +kernel
theorem dX12_part_33 : decode cX12_part 33 = .ok (.i2l, 1) := by decide +kernel
theorem dX12_part_34 : decode cX12_part 34 = .ok (.goto 7, 3) := by decide +kernel
theorem dX12_part_37 : decode cX12_part 37 = .ok (.iload_n 1, 1) := by decide +kernel
theorem dX12_part_38 : decode cX12_part 38 = .ok (.iload_n 3, 1) := by decide +kernel
theorem dX12_part_39 : decode cX12_part 39 = .ok (.idiv, 1) := by decide +kernel
theorem dX12_part_40 : decode cX12_part 40 = .ok (.i2l, 1) := by decide +kernel
theorem dX12_part_41 : decode cX12_part 41 = .ok (.lreturn, 1) := by decide +kernel
theorem dX12_odds_0 : decode cX12_odds 0 = .ok (.aload_n 0, 1) := by decide +kernel
theorem dX12_odds_1 : decode cX12_odds 1 = .ok (.iload_n 1, 1) := by decide +kernel
theorem dX12_odds_2 : decode cX12_odds 2 = .ok (.invokevirtual 116, 3) := by decide +kernel
theorem dX12_odds_5 : decode cX12_odds 5 = .ok (.ifCond .eq 19, 3) := by decide +kernel
theorem dX12_odds_8 : decode cX12_odds 8 = .ok (.iload_n 2, 1) := by decide +kernel
theorem dX12_odds_9 : decode cX12_odds 9 = .ok (.invokestatic 112, 3) := by decide +kernel
theorem dX12_odds_12 : decode cX12_odds 12 = .ok (.ifCond .eq 12, 3) := by decide +kernel
theorem dX12_odds_15 : decode cX12_odds 15 = .ok (.iload_n 3, 1) := by decide +kernel
theorem dX12_odds_16 : decode cX12_odds 16 = .ok (.iconst 0, 1) := by decide +kernel
theorem dX12_odds_17 : decode cX12_odds 17 = .ok (.iconst 1, 1) := by decide +kernel
theorem dX12_odds_18 : decode cX12_odds 18 = .ok (.invokestatic 108, 3) := by decide +kernel
theorem dX12_odds_21 : decode cX12_odds 21 = .ok (.ifCond .ne 7, 3) := by decide +kernel
theorem dX12_odds_24 : decode cX12_odds 24 = .ok (.ldc2_w 279, 3) := by decide +kernel
theorem dX12_odds_27 : decode cX12_odds 27 = .ok (.lreturn, 1) := by decide +kernel
theorem dX12_odds_28 : decode cX12_odds 28 = .ok (.iconst 0, 1) := by decide +kernel
theorem dX12_odds_29 : decode cX12_odds 29 = .ok (.istore 4, 2) := by decide +kernel
theorem dX12_odds_31 : decode cX12_odds 31 = .ok (.iconst 0, 1) := by decide +kernel
theorem dX12_odds_32 : decode cX12_odds 32 = .ok (.istore 5, 2) := by decide +kernel
theorem dX12_odds_34 : decode cX12_odds 34 = .ok (.iload 5, 2) := by decide +kernel
theorem dX12_odds_36 : decode cX12_odds 36 = .ok (.bipush 25, 2) := by decide +kernel
theorem dX12_odds_38 : decode cX12_odds 38 = .ok (.if_icmp .ge 54, 3) := by decide +kernel
theorem dX12_odds_41 : decode cX12_odds 41 = .ok (.aload_n 0, 1) := by decide +kernel
theorem dX12_odds_42 : decode cX12_odds 42 = .ok (.getfield 9, 3) := by decide +kernel
theorem dX12_odds_45 : decode cX12_odds 45 = .ok (.iload 5, 2) := by decide +kernel
theorem dX12_odds_47 : decode cX12_odds 47 = .ok (.iaload, 1) := by decide +kernel
theorem dX12_odds_48 : decode cX12_odds 48 = .ok (.istore 6, 2) := by decide +kernel
theorem dX12_odds_50 : decode cX12_odds 50 = .ok (.aload_n 0, 1) := by decide +kernel
theorem dX12_odds_51 : decode cX12_odds 51 = .ok (.getfield 9, 3) := by decide +kernel
theorem dX12_odds_54 : decode cX12_odds 54 = .ok (.iload 5, 2) := by decide +kernel
theorem dX12_odds_56 : decode cX12_odds 56 = .ok (.iload 6, 2) := by decide +kernel
theorem dX12_odds_58 : decode cX12_odds 58 = .ok (.bipush 10, 2) := by decide +kernel
theorem dX12_odds_60 : decode cX12_odds 60 = .ok (.iadd, 1) := by decide +kernel
theorem dX12_odds_61 : decode cX12_odds 61 = .ok (.invokestatic 238, 3) := by decide +kernel
theorem dX12_odds_64 : decode cX12_odds 64 = .ok (.iastore, 1) := by decide +kernel
theorem dX12_odds_65 : decode cX12_odds 65 = .ok (.aload_n 0, 1) := by decide +kernel
theorem dX12_odds_66 : decode cX12_odds 66 = .ok (.iload_n 1, 1) := by decide +kernel
theorem dX12_odds_67 : decode cX12_odds 67 = .ok (.invokevirtual 119, 3) := by decide +kernel
theorem dX12_odds_70 : decode cX12_odds 70 = .ok (.iload_n 2, 1) := by decide +kernel
theorem dX12_odds_71 : decode cX12_odds 71 = .ok (.if_icmp .ne 6, 3) := by decide +kernel
theorem dX12_odds_74 : decode cX12_odds 74 = .ok (.iinc 4 1, 3) := by decide +kernel
theorem dX12_odds_77 : decode cX12_odds 77 = .ok (.aload_n 0, 1) := by decide +kernel
theorem dX12_odds_78 : decode cX12_odds 78 = .ok (.getfield 9, 3) := by decide +kernel
theorem dX12_odds_81 : decode cX12_odds 81 = .ok (.iload 5, 2) := by decide +kernel
theorem dX12_odds_83 : decode cX12_odds 83 = .ok (.iload 6, 2) := by decide +kernel
theorem dX12_odds_85 : decode cX12_odds 85 = .ok (.iastore, 1) := by decide +kernel
theorem dX12_odds_86 : decode cX12_odds 86 = .ok (.iinc 5 1, 3) := by decide +kernel
theorem dX12_odds_89 : decode cX12_odds 89 = .ok (.goto (-55), 3) := by decide +kernel
theorem dX12_odds_92 : decode cX12_odds 92 = .ok (.iload 4, 2) := by decide +kernel
theorem dX12_odds_94 : decode cX12_odds 94 = .ok (.bipush 25, 2) := by decide +kernel
theorem dX12_odds_96 : decode cX12_odds 96 = .ok (.iload_n 3, 1) := by decide +kernel
theorem dX12_odds_97 : decode cX12_odds 97 = .ok (.invokestatic 281, 3) := by decide +kernel
theorem dX12_odds_100 : decode cX12_odds 100 = .ok (.lreturn, 1) := by decide +kernel
theorem dX12_mean_0 : decode cX12_mean 0 = .ok (.iload_n 1, 1) := by decide +kernel
theorem dX12_mean_1 : decode cX12_mean 1 = .ok (.iconst 0, 1) := by decide +kernel
theorem dX12_mean_2 : decode cX12_mean 2 = .ok (.bipush 40, 2) := by decide +kernel
theorem dX12_mean_4 : decode cX12_mean 4 = .ok (.invokestatic 108, 3) := by decide +kernel
theorem dX12_mean_7 : decode cX12_mean 7 = .ok (.ifCond .eq 12, 3) := by decide +kernel
theorem dX12_mean_10 : decode cX12_mean 10 = .ok (.iload_n 2, 1) := by decide +kernel
theorem dX12_mean_11 : decode cX12_mean 11 = .ok (.iconst 0, 1) := by decide +kernel
theorem dX12_mean_12 : decode cX12_mean 12 = .ok (.iconst 1, 1) := by decide +kernel
theorem dX12_mean_13 : decode cX12_mean 13 = .ok (.invokestatic 108, 3) := by decide +kernel
theorem dX12_mean_16 : decode cX12_mean 16 = .ok (.ifCond .ne 7, 3) := by decide +kernel
theorem dX12_mean_19 : decode cX12_mean 19 = .ok (.ldc2_w 279, 3) := by decide +kernel
theorem dX12_mean_22 : decode cX12_mean 22 = .ok (.lreturn, 1) := by decide +kernel
theorem dX12_mean_23 : decode cX12_mean 23 = .ok (.aload_n 0, 1) := by decide +kernel
theorem dX12_mean_24 : decode cX12_mean 24 = .ok (.aload_n 0, 1) := by decide +kernel
theorem dX12_mean_25 : decode cX12_mean 25 = .ok (.getfield 82, 3) := by decide +kernel
theorem dX12_mean_28 : decode cX12_mean 28 = .ok (.invokevirtual 253, 3) := by decide +kernel
theorem dX12_mean_31 : decode cX12_mean 31 = .ok (.iconst 0, 1) := by decide +kernel
theorem dX12_mean_32 : decode cX12_mean 32 = .ok (.istore_n 3, 1) := by decide +kernel
theorem dX12_mean_33 : decode cX12_mean 33 = .ok (.iload_n 3, 1) := by decide +kernel
theorem dX12_mean_34 : decode cX12_mean 34 = .ok (.iload_n 1, 1) := by decide +kernel
theorem dX12_mean_35 : decode cX12_mean 35 = .ok (.if_icmp .ge 13, 3) := by decide +kernel
theorem dX12_mean_38 : decode cX12_mean 38 = .ok (.aload_n 0, 1) := by decide +kernel
theorem dX12_mean_39 : decode cX12_mean 39 = .ok (.invokevirtual 250, 3) := by decide +kernel
theorem dX12_mean_42 : decode cX12_mean 42 = .ok (.iinc 3 1, 3) := by decide +kernel
theorem dX12_mean_45 : decode cX12_mean 45 = .ok (.goto (-12), 3) := by decide +kernel
theorem dX12_mean_48 : decode cX12_mean 48 = .ok (.aload_n 0, 1) := by decide +kernel
theorem dX12_mean_49 : decode cX12_mean 49 = .ok (.invokevirtual 244, 3) := by decide +kernel
theorem dX12_mean_52 : decode cX12_mean 52 = .ok (.istore_n 3, 1) := by decide +kernel
theorem dX12_mean_53 : decode cX12_mean 53 = .ok (.aload_n 0, 1) := by decide +kernel
theorem dX12_mean_54 : decode cX12_mean 54 = .ok (.aload_n 0, 1) := by decide +kernel
theorem dX12_mean_55 : decode cX12_mean 55 = .ok (.getfield 82, 3) := by decide +kernel
theorem dX12_mean_58 : decode cX12_mean 58 = .ok (.invokevirtual 257, 3) := by decide +kernel
theorem dX12_mean_61 : decode cX12_mean 61 = .ok (.iload_n 3, 1) := by decide +kernel
theorem dX12_mean_62 : decode cX12_mean 62 = .ok (.bipush 25, 2) := by decide +kernel
theorem dX12_mean_64 : decode cX12_mean 64 = .ok (.iload_n 2, 1) := by decide +kernel
theorem dX12_mean_65 : decode cX12_mean 65 = .ok (.invokestatic 281, 3) := by decide +kernel
theorem dX12_mean_68 : decode cX12_mean 68 = .ok (.lreturn, 1) := by decide +kernel
theorem dX12_plan_0 : decode cX12_plan 0 = .ok (.iload_n 1, 1) := by decide +kernel
theorem dX12_plan_1 : decode cX12_plan 1 = .ok (.iconst (-1), 1) := by decide +kernel
theorem dX12_plan_2 : decode cX12_plan 2 = .ok (.if_icmp .ne 10, 3) := by decide +kernel
theorem dX12_plan_5 : decode cX12_plan 5 = .ok (.aload_n 0, 1) := by decide +kernel
theorem dX12_plan_6 : decode cX12_plan 6 = .ok (.iconst 0, 1) := by decide +kernel
theorem dX12_plan_7 : decode cX12_plan 7 = .ok (.putfield 285, 3) := by decide +kernel
theorem dX12_plan_10 : decode cX12_plan 10 = .ok (.iconst 0, 1) := by decide +kernel
theorem dX12_plan_11 : decode cX12_plan 11 = .ok (.ireturn, 1) := by decide +kernel
theorem dX12_plan_12 : decode cX12_plan 12 = .ok (.iload_n 1, 1) := by decide +kernel
theorem dX12_plan_13 : decode cX12_plan 13 = .ok (.iconst 0, 1) := by decide +kernel
theorem dX12_plan_14 : decode cX12_plan 14 = .ok (.iconst 3, 1) := by decide +kernel
theorem dX12_plan_15 : decode cX12_plan 15 = .ok (.invokestatic 108, 3) := by decide +kernel
theorem dX12_plan_18 : decode cX12_plan 18 = .ok (.ifCond .eq 28, 3) := by decide +kernel
theorem dX12_plan_21 : decode cX12_plan 21 = .ok (.iload_n 1, 1) := by decide +kernel
theorem dX12_plan_22 : decode cX12_plan 22 = .ok (.iconst 1, 1) := by decide +kernel
theorem dX12_plan_23 : decode cX12_plan 23 = .ok (.if_icmp .ne 10, 3) := by decide +kernel
theorem dX12_plan_26 : decode cX12_plan 26 = .ok (.iload_n 2, 1) := by decide +kernel
theorem dX12_plan_27 : decode cX12_plan 27 = .ok (.invokestatic 112, 3) := by decide +kernel
theorem dX12_plan_30 : decode cX12_plan 30 = .ok (.ifCond .eq 16, 3) := by decide +kernel
theorem dX12_plan_33 : decode cX12_plan 33 = .ok (.iload_n 1, 1) := by decide +kernel
theorem dX12_plan_34 : decode cX12_plan 34 = .ok (.iconst 1, 1) := by decide +kernel
theorem dX12_plan_35 : decode cX12_plan 35 = .ok (.if_icmp .le 13, 3) := by decide +kernel
theorem dX12_plan_38 : decode cX12_plan 38 = .ok (.aload_n 0, 1) := by decide +kernel
theorem dX12_plan_39 : decode cX12_plan 39 = .ok (.iload_n 2, 1) := by decide +kernel
theorem dX12_plan_40 : decode cX12_plan 40 = .ok (.invokevirtual 116, 3) := by decide +kernel
theorem dX12_plan_43 : decode cX12_plan 43 = .ok (.ifCond .ne 5, 3) := by decide +kernel
theorem dX12_plan_46 : decode cX12_plan 46 = .ok (.iconst (-1), 1) := by decide +kernel
theorem dX12_plan_47 : decode cX12_plan 47 = .ok (.ireturn, 1) := by decide +kernel
theorem dX12_plan_48 : decode cX12_plan 48 = .ok (.aload_n 0, 1) := by decide +kernel
theorem dX12_plan_49 : decode cX12_plan 49 = .ok (.getfield 285, 3) := by decide +kernel
theorem dX12_plan_52 : decode cX12_plan 52 = .ok (.bipush 10, 2) := by decide +kernel
theorem dX12_plan_54 : decode cX12_plan 54 = .ok (.if_icmp .ne 6, 3) := by decide +kernel
theorem dX12_plan_57 : decode cX12_plan 57 = .ok (.bipush (-4), 2) := by decide +kernel
theorem dX12_plan_59 : decode cX12_plan 59 = .ok (.ireturn, 1) := by decide +kernel
theorem dX12_plan_60 : decode cX12_plan 60 = .ok (.aload_n 0, 1) := by decide +kernel
theorem dX12_plan_61 : decode cX12_plan 61 = .ok (.getfield 64, 3) := by decide +kernel
theorem dX12_plan_64 : decode cX12_plan 64 = .ok (.aload_n 0, 1) := by decide +kernel
theorem dX12_plan_65 : decode cX12_plan 65 = .ok (.getfield 285, 3) := by decide +kernel
theorem dX12_plan_68 : decode cX12_plan 68 = .ok (.iload_n 1, 1) := by decide +kernel
theorem dX12_plan_69 : decode cX12_plan 69 = .ok (.iastore, 1) := by decide +kernel
theorem dX12_plan_70 : decode cX12_plan 70 = .ok (.aload_n 0, 1) := by decide +kernel
theorem dX12_plan_71 : decode cX12_plan 71 = .ok (.getfield 67, 3) := by decide +kernel
theorem dX12_plan_74 : decode cX12_plan 74 = .ok (.aload_n 0, 1) := by decide +kernel
theorem dX12_plan_75 : decode cX12_plan 75 = .ok (.dup, 1) := by decide +kernel
theorem dX12_plan_76 : decode cX12_plan 76 = .ok (.getfield 285, 3) := by decide +kernel
theorem dX12_plan_79 : decode cX12_plan 79 = .ok (.dup_x1, 1) := by decide +kernel
theorem dX12_plan_80 : decode cX12_plan 80 = .ok (.iconst 1, 1) := by decide +kernel
theorem dX12_plan_81 : decode cX12_plan 81 = .ok (.iadd, 1) := by decide +kernel
theorem dX12_plan_82 : decode cX12_plan 82 = .ok (.putfield 285, 3) := by decide +kernel
theorem dX12_plan_85 : decode cX12_plan 85 = .ok (.iload_n 1, 1) := by decide +kernel
theorem dX12_plan_86 : decode cX12_plan 86 = .ok (.ifCond .ne 7, 3) := by decide +kernel
theorem dX12_plan_89 : decode cX12_plan 89 = .ok (.iconst 0, 1) := by decide +kernel
theorem dX12_plan_90 : decode cX12_plan 90 = .ok (.goto 4, 3) := by decide +kernel
theorem dX12_plan_93 : decode cX12_plan 93 = .ok (.iload_n 2, 1) := by decide +kernel
theorem dX12_plan_94 : decode cX12_plan 94 = .ok (.iastore, 1) := by decide +kernel
theorem dX12_plan_95 : decode cX12_plan 95 = .ok (.aload_n 0, 1) := by decide +kernel
theorem dX12_plan_96 : decode cX12_plan 96 = .ok (.getfield 285, 3) := by decide +kernel
theorem dX12_plan_99 : decode cX12_plan 99 = .ok (.ireturn, 1) := by decide +kernel
theorem dX12_ends_0 : decode cX12_ends 0 = .ok (.iload_n 1, 1) := by decide +kernel
theorem dX12_ends_1 : decode cX12_ends 1 = .ok (.iconst 0, 1) := by decide +kernel
theorem dX12_ends_2 : decode cX12_ends 2 = .ok (.iconst 1, 1) := by decide +kernel
theorem dX12_ends_3 : decode cX12_ends 3 = .ok (.invokestatic 108, 3) := by decide +kernel
theorem dX12_ends_6 : decode cX12_ends 6 = .ok (.ifCond .ne 5, 3) := by decide +kernel
theorem dX12_ends_9 : decode cX12_ends 9 = .ok (.iconst (-1), 1) := by decide +kernel
theorem dX12_ends_10 : decode cX12_ends 10 = .ok (.ireturn, 1) := by decide +kernel
theorem dX12_ends_11 : decode cX12_ends 11 = .ok (.aload_n 0, 1) := by decide +kernel
theorem dX12_ends_12 : decode cX12_ends 12 = .ok (.aload_n 0, 1) := by decide +kernel
theorem dX12_ends_13 : decode cX12_ends 13 = .ok (.getfield 82, 3) := by decide +kernel
theorem dX12_ends_16 : decode cX12_ends 16 = .ok (.invokevirtual 253, 3) := by decide +kernel
theorem dX12_ends_19 : decode cX12_ends 19 = .ok (.iconst 0, 1) := by decide +kernel
theorem dX12_ends_20 : decode cX12_ends 20 = .ok (.istore_n 2, 1) := by decide +kernel
theorem dX12_ends_21 : decode cX12_ends 21 = .ok (.iload_n 2, 1) := by decide +kernel
theorem dX12_ends_22 : decode cX12_ends 22 = .ok (.aload_n 0, 1) := by decide +kernel
theorem dX12_ends_23 : decode cX12_ends 23 = .ok (.getfield 285, 3) := by decide +kernel
theorem dX12_ends_26 : decode cX12_ends 26 = .ok (.if_icmp .ge 84, 3) := by decide +kernel
theorem dX12_ends_29 : decode cX12_ends 29 = .ok (.aload_n 0, 1) := by decide +kernel
theorem dX12_ends_30 : decode cX12_ends 30 = .ok (.getfield 67, 3) := by decide +kernel
theorem dX12_ends_33 : decode cX12_ends 33 = .ok (.iload_n 2, 1) := by decide +kernel
theorem dX12_ends_34 : decode cX12_ends 34 = .ok (.iaload, 1) := by decide +kernel
theorem dX12_ends_35 : decode cX12_ends 35 = .ok (.istore_n 3, 1) := by decide +kernel
theorem dX12_ends_36 : decode cX12_ends 36 = .ok (.aload_n 0, 1) := by decide +kernel
theorem dX12_ends_37 : decode cX12_ends 37 = .ok (.getfield 64, 3) := by decide +kernel
theorem dX12_ends_40 : decode cX12_ends 40 = .ok (.iload_n 2, 1) := by decide +kernel
theorem dX12_ends_41 : decode cX12_ends 41 = .ok (.iaload, 1) := by decide +kernel
theorem dX12_ends_42 : decode cX12_ends 42 = .ok (.ifCond .ne 10, 3) := by decide +kernel
theorem dX12_ends_45 : decode cX12_ends 45 = .ok (.aload_n 0, 1) := by decide +kernel
theorem dX12_ends_46 : decode cX12_ends 46 = .ok (.invokevirtual 250, 3) := by decide +kernel
