theorem dX7_init_0 : decode cX7_init 0 = .ok (.aload_n 0, 1) := by decide +kernel
theorem dX7_init_1 : decode cX7_init 1 = .ok (.invokespecial 3, 3) := by decide +kernel
theorem dX7_init_4 : decode cX7_init 4 = .ok (.aload_n 0, 1) := by decide +kernel
theorem dX7_init_5 : decode cX7_init 5 = .ok (.iconst 3, 1) := by decide +kernel
theorem dX7_init_6 : decode cX7_init 6 = .ok (.newarray .int, 2) := by decide +kernel
theorem dX7_init_8 : decode cX7_init 8 = .ok (.putfield 9, 3) := by decide +kernel
theorem dX7_init_11 : decode cX7_init 11 = .ok (.aload_n 0, 1) := by decide +kernel
theorem dX7_init_12 : decode cX7_init 12 = .ok (.iconst (-1), 1) := by decide +kernel
theorem dX7_init_13 : decode cX7_init 13 = .ok (.putfield 13, 3) := by decide +kernel
theorem dX7_init_16 : decode cX7_init 16 = .ok (.aload_n 0, 1) := by decide +kernel
theorem dX7_init_17 : decode cX7_init 17 = .ok (.sipush 300, 3) := by decide +kernel
theorem dX7_init_20 : decode cX7_init 20 = .ok (.newarray .int, 2) := by decide +kernel
theorem dX7_init_22 : decode cX7_init 22 = .ok (.putfield 17, 3) := by decide +kernel
theorem dX7_init_25 : decode cX7_init 25 = .ok (.aload_n 0, 1) := by decide +kernel
theorem dX7_init_26 : decode cX7_init 26 = .ok (.sipush 387, 3) := by decide +kernel
theorem dX7_init_29 : decode cX7_init 29 = .ok (.newarray .int, 2) := by decide +kernel
theorem dX7_init_31 : decode cX7_init 31 = .ok (.putfield 20, 3) := by decide +kernel
theorem dX7_init_34 : decode cX7_init 34 = .ok (.aload_n 0, 1) := by decide +kernel
theorem dX7_init_35 : decode cX7_init 35 = .ok (.sipush 387, 3) := by decide +kernel
theorem dX7_init_38 : decode cX7_init 38 = .ok (.newarray .int, 2) := by decide +kernel
theorem dX7_init_40 : decode cX7_init 40 = .ok (.putfield 23, 3) := by decide +kernel
theorem dX7_init_43 : decode cX7_init 43 = .ok (.aload_n 0, 1) := by decide +kernel
theorem dX7_init_44 : decode cX7_init 44 = .ok (.bipush 8, 2) := by decide +kernel
theorem dX7_init_46 : decode cX7_init 46 = .ok (.sipush 387, 3) := by decide +kernel
theorem dX7_init_49 : decode cX7_init 49 = .ok (.multianewarray 26 2, 4) := by decide +kernel
theorem dX7_init_53 : decode cX7_init 53 = .ok (.putfield 28, 3) := by decide +kernel
theorem dX7_init_56 : decode cX7_init 56 = .ok (.aload_n 0, 1) := by decide +kernel
theorem dX7_init_57 : decode cX7_init 57 = .ok (.bipush 64, 2) := by decide +kernel
theorem dX7_init_59 : decode cX7_init 59 = .ok (.bipush 64, 2) := by decide +kernel
theorem dX7_init_61 : decode cX7_init 61 = .ok (.multianewarray 26 2, 4) := by decide +kernel
theorem dX7_init_65 : decode cX7_init 65 = .ok (.putfield 31, 3) := by decide +kernel
theorem dX7_init_68 : decode cX7_init 68 = .ok (.aload_n 0, 1) := by decide +kernel
theorem dX7_init_69 : decode cX7_init 69 = .ok (.bipush 64, 2) := by decide +kernel
theorem dX7_init_71 : decode cX7_init 71 = .ok (.bipush 64, 2) := by decide +kernel
theorem dX7_init_73 : decode cX7_init 73 = .ok (.multianewarray 26 2, 4) := by decide +kernel
theorem dX7_init_77 : decode cX7_init 77 = .ok (.putfield 34, 3) := by decide +kernel
theorem dX7_init_80 : decode cX7_init 80 = .ok (.aload_n 0, 1) := by decide +kernel
theorem dX7_init_81 : decode cX7_init 81 = .ok (.bipush 64, 2) := by decide +kernel
theorem dX7_init_83 : decode cX7_init 83 = .ok (.newarray .int, 2) := by decide +kernel
theorem dX7_init_85 : decode cX7_init 85 = .ok (.putfield 37, 3) := by decide +kernel
theorem dX7_init_88 : decode cX7_init 88 = .ok (.aload_n 0, 1) := by decide +kernel
theorem dX7_init_89 : decode cX7_init 89 = .ok (.bipush 64, 2) := by decide +kernel
theorem dX7_init_91 : decode cX7_init 91 = .ok (.newarray .int, 2) := by decide +kernel
theorem dX7_init_93 : decode cX7_init 93 = .ok (.putfield 40, 3) := by decide +kernel
theorem dX7_init_96 : decode cX7_init 96 = .ok (.aload_n 0, 1) := by decide +kernel
theorem dX7_init_97 : decode cX7_init 97 = .ok (.bipush 14, 2) := by decide +kernel
theorem dX7_init_99 : decode cX7_init 99 = .ok (.newarray .int, 2) := by decide +kernel
theorem dX7_init_101 : decode cX7_init 101 = .ok (.putfield 43, 3) := by decide +kernel
theorem dX7_init_104 : decode cX7_init 104 = .ok (.aload_n 0, 1) := by decide +kernel
theorem dX7_init_105 : decode cX7_init 105 = .ok (.bipush 64, 2) := by decide +kernel
theorem dX7_init_107 : decode cX7_init 107 = .ok (.newarray .int, 2) := by decide +kernel
theorem dX7_init_109 : decode cX7_init 109 = .ok (.putfield 46, 3) := by decide +kernel
theorem dX7_init_112 : decode cX7_init 112 = .ok (.aload_n 0, 1) := by decide +kernel
theorem dX7_init_113 : decode cX7_init 113 = .ok (.bipush 64, 2) := by decide +kernel
theorem dX7_init_115 : decode cX7_init 115 = .ok (.newarray .int, 2) := by decide +kernel
theorem dX7_init_117 : decode cX7_init 117 = .ok (.putfield 49, 3) := by decide +kernel
theorem dX7_init_120 : decode cX7_init 120 = .ok (.aload_n 0, 1) := by decide +kernel
theorem dX7_init_121 : decode cX7_init 121 = .ok (.bipush 64, 2) := by decide +kernel
theorem dX7_init_123 : decode cX7_init 123 = .ok (.newarray .int, 2) := by decide +kernel
theorem dX7_init_125 : decode cX7_init 125 = .ok (.putfield 52, 3) := by decide +kernel
theorem dX7_init_128 : decode cX7_init 128 = .ok (.aload_n 0, 1) := by decide +kernel
theorem dX7_init_129 : decode cX7_init 129 = .ok (.bipush 64, 2) := by decide +kernel
theorem dX7_init_131 : decode cX7_init 131 = .ok (.newarray .int, 2) := by decide +kernel
theorem dX7_init_133 : decode cX7_init 133 = .ok (.putfield 55, 3) := by decide +kernel
theorem dX7_init_136 : decode cX7_init 136 = .ok (.aload_n 0, 1) := by decide +kernel
theorem dX7_init_137 : decode cX7_init 137 = .ok (.getfield 20, 3) := by decide +kernel
theorem dX7_init_140 : decode cX7_init 140 = .ok (.iconst 0, 1) := by decide +kernel
theorem dX7_init_141 : decode cX7_init 141 = .ok (.iconst 2, 1) := by decide +kernel
theorem dX7_init_142 : decode cX7_init 142 = .ok (.iastore, 1) := by decide +kernel
theorem dX7_init_143 : decode cX7_init 143 = .ok (.aload_n 0, 1) := by decide +kernel
theorem dX7_init_144 : decode cX7_init 144 = .ok (.getfield 20, 3) := by decide +kernel
theorem dX7_init_147 : decode cX7_init 147 = .ok (.iconst 1, 1) := by decide +kernel
theorem dX7_init_148 : decode cX7_init 148 = .ok (.iconst 1, 1) := by decide +kernel
theorem dX7_init_149 : decode cX7_init 149 = .ok (.iastore, 1) := by decide +kernel
theorem dX7_init_150 : decode cX7_init 150 = .ok (.return_, 1) := by decide +kernel
theorem dX7_thrown_0 : decode cX7_thrown 0 = .ok (.aload_n 0, 1) := by decide +kernel
theorem dX7_thrown_1 : decode cX7_thrown 1 = .ok (.getfield 58, 3) := by decide +kernel
theorem dX7_thrown_4 : decode cX7_thrown 4 = .ok (.ireturn, 1) := by decide +kernel
theorem dX7_bad_0 : decode cX7_bad 0 = .ok (.iload_n 1, 1) := by decide +kernel
theorem dX7_bad_1 : decode cX7_bad 1 = .ok (.ifCond .eq 25, 3) := by decide +kernel
theorem dX7_bad_4 : decode cX7_bad 4 = .ok (.aload_n 0, 1) := by decide +kernel
theorem dX7_bad_5 : decode cX7_bad 5 = .ok (.getfield 58, 3) := by decide +kernel
theorem dX7_bad_8 : decode cX7_bad 8 = .ok (.ifCond .ne 18, 3) := by decide +kernel
theorem dX7_bad_11 : decode cX7_bad 11 = .ok (.aload_n 0, 1) := by decide +kernel
theorem dX7_bad_12 : decode cX7_bad 12 = .ok (.iload_n 2, 1) := by decide +kernel
theorem dX7_bad_13 : decode cX7_bad 13 = .ok (.putfield 58, 3) := by decide +kernel
theorem dX7_bad_16 : decode cX7_bad 16 = .ok (.aload_n 0, 1) := by decide +kernel
theorem dX7_bad_17 : decode cX7_bad 17 = .ok (.getfield 9, 3) := by decide +kernel
theorem dX7_bad_20 : decode cX7_bad 20 = .ok (.iload_n 3, 1) := by decide +kernel
theorem dX7_bad_21 : decode cX7_bad 21 = .ok (.dup2, 1) := by decide +kernel
theorem dX7_bad_22 : decode cX7_bad 22 = .ok (.iaload, 1) := by decide +kernel
theorem dX7_bad_23 : decode cX7_bad 23 = .ok (.iconst 1, 1) := by decide +kernel
theorem dX7_bad_24 : decode cX7_bad 24 = .ok (.iadd, 1) := by decide +kernel
theorem dX7_bad_25 : decode cX7_bad 25 = .ok (.iastore, 1) := by decide +kernel
theorem dX7_bad_26 : decode cX7_bad 26 = .ok (.aload_n 0, 1) := by decide +kernel
theorem dX7_bad_27 : decode cX7_bad 27 = .ok (.getfield 58, 3) := by decide +kernel
theorem dX7_bad_30 : decode cX7_bad 30 = .ok (.ifCond .eq 7, 3) := by decide +kernel
theorem dX7_bad_33 : decode cX7_bad 33 = .ok (.iconst 1, 1) := by decide +kernel
theorem dX7_bad_34 : decode cX7_bad 34 = .ok (.goto 4, 3) := by decide +kernel
theorem dX7_bad_37 : decode cX7_bad 37 = .ok (.iconst 0, 1) := by decide +kernel
theorem dX7_bad_38 : decode cX7_bad 38 = .ok (.ireturn, 1) := by decide +kernel
theorem dX7_in_0 : decode cX7_in 0 = .ok (.lload_n 0, 1) := by decide +kernel
theorem dX7_in_1 : decode cX7_in 1 = .ok (.lload_n 2, 1) := by decide +kernel
theorem dX7_in_2 : decode cX7_in 2 = .ok (.lcmp, 1) := by decide +kernel
theorem dX7_in_3 : decode cX7_in 3 = .ok (.ifCond .lt 14, 3) := by decide +kernel
theorem dX7_in_6 : decode cX7_in 6 = .ok (.lload_n 0, 1) := by decide +kernel
theorem dX7_in_7 : decode cX7_in 7 = .ok (.lload 4, 2) := by decide +kernel
theorem dX7_in_9 : decode cX7_in 9 = .ok (.lcmp, 1) := by decide +kernel
theorem dX7_in_10 : decode cX7_in 10 = .ok (.ifCond .gt 7, 3) := by decide +kernel
theorem dX7_in_13 : decode cX7_in 13 = .ok (.iconst 1, 1) := by decide +kernel
theorem dX7_in_14 : decode cX7_in 14 = .ok (.goto 4, 3) := by decide +kernel
theorem dX7_in_17 : decode cX7_in 17 = .ok (.iconst 0, 1) := by decide +kernel
theorem dX7_in_18 : decode cX7_in 18 = .ok (.ireturn, 1) := by decide +kernel
theorem dX7_less_0 : decode cX7_less 0 = .ok (.iload_n 0, 1) := by decide +kernel
theorem dX7_less_1 : decode cX7_less 1 = .ok (.iload_n 1, 1) := by decide +kernel
theorem dX7_less_2 : decode cX7_less 2 = .ok (.if_icmp .ge 7, 3) := by decide +kernel
theorem dX7_less_5 : decode cX7_less 5 = .ok (.iload_n 0, 1) := by decide +kernel
theorem dX7_less_6 : decode cX7_less 6 = .ok (.goto 4, 3) := by decide +kernel
theorem dX7_less_9 : decode cX7_less 9 = .ok (.iload_n 1, 1) := by decide +kernel
theorem dX7_less_10 : decode cX7_less 10 = .ok (.ireturn, 1) := by decide +kernel
theorem dX7_feed_0 : decode cX7_feed 0 = .ok (.aload_n 0, 1) := by decide +kernel
theorem dX7_feed_1 : decode cX7_feed 1 = .ok (.iconst 0, 1) := by decide +kernel
theorem dX7_feed_2 : decode cX7_feed 2 = .ok (.putfield 58, 3) := by decide +kernel
theorem dX7_feed_5 : decode cX7_feed 5 = .ok (.aload_n 0, 1) := by decide +kernel
theorem dX7_feed_6 : decode cX7_feed 6 = .ok (.getfield 61, 3) := by decide +kernel
theorem dX7_feed_9 : decode cX7_feed 9 = .ok (.bipush 20, 2) := by decide +kernel
theorem dX7_feed_11 : decode cX7_feed 11 = .ok (.iadd, 1) := by decide +kernel
theorem dX7_feed_12 : decode cX7_feed 12 = .ok (.sipush 300, 3) := by decide +kernel
theorem dX7_feed_15 : decode cX7_feed 15 = .ok (.if_icmp .le 5, 3) := by decide +kernel
theorem dX7_feed_18 : decode cX7_feed 18 = .ok (.iconst (-1), 1) := by decide +kernel
theorem dX7_feed_19 : decode cX7_feed 19 = .ok (.ireturn, 1) := by decide +kernel
theorem dX7_feed_20 : decode cX7_feed 20 = .ok (.iconst 0, 1) := by decide +kernel
theorem dX7_feed_21 : decode cX7_feed 21 = .ok (.istore 6, 2) := by decide +kernel
theorem dX7_feed_23 : decode cX7_feed 23 = .ok (.iload 6, 2) := by decide +kernel
theorem dX7_feed_25 : decode cX7_feed 25 = .ok (.bipush 20, 2) := by decide +kernel
theorem dX7_feed_27 : decode cX7_feed 27 = .ok (.if_icmp .ge 93, 3) := by decide +kernel
theorem dX7_feed_30 : decode cX7_feed 30 = .ok (.iload 6, 2) := by decide +kernel
theorem dX7_feed_32 : decode cX7_feed 32 = .ok (.iconst 4, 1) := by decide +kernel
theorem dX7_feed_33 : decode cX7_feed 33 = .ok (.if_icmp .ge 7, 3) := by decide +kernel
theorem dX7_feed_36 : decode cX7_feed 36 = .ok (.iload_n 1, 1) := by decide +kernel
theorem dX7_feed_37 : decode cX7_feed 37 = .ok (.goto 39, 3) := by decide +kernel
theorem dX7_feed_40 : decode cX7_feed 40 = .ok (.iload 6, 2) := by decide +kernel
theorem dX7_feed_42 : decode cX7_feed 42 = .ok (.bipush 8, 2) := by decide +kernel
theorem dX7_feed_44 : decode cX7_feed 44 = .ok (.if_icmp .ge 7, 3) := by decide +kernel
theorem dX7_feed_47 : decode cX7_feed 47 = .ok (.iload_n 2, 1) := by decide +kernel
theorem dX7_feed_48 : decode cX7_feed 48 = .ok (.goto 28, 3) := by decide +kernel
theorem dX7_feed_51 : decode cX7_feed 51 = .ok (.iload 6, 2) := by decide +kernel
theorem dX7_feed_53 : decode cX7_feed 53 = .ok (.bipush 12, 2) := by decide +kernel
theorem dX7_feed_55 : decode cX7_feed 55 = .ok (.if_icmp .ge 7, 3) := by decide +kernel
theorem dX7_feed_58 : decode cX7_feed 58 = .ok (.iload_n 3, 1) := by decide +kernel
theorem dX7_feed_59 : decode cX7_feed 59 = .ok (.goto 17, 3) := by decide +kernel
theorem dX7_feed_62 : decode cX7_feed 62 = .ok (.iload 6, 2) := by decide +kernel
theorem dX7_feed_64 : decode cX7_feed 64 = .ok (.bipush 16, 2) := by decide +kernel
theorem dX7_feed_66 : decode cX7_feed 66 = .ok (.if_icmp .ge 8, 3) := by decide +kernel
theorem dX7_feed_69 : decode cX7_feed 69 = .ok (.iload 4, 2) := by decide +kernel
theorem dX7_feed_71 : decode cX7_feed 71 = .ok (.goto 5, 3) := by decide +kernel
theorem dX7_feed_74 : decode cX7_feed 74 = .ok (.iload 5, 2) := by decide +kernel
theorem dX7_feed_76 : decode cX7_feed 76 = .ok (.istore 7, 2) := by decide +kernel
theorem dX7_feed_78 : decode cX7_feed 78 = .ok (.aload_n 0, 1) := by decide +kernel
theorem dX7_feed_79 : decode cX7_feed 79 = .ok (.getfield 17, 3) := by decide +kernel
theorem dX7_feed_82 : decode cX7_feed 82 = .ok (.aload_n 0, 1) := by decide +kernel
theorem dX7_feed_83 : decode cX7_feed 83 = .ok (.getfield 61, 3) := by decide +kernel
theorem dX7_feed_86 : decode cX7_feed 86 = .ok (.iload 7, 2) := by decide +kernel
theorem dX7_feed_88 : decode cX7_feed 88 = .ok (.bipush 24, 2) := by decide +kernel
theorem dX7_feed_90 : decode cX7_feed 90 = .ok (.bipush 8, 2) := by decide +kernel
theorem dX7_feed_92 : decode cX7_feed 92 = .ok (.iload 6, 2) := by decide +kernel
theorem dX7_feed_94 : decode cX7_feed 94 = .ok (.iconst 4, 1) := by decide +kernel
theorem dX7_feed_95 : decode cX7_feed 95 = .ok (.irem, 1) := by decide +kernel
theorem dX7_feed_96 : decode cX7_feed 96 = .ok (.imul, 1) := by decide +kernel
theorem dX7_feed_97 : decode cX7_feed 97 = .ok (.isub, 1) := by decide +kernel
theorem dX7_feed_98 : decode cX7_feed 98 = .ok (.ishr, 1) := by decide +kernel
theorem dX7_feed_99 : decode cX7_feed 99 = .ok (.sipush 255, 3) := by decide +kernel
theorem dX7_feed_102 : decode cX7_feed 102 = .ok (.iand, 1) := by decide +kernel
theorem dX7_feed_103 : decode cX7_feed 103 = .ok (.iastore, 1) := by decide +kernel
theorem dX7_feed_104 : decode cX7_feed 104 = .ok (.aload_n 0, 1) := by decide +kernel
theorem dX7_feed_105 : decode cX7_feed 105 = .ok (.dup, 1) := by decide +kernel
theorem dX7_feed_106 : decode cX7_feed 106 = .ok (.getfield 61, 3) := by decide +kernel
theorem dX7_feed_109 : decode cX7_feed 109 = .ok (.iconst 1, 1) := by decide +kernel
theorem dX7_feed_110 : decode cX7_feed 110 = .ok (.iadd, 1) := by decide +kernel
theorem dX7_feed_111 : decode cX7_feed 111 = .ok (.putfield 61, 3) := by decide +kernel
theorem dX7_feed_114 : decode cX7_feed 114 = .ok (.iinc 6 1, 3) := by decide +kernel
theorem dX7_feed_117 : decode cX7_feed 117 = .ok (.goto (-94), 3) := by decide +kernel
theorem dX7_feed_120 : decode cX7_feed 120 = .ok (.aload_n 0, 1) := by decide +kernel
theorem dX7_feed_121 : decode cX7_feed 121 = .ok (.getfield 61, 3) := by decide +kernel
theorem dX7_feed_124 : decode cX7_feed 124 = .ok (.ireturn, 1) := by decide +kernel
theorem dX7_copies_0 : decode cX7_copies 0 = .ok (.iconst 0, 1) := by decide +kernel
theorem dX7_copies_1 : decode cX7_copies 1 = .ok (.istore_n 2, 1) := by decide +kernel
theorem dX7_copies_2 : decode cX7_copies 2 = .ok (.iload_n 2, 1) := by decide +kernel
theorem dX7_copies_3 : decode cX7_copies 3 = .ok (.sipush 387, 3) := by decide +kernel
theorem dX7_copies_6 : decode cX7_copies 6 = .ok (.if_icmp .ge 15, 3) := by decide +kernel
theorem dX7_copies_9 : decode cX7_copies 9 = .ok (.aload_n 1, 1) := by decide +kernel
theorem dX7_copies_10 : decode cX7_copies 10 = .ok (.iload_n 2, 1) := by decide +kernel
theorem dX7_copies_11 : decode cX7_copies 11 = .ok (.aload_n 0, 1) := by decide +kernel
theorem dX7_copies_12 : decode cX7_copies 12 = .ok (.iload_n 2, 1) := by decide +kernel
theorem dX7_copies_13 : decode cX7_copies 13 = .ok (.iaload, 1) := by decide +kernel
theorem dX7_copies_14 : decode cX7_copies 14 = .ok (.iastore, 1) := by decide +kernel
theorem dX7_copies_15 : decode cX7_copies 15 = .ok (.iinc 2 1, 3) := by decide +kernel
theorem dX7_copies_18 : decode cX7_copies 18 = .ok (.goto (-16), 3) := by decide +kernel
theorem dX7_copies_21 : decode cX7_copies 21 = .ok (.return_, 1) := by decide +kernel
theorem dX7_digit_0 : decode cX7_digit 0 = .ok (.iload_n 0, 1) := by decide +kernel
theorem dX7_digit_1 : decode cX7_digit 1 = .ok (.istore_n 3, 1) := by decide +kernel
theorem dX7_digit_2 : decode cX7_digit 2 = .ok (.iconst 0, 1) := by decide +kernel
theorem dX7_digit_3 : decode cX7_digit 3 = .ok (.istore 4, 2) := by decide +kernel
theorem dX7_digit_5 : decode cX7_digit 5 = .ok (.iload 4, 2) := by decide +kernel
theorem dX7_digit_7 : decode cX7_digit 7 = .ok (.iload_n 2, 1) := by decide +kernel
theorem dX7_digit_8 : decode cX7_digit 8 = .ok (.if_icmp .ge 13, 3) := by decide +kernel
theorem dX7_digit_11 : decode cX7_digit 11 = .ok (.iload_n 3, 1) := by decide +kernel
theorem dX7_digit_12 : decode cX7_digit 12 = .ok (.iload_n 1, 1) := by decide +kernel
theorem dX7_digit_13 : decode cX7_digit 13 = .ok (.idiv, 1) := by decide +kernel
theorem dX7_digit_14 : decode cX7_digit 14 = .ok (.istore_n 3, 1) := by decide +kernel
theorem dX7_digit_15 : decode cX7_digit 15 = .ok (.iinc 4 1, 3) := by decide +kernel
theorem dX7_digit_18 : decode cX7_digit 18 = .ok (.goto (-13), 3) := by decide +kernel
theorem dX7_digit_21 : decode cX7_digit 21 = .ok (.iload_n 3, 1) := by decide +kernel
theorem dX7_digit_22 : decode cX7_digit 22 = .ok (.iload_n 1, 1) := by decide +kernel
theorem dX7_digit_23 : decode cX7_digit 23 = .ok (.irem, 1) := by decide +kernel
theorem dX7_digit_24 : decode cX7_digit 24 = .ok (.ireturn, 1) := by decide +kernel
theorem dX7_raised_0 : decode cX7_raised 0 = .ok (.iconst 1, 1) := by decide +kernel
theorem dX7_raised_1 : decode cX7_raised 1 = .ok (.istore_n 2, 1) := by decide +kernel
theorem dX7_raised_2 : decode cX7_raised 2 = .ok (.iconst 0, 1) := by decide +kernel
theorem dX7_raised_3 : decode cX7_raised 3 = .ok (.istore_n 3, 1) := by decide +kernel
theorem dX7_raised_4 : decode cX7_raised 4 = .ok (.iload_n 3, 1) := by decide +kernel
theorem dX7_raised_5 : decode cX7_raised 5 = .ok (.iload_n 1, 1) := by decide +kernel
theorem dX7_raised_6 : decode cX7_raised 6 = .ok (.if_icmp .ge 19, 3) := by decide +kernel
theorem dX7_raised_9 : decode cX7_raised 9 = .ok (.sipush 1000, 3) := by decide +kernel
theorem dX7_raised_12 : decode cX7_raised 12 = .ok (.iload_n 2, 1) := by decide +kernel
theorem dX7_raised_13 : decode cX7_raised 13 = .ok (.iload_n 0, 1) := by decide +kernel
theorem dX7_raised_14 : decode cX7_raised 14 = .ok (.imul, 1) := by decide +kernel
theorem dX7_raised_15 : decode cX7_raised 15 = .ok (.invokestatic 64, 3) := by decide +kernel
theorem dX7_raised_18 : decode cX7_raised 18 = .ok (.istore_n 2, 1) := by decide +kernel
theorem dX7_raised_19 : decode cX7_raised 19 = .ok (.iinc 3 1, 3) := by decide +kernel
theorem dX7_raised_22 : decode cX7_raised 22 = .ok (.goto (-18), 3) := by decide +kernel
theorem dX7_raised_25 : decode cX7_raised 25 = .ok (.iload_n 2, 1) := by decide +kernel
theorem dX7_raised_26 : decode cX7_raised 26 = .ok (.ireturn, 1) := by decide +kernel
theorem dX7_rests_0 : decode cX7_rests 0 = .ok (.iload_n 1, 1) := by decide +kernel
theorem dX7_rests_1 : decode cX7_rests 1 = .ok (.istore 4, 2) := by decide +kernel
theorem dX7_rests_3 : decode cX7_rests 3 = .ok (.iload 4, 2) := by decide +kernel
theorem dX7_rests_5 : decode cX7_rests 5 = .ok (.iload_n 3, 1) := by decide +kernel
theorem dX7_rests_6 : decode cX7_rests 6 = .ok (.if_icmp .lt 97, 3) := by decide +kernel
theorem dX7_rests_9 : decode cX7_rests 9 = .ok (.aload_n 0, 1) := by decide +kernel
theorem dX7_rests_10 : decode cX7_rests 10 = .ok (.getfield 43, 3) := by decide +kernel
theorem dX7_rests_13 : decode cX7_rests 13 = .ok (.iload 4, 2) := by decide +kernel
theorem dX7_rests_15 : decode cX7_rests 15 = .ok (.iaload, 1) := by decide +kernel
theorem dX7_rests_16 : decode cX7_rests 16 = .ok (.istore 5, 2) := by decide +kernel
theorem dX7_rests_18 : decode cX7_rests 18 = .ok (.iload 5, 2) := by decide +kernel
theorem dX7_rests_20 : decode cX7_rests 20 = .ok (.ifCond .ne 6, 3) := by decide +kernel
theorem dX7_rests_23 : decode cX7_rests 23 = .ok (.goto 74, 3) := by decide +kernel
theorem dX7_rests_26 : decode cX7_rests 26 = .ok (.aload_n 0, 1) := by decide +kernel
theorem dX7_rests_27 : decode cX7_rests 27 = .ok (.getfield 43, 3) := by decide +kernel
theorem dX7_rests_30 : decode cX7_rests 30 = .ok (.iload 4, 2) := by decide +kernel
theorem dX7_rests_32 : decode cX7_rests 32 = .ok (.iconst 0, 1) := by decide +kernel
theorem dX7_rests_33 : decode cX7_rests 33 = .ok (.iastore, 1) := by decide +kernel
theorem dX7_rests_34 : decode cX7_rests 34 = .ok (.iconst 0, 1) := by decide +kernel
theorem dX7_rests_35 : decode cX7_rests 35 = .ok (.istore 6, 2) := by decide +kernel
theorem dX7_rests_37 : decode cX7_rests 37 = .ok (.iload 6, 2) := by decide +kernel
theorem dX7_rests_39 : decode cX7_rests 39 = .ok (.iload_n 3, 1) := by decide +kernel
theorem dX7_rests_40 : decode cX7_rests 40 = .ok (.if_icmp .ge 57, 3) := by decide +kernel
theorem dX7_rests_43 : decode cX7_rests 43 = .ok (.aload_n 0, 1) := by decide +kernel
theorem dX7_rests_44 : decode cX7_rests 44 = .ok (.getfield 43, 3) := by decide +kernel
theorem dX7_rests_47 : decode cX7_rests 47 = .ok (.iload 4, 2) := by decide +kernel
theorem dX7_rests_49 : decode cX7_rests 49 = .ok (.iload_n 3, 1) := by decide +kernel
theorem dX7_rests_50 : decode cX7_rests 50 = .ok (.isub, 1) := by decide +kernel
theorem dX7_rests_51 : decode cX7_rests 51 = .ok (.iload 6, 2) := by decide +kernel
theorem dX7_rests_53 : decode cX7_rests 53 = .ok (.iadd, 1) := by decide +kernel
theorem dX7_rests_54 : decode cX7_rests 54 = .ok (.aload_n 0, 1) := by decide +kernel
theorem dX7_rests_55 : decode cX7_rests 55 = .ok (.getfield 43, 3) := by decide +kernel
theorem dX7_rests_58 : decode cX7_rests 58 = .ok (.iload 4, 2) := by decide +kernel
theorem dX7_rests_60 : decode cX7_rests 60 = .ok (.iload_n 3, 1) := by decide +kernel
theorem dX7_rests_61 : decode cX7_rests 61 = .ok (.isub, 1) := by decide +kernel
theorem dX7_rests_62 : decode cX7_rests 62 = .ok (.iload 6, 2) := by decide +kernel
theorem dX7_rests_64 : decode cX7_rests 64 = .ok (.iadd, 1) := by decide +kernel
theorem dX7_rests_65 : decode cX7_rests 65 = .ok (.iaload, 1) := by decide +kernel
theorem dX7_rests_66 : decode cX7_rests 66 = .ok (.aload_n 0, 1) := by decide +kernel
theorem dX7_rests_67 : decode cX7_rests 67 = .ok (.getfield 68, 3) := by decide +kernel
theorem dX7_rests_70 : decode cX7_rests 70 = .ok (.iload_n 2, 1) := by decide +kernel
theorem dX7_rests_71 : decode cX7_rests 71 = .ok (.aload_n 0, 1) := by decide +kernel
theorem dX7_rests_72 : decode cX7_rests 72 = .ok (.getfield 68, 3) := by decide +kernel
theorem dX7_rests_75 : decode cX7_rests 75 = .ok (.iload 6, 2) := by decide +kernel
theorem dX7_rests_77 : decode cX7_rests 77 = .ok (.invokestatic 71, 3) := by decide +kernel
theorem dX7_rests_80 : decode cX7_rests 80 = .ok (.isub, 1) := by decide +kernel
theorem dX7_rests_81 : decode cX7_rests 81 = .ok (.iload 5, 2) := by decide +kernel
theorem dX7_rests_83 : decode cX7_rests 83 = .ok (.imul, 1) := by decide +kernel
theorem dX7_rests_84 : decode cX7_rests 84 = .ok (.iadd, 1) := by decide +kernel
theorem dX7_rests_85 : decode cX7_rests 85 = .ok (.aload_n 0, 1) := by decide +kernel
theorem dX7_rests_86 : decode cX7_rests 86 = .ok (.getfield 68, 3) := by decide +kernel
theorem dX7_rests_89 : decode cX7_rests 89 = .ok (.irem, 1) := by decide +kernel
theorem dX7_rests_90 : decode cX7_rests 90 = .ok (.iastore, 1) := by decide +kernel
theorem dX7_rests_91 : decode cX7_rests 91 = .ok (.iinc 6 1, 3) := by decide +kernel
theorem dX7_rests_94 : decode cX7_rests 94 = .ok (.goto (-57), 3) := by decide +kernel
theorem dX7_rests_97 : decode cX7_rests 97 = .ok (.iinc 4 (-1), 3) := by decide +kernel
theorem dX7_rests_100 : decode cX7_rests 100 = .ok (.goto (-97), 3) := by decide +kernel
theorem dX7_rests_103 : decode cX7_rests 103 = .ok (.return_, 1) := by decide +kernel
theorem dX7_isProduct_0 : decode cX7_isProduct 0 = .ok (.iconst 1, 1) := by decide +kernel
theorem dX7_isProduct_1 : decode cX7_isProduct 1 = .ok (.istore_n 2, 1) := by decide +kernel
theorem dX7_isProduct_2 : decode cX7_isProduct 2 = .ok (.iconst 2, 1) := by decide +kernel
theorem dX7_isProduct_3 : decode cX7_isProduct 3 = .ok (.iload_n 2, 1) := by decide +kernel
theorem dX7_isProduct_4 : decode cX7_isProduct 4 = .ok (.imul, 1) := by decide +kernel
theorem dX7_isProduct_5 : decode cX7_isProduct 5 = .ok (.aload_n 0, 1) := by decide +kernel
theorem dX7_isProduct_6 : decode cX7_isProduct 6 = .ok (.getfield 75, 3) := by decide +kernel
theorem dX7_isProduct_9 : decode cX7_isProduct 9 = .ok (.if_icmp .gt 131, 3) := by decide +kernel
theorem dX7_isProduct_12 : decode cX7_isProduct 12 = .ok (.iconst 0, 1) := by decide +kernel
theorem dX7_isProduct_13 : decode cX7_isProduct 13 = .ok (.istore_n 3, 1) := by decide +kernel
theorem dX7_isProduct_14 : decode cX7_isProduct 14 = .ok (.iload_n 3, 1) := by decide +kernel
theorem dX7_isProduct_15 : decode cX7_isProduct 15 = .ok (.aload_n 0, 1) := by decide +kernel
theorem dX7_isProduct_16 : decode cX7_isProduct 16 = .ok (.getfield 68, 3) := by decide +kernel
theorem dX7_isProduct_19 : decode cX7_isProduct 19 = .ok (.iload_n 2, 1) := by decide +kernel
theorem dX7_isProduct_20 : decode cX7_isProduct 20 = .ok (.invokestatic 78, 3) := by decide +kernel
theorem dX7_isProduct_23 : decode cX7_isProduct 23 = .ok (.if_icmp .ge 111, 3) := by decide +kernel
theorem dX7_isProduct_26 : decode cX7_isProduct 26 = .ok (.iconst 0, 1) := by decide +kernel
theorem dX7_isProduct_27 : decode cX7_isProduct 27 = .ok (.istore 4, 2) := by decide +kernel
theorem dX7_isProduct_29 : decode cX7_isProduct 29 = .ok (.iload 4, 2) := by decide +kernel
theorem dX7_isProduct_31 : decode cX7_isProduct 31 = .ok (.aload_n 0, 1) := by decide +kernel
theorem dX7_isProduct_32 : decode cX7_isProduct 32 = .ok (.getfield 75, 3) := by decide +kernel
theorem dX7_isProduct_35 : decode cX7_isProduct 35 = .ok (.if_icmp .ge 26, 3) := by decide +kernel
theorem dX7_isProduct_38 : decode cX7_isProduct 38 = .ok (.aload_n 0, 1) := by decide +kernel
theorem dX7_isProduct_39 : decode cX7_isProduct 39 = .ok (.getfield 43, 3) := by decide +kernel
theorem dX7_isProduct_42 : decode cX7_isProduct 42 = .ok (.iload 4, 2) := by decide +kernel
theorem dX7_isProduct_44 : decode cX7_isProduct 44 = .ok (.iload_n 1, 1) := by decide +kernel
theorem dX7_isProduct_45 : decode cX7_isProduct 45 = .ok (.aload_n 0, 1) := by decide +kernel
theorem dX7_isProduct_46 : decode cX7_isProduct 46 = .ok (.getfield 68, 3) := by decide +kernel
theorem dX7_isProduct_49 : decode cX7_isProduct 49 = .ok (.iload 4, 2) := by decide +kernel
theorem dX7_isProduct_51 : decode cX7_isProduct 51 = .ok (.invokestatic 71, 3) := by decide +kernel
theorem dX7_isProduct_54 : decode cX7_isProduct 54 = .ok (.iastore, 1) := by decide +kernel
theorem dX7_isProduct_55 : decode cX7_isProduct 55 = .ok (.iinc 4 1, 3) := by decide +kernel
theorem dX7_isProduct_58 : decode cX7_isProduct 58 = .ok (.goto (-29), 3) := by decide +kernel
theorem dX7_isProduct_61 : decode cX7_isProduct 61 = .ok (.aload_n 0, 1) := by decide +kernel
theorem dX7_isProduct_62 : decode cX7_isProduct 62 = .ok (.getfield 43, 3) := by decide +kernel
theorem dX7_isProduct_65 : decode cX7_isProduct 65 = .ok (.aload_n 0, 1) := by decide +kernel
theorem dX7_isProduct_66 : decode cX7_isProduct 66 = .ok (.getfield 75, 3) := by decide +kernel
theorem dX7_isProduct_69 : decode cX7_isProduct 69 = .ok (.iconst 1, 1) := by decide +kernel
theorem dX7_isProduct_70 : decode cX7_isProduct 70 = .ok (.iastore, 1) := by decide +kernel
theorem dX7_isProduct_71 : decode cX7_isProduct 71 = .ok (.aload_n 0, 1) := by decide +kernel
theorem dX7_isProduct_72 : decode cX7_isProduct 72 = .ok (.aload_n 0, 1) := by decide +kernel
theorem dX7_isProduct_73 : decode cX7_isProduct 73 = .ok (.getfield 75, 3) := by decide +kernel
theorem dX7_isProduct_76 : decode cX7_isProduct 76 = .ok (.iload_n 3, 1) := by decide +kernel
theorem dX7_isProduct_77 : decode cX7_isProduct 77 = .ok (.iload_n 2, 1) := by decide +kernel
theorem dX7_isProduct_78 : decode cX7_isProduct 78 = .ok (.invokevirtual 81, 3) := by decide +kernel
theorem dX7_isProduct_81 : decode cX7_isProduct 81 = .ok (.iconst 0, 1) := by decide +kernel
theorem dX7_isProduct_82 : decode cX7_isProduct 82 = .ok (.istore 4, 2) := by decide +kernel
theorem dX7_isProduct_84 : decode cX7_isProduct 84 = .ok (.iconst 0, 1) := by decide +kernel
theorem dX7_isProduct_85 : decode cX7_isProduct 85 = .ok (.istore 5, 2) := by decide +kernel
theorem dX7_isProduct_87 : decode cX7_isProduct 87 = .ok (.iload 5, 2) := by decide +kernel
theorem dX7_isProduct_89 : decode cX7_isProduct 89 = .ok (.iload_n 2, 1) := by decide +kernel
theorem dX7_isProduct_90 : decode cX7_isProduct 90 = .ok (.if_icmp .ge 31, 3) := by decide +kernel
theorem dX7_isProduct_93 : decode cX7_isProduct 93 = .ok (.iload 4, 2) := by decide +kernel
theorem dX7_isProduct_95 : decode cX7_isProduct 95 = .ok (.ifCond .ne 13, 3) := by decide +kernel
theorem dX7_isProduct_98 : decode cX7_isProduct 98 = .ok (.aload_n 0, 1) := by decide +kernel
theorem dX7_isProduct_99 : decode cX7_isProduct 99 = .ok (.getfield 43, 3) := by decide +kernel
theorem dX7_isProduct_102 : decode cX7_isProduct 102 = .ok (.iload 5, 2) := by decide +kernel
theorem dX7_isProduct_104 : decode cX7_isProduct 104 = .ok (.iaload, 1) := by decide +kernel
theorem dX7_isProduct_105 : decode cX7_isProduct 105 = .ok (.ifCond .eq 7, 3) := by decide +kernel
theorem dX7_isProduct_108 : decode cX7_isProduct 108 = .ok (.iconst 1, 1) := by decide +kernel
theorem dX7_isProduct_109 : decode cX7_isProduct 109 = .ok (.goto 4, 3) := by decide +kernel
theorem dX7_isProduct_112 : decode cX7_isProduct 112 = .ok (.iconst 0, 1) := by decide +kernel
theorem dX7_isProduct_113 : decode cX7_isProduct 113 = .ok (.istore 4, 2) := by decide +kernel
theorem dX7_isProduct_115 : decode cX7_isProduct 115 = .ok (.iinc 5 1, 3) := by decide +kernel
theorem dX7_isProduct_118 : decode cX7_isProduct 118 = .ok (.goto (-31), 3) := by decide +kernel
theorem dX7_isProduct_121 : decode cX7_isProduct 121 = .ok (.iload 4, 2) := by decide +kernel
theorem dX7_isProduct_123 : decode cX7_isProduct 123 = .ok (.ifCond .ne 5, 3) := by decide +kernel
theorem dX7_isProduct_126 : decode cX7_isProduct 126 = .ok (.iconst 1, 1) := by decide +kernel
theorem dX7_isProduct_127 : decode cX7_isProduct 127 = .ok (.ireturn, 1) := by decide +kernel
theorem dX7_isProduct_128 : decode cX7_isProduct 128 = .ok (.iinc 3 1, 3) := by decide +kernel
theorem dX7_isProduct_131 : decode cX7_isProduct 131 = .ok (.goto (-117), 3) := by decide +kernel
theorem dX7_isProduct_134 : decode cX7_isProduct 134 = .ok (.iinc 2 1, 3) := by decide +kernel
theorem dX7_isProduct_137 : decode cX7_isProduct 137 = .ok (.goto (-135), 3) := by decide +kernel
theorem dX7_isProduct_140 : decode cX7_isProduct 140 = .ok (.iconst 0, 1) := by decide +kernel
theorem dX7_isProduct_141 : decode cX7_isProduct 141 = .ok (.ireturn, 1) := by decide +kernel
theorem dX7_numberOf_0 : decode cX7_numberOf 0 = .ok (.iconst 0, 1) := by decide +kernel
theorem dX7_numberOf_1 : decode cX7_numberOf 1 = .ok (.istore_n 1, 1) := by decide +kernel
theorem dX7_numberOf_2 : decode cX7_numberOf 2 = .ok (.aload_n 0, 1) := by decide +kernel
theorem dX7_numberOf_3 : decode cX7_numberOf 3 = .ok (.getfield 75, 3) := by decide +kernel
theorem dX7_numberOf_6 : decode cX7_numberOf 6 = .ok (.iconst 1, 1) := by decide +kernel
theorem dX7_numberOf_7 : decode cX7_numberOf 7 = .ok (.isub, 1) := by decide +kernel
theorem dX7_numberOf_8 : decode cX7_numberOf 8 = .ok (.istore_n 2, 1) := by decide +kernel
theorem dX7_numberOf_9 : decode cX7_numberOf 9 = .ok (.iload_n 2, 1) := by decide +kernel
theorem dX7_numberOf_10 : decode cX7_numberOf 10 = .ok (.ifCond .lt 23, 3) := by decide +kernel
theorem dX7_numberOf_13 : decode cX7_numberOf 13 = .ok (.iload_n 1, 1) := by decide +kernel
theorem dX7_numberOf_14 : decode cX7_numberOf 14 = .ok (.aload_n 0, 1) := by decide +kernel
theorem dX7_numberOf_15 : decode cX7_numberOf 15 = .ok (.getfield 68, 3) := by decide +kernel
theorem dX7_numberOf_18 : decode cX7_numberOf 18 = .ok (.imul, 1) := by decide +kernel
theorem dX7_numberOf_19 : decode cX7_numberOf 19 = .ok (.aload_n 0, 1) := by decide +kernel
theorem dX7_numberOf_20 : decode cX7_numberOf 20 = .ok (.getfield 43, 3) := by decide +kernel
theorem dX7_numberOf_23 : decode cX7_numberOf 23 = .ok (.iload_n 2, 1) := by decide +kernel
theorem dX7_numberOf_24 : decode cX7_numberOf 24 = .ok (.iaload, 1) := by decide +kernel
theorem dX7_numberOf_25 : decode cX7_numberOf 25 = .ok (.iadd, 1) := by decide +kernel
theorem dX7_numberOf_26 : decode cX7_numberOf 26 = .ok (.istore_n 1, 1) := by decide +kernel
theorem dX7_numberOf_27 : decode cX7_numberOf 27 = .ok (.iinc 2 (-1), 3) := by decide +kernel
theorem dX7_numberOf_30 : decode cX7_numberOf 30 = .ok (.goto (-21), 3) := by decide +kernel
theorem dX7_numberOf_33 : decode cX7_numberOf 33 = .ok (.iload_n 1, 1) := by decide +kernel
theorem dX7_numberOf_34 : decode cX7_numberOf 34 = .ok (.ireturn, 1) := by decide +kernel
theorem dX7_summed_0 : decode cX7_summed 0 = .ok (.iconst 0, 1) := by decide +kernel
theorem dX7_summed_1 : decode cX7_summed 1 = .ok (.istore_n 3, 1) := by decide +kernel
theorem dX7_summed_2 : decode cX7_summed 2 = .ok (.iload_n 3, 1) := by decide +kernel
theorem dX7_summed_3 : decode cX7_summed 3 = .ok (.aload_n 0, 1) := by decide +kernel
theorem dX7_summed_4 : decode cX7_summed 4 = .ok (.getfield 75, 3) := by decide +kernel
theorem dX7_summed_7 : decode cX7_summed 7 = .ok (.if_icmp .ge 39, 3) := by decide +kernel
theorem dX7_summed_10 : decode cX7_summed 10 = .ok (.aload_n 0, 1) := by decide +kernel
theorem dX7_summed_11 : decode cX7_summed 11 = .ok (.getfield 43, 3) := by decide +kernel
theorem dX7_summed_14 : decode cX7_summed 14 = .ok (.iload_n 3, 1) := by decide +kernel
theorem dX7_summed_15 : decode cX7_summed 15 = .ok (.iload_n 1, 1) := by decide +kernel
theorem dX7_summed_16 : decode cX7_summed 16 = .ok (.aload_n 0, 1) := by decide +kernel
theorem dX7_summed_17 : decode cX7_summed 17 = .ok (.getfield 68, 3) := by decide +kernel
theorem dX7_summed_20 : decode cX7_summed 20 = .ok (.iload_n 3, 1) := by decide +kernel
theorem dX7_summed_21 : decode cX7_summed 21 = .ok (.invokestatic 71, 3) := by decide +kernel
theorem dX7_summed_24 : decode cX7_summed 24 = .ok (.iload_n 2, 1) := by decide +kernel
theorem dX7_summed_25 : decode cX7_summed 25 = .ok (.aload_n 0, 1) := by decide +kernel
theorem dX7_summed_26 : decode cX7_summed 26 = .ok (.getfield 68, 3) := by decide +kernel
theorem dX7_summed_29 : decode cX7_summed 29 = .ok (.iload_n 3, 1) := by decide +kernel
theorem dX7_summed_30 : decode cX7_summed 30 = .ok (.invokestatic 71, 3) := by decide +kernel
theorem dX7_summed_33 : decode cX7_summed 33 = .ok (.iadd, 1) := by decide +kernel
theorem dX7_summed_34 : decode cX7_summed 34 = .ok (.aload_n 0, 1) := by decide +kernel
theorem dX7_summed_35 : decode cX7_summed 35 = .ok (.getfield 68, 3) := by decide +kernel
theorem dX7_summed_38 : decode cX7_summed 38 = .ok (.irem, 1) := by decide +kernel
theorem dX7_summed_39 : decode cX7_summed 39 = .ok (.iastore, 1) := by decide +kernel
theorem dX7_summed_40 : decode cX7_summed 40 = .ok (.iinc 3 1, 3) := by decide +kernel
theorem dX7_summed_43 : decode cX7_summed 43 = .ok (.goto (-41), 3) := by decide +kernel
theorem dX7_summed_46 : decode cX7_summed 46 = .ok (.aload_n 0, 1) := by decide +kernel
theorem dX7_summed_47 : decode cX7_summed 47 = .ok (.invokevirtual 85, 3) := by decide +kernel
theorem dX7_summed_50 : decode cX7_summed 50 = .ok (.ireturn, 1) := by decide +kernel
theorem dX7_multiplied_0 : decode cX7_multiplied 0 = .ok (.iconst 0, 1) := by decide +kernel
theorem dX7_multiplied_1 : decode cX7_multiplied 1 = .ok (.istore_n 3, 1) := by decide +kernel
theorem dX7_multiplied_2 : decode cX7_multiplied 2 = .ok (.iload_n 3, 1) := by decide +kernel
theorem dX7_multiplied_3 : decode cX7_multiplied 3 = .ok (.iconst 2, 1) := by decide +kernel
theorem dX7_multiplied_4 : decode cX7_multiplied 4 = .ok (.aload_n 0, 1) := by decide +kernel
theorem dX7_multiplied_5 : decode cX7_multiplied 5 = .ok (.getfield 75, 3) := by decide +kernel
theorem dX7_multiplied_8 : decode cX7_multiplied 8 = .ok (.imul, 1) := by decide +kernel
theorem dX7_multiplied_9 : decode cX7_multiplied 9 = .ok (.if_icmp .ge 16, 3) := by decide +kernel
theorem dX7_multiplied_12 : decode cX7_multiplied 12 = .ok (.aload_n 0, 1) := by decide +kernel
theorem dX7_multiplied_13 : decode cX7_multiplied 13 = .ok (.getfield 43, 3) := by decide +kernel
theorem dX7_multiplied_16 : decode cX7_multiplied 16 = .ok (.iload_n 3, 1) := by decide +kernel
theorem dX7_multiplied_17 : decode cX7_multiplied 17 = .ok (.iconst 0, 1) := by decide +kernel
theorem dX7_multiplied_18 : decode cX7_multiplied 18 = .ok (.iastore, 1) := by decide +kernel
theorem dX7_multiplied_19 : decode cX7_multiplied 19 = .ok (.iinc 3 1, 3) := by decide +kernel
theorem dX7_multiplied_22 : decode cX7_multiplied 22 = .ok (.goto (-20), 3) := by decide +kernel
theorem dX7_multiplied_25 : decode cX7_multiplied 25 = .ok (.iconst 0, 1) := by decide +kernel
theorem dX7_multiplied_26 : decode cX7_multiplied 26 = .ok (.istore_n 3, 1) := by decide +kernel
theorem dX7_multiplied_27 : decode cX7_multiplied 27 = .ok (.iload_n 3, 1) := by decide +kernel
theorem dX7_multiplied_28 : decode cX7_multiplied 28 = .ok (.aload_n 0, 1) := by decide +kernel
theorem dX7_multiplied_29 : decode cX7_multiplied 29 = .ok (.getfield 75, 3) := by decide +kernel
theorem dX7_multiplied_32 : decode cX7_multiplied 32 = .ok (.if_icmp .ge 71, 3) := by decide +kernel
theorem dX7_multiplied_35 : decode cX7_multiplied 35 = .ok (.iconst 0, 1) := by decide +kernel
theorem dX7_multiplied_36 : decode cX7_multiplied 36 = .ok (.istore 4, 2) := by decide +kernel
theorem dX7_multiplied_38 : decode cX7_multiplied 38 = .ok (.iload 4, 2) := by decide +kernel
theorem dX7_multiplied_40 : decode cX7_multiplied 40 = .ok (.aload_n 0, 1) := by decide +kernel
theorem dX7_multiplied_41 : decode cX7_multiplied 41 = .ok (.getfield 75, 3) := by decide +kernel
theorem dX7_multiplied_44 : decode cX7_multiplied 44 = .ok (.if_icmp .ge 53, 3) := by decide +kernel
theorem dX7_multiplied_47 : decode cX7_multiplied 47 = .ok (.aload_n 0, 1) := by decide +kernel
theorem dX7_multiplied_48 : decode cX7_multiplied 48 = .ok (.getfield 43, 3) := by decide +kernel
theorem dX7_multiplied_51 : decode cX7_multiplied 51 = .ok (.iload_n 3, 1) := by decide +kernel
theorem dX7_multiplied_52 : decode cX7_multiplied 52 = .ok (.iload 4, 2) := by decide +kernel
theorem dX7_multiplied_54 : decode cX7_multiplied 54 = .ok (.iadd, 1) := by decide +kernel
theorem dX7_multiplied_55 : decode cX7_multiplied 55 = .ok (.aload_n 0, 1) := by decide +kernel
theorem dX7_multiplied_56 : decode cX7_multiplied 56 = .ok (.getfield 43, 3) := by decide +kernel
theorem dX7_multiplied_59 : decode cX7_multiplied 59 = .ok (.iload_n 3, 1) := by decide +kernel
theorem dX7_multiplied_60 : decode cX7_multiplied 60 = .ok (.iload 4, 2) := by decide +kernel
theorem dX7_multiplied_62 : decode cX7_multiplied 62 = .ok (.iadd, 1) := by decide +kernel
theorem dX7_multiplied_63 : decode cX7_multiplied 63 = .ok (.iaload, 1) := by decide +kernel
theorem dX7_multiplied_64 : decode cX7_multiplied 64 = .ok (.iload_n 1, 1) := by decide +kernel
theorem dX7_multiplied_65 : decode cX7_multiplied 65 = .ok (.aload_n 0, 1) := by decide +kernel
theorem dX7_multiplied_66 : decode cX7_multiplied 66 = .ok (.getfield 68, 3) := by decide +kernel
theorem dX7_multiplied_69 : decode cX7_multiplied 69 = .ok (.iload_n 3, 1) := by decide +kernel
theorem dX7_multiplied_70 : decode cX7_multiplied 70 = .ok (.invokestatic 71, 3) := by decide +kernel
theorem dX7_multiplied_73 : decode cX7_multiplied 73 = .ok (.iload_n 2, 1) := by decide +kernel
theorem dX7_multiplied_74 : decode cX7_multiplied 74 = .ok (.aload_n 0, 1) := by decide +kernel
theorem dX7_multiplied_75 : decode cX7_multiplied 75 = .ok (.getfield 68, 3) := by decide +kernel
theorem dX7_multiplied_78 : decode cX7_multiplied 78 = .ok (.iload 4, 2) := by decide +kernel
theorem dX7_multiplied_80 : decode cX7_multiplied 80 = .ok (.invokestatic 71, 3) := by decide +kernel
theorem dX7_multiplied_83 : decode cX7_multiplied 83 = .ok (.imul, 1) := by decide +kernel
theorem dX7_multiplied_84 : decode cX7_multiplied 84 = .ok (.iadd, 1) := by decide +kernel
theorem dX7_multiplied_85 : decode cX7_multiplied 85 = .ok (.aload_n 0, 1) := by decide +kernel
theorem dX7_multiplied_86 : decode cX7_multiplied 86 = .ok (.getfield 68, 3) := by decide +kernel
theorem dX7_multiplied_89 : decode cX7_multiplied 89 = .ok (.irem, 1) := by decide +kernel
theorem dX7_multiplied_90 : decode cX7_multiplied 90 = .ok (.iastore, 1) := by decide +kernel
theorem dX7_multiplied_91 : decode cX7_multiplied 91 = .ok (.iinc 4 1, 3) := by decide +kernel
theorem dX7_multiplied_94 : decode cX7_multiplied 94 = .ok (.goto (-56), 3) := by decide +kernel
theorem dX7_multiplied_97 : decode cX7_multiplied 97 = .ok (.iinc 3 1, 3) := by decide +kernel
theorem dX7_multiplied_100 : decode cX7_multiplied 100 = .ok (.goto (-73), 3) := by decide +kernel
theorem dX7_multiplied_103 : decode cX7_multiplied 103 = .ok (.aload_n 0, 1) := by decide +kernel
theorem dX7_multiplied_104 : decode cX7_multiplied 104 = .ok (.iconst 2, 1) := by decide +kernel
theorem dX7_multiplied_105 : decode cX7_multiplied 105 = .ok (.aload_n 0, 1) := by decide +kernel
theorem dX7_multiplied_106 : decode cX7_multiplied 106 = .ok (.getfield 75, 3) := by decide +kernel
theorem dX7_multiplied_109 : decode cX7_multiplied 109 = .ok (.imul, 1) := by decide +kernel
theorem dX7_multiplied_110 : decode cX7_multiplied 110 = .ok (.iconst 2, 1) := by decide +kernel
theorem dX7_multiplied_111 : decode cX7_multiplied 111 = .ok (.isub, 1) := by decide +kernel
theorem dX7_multiplied_112 : decode cX7_multiplied 112 = .ok (.aload_n 0, 1) := by decide +kernel
theorem dX7_multiplied_113 : decode cX7_multiplied 113 = .ok (.getfield 89, 3) := by decide +kernel
theorem dX7_multiplied_116 : decode cX7_multiplied 116 = .ok (.aload_n 0, 1) := by decide +kernel
theorem dX7_multiplied_117 : decode cX7_multiplied 117 = .ok (.getfield 75, 3) := by decide +kernel
theorem dX7_multiplied_120 : decode cX7_multiplied 120 = .ok (.invokevirtual 81, 3) := by decide +kernel
theorem dX7_multiplied_123 : decode cX7_multiplied 123 = .ok (.aload_n 0, 1) := by decide +kernel
theorem dX7_multiplied_124 : decode cX7_multiplied 124 = .ok (.invokevirtual 85, 3) := by decide +kernel
theorem dX7_multiplied_127 : decode cX7_multiplied 127 = .ok (.ireturn, 1) := by decide +kernel
theorem dX7_lays_0 : decode cX7_lays 0 = .ok (.aload_n 0, 1) := by decide +kernel
theorem dX7_lays_1 : decode cX7_lays 1 = .ok (.getfield 68, 3) := by decide +kernel
theorem dX7_lays_4 : decode cX7_lays 4 = .ok (.aload_n 1, 1) := by decide +kernel
theorem dX7_lays_5 : decode cX7_lays 5 = .ok (.iconst 0, 1) := by decide +kernel
theorem dX7_lays_6 : decode cX7_lays 6 = .ok (.iaload, 1) := by decide +kernel
theorem dX7_lays_7 : decode cX7_lays 7 = .ok (.if_icmp .ne 14, 3) := by decide +kernel
theorem dX7_lays_10 : decode cX7_lays 10 = .ok (.aload_n 0, 1) := by decide +kernel
theorem dX7_lays_11 : decode cX7_lays 11 = .ok (.getfield 75, 3) := by decide +kernel
theorem dX7_lays_14 : decode cX7_lays 14 = .ok (.aload_n 1, 1) := by decide +kernel
theorem dX7_lays_15 : decode cX7_lays 15 = .ok (.iconst 1, 1) := by decide +kernel
theorem dX7_lays_16 : decode cX7_lays 16 = .ok (.iaload, 1) := by decide +kernel
theorem dX7_lays_17 : decode cX7_lays 17 = .ok (.if_icmp .ne 4, 3) := by decide +kernel
theorem dX7_lays_20 : decode cX7_lays 20 = .ok (.return_, 1) := by decide +kernel
theorem dX7_lays_21 : decode cX7_lays 21 = .ok (.aload_n 0, 1) := by decide +kernel
theorem dX7_lays_22 : decode cX7_lays 22 = .ok (.aload_n 1, 1) := by decide +kernel
theorem dX7_lays_23 : decode cX7_lays 23 = .ok (.iconst 0, 1) := by decide +kernel
theorem dX7_lays_24 : decode cX7_lays 24 = .ok (.iaload, 1) := by decide +kernel
theorem dX7_lays_25 : decode cX7_lays 25 = .ok (.putfield 68, 3) := by decide +kernel
theorem dX7_lays_28 : decode cX7_lays 28 = .ok (.aload_n 0, 1) := by decide +kernel
theorem dX7_lays_29 : decode cX7_lays 29 = .ok (.aload_n 1, 1) := by decide +kernel
theorem dX7_lays_30 : decode cX7_lays 30 = .ok (.iconst 1, 1) := by decide +kernel
theorem dX7_lays_31 : decode cX7_lays 31 = .ok (.iaload, 1) := by decide +kernel
theorem dX7_lays_32 : decode cX7_lays 32 = .ok (.putfield 75, 3) := by decide +kernel
theorem dX7_lays_35 : decode cX7_lays 35 = .ok (.aload_n 0, 1) := by decide +kernel
theorem dX7_lays_36 : decode cX7_lays 36 = .ok (.aload_n 0, 1) := by decide +kernel
theorem dX7_lays_37 : decode cX7_lays 37 = .ok (.getfield 68, 3) := by decide +kernel
theorem dX7_lays_40 : decode cX7_lays 40 = .ok (.aload_n 0, 1) := by decide +kernel
theorem dX7_lays_41 : decode cX7_lays 41 = .ok (.getfield 75, 3) := by decide +kernel
theorem dX7_lays_44 : decode cX7_lays 44 = .ok (.invokestatic 78, 3) := by decide +kernel
theorem dX7_lays_47 : decode cX7_lays 47 = .ok (.putfield 92, 3) := by decide +kernel
theorem dX7_lays_50 : decode cX7_lays 50 = .ok (.aload_n 0, 1) := by decide +kernel
theorem dX7_lays_51 : decode cX7_lays 51 = .ok (.iconst 0, 1) := by decide +kernel
theorem dX7_lays_52 : decode cX7_lays 52 = .ok (.putfield 89, 3) := by decide +kernel
theorem dX7_lays_55 : decode cX7_lays 55 = .ok (.aload_n 0, 1) := by decide +kernel
theorem dX7_lays_56 : decode cX7_lays 56 = .ok (.getfield 75, 3) := by decide +kernel
theorem dX7_lays_59 : decode cX7_lays 59 = .ok (.iconst 1, 1) := by decide +kernel
theorem dX7_lays_60 : decode cX7_lays 60 = .ok (.if_icmp .le 27, 3) := by decide +kernel
theorem dX7_lays_63 : decode cX7_lays 63 = .ok (.aload_n 0, 1) := by decide +kernel
theorem dX7_lays_64 : decode cX7_lays 64 = .ok (.aload_n 0, 1) := by decide +kernel
theorem dX7_lays_65 : decode cX7_lays 65 = .ok (.getfield 89, 3) := by decide +kernel
theorem dX7_lays_68 : decode cX7_lays 68 = .ok (.invokevirtual 95, 3) := by decide +kernel
theorem dX7_lays_71 : decode cX7_lays 71 = .ok (.ifCond .eq 16, 3) := by decide +kernel
theorem dX7_lays_74 : decode cX7_lays 74 = .ok (.aload_n 0, 1) := by decide +kernel
theorem dX7_lays_75 : decode cX7_lays 75 = .ok (.dup, 1) := by decide +kernel
theorem dX7_lays_76 : decode cX7_lays 76 = .ok (.getfield 89, 3) := by decide +kernel
theorem dX7_lays_79 : decode cX7_lays 79 = .ok (.iconst 1, 1) := by decide +kernel
theorem dX7_lays_80 : decode cX7_lays 80 = .ok (.iadd, 1) := by decide +kernel
theorem dX7_lays_81 : decode cX7_lays 81 = .ok (.putfield 89, 3) := by decide +kernel
theorem dX7_lays_84 : decode cX7_lays 84 = .ok (.goto (-29), 3) := by decide +kernel
theorem dX7_lays_87 : decode cX7_lays 87 = .ok (.iconst 0, 1) := by decide +kernel
theorem dX7_lays_88 : decode cX7_lays 88 = .ok (.istore_n 2, 1) := by decide +kernel
theorem dX7_lays_89 : decode cX7_lays 89 = .ok (.iload_n 2, 1) := by decide +kernel
theorem dX7_lays_90 : decode cX7_lays 90 = .ok (.aload_n 0, 1) := by decide +kernel
theorem dX7_lays_91 : decode cX7_lays 91 = .ok (.getfield 92, 3) := by decide +kernel
theorem dX7_lays_94 : decode cX7_lays 94 = .ok (.if_icmp .ge 90, 3) := by decide +kernel
theorem dX7_lays_97 : decode cX7_lays 97 = .ok (.iconst 0, 1) := by decide +kernel
theorem dX7_lays_98 : decode cX7_lays 98 = .ok (.istore_n 3, 1) := by decide +kernel
theorem dX7_lays_99 : decode cX7_lays 99 = .ok (.iload_n 3, 1) := by decide +kernel
theorem dX7_lays_100 : decode cX7_lays 100 = .ok (.aload_n 0, 1) := by decide +kernel
theorem dX7_lays_101 : decode cX7_lays 101 = .ok (.getfield 92, 3) := by decide +kernel
theorem dX7_lays_104 : decode cX7_lays 104 = .ok (.if_icmp .ge 74, 3) := by decide +kernel
theorem dX7_lays_107 : decode cX7_lays 107 = .ok (.aload_n 0, 1) := by decide +kernel
theorem dX7_lays_108 : decode cX7_lays 108 = .ok (.getfield 31, 3) := by decide +kernel
theorem dX7_lays_111 : decode cX7_lays 111 = .ok (.iload_n 2, 1) := by decide +kernel
theorem dX7_lays_112 : decode cX7_lays 112 = .ok (.aaload, 1) := by decide +kernel
theorem dX7_lays_113 : decode cX7_lays 113 = .ok (.iload_n 3, 1) := by decide +kernel
theorem dX7_lays_114 : decode cX7_lays 114 = .ok (.aload_n 0, 1) := by decide +kernel
theorem dX7_lays_115 : decode cX7_lays 115 = .ok (.iload_n 2, 1) := by decide +kernel
theorem dX7_lays_116 : decode cX7_lays 116 = .ok (.iload_n 3, 1) := by decide +kernel
theorem dX7_lays_117 : decode cX7_lays 117 = .ok (.invokevirtual 99, 3) := by decide +kernel
theorem dX7_lays_120 : decode cX7_lays 120 = .ok (.iastore, 1) := by decide +kernel
theorem dX7_lays_121 : decode cX7_lays 121 = .ok (.aload_n 0, 1) := by decide +kernel
theorem dX7_lays_122 : decode cX7_lays 122 = .ok (.getfield 34, 3) := by decide +kernel
theorem dX7_lays_125 : decode cX7_lays 125 = .ok (.iload_n 2, 1) := by decide +kernel
theorem dX7_lays_126 : decode cX7_lays 126 = .ok (.aaload, 1) := by decide +kernel
theorem dX7_lays_127 : decode cX7_lays 127 = .ok (.iload_n 3, 1) := by decide +kernel
theorem dX7_lays_128 : decode cX7_lays 128 = .ok (.aload_n 0, 1) := by decide +kernel
theorem dX7_lays_129 : decode cX7_lays 129 = .ok (.iload_n 2, 1) := by decide +kernel
theorem dX7_lays_130 : decode cX7_lays 130 = .ok (.iload_n 3, 1) := by decide +kernel
theorem dX7_lays_131 : decode cX7_lays 131 = .ok (.invokevirtual 102, 3) := by decide +kernel
theorem dX7_lays_134 : decode cX7_lays 134 = .ok (.iastore, 1) := by decide +kernel
theorem dX7_lays_135 : decode cX7_lays 135 = .ok (.aload_n 0, 1) := by decide +kernel
theorem dX7_lays_136 : decode cX7_lays 136 = .ok (.getfield 31, 3) := by decide +kernel
theorem dX7_lays_139 : decode cX7_lays 139 = .ok (.iload_n 2, 1) := by decide +kernel
theorem dX7_lays_140 : decode cX7_lays 140 = .ok (.aaload, 1) := by decide +kernel
theorem dX7_lays_141 : decode cX7_lays 141 = .ok (.iload_n 3, 1) := by decide +kernel
theorem dX7_lays_142 : decode cX7_lays 142 = .ok (.iaload, 1) := by decide +kernel
theorem dX7_lays_143 : decode cX7_lays 143 = .ok (.ifCond .ne 10, 3) := by decide +kernel
theorem dX7_lays_146 : decode cX7_lays 146 = .ok (.aload_n 0, 1) := by decide +kernel
theorem dX7_lays_147 : decode cX7_lays 147 = .ok (.getfield 37, 3) := by decide +kernel
theorem dX7_lays_150 : decode cX7_lays 150 = .ok (.iload_n 2, 1) := by decide +kernel
theorem dX7_lays_151 : decode cX7_lays 151 = .ok (.iload_n 3, 1) := by decide +kernel
theorem dX7_lays_152 : decode cX7_lays 152 = .ok (.iastore, 1) := by decide +kernel
theorem dX7_lays_153 : decode cX7_lays 153 = .ok (.aload_n 0, 1) := by decide +kernel
theorem dX7_lays_154 : decode cX7_lays 154 = .ok (.getfield 34, 3) := by decide +kernel
theorem dX7_lays_157 : decode cX7_lays 157 = .ok (.iload_n 2, 1) := by decide +kernel
theorem dX7_lays_158 : decode cX7_lays 158 = .ok (.aaload, 1) := by decide +kernel
theorem dX7_lays_159 : decode cX7_lays 159 = .ok (.iload_n 3, 1) := by decide +kernel
theorem dX7_lays_160 : decode cX7_lays 160 = .ok (.iaload, 1) := by decide +kernel
theorem dX7_lays_161 : decode cX7_lays 161 = .ok (.iconst 1, 1) := by decide +kernel
theorem dX7_lays_162 : decode cX7_lays 162 = .ok (.if_icmp .ne 10, 3) := by decide +kernel
theorem dX7_lays_165 : decode cX7_lays 165 = .ok (.aload_n 0, 1) := by decide +kernel
theorem dX7_lays_166 : decode cX7_lays 166 = .ok (.getfield 40, 3) := by decide +kernel
theorem dX7_lays_169 : decode cX7_lays 169 = .ok (.iload_n 2, 1) := by decide +kernel
theorem dX7_lays_170 : decode cX7_lays 170 = .ok (.iload_n 3, 1) := by decide +kernel
theorem dX7_lays_171 : decode cX7_lays 171 = .ok (.iastore, 1) := by decide +kernel
theorem dX7_lays_172 : decode cX7_lays 172 = .ok (.iinc 3 1, 3) := by decide +kernel
theorem dX7_lays_175 : decode cX7_lays 175 = .ok (.goto (-76), 3) := by decide +kernel
theorem dX7_lays_178 : decode cX7_lays 178 = .ok (.iinc 2 1, 3) := by decide +kernel
theorem dX7_lays_181 : decode cX7_lays 181 = .ok (.goto (-92), 3) := by decide +kernel
theorem dX7_lays_184 : decode cX7_lays 184 = .ok (.return_, 1) := by decide +kernel
theorem dX7_raisedPoint_0 : decode cX7_raisedPoint 0 = .ok (.iconst 1, 1) := by decide +kernel
theorem dX7_raisedPoint_1 : decode cX7_raisedPoint 1 = .ok (.istore_n 3, 1) := by decide +kernel
theorem dX7_raisedPoint_2 : decode cX7_raisedPoint 2 = .ok (.iload_n 1, 1) := by decide +kernel
theorem dX7_raisedPoint_3 : decode cX7_raisedPoint 3 = .ok (.istore 4, 2) := by decide +kernel
theorem dX7_raisedPoint_5 : decode cX7_raisedPoint 5 = .ok (.iload_n 2, 1) := by decide +kernel
theorem dX7_raisedPoint_6 : decode cX7_raisedPoint 6 = .ok (.istore 5, 2) := by decide +kernel
theorem dX7_raisedPoint_8 : decode cX7_raisedPoint 8 = .ok (.iload 5, 2) := by decide +kernel
theorem dX7_raisedPoint_10 : decode cX7_raisedPoint 10 = .ok (.ifCond .le 42, 3) := by decide +kernel
theorem dX7_raisedPoint_13 : decode cX7_raisedPoint 13 = .ok (.iload 5, 2) := by decide +kernel
theorem dX7_raisedPoint_15 : decode cX7_raisedPoint 15 = .ok (.iconst 2, 1) := by decide +kernel
theorem dX7_raisedPoint_16 : decode cX7_raisedPoint 16 = .ok (.irem, 1) := by decide +kernel
theorem dX7_raisedPoint_17 : decode cX7_raisedPoint 17 = .ok (.iconst 1, 1) := by decide +kernel
theorem dX7_raisedPoint_18 : decode cX7_raisedPoint 18 = .ok (.if_icmp .ne 13, 3) := by decide +kernel
theorem dX7_raisedPoint_21 : decode cX7_raisedPoint 21 = .ok (.aload_n 0, 1) := by decide +kernel
theorem dX7_raisedPoint_22 : decode cX7_raisedPoint 22 = .ok (.getfield 34, 3) := by decide +kernel
theorem dX7_raisedPoint_25 : decode cX7_raisedPoint 25 = .ok (.iload_n 3, 1) := by decide +kernel
theorem dX7_raisedPoint_26 : decode cX7_raisedPoint 26 = .ok (.aaload, 1) := by decide +kernel
theorem dX7_raisedPoint_27 : decode cX7_raisedPoint 27 = .ok (.iload 4, 2) := by decide +kernel
theorem dX7_raisedPoint_29 : decode cX7_raisedPoint 29 = .ok (.iaload, 1) := by decide +kernel
theorem dX7_raisedPoint_30 : decode cX7_raisedPoint 30 = .ok (.istore_n 3, 1) := by decide +kernel
theorem dX7_raisedPoint_31 : decode cX7_raisedPoint 31 = .ok (.aload_n 0, 1) := by decide +kernel
theorem dX7_raisedPoint_32 : decode cX7_raisedPoint 32 = .ok (.getfield 34, 3) := by decide +kernel
theorem dX7_raisedPoint_35 : decode cX7_raisedPoint 35 = .ok (.iload 4, 2) := by decide +kernel
theorem dX7_raisedPoint_37 : decode cX7_raisedPoint 37 = .ok (.aaload, 1) := by decide +kernel
theorem dX7_raisedPoint_38 : decode cX7_raisedPoint 38 = .ok (.iload 4, 2) := by decide +kernel
theorem dX7_raisedPoint_40 : decode cX7_raisedPoint 40 = .ok (.iaload, 1) := by decide +kernel
theorem dX7_raisedPoint_41 : decode cX7_raisedPoint 41 = .ok (.istore 4, 2) := by decide +kernel
theorem dX7_raisedPoint_43 : decode cX7_raisedPoint 43 = .ok (.iload 5, 2) := by decide +kernel
theorem dX7_raisedPoint_45 : decode cX7_raisedPoint 45 = .ok (.iconst 2, 1) := by decide +kernel
theorem dX7_raisedPoint_46 : decode cX7_raisedPoint 46 = .ok (.idiv, 1) := by decide +kernel
theorem dX7_raisedPoint_47 : decode cX7_raisedPoint 47 = .ok (.istore 5, 2) := by decide +kernel
theorem dX7_raisedPoint_49 : decode cX7_raisedPoint 49 = .ok (.goto (-41), 3) := by decide +kernel
theorem dX7_raisedPoint_52 : decode cX7_raisedPoint 52 = .ok (.iload_n 3, 1) := by decide +kernel
theorem dX7_raisedPoint_53 : decode cX7_raisedPoint 53 = .ok (.ireturn, 1) := by decide +kernel
theorem dX7_apart_0 : decode cX7_apart 0 = .ok (.aload_n 0, 1) := by decide +kernel
theorem dX7_apart_1 : decode cX7_apart 1 = .ok (.getfield 31, 3) := by decide +kernel
theorem dX7_apart_4 : decode cX7_apart 4 = .ok (.iload_n 1, 1) := by decide +kernel
theorem dX7_apart_5 : decode cX7_apart 5 = .ok (.aaload, 1) := by decide +kernel
theorem dX7_apart_6 : decode cX7_apart 6 = .ok (.aload_n 0, 1) := by decide +kernel
theorem dX7_apart_7 : decode cX7_apart 7 = .ok (.getfield 37, 3) := by decide +kernel
theorem dX7_apart_10 : decode cX7_apart 10 = .ok (.iload_n 2, 1) := by decide +kernel
theorem dX7_apart_11 : decode cX7_apart 11 = .ok (.iaload, 1) := by decide +kernel
theorem dX7_apart_12 : decode cX7_apart 12 = .ok (.iaload, 1) := by decide +kernel
theorem dX7_apart_13 : decode cX7_apart 13 = .ok (.ireturn, 1) := by decide +kernel
theorem dX7_dickson_0 : decode cX7_dickson 0 = .ok (.aload_n 0, 1) := by decide +kernel
theorem dX7_dickson_1 : decode cX7_dickson 1 = .ok (.getfield 31, 3) := by decide +kernel
theorem dX7_dickson_4 : decode cX7_dickson 4 = .ok (.iconst 1, 1) := by decide +kernel
theorem dX7_dickson_5 : decode cX7_dickson 5 = .ok (.aaload, 1) := by decide +kernel
theorem dX7_dickson_6 : decode cX7_dickson 6 = .ok (.iconst 1, 1) := by decide +kernel
theorem dX7_dickson_7 : decode cX7_dickson 7 = .ok (.iaload, 1) := by decide +kernel
theorem dX7_dickson_8 : decode cX7_dickson 8 = .ok (.istore 4, 2) := by decide +kernel
theorem dX7_dickson_10 : decode cX7_dickson 10 = .ok (.iload_n 3, 1) := by decide +kernel
theorem dX7_dickson_11 : decode cX7_dickson 11 = .ok (.istore 5, 2) := by decide +kernel
theorem dX7_dickson_13 : decode cX7_dickson 13 = .ok (.iload_n 1, 1) := by decide +kernel
theorem dX7_dickson_14 : decode cX7_dickson 14 = .ok (.ifCond .ne 6, 3) := by decide +kernel
theorem dX7_dickson_17 : decode cX7_dickson 17 = .ok (.iload 4, 2) := by decide +kernel
theorem dX7_dickson_19 : decode cX7_dickson 19 = .ok (.ireturn, 1) := by decide +kernel
theorem dX7_dickson_20 : decode cX7_dickson 20 = .ok (.iconst 1, 1) := by decide +kernel
theorem dX7_dickson_21 : decode cX7_dickson 21 = .ok (.istore 6, 2) := by decide +kernel
theorem dX7_dickson_23 : decode cX7_dickson 23 = .ok (.iload 6, 2) := by decide +kernel
theorem dX7_dickson_25 : decode cX7_dickson 25 = .ok (.iload_n 1, 1) := by decide +kernel
theorem dX7_dickson_26 : decode cX7_dickson 26 = .ok (.if_icmp .ge 41, 3) := by decide +kernel
theorem dX7_dickson_29 : decode cX7_dickson 29 = .ok (.aload_n 0, 1) := by decide +kernel
theorem dX7_dickson_30 : decode cX7_dickson 30 = .ok (.aload_n 0, 1) := by decide +kernel
theorem dX7_dickson_31 : decode cX7_dickson 31 = .ok (.getfield 34, 3) := by decide +kernel
theorem dX7_dickson_34 : decode cX7_dickson 34 = .ok (.iload_n 3, 1) := by decide +kernel
theorem dX7_dickson_35 : decode cX7_dickson 35 = .ok (.aaload, 1) := by decide +kernel
theorem dX7_dickson_36 : decode cX7_dickson 36 = .ok (.iload 5, 2) := by decide +kernel
theorem dX7_dickson_38 : decode cX7_dickson 38 = .ok (.iaload, 1) := by decide +kernel
theorem dX7_dickson_39 : decode cX7_dickson 39 = .ok (.aload_n 0, 1) := by decide +kernel
theorem dX7_dickson_40 : decode cX7_dickson 40 = .ok (.getfield 34, 3) := by decide +kernel
theorem dX7_dickson_43 : decode cX7_dickson 43 = .ok (.iload_n 2, 1) := by decide +kernel
theorem dX7_dickson_44 : decode cX7_dickson 44 = .ok (.aaload, 1) := by decide +kernel
theorem dX7_dickson_45 : decode cX7_dickson 45 = .ok (.iload 4, 2) := by decide +kernel
theorem dX7_dickson_47 : decode cX7_dickson 47 = .ok (.iaload, 1) := by decide +kernel
theorem dX7_dickson_48 : decode cX7_dickson 48 = .ok (.invokevirtual 105, 3) := by decide +kernel
theorem dX7_dickson_51 : decode cX7_dickson 51 = .ok (.istore 7, 2) := by decide +kernel
theorem dX7_dickson_53 : decode cX7_dickson 53 = .ok (.iload 5, 2) := by decide +kernel
theorem dX7_dickson_55 : decode cX7_dickson 55 = .ok (.istore 4, 2) := by decide +kernel
theorem dX7_dickson_57 : decode cX7_dickson 57 = .ok (.iload 7, 2) := by decide +kernel
theorem dX7_dickson_59 : decode cX7_dickson 59 = .ok (.istore 5, 2) := by decide +kernel
theorem dX7_dickson_61 : decode cX7_dickson 61 = .ok (.iinc 6 1, 3) := by decide +kernel
theorem dX7_dickson_64 : decode cX7_dickson 64 = .ok (.goto (-41), 3) := by decide +kernel
theorem dX7_dickson_67 : decode cX7_dickson 67 = .ok (.iload 5, 2) := by decide +kernel
theorem dX7_dickson_69 : decode cX7_dickson 69 = .ok (.ireturn, 1) := by decide +kernel
theorem dX7_byteAt_0 : decode cX7_byteAt 0 = .ok (.iload_n 1, 1) := by decide +kernel
theorem dX7_byteAt_1 : decode cX7_byteAt 1 = .ok (.aload_n 0, 1) := by decide +kernel
theorem dX7_byteAt_2 : decode cX7_byteAt 2 = .ok (.getfield 108, 3) := by decide +kernel
theorem dX7_byteAt_5 : decode cX7_byteAt 5 = .ok (.if_icmp .lt 7, 3) := by decide +kernel
theorem dX7_byteAt_8 : decode cX7_byteAt 8 = .ok (.iconst (-1), 1) := by decide +kernel
theorem dX7_byteAt_9 : decode cX7_byteAt 9 = .ok (.goto 9, 3) := by decide +kernel
theorem dX7_byteAt_12 : decode cX7_byteAt 12 = .ok (.aload_n 0, 1) := by decide +kernel
theorem dX7_byteAt_13 : decode cX7_byteAt 13 = .ok (.getfield 17, 3) := by decide +kernel
theorem dX7_byteAt_16 : decode cX7_byteAt 16 = .ok (.iload_n 1, 1) := by decide +kernel
theorem dX7_byteAt_17 : decode cX7_byteAt 17 = .ok (.iaload, 1) := by decide +kernel
theorem dX7_byteAt_18 : decode cX7_byteAt 18 = .ok (.ireturn, 1) := by decide +kernel
theorem dX7_here_0 : decode cX7_here 0 = .ok (.aload_n 0, 1) := by decide +kernel
theorem dX7_here_1 : decode cX7_here 1 = .ok (.aload_n 0, 1) := by decide +kernel
theorem dX7_here_2 : decode cX7_here 2 = .ok (.getfield 111, 3) := by decide +kernel
theorem dX7_here_5 : decode cX7_here 5 = .ok (.invokevirtual 114, 3) := by decide +kernel
theorem dX7_here_8 : decode cX7_here 8 = .ok (.bipush 32, 2) := by decide +kernel
theorem dX7_here_10 : decode cX7_here 10 = .ok (.if_icmp .ne 16, 3) := by decide +kernel
theorem dX7_here_13 : decode cX7_here 13 = .ok (.aload_n 0, 1) := by decide +kernel
theorem dX7_here_14 : decode cX7_here 14 = .ok (.dup, 1) := by decide +kernel
theorem dX7_here_15 : decode cX7_here 15 = .ok (.getfield 111, 3) := by decide +kernel
theorem dX7_here_18 : decode cX7_here 18 = .ok (.iconst 1, 1) := by decide +kernel
theorem dX7_here_19 : decode cX7_here 19 = .ok (.iadd, 1) := by decide +kernel
theorem dX7_here_20 : decode cX7_here 20 = .ok (.putfield 111, 3) := by decide +kernel
theorem dX7_here_23 : decode cX7_here 23 = .ok (.goto (-23), 3) := by decide +kernel
theorem dX7_here_26 : decode cX7_here 26 = .ok (.aload_n 0, 1) := by decide +kernel
theorem dX7_here_27 : decode cX7_here 27 = .ok (.aload_n 0, 1) := by decide +kernel
theorem dX7_here_28 : decode cX7_here 28 = .ok (.getfield 111, 3) := by decide +kernel
theorem dX7_here_31 : decode cX7_here 31 = .ok (.invokevirtual 114, 3) := by decide +kernel
theorem dX7_here_34 : decode cX7_here 34 = .ok (.ireturn, 1) := by decide +kernel
theorem dX7_fine_0 : decode cX7_fine 0 = .ok (.aload_n 0, 1) := by decide +kernel
theorem dX7_fine_1 : decode cX7_fine 1 = .ok (.getfield 118, 3) := by decide +kernel
theorem dX7_fine_4 : decode cX7_fine 4 = .ok (.ifCond .ne 7, 3) := by decide +kernel
theorem dX7_fine_7 : decode cX7_fine 7 = .ok (.iconst 1, 1) := by decide +kernel
theorem dX7_fine_8 : decode cX7_fine 8 = .ok (.goto 4, 3) := by decide +kernel
theorem dX7_fine_11 : decode cX7_fine 11 = .ok (.iconst 0, 1) := by decide +kernel
theorem dX7_fine_12 : decode cX7_fine 12 = .ok (.ireturn, 1) := by decide +kernel
theorem dX7_wrong_0 : decode cX7_wrong 0 = .ok (.aload_n 0, 1) := by decide +kernel
theorem dX7_wrong_1 : decode cX7_wrong 1 = .ok (.getfield 118, 3) := by decide +kernel
theorem dX7_wrong_4 : decode cX7_wrong 4 = .ok (.ifCond .ne 13, 3) := by decide +kernel
theorem dX7_wrong_7 : decode cX7_wrong 7 = .ok (.aload_n 0, 1) := by decide +kernel
theorem dX7_wrong_8 : decode cX7_wrong 8 = .ok (.iload_n 1, 1) := by decide +kernel
theorem dX7_wrong_9 : decode cX7_wrong 9 = .ok (.putfield 118, 3) := by decide +kernel
theorem dX7_wrong_12 : decode cX7_wrong 12 = .ok (.aload_n 0, 1) := by decide +kernel
theorem dX7_wrong_13 : decode cX7_wrong 13 = .ok (.iload_n 2, 1) := by decide +kernel
theorem dX7_wrong_14 : decode cX7_wrong 14 = .ok (.putfield 121, 3) := by decide +kernel
theorem dX7_wrong_17 : decode cX7_wrong 17 = .ok (.return_, 1) := by decide +kernel
theorem dX7_isSmall_0 : decode cX7_isSmall 0 = .ok (.iload_n 0, 1) := by decide +kernel
theorem dX7_isSmall_1 : decode cX7_isSmall 1 = .ok (.bipush 97, 2) := by decide +kernel
theorem dX7_isSmall_3 : decode cX7_isSmall 3 = .ok (.if_icmp .lt 13, 3) := by decide +kernel
theorem dX7_isSmall_6 : decode cX7_isSmall 6 = .ok (.iload_n 0, 1) := by decide +kernel
theorem dX7_isSmall_7 : decode cX7_isSmall 7 = .ok (.bipush 122, 2) := by decide +kernel
theorem dX7_isSmall_9 : decode cX7_isSmall 9 = .ok (.if_icmp .gt 7, 3) := by decide +kernel
theorem dX7_isSmall_12 : decode cX7_isSmall 12 = .ok (.iconst 1, 1) := by decide +kernel
theorem dX7_isSmall_13 : decode cX7_isSmall 13 = .ok (.goto 4, 3) := by decide +kernel
theorem dX7_isSmall_16 : decode cX7_isSmall 16 = .ok (.iconst 0, 1) := by decide +kernel
theorem dX7_isSmall_17 : decode cX7_isSmall 17 = .ok (.ireturn, 1) := by decide +kernel
theorem dX7_isDigit_0 : decode cX7_isDigit 0 = .ok (.iload_n 0, 1) := by decide +kernel
theorem dX7_isDigit_1 : decode cX7_isDigit 1 = .ok (.bipush 48, 2) := by decide +kernel
theorem dX7_isDigit_3 : decode cX7_isDigit 3 = .ok (.if_icmp .lt 13, 3) := by decide +kernel
theorem dX7_isDigit_6 : decode cX7_isDigit 6 = .ok (.iload_n 0, 1) := by decide +kernel
theorem dX7_isDigit_7 : decode cX7_isDigit 7 = .ok (.bipush 57, 2) := by decide +kernel
theorem dX7_isDigit_9 : decode cX7_isDigit 9 = .ok (.if_icmp .gt 7, 3) := by decide +kernel
theorem dX7_isDigit_12 : decode cX7_isDigit 12 = .ok (.iconst 1, 1) := by decide +kernel
theorem dX7_isDigit_13 : decode cX7_isDigit 13 = .ok (.goto 4, 3) := by decide +kernel
theorem dX7_isDigit_16 : decode cX7_isDigit 16 = .ok (.iconst 0, 1) := by decide +kernel
theorem dX7_isDigit_17 : decode cX7_isDigit 17 = .ok (.ireturn, 1) := by decide +kernel
theorem dX7_takes_0 : decode cX7_takes 0 = .ok (.aload_n 0, 1) := by decide +kernel
theorem dX7_takes_1 : decode cX7_takes 1 = .ok (.invokevirtual 124, 3) := by decide +kernel
theorem dX7_takes_4 : decode cX7_takes 4 = .ok (.ifCond .ne 5, 3) := by decide +kernel
theorem dX7_takes_7 : decode cX7_takes 7 = .ok (.iconst 0, 1) := by decide +kernel
theorem dX7_takes_8 : decode cX7_takes 8 = .ok (.ireturn, 1) := by decide +kernel
theorem dX7_takes_9 : decode cX7_takes 9 = .ok (.aload_n 0, 1) := by decide +kernel
theorem dX7_takes_10 : decode cX7_takes 10 = .ok (.invokevirtual 128, 3) := by decide +kernel
theorem dX7_takes_13 : decode cX7_takes 13 = .ok (.pop, 1) := by decide +kernel
theorem dX7_takes_14 : decode cX7_takes 14 = .ok (.iconst 0, 1) := by decide +kernel
theorem dX7_takes_15 : decode cX7_takes 15 = .ok (.istore_n 2, 1) := by decide +kernel
theorem dX7_takes_16 : decode cX7_takes 16 = .ok (.iload_n 2, 1) := by decide +kernel
theorem dX7_takes_17 : decode cX7_takes 17 = .ok (.aload_n 1, 1) := by decide +kernel
theorem dX7_takes_18 : decode cX7_takes 18 = .ok (.invokevirtual 131, 3) := by decide +kernel
theorem dX7_takes_21 : decode cX7_takes 21 = .ok (.if_icmp .ge 27, 3) := by decide +kernel
theorem dX7_takes_24 : decode cX7_takes 24 = .ok (.aload_n 0, 1) := by decide +kernel
theorem dX7_takes_25 : decode cX7_takes 25 = .ok (.aload_n 0, 1) := by decide +kernel
theorem dX7_takes_26 : decode cX7_takes 26 = .ok (.getfield 111, 3) := by decide +kernel
theorem dX7_takes_29 : decode cX7_takes 29 = .ok (.iload_n 2, 1) := by decide +kernel
theorem dX7_takes_30 : decode cX7_takes 30 = .ok (.iadd, 1) := by decide +kernel
theorem dX7_takes_31 : decode cX7_takes 31 = .ok (.invokevirtual 114, 3) := by decide +kernel
theorem dX7_takes_34 : decode cX7_takes 34 = .ok (.aload_n 1, 1) := by decide +kernel
theorem dX7_takes_35 : decode cX7_takes 35 = .ok (.iload_n 2, 1) := by decide +kernel
theorem dX7_takes_36 : decode cX7_takes 36 = .ok (.invokevirtual 136, 3) := by decide +kernel
theorem dX7_takes_39 : decode cX7_takes 39 = .ok (.if_icmp .ne 9, 3) := by decide +kernel
theorem dX7_takes_42 : decode cX7_takes 42 = .ok (.iinc 2 1, 3) := by decide +kernel
theorem dX7_takes_45 : decode cX7_takes 45 = .ok (.goto (-29), 3) := by decide +kernel
theorem dX7_takes_48 : decode cX7_takes 48 = .ok (.iload_n 2, 1) := by decide +kernel
theorem dX7_takes_49 : decode cX7_takes 49 = .ok (.aload_n 1, 1) := by decide +kernel
theorem dX7_takes_50 : decode cX7_takes 50 = .ok (.invokevirtual 131, 3) := by decide +kernel
theorem dX7_takes_53 : decode cX7_takes 53 = .ok (.if_icmp .lt 19, 3) := by decide +kernel
theorem dX7_takes_56 : decode cX7_takes 56 = .ok (.aload_n 0, 1) := by decide +kernel
theorem dX7_takes_57 : decode cX7_takes 57 = .ok (.aload_n 0, 1) := by decide +kernel
theorem dX7_takes_58 : decode cX7_takes 58 = .ok (.getfield 111, 3) := by decide +kernel
theorem dX7_takes_61 : decode cX7_takes 61 = .ok (.iload_n 2, 1) := by decide +kernel
theorem dX7_takes_62 : decode cX7_takes 62 = .ok (.iadd, 1) := by decide +kernel
theorem dX7_takes_63 : decode cX7_takes 63 = .ok (.invokevirtual 114, 3) := by decide +kernel
theorem dX7_takes_66 : decode cX7_takes 66 = .ok (.invokestatic 140, 3) := by decide +kernel
theorem dX7_takes_69 : decode cX7_takes 69 = .ok (.ifCond .eq 5, 3) := by decide +kernel
theorem dX7_takes_72 : decode cX7_takes 72 = .ok (.iconst 0, 1) := by decide +kernel
theorem dX7_takes_73 : decode cX7_takes 73 = .ok (.ireturn, 1) := by decide +kernel
theorem dX7_takes_74 : decode cX7_takes 74 = .ok (.aload_n 0, 1) := by decide +kernel
theorem dX7_takes_75 : decode cX7_takes 75 = .ok (.dup, 1) := by decide +kernel
theorem dX7_takes_76 : decode cX7_takes 76 = .ok (.getfield 111, 3) := by decide +kernel
theorem dX7_takes_79 : decode cX7_takes 79 = .ok (.iload_n 2, 1) := by decide +kernel
theorem dX7_takes_80 : decode cX7_takes 80 = .ok (.iadd, 1) := by decide +kernel
theorem dX7_takes_81 : decode cX7_takes 81 = .ok (.putfield 111, 3) := by decide +kernel
theorem dX7_takes_84 : decode cX7_takes 84 = .ok (.iconst 1, 1) := by decide +kernel
theorem dX7_takes_85 : decode cX7_takes 85 = .ok (.ireturn, 1) := by decide +kernel
theorem dX7_must_0 : decode cX7_must 0 = .ok (.aload_n 0, 1) := by decide +kernel
theorem dX7_must_1 : decode cX7_must 1 = .ok (.invokevirtual 124, 3) := by decide +kernel
theorem dX7_must_4 : decode cX7_must 4 = .ok (.ifCond .ne 4, 3) := by decide +kernel
theorem dX7_must_7 : decode cX7_must 7 = .ok (.return_, 1) := by decide +kernel
theorem dX7_must_8 : decode cX7_must 8 = .ok (.aload_n 0, 1) := by decide +kernel
theorem dX7_must_9 : decode cX7_must 9 = .ok (.invokevirtual 128, 3) := by decide +kernel
theorem dX7_must_12 : decode cX7_must 12 = .ok (.iload_n 1, 1) := by decide +kernel
theorem dX7_must_13 : decode cX7_must 13 = .ok (.if_icmp .ne 16, 3) := by decide +kernel
theorem dX7_must_16 : decode cX7_must 16 = .ok (.aload_n 0, 1) := by decide +kernel
theorem dX7_must_17 : decode cX7_must 17 = .ok (.dup, 1) := by decide +kernel
theorem dX7_must_18 : decode cX7_must 18 = .ok (.getfield 111, 3) := by decide +kernel
theorem dX7_must_21 : decode cX7_must 21 = .ok (.iconst 1, 1) := by decide +kernel
theorem dX7_must_22 : decode cX7_must 22 = .ok (.iadd, 1) := by decide +kernel
theorem dX7_must_23 : decode cX7_must 23 = .ok (.putfield 111, 3) := by decide +kernel
theorem dX7_must_26 : decode cX7_must 26 = .ok (.goto 12, 3) := by decide +kernel
theorem dX7_must_29 : decode cX7_must 29 = .ok (.aload_n 0, 1) := by decide +kernel
theorem dX7_must_30 : decode cX7_must 30 = .ok (.iconst 1, 1) := by decide +kernel
theorem dX7_must_31 : decode cX7_must 31 = .ok (.aload_n 0, 1) := by decide +kernel
theorem dX7_must_32 : decode cX7_must 32 = .ok (.getfield 111, 3) := by decide +kernel
theorem dX7_must_35 : decode cX7_must 35 = .ok (.invokevirtual 143, 3) := by decide +kernel
theorem dX7_must_38 : decode cX7_must 38 = .ok (.return_, 1) := by decide +kernel
theorem dX7_number_0 : decode cX7_number 0 = .ok (.aload_n 0, 1) := by decide +kernel
theorem dX7_number_1 : decode cX7_number 1 = .ok (.invokevirtual 124, 3) := by decide +kernel
theorem dX7_number_4 : decode cX7_number 4 = .ok (.ifCond .ne 5, 3) := by decide +kernel
theorem dX7_number_7 : decode cX7_number 7 = .ok (.iconst 0, 1) := by decide +kernel
theorem dX7_number_8 : decode cX7_number 8 = .ok (.ireturn, 1) := by decide +kernel
theorem dX7_number_9 : decode cX7_number 9 = .ok (.aload_n 0, 1) := by decide +kernel
theorem dX7_number_10 : decode cX7_number 10 = .ok (.invokevirtual 128, 3) := by decide +kernel
theorem dX7_number_13 : decode cX7_number 13 = .ok (.invokestatic 147, 3) := by decide +kernel
theorem dX7_number_16 : decode cX7_number 16 = .ok (.ifCond .ne 14, 3) := by decide +kernel
theorem dX7_number_19 : decode cX7_number 19 = .ok (.aload_n 0, 1) := by decide +kernel
theorem dX7_number_20 : decode cX7_number 20 = .ok (.iconst 1, 1) := by decide +kernel
theorem dX7_number_21 : decode cX7_number 21 = .ok (.aload_n 0, 1) := by decide +kernel
theorem dX7_number_22 : decode cX7_number 22 = .ok (.getfield 111, 3) := by decide +kernel
theorem dX7_number_25 : decode cX7_number 25 = .ok (.invokevirtual 143, 3) := by decide +kernel
theorem dX7_number_28 : decode cX7_number 28 = .ok (.iconst 0, 1) := by decide +kernel
theorem dX7_number_29 : decode cX7_number 29 = .ok (.ireturn, 1) := by decide +kernel
theorem dX7_number_30 : decode cX7_number 30 = .ok (.aload_n 0, 1) := by decide +kernel
theorem dX7_number_31 : decode cX7_number 31 = .ok (.aload_n 0, 1) := by decide +kernel
theorem dX7_number_32 : decode cX7_number 32 = .ok (.getfield 111, 3) := by decide +kernel
theorem dX7_number_35 : decode cX7_number 35 = .ok (.putfield 150, 3) := by decide +kernel
theorem dX7_number_38 : decode cX7_number 38 = .ok (.iconst 0, 1) := by decide +kernel
theorem dX7_number_39 : decode cX7_number 39 = .ok (.istore_n 3, 1) := by decide +kernel
theorem dX7_number_40 : decode cX7_number 40 = .ok (.aload_n 0, 1) := by decide +kernel
theorem dX7_number_41 : decode cX7_number 41 = .ok (.aload_n 0, 1) := by decide +kernel
theorem dX7_number_42 : decode cX7_number 42 = .ok (.getfield 111, 3) := by decide +kernel
theorem dX7_number_45 : decode cX7_number 45 = .ok (.invokevirtual 114, 3) := by decide +kernel
theorem dX7_number_48 : decode cX7_number 48 = .ok (.invokestatic 147, 3) := by decide +kernel
theorem dX7_number_51 : decode cX7_number 51 = .ok (.ifCond .eq 38, 3) := by decide +kernel
theorem dX7_number_54 : decode cX7_number 54 = .ok (.ldc 153, 2) := by decide +kernel
theorem dX7_number_56 : decode cX7_number 56 = .ok (.bipush 10, 2) := by decide +kernel
theorem dX7_number_58 : decode cX7_number 58 = .ok (.iload_n 3, 1) := by decide +kernel
theorem dX7_number_59 : decode cX7_number 59 = .ok (.imul, 1) := by decide +kernel
theorem dX7_number_60 : decode cX7_number 60 = .ok (.aload_n 0, 1) := by decide +kernel
theorem dX7_number_61 : decode cX7_number 61 = .ok (.aload_n 0, 1) := by decide +kernel
theorem dX7_number_62 : decode cX7_number 62 = .ok (.getfield 111, 3) := by decide +kernel
theorem dX7_number_65 : decode cX7_number 65 = .ok (.invokevirtual 114, 3) := by decide +kernel
theorem dX7_number_68 : decode cX7_number 68 = .ok (.iadd, 1) := by decide +kernel
theorem dX7_number_69 : decode cX7_number 69 = .ok (.bipush 48, 2) := by decide +kernel
theorem dX7_number_71 : decode cX7_number 71 = .ok (.isub, 1) := by decide +kernel
theorem dX7_number_72 : decode cX7_number 72 = .ok (.invokestatic 64, 3) := by decide +kernel
theorem dX7_number_75 : decode cX7_number 75 = .ok (.istore_n 3, 1) := by decide +kernel
theorem dX7_number_76 : decode cX7_number 76 = .ok (.aload_n 0, 1) := by decide +kernel
theorem dX7_number_77 : decode cX7_number 77 = .ok (.dup, 1) := by decide +kernel
theorem dX7_number_78 : decode cX7_number 78 = .ok (.getfield 111, 3) := by decide +kernel
theorem dX7_number_81 : decode cX7_number 81 = .ok (.iconst 1, 1) := by decide +kernel
theorem dX7_number_82 : decode cX7_number 82 = .ok (.iadd, 1) := by decide +kernel
theorem dX7_number_83 : decode cX7_number 83 = .ok (.putfield 111, 3) := by decide +kernel
theorem dX7_number_86 : decode cX7_number 86 = .ok (.goto (-46), 3) := by decide +kernel
theorem dX7_number_89 : decode cX7_number 89 = .ok (.iload_n 3, 1) := by decide +kernel
theorem dX7_number_90 : decode cX7_number 90 = .ok (.i2l, 1) := by decide +kernel
theorem dX7_number_91 : decode cX7_number 91 = .ok (.iload_n 1, 1) := by decide +kernel
theorem dX7_number_92 : decode cX7_number 92 = .ok (.i2l, 1) := by decide +kernel
theorem dX7_number_93 : decode cX7_number 93 = .ok (.iload_n 2, 1) := by decide +kernel
theorem dX7_number_94 : decode cX7_number 94 = .ok (.i2l, 1) := by decide +kernel
theorem dX7_number_95 : decode cX7_number 95 = .ok (.invokestatic 154, 3) := by decide +kernel
theorem dX7_number_98 : decode cX7_number 98 = .ok (.ifCond .ne 12, 3) := by decide +kernel
theorem dX7_number_101 : decode cX7_number 101 = .ok (.aload_n 0, 1) := by decide +kernel
theorem dX7_number_102 : decode cX7_number 102 = .ok (.iconst 2, 1) := by decide +kernel
theorem dX7_number_103 : decode cX7_number 103 = .ok (.aload_n 0, 1) := by decide +kernel
theorem dX7_number_104 : decode cX7_number 104 = .ok (.getfield 150, 3) := by decide +kernel
theorem dX7_number_107 : decode cX7_number 107 = .ok (.invokevirtual 143, 3) := by decide +kernel
theorem dX7_number_110 : decode cX7_number 110 = .ok (.aload_n 0, 1) := by decide +kernel
theorem dX7_number_111 : decode cX7_number 111 = .ok (.invokevirtual 124, 3) := by decide +kernel
theorem dX7_number_114 : decode cX7_number 114 = .ok (.ifCond .eq 7, 3) := by decide +kernel
theorem dX7_number_117 : decode cX7_number 117 = .ok (.iload_n 3, 1) := by decide +kernel
theorem dX7_number_118 : decode cX7_number 118 = .ok (.goto 4, 3) := by decide +kernel
theorem dX7_number_121 : decode cX7_number 121 = .ok (.iconst 0, 1) := by decide +kernel
theorem dX7_number_122 : decode cX7_number 122 = .ok (.ireturn, 1) := by decide +kernel
theorem dX7_opens_0 : decode cX7_opens 0 = .ok (.aload_n 0, 1) := by decide +kernel
theorem dX7_opens_1 : decode cX7_opens 1 = .ok (.invokevirtual 128, 3) := by decide +kernel
theorem dX7_opens_4 : decode cX7_opens 4 = .ok (.bipush 40, 2) := by decide +kernel
theorem dX7_opens_6 : decode cX7_opens 6 = .ok (.if_icmp .ne 20, 3) := by decide +kernel
theorem dX7_opens_9 : decode cX7_opens 9 = .ok (.aload_n 0, 1) := by decide +kernel
theorem dX7_opens_10 : decode cX7_opens 10 = .ok (.getfield 158, 3) := by decide +kernel
theorem dX7_opens_13 : decode cX7_opens 13 = .ok (.iconst 4, 1) := by decide +kernel
theorem dX7_opens_14 : decode cX7_opens 14 = .ok (.if_icmp .ne 12, 3) := by decide +kernel
theorem dX7_opens_17 : decode cX7_opens 17 = .ok (.aload_n 0, 1) := by decide +kernel
theorem dX7_opens_18 : decode cX7_opens 18 = .ok (.iconst 4, 1) := by decide +kernel
theorem dX7_opens_19 : decode cX7_opens 19 = .ok (.aload_n 0, 1) := by decide +kernel
theorem dX7_opens_20 : decode cX7_opens 20 = .ok (.getfield 111, 3) := by decide +kernel
theorem dX7_opens_23 : decode cX7_opens 23 = .ok (.invokevirtual 143, 3) := by decide +kernel
theorem dX7_opens_26 : decode cX7_opens 26 = .ok (.aload_n 0, 1) := by decide +kernel
theorem dX7_opens_27 : decode cX7_opens 27 = .ok (.bipush 40, 2) := by decide +kernel
theorem dX7_opens_29 : decode cX7_opens 29 = .ok (.invokevirtual 161, 3) := by decide +kernel
theorem dX7_opens_32 : decode cX7_opens 32 = .ok (.aload_n 0, 1) := by decide +kernel
theorem dX7_opens_33 : decode cX7_opens 33 = .ok (.dup, 1) := by decide +kernel
theorem dX7_opens_34 : decode cX7_opens 34 = .ok (.getfield 158, 3) := by decide +kernel
theorem dX7_opens_37 : decode cX7_opens 37 = .ok (.iconst 1, 1) := by decide +kernel
theorem dX7_opens_38 : decode cX7_opens 38 = .ok (.iadd, 1) := by decide +kernel
theorem dX7_opens_39 : decode cX7_opens 39 = .ok (.putfield 158, 3) := by decide +kernel
theorem dX7_opens_42 : decode cX7_opens 42 = .ok (.return_, 1) := by decide +kernel
theorem dX7_closes_0 : decode cX7_closes 0 = .ok (.aload_n 0, 1) := by decide +kernel
theorem dX7_closes_1 : decode cX7_closes 1 = .ok (.bipush 41, 2) := by decide +kernel
theorem dX7_closes_3 : decode cX7_closes 3 = .ok (.invokevirtual 161, 3) := by decide +kernel
theorem dX7_closes_6 : decode cX7_closes 6 = .ok (.aload_n 0, 1) := by decide +kernel
theorem dX7_closes_7 : decode cX7_closes 7 = .ok (.dup, 1) := by decide +kernel
theorem dX7_closes_8 : decode cX7_closes 8 = .ok (.getfield 158, 3) := by decide +kernel
theorem dX7_closes_11 : decode cX7_closes 11 = .ok (.iconst 1, 1) := by decide +kernel
theorem dX7_closes_12 : decode cX7_closes 12 = .ok (.isub, 1) := by decide +kernel
theorem dX7_closes_13 : decode cX7_closes 13 = .ok (.putfield 158, 3) := by decide +kernel
theorem dX7_closes_16 : decode cX7_closes 16 = .ok (.return_, 1) := by decide +kernel
theorem dX7_row_0 : decode cX7_row 0 = .ok (.bipush 64, 2) := by decide +kernel
theorem dX7_row_2 : decode cX7_row 2 = .ok (.newarray .int, 2) := by decide +kernel
theorem dX7_row_4 : decode cX7_row 4 = .ok (.astore_n 2, 1) := by decide +kernel
theorem dX7_row_5 : decode cX7_row 5 = .ok (.iconst 0, 1) := by decide +kernel
theorem dX7_row_6 : decode cX7_row 6 = .ok (.istore_n 3, 1) := by decide +kernel
theorem dX7_row_7 : decode cX7_row 7 = .ok (.iload_n 3, 1) := by decide +kernel
theorem dX7_row_8 : decode cX7_row 8 = .ok (.aload_n 0, 1) := by decide +kernel
theorem dX7_row_9 : decode cX7_row 9 = .ok (.getfield 92, 3) := by decide +kernel
theorem dX7_row_12 : decode cX7_row 12 = .ok (.if_icmp .ge 22, 3) := by decide +kernel
theorem dX7_row_15 : decode cX7_row 15 = .ok (.aload_n 2, 1) := by decide +kernel
theorem dX7_row_16 : decode cX7_row 16 = .ok (.iload_n 3, 1) := by decide +kernel
theorem dX7_row_17 : decode cX7_row 17 = .ok (.iload_n 1, 1) := by decide +kernel
theorem dX7_row_18 : decode cX7_row 18 = .ok (.iconst (-1), 1) := by decide +kernel
theorem dX7_row_19 : decode cX7_row 19 = .ok (.if_icmp .ne 7, 3) := by decide +kernel
theorem dX7_row_22 : decode cX7_row 22 = .ok (.iload_n 3, 1) := by decide +kernel
theorem dX7_row_23 : decode cX7_row 23 = .ok (.goto 4, 3) := by decide +kernel
theorem dX7_row_26 : decode cX7_row 26 = .ok (.iload_n 1, 1) := by decide +kernel
theorem dX7_row_27 : decode cX7_row 27 = .ok (.iastore, 1) := by decide +kernel
theorem dX7_row_28 : decode cX7_row 28 = .ok (.iinc 3 1, 3) := by decide +kernel
theorem dX7_row_31 : decode cX7_row 31 = .ok (.goto (-24), 3) := by decide +kernel
theorem dX7_row_34 : decode cX7_row 34 = .ok (.aload_n 2, 1) := by decide +kernel
theorem dX7_row_35 : decode cX7_row 35 = .ok (.areturn, 1) := by decide +kernel
theorem dX7_part_0 : decode cX7_part 0 = .ok (.aload_n 0, 1) := by decide +kernel
theorem dX7_part_1 : decode cX7_part 1 = .ok (.invokevirtual 124, 3) := by decide +kernel
theorem dX7_part_4 : decode cX7_part 4 = .ok (.ifCond .ne 9, 3) := by decide +kernel
theorem dX7_part_7 : decode cX7_part 7 = .ok (.aload_n 0, 1) := by decide +kernel
theorem dX7_part_8 : decode cX7_part 8 = .ok (.iconst 0, 1) := by decide +kernel
theorem dX7_part_9 : decode cX7_part 9 = .ok (.invokevirtual 165, 3) := by decide +kernel
theorem dX7_part_12 : decode cX7_part 12 = .ok (.areturn, 1) := by decide +kernel
theorem dX7_part_13 : decode cX7_part 13 = .ok (.aload_n 0, 1) := by decide +kernel
theorem dX7_part_14 : decode cX7_part 14 = .ok (.invokevirtual 128, 3) := by decide +kernel
theorem dX7_part_17 : decode cX7_part 17 = .ok (.invokestatic 147, 3) := by decide +kernel
theorem dX7_part_20 : decode cX7_part 20 = .ok (.ifCond .eq 19, 3) := by decide +kernel
theorem dX7_part_23 : decode cX7_part 23 = .ok (.aload_n 0, 1) := by decide +kernel
theorem dX7_part_24 : decode cX7_part 24 = .ok (.aload_n 0, 1) := by decide +kernel
theorem dX7_part_25 : decode cX7_part 25 = .ok (.iconst 0, 1) := by decide +kernel
theorem dX7_part_26 : decode cX7_part 26 = .ok (.aload_n 0, 1) := by decide +kernel
theorem dX7_part_27 : decode cX7_part 27 = .ok (.getfield 92, 3) := by decide +kernel
theorem dX7_part_30 : decode cX7_part 30 = .ok (.iconst 1, 1) := by decide +kernel
theorem dX7_part_31 : decode cX7_part 31 = .ok (.isub, 1) := by decide +kernel
theorem dX7_part_32 : decode cX7_part 32 = .ok (.invokevirtual 169, 3) := by decide +kernel
theorem dX7_part_35 : decode cX7_part 35 = .ok (.invokevirtual 165, 3) := by decide +kernel
theorem dX7_part_38 : decode cX7_part 38 = .ok (.areturn, 1) := by decide +kernel
theorem dX7_part_39 : decode cX7_part 39 = .ok (.aload_n 0, 1) := by decide +kernel
theorem dX7_part_40 : decode cX7_part 40 = .ok (.ldc 172, 2) := by decide +kernel
theorem dX7_part_42 : decode cX7_part 42 = .ok (.invokevirtual 174, 3) := by decide +kernel
theorem dX7_part_45 : decode cX7_part 45 = .ok (.ifCond .eq 9, 3) := by decide +kernel
theorem dX7_part_48 : decode cX7_part 48 = .ok (.aload_n 0, 1) := by decide +kernel
theorem dX7_part_49 : decode cX7_part 49 = .ok (.iconst (-1), 1) := by decide +kernel
theorem dX7_part_50 : decode cX7_part 50 = .ok (.invokevirtual 165, 3) := by decide +kernel
theorem dX7_part_53 : decode cX7_part 53 = .ok (.areturn, 1) := by decide +kernel
theorem dX7_part_54 : decode cX7_part 54 = .ok (.aload_n 0, 1) := by decide +kernel
theorem dX7_part_55 : decode cX7_part 55 = .ok (.invokevirtual 128, 3) := by decide +kernel
theorem dX7_part_58 : decode cX7_part 58 = .ok (.bipush 40, 2) := by decide +kernel
theorem dX7_part_60 : decode cX7_part 60 = .ok (.if_icmp .ne 18, 3) := by decide +kernel
theorem dX7_part_63 : decode cX7_part 63 = .ok (.aload_n 0, 1) := by decide +kernel
theorem dX7_part_64 : decode cX7_part 64 = .ok (.invokevirtual 178, 3) := by decide +kernel
theorem dX7_part_67 : decode cX7_part 67 = .ok (.aload_n 0, 1) := by decide +kernel
theorem dX7_part_68 : decode cX7_part 68 = .ok (.invokevirtual 181, 3) := by decide +kernel
theorem dX7_part_71 : decode cX7_part 71 = .ok (.astore_n 1, 1) := by decide +kernel
theorem dX7_part_72 : decode cX7_part 72 = .ok (.aload_n 0, 1) := by decide +kernel
theorem dX7_part_73 : decode cX7_part 73 = .ok (.invokevirtual 185, 3) := by decide +kernel
theorem dX7_part_76 : decode cX7_part 76 = .ok (.aload_n 1, 1) := by decide +kernel
theorem dX7_part_77 : decode cX7_part 77 = .ok (.areturn, 1) := by decide +kernel
theorem dX7_part_78 : decode cX7_part 78 = .ok (.aload_n 0, 1) := by decide +kernel
theorem dX7_part_79 : decode cX7_part 79 = .ok (.iconst 0, 1) := by decide +kernel
theorem dX7_part_80 : decode cX7_part 80 = .ok (.invokevirtual 165, 3) := by decide +kernel
theorem dX7_part_83 : decode cX7_part 83 = .ok (.astore_n 1, 1) := by decide +kernel
theorem dX7_part_84 : decode cX7_part 84 = .ok (.aload_n 0, 1) := by decide +kernel
theorem dX7_part_85 : decode cX7_part 85 = .ok (.ldc 188, 2) := by decide +kernel
theorem dX7_part_87 : decode cX7_part 87 = .ok (.invokevirtual 174, 3) := by decide +kernel
theorem dX7_part_90 : decode cX7_part 90 = .ok (.ifCond .eq 78, 3) := by decide +kernel
theorem dX7_part_93 : decode cX7_part 93 = .ok (.aload_n 0, 1) := by decide +kernel
theorem dX7_part_94 : decode cX7_part 94 = .ok (.iconst 0, 1) := by decide +kernel
theorem dX7_part_95 : decode cX7_part 95 = .ok (.aload_n 0, 1) := by decide +kernel
theorem dX7_part_96 : decode cX7_part 96 = .ok (.getfield 23, 3) := by decide +kernel
theorem dX7_part_99 : decode cX7_part 99 = .ok (.iconst 2, 1) := by decide +kernel
theorem dX7_part_100 : decode cX7_part 100 = .ok (.iaload, 1) := by decide +kernel
theorem dX7_part_101 : decode cX7_part 101 = .ok (.iconst 1, 1) := by decide +kernel
theorem dX7_part_102 : decode cX7_part 102 = .ok (.isub, 1) := by decide +kernel
theorem dX7_part_103 : decode cX7_part 103 = .ok (.invokevirtual 169, 3) := by decide +kernel
theorem dX7_part_106 : decode cX7_part 106 = .ok (.istore_n 2, 1) := by decide +kernel
theorem dX7_part_107 : decode cX7_part 107 = .ok (.aload_n 0, 1) := by decide +kernel
theorem dX7_part_108 : decode cX7_part 108 = .ok (.invokevirtual 178, 3) := by decide +kernel
theorem dX7_part_111 : decode cX7_part 111 = .ok (.aload_n 0, 1) := by decide +kernel
theorem dX7_part_112 : decode cX7_part 112 = .ok (.invokevirtual 181, 3) := by decide +kernel
theorem dX7_part_115 : decode cX7_part 115 = .ok (.astore_n 3, 1) := by decide +kernel
theorem dX7_part_116 : decode cX7_part 116 = .ok (.aload_n 0, 1) := by decide +kernel
theorem dX7_part_117 : decode cX7_part 117 = .ok (.invokevirtual 185, 3) := by decide +kernel
theorem dX7_part_120 : decode cX7_part 120 = .ok (.iconst 0, 1) := by decide +kernel
theorem dX7_part_121 : decode cX7_part 121 = .ok (.istore 4, 2) := by decide +kernel
theorem dX7_part_123 : decode cX7_part 123 = .ok (.iload 4, 2) := by decide +kernel
theorem dX7_part_125 : decode cX7_part 125 = .ok (.aload_n 0, 1) := by decide +kernel
theorem dX7_part_126 : decode cX7_part 126 = .ok (.getfield 92, 3) := by decide +kernel
theorem dX7_part_129 : decode cX7_part 129 = .ok (.if_icmp .ge 36, 3) := by decide +kernel
theorem dX7_part_132 : decode cX7_part 132 = .ok (.aload_n 0, 1) := by decide +kernel
theorem dX7_part_133 : decode cX7_part 133 = .ok (.invokevirtual 124, 3) := by decide +kernel
theorem dX7_part_136 : decode cX7_part 136 = .ok (.ifCond .eq 29, 3) := by decide +kernel
theorem dX7_part_139 : decode cX7_part 139 = .ok (.aload_n 1, 1) := by decide +kernel
theorem dX7_part_140 : decode cX7_part 140 = .ok (.iload 4, 2) := by decide +kernel
theorem dX7_part_142 : decode cX7_part 142 = .ok (.aload_n 0, 1) := by decide +kernel
theorem dX7_part_143 : decode cX7_part 143 = .ok (.getfield 23, 3) := by decide +kernel
theorem dX7_part_146 : decode cX7_part 146 = .ok (.iconst 3, 1) := by decide +kernel
theorem dX7_part_147 : decode cX7_part 147 = .ok (.bipush 64, 2) := by decide +kernel
theorem dX7_part_149 : decode cX7_part 149 = .ok (.iload_n 2, 1) := by decide +kernel
theorem dX7_part_150 : decode cX7_part 150 = .ok (.imul, 1) := by decide +kernel
theorem dX7_part_151 : decode cX7_part 151 = .ok (.iadd, 1) := by decide +kernel
theorem dX7_part_152 : decode cX7_part 152 = .ok (.aload_n 3, 1) := by decide +kernel
theorem dX7_part_153 : decode cX7_part 153 = .ok (.iload 4, 2) := by decide +kernel
theorem dX7_part_155 : decode cX7_part 155 = .ok (.iaload, 1) := by decide +kernel
theorem dX7_part_156 : decode cX7_part 156 = .ok (.iadd, 1) := by decide +kernel
theorem dX7_part_157 : decode cX7_part 157 = .ok (.iaload, 1) := by decide +kernel
theorem dX7_part_158 : decode cX7_part 158 = .ok (.iastore, 1) := by decide +kernel
theorem dX7_part_159 : decode cX7_part 159 = .ok (.iinc 4 1, 3) := by decide +kernel
theorem dX7_part_162 : decode cX7_part 162 = .ok (.goto (-39), 3) := by decide +kernel
theorem dX7_part_165 : decode cX7_part 165 = .ok (.goto 82, 3) := by decide +kernel
theorem dX7_part_168 : decode cX7_part 168 = .ok (.aload_n 0, 1) := by decide +kernel
theorem dX7_part_169 : decode cX7_part 169 = .ok (.ldc 190, 2) := by decide +kernel
theorem dX7_part_171 : decode cX7_part 171 = .ok (.invokevirtual 174, 3) := by decide +kernel
theorem dX7_part_174 : decode cX7_part 174 = .ok (.ifCond .eq 64, 3) := by decide +kernel
theorem dX7_part_177 : decode cX7_part 177 = .ok (.aload_n 0, 1) := by decide +kernel
theorem dX7_part_178 : decode cX7_part 178 = .ok (.iconst 0, 1) := by decide +kernel
theorem dX7_part_179 : decode cX7_part 179 = .ok (.sipush 9999, 3) := by decide +kernel
theorem dX7_part_182 : decode cX7_part 182 = .ok (.invokevirtual 169, 3) := by decide +kernel
theorem dX7_part_185 : decode cX7_part 185 = .ok (.istore_n 2, 1) := by decide +kernel
theorem dX7_part_186 : decode cX7_part 186 = .ok (.aload_n 0, 1) := by decide +kernel
theorem dX7_part_187 : decode cX7_part 187 = .ok (.iconst 0, 1) := by decide +kernel
theorem dX7_part_188 : decode cX7_part 188 = .ok (.aload_n 0, 1) := by decide +kernel
theorem dX7_part_189 : decode cX7_part 189 = .ok (.getfield 92, 3) := by decide +kernel
theorem dX7_part_192 : decode cX7_part 192 = .ok (.iconst 1, 1) := by decide +kernel
theorem dX7_part_193 : decode cX7_part 193 = .ok (.isub, 1) := by decide +kernel
theorem dX7_part_194 : decode cX7_part 194 = .ok (.invokevirtual 169, 3) := by decide +kernel
theorem dX7_part_197 : decode cX7_part 197 = .ok (.istore_n 3, 1) := by decide +kernel
theorem dX7_part_198 : decode cX7_part 198 = .ok (.iconst 0, 1) := by decide +kernel
theorem dX7_part_199 : decode cX7_part 199 = .ok (.istore 4, 2) := by decide +kernel
theorem dX7_part_201 : decode cX7_part 201 = .ok (.iload 4, 2) := by decide +kernel
theorem dX7_part_203 : decode cX7_part 203 = .ok (.aload_n 0, 1) := by decide +kernel
theorem dX7_part_204 : decode cX7_part 204 = .ok (.getfield 92, 3) := by decide +kernel
theorem dX7_part_207 : decode cX7_part 207 = .ok (.if_icmp .ge 28, 3) := by decide +kernel
theorem dX7_part_210 : decode cX7_part 210 = .ok (.aload_n 0, 1) := by decide +kernel
theorem dX7_part_211 : decode cX7_part 211 = .ok (.invokevirtual 124, 3) := by decide +kernel
theorem dX7_part_214 : decode cX7_part 214 = .ok (.ifCond .eq 21, 3) := by decide +kernel
theorem dX7_part_217 : decode cX7_part 217 = .ok (.aload_n 1, 1) := by decide +kernel
theorem dX7_part_218 : decode cX7_part 218 = .ok (.iload 4, 2) := by decide +kernel
theorem dX7_part_220 : decode cX7_part 220 = .ok (.aload_n 0, 1) := by decide +kernel
theorem dX7_part_221 : decode cX7_part 221 = .ok (.iload_n 2, 1) := by decide +kernel
theorem dX7_part_222 : decode cX7_part 222 = .ok (.iload_n 3, 1) := by decide +kernel
theorem dX7_part_223 : decode cX7_part 223 = .ok (.iload 4, 2) := by decide +kernel
theorem dX7_part_225 : decode cX7_part 225 = .ok (.invokevirtual 192, 3) := by decide +kernel
theorem dX7_part_228 : decode cX7_part 228 = .ok (.iastore, 1) := by decide +kernel
theorem dX7_part_229 : decode cX7_part 229 = .ok (.iinc 4 1, 3) := by decide +kernel
theorem dX7_part_232 : decode cX7_part 232 = .ok (.goto (-31), 3) := by decide +kernel
theorem dX7_part_235 : decode cX7_part 235 = .ok (.goto 12, 3) := by decide +kernel
theorem dX7_part_238 : decode cX7_part 238 = .ok (.aload_n 0, 1) := by decide +kernel
theorem dX7_part_239 : decode cX7_part 239 = .ok (.iconst 1, 1) := by decide +kernel
theorem dX7_part_240 : decode cX7_part 240 = .ok (.aload_n 0, 1) := by decide +kernel
theorem dX7_part_241 : decode cX7_part 241 = .ok (.getfield 111, 3) := by decide +kernel
theorem dX7_part_244 : decode cX7_part 244 = .ok (.invokevirtual 143, 3) := by decide +kernel
theorem dX7_part_247 : decode cX7_part 247 = .ok (.aload_n 1, 1) := by decide +kernel
theorem dX7_part_248 : decode cX7_part 248 = .ok (.areturn, 1) := by decide +kernel
theorem dX7_unit_0 : decode cX7_unit 0 = .ok (.aload_n 0, 1) := by decide +kernel
theorem dX7_unit_1 : decode cX7_unit 1 = .ok (.invokevirtual 194, 3) := by decide +kernel
theorem dX7_unit_4 : decode cX7_unit 4 = .ok (.astore_n 1, 1) := by decide +kernel
theorem dX7_unit_5 : decode cX7_unit 5 = .ok (.aload_n 0, 1) := by decide +kernel
theorem dX7_unit_6 : decode cX7_unit 6 = .ok (.invokevirtual 124, 3) := by decide +kernel
theorem dX7_unit_9 : decode cX7_unit 9 = .ok (.ifCond .eq 12, 3) := by decide +kernel
theorem dX7_unit_12 : decode cX7_unit 12 = .ok (.aload_n 0, 1) := by decide +kernel
theorem dX7_unit_13 : decode cX7_unit 13 = .ok (.invokevirtual 128, 3) := by decide +kernel
theorem dX7_unit_16 : decode cX7_unit 16 = .ok (.bipush 94, 2) := by decide +kernel
theorem dX7_unit_18 : decode cX7_unit 18 = .ok (.if_icmp .eq 5, 3) := by decide +kernel
theorem dX7_unit_21 : decode cX7_unit 21 = .ok (.aload_n 1, 1) := by decide +kernel
theorem dX7_unit_22 : decode cX7_unit 22 = .ok (.areturn, 1) := by decide +kernel
theorem dX7_unit_23 : decode cX7_unit 23 = .ok (.aload_n 0, 1) := by decide +kernel
theorem dX7_unit_24 : decode cX7_unit 24 = .ok (.dup, 1) := by decide +kernel
theorem dX7_unit_25 : decode cX7_unit 25 = .ok (.getfield 111, 3) := by decide +kernel
theorem dX7_unit_28 : decode cX7_unit 28 = .ok (.iconst 1, 1) := by decide +kernel
theorem dX7_unit_29 : decode cX7_unit 29 = .ok (.iadd, 1) := by decide +kernel
theorem dX7_unit_30 : decode cX7_unit 30 = .ok (.putfield 111, 3) := by decide +kernel
theorem dX7_unit_33 : decode cX7_unit 33 = .ok (.aload_n 0, 1) := by decide +kernel
theorem dX7_unit_34 : decode cX7_unit 34 = .ok (.iconst 0, 1) := by decide +kernel
theorem dX7_unit_35 : decode cX7_unit 35 = .ok (.sipush 9999, 3) := by decide +kernel
theorem dX7_unit_38 : decode cX7_unit 38 = .ok (.invokevirtual 169, 3) := by decide +kernel
theorem dX7_unit_41 : decode cX7_unit 41 = .ok (.istore_n 2, 1) := by decide +kernel
theorem dX7_unit_42 : decode cX7_unit 42 = .ok (.iconst 0, 1) := by decide +kernel
theorem dX7_unit_43 : decode cX7_unit 43 = .ok (.istore_n 3, 1) := by decide +kernel
theorem dX7_unit_44 : decode cX7_unit 44 = .ok (.iload_n 3, 1) := by decide +kernel
theorem dX7_unit_45 : decode cX7_unit 45 = .ok (.aload_n 0, 1) := by decide +kernel
theorem dX7_unit_46 : decode cX7_unit 46 = .ok (.getfield 92, 3) := by decide +kernel
theorem dX7_unit_49 : decode cX7_unit 49 = .ok (.if_icmp .ge 20, 3) := by decide +kernel
theorem dX7_unit_52 : decode cX7_unit 52 = .ok (.aload_n 1, 1) := by decide +kernel
theorem dX7_unit_53 : decode cX7_unit 53 = .ok (.iload_n 3, 1) := by decide +kernel
theorem dX7_unit_54 : decode cX7_unit 54 = .ok (.aload_n 0, 1) := by decide +kernel
theorem dX7_unit_55 : decode cX7_unit 55 = .ok (.aload_n 1, 1) := by decide +kernel
theorem dX7_unit_56 : decode cX7_unit 56 = .ok (.iload_n 3, 1) := by decide +kernel
theorem dX7_unit_57 : decode cX7_unit 57 = .ok (.iaload, 1) := by decide +kernel
theorem dX7_unit_58 : decode cX7_unit 58 = .ok (.iload_n 2, 1) := by decide +kernel
theorem dX7_unit_59 : decode cX7_unit 59 = .ok (.invokevirtual 197, 3) := by decide +kernel
theorem dX7_unit_62 : decode cX7_unit 62 = .ok (.iastore, 1) := by decide +kernel
theorem dX7_unit_63 : decode cX7_unit 63 = .ok (.iinc 3 1, 3) := by decide +kernel
theorem dX7_unit_66 : decode cX7_unit 66 = .ok (.goto (-22), 3) := by decide +kernel
theorem dX7_unit_69 : decode cX7_unit 69 = .ok (.aload_n 1, 1) := by decide +kernel
theorem dX7_unit_70 : decode cX7_unit 70 = .ok (.areturn, 1) := by decide +kernel
theorem dX7_product_0 : decode cX7_product 0 = .ok (.aload_n 0, 1) := by decide +kernel
theorem dX7_product_1 : decode cX7_product 1 = .ok (.invokevirtual 200, 3) := by decide +kernel
theorem dX7_product_4 : decode cX7_product 4 = .ok (.astore_n 1, 1) := by decide +kernel
theorem dX7_product_5 : decode cX7_product 5 = .ok (.aload_n 0, 1) := by decide +kernel
theorem dX7_product_6 : decode cX7_product 6 = .ok (.invokevirtual 124, 3) := by decide +kernel
theorem dX7_product_9 : decode cX7_product 9 = .ok (.ifCond .eq 61, 3) := by decide +kernel
theorem dX7_product_12 : decode cX7_product 12 = .ok (.aload_n 0, 1) := by decide +kernel
theorem dX7_product_13 : decode cX7_product 13 = .ok (.invokevirtual 128, 3) := by decide +kernel
theorem dX7_product_16 : decode cX7_product 16 = .ok (.bipush 42, 2) := by decide +kernel
theorem dX7_product_18 : decode cX7_product 18 = .ok (.if_icmp .ne 52, 3) := by decide +kernel
theorem dX7_product_21 : decode cX7_product 21 = .ok (.aload_n 0, 1) := by decide +kernel
theorem dX7_product_22 : decode cX7_product 22 = .ok (.dup, 1) := by decide +kernel
theorem dX7_product_23 : decode cX7_product 23 = .ok (.getfield 111, 3) := by decide +kernel
theorem dX7_product_26 : decode cX7_product 26 = .ok (.iconst 1, 1) := by decide +kernel
theorem dX7_product_27 : decode cX7_product 27 = .ok (.iadd, 1) := by decide +kernel
theorem dX7_product_28 : decode cX7_product 28 = .ok (.putfield 111, 3) := by decide +kernel
theorem dX7_product_31 : decode cX7_product 31 = .ok (.aload_n 0, 1) := by decide +kernel
theorem dX7_product_32 : decode cX7_product 32 = .ok (.invokevirtual 200, 3) := by decide +kernel
theorem dX7_product_35 : decode cX7_product 35 = .ok (.astore_n 2, 1) := by decide +kernel
theorem dX7_product_36 : decode cX7_product 36 = .ok (.iconst 0, 1) := by decide +kernel
theorem dX7_product_37 : decode cX7_product 37 = .ok (.istore_n 3, 1) := by decide +kernel
theorem dX7_product_38 : decode cX7_product 38 = .ok (.iload_n 3, 1) := by decide +kernel
theorem dX7_product_39 : decode cX7_product 39 = .ok (.aload_n 0, 1) := by decide +kernel
theorem dX7_product_40 : decode cX7_product 40 = .ok (.getfield 92, 3) := by decide +kernel
theorem dX7_product_43 : decode cX7_product 43 = .ok (.if_icmp .ge 24, 3) := by decide +kernel
theorem dX7_product_46 : decode cX7_product 46 = .ok (.aload_n 1, 1) := by decide +kernel
theorem dX7_product_47 : decode cX7_product 47 = .ok (.iload_n 3, 1) := by decide +kernel
theorem dX7_product_48 : decode cX7_product 48 = .ok (.aload_n 0, 1) := by decide +kernel
theorem dX7_product_49 : decode cX7_product 49 = .ok (.getfield 34, 3) := by decide +kernel
theorem dX7_product_52 : decode cX7_product 52 = .ok (.aload_n 1, 1) := by decide +kernel
theorem dX7_product_53 : decode cX7_product 53 = .ok (.iload_n 3, 1) := by decide +kernel
theorem dX7_product_54 : decode cX7_product 54 = .ok (.iaload, 1) := by decide +kernel
theorem dX7_product_55 : decode cX7_product 55 = .ok (.aaload, 1) := by decide +kernel
theorem dX7_product_56 : decode cX7_product 56 = .ok (.aload_n 2, 1) := by decide +kernel
theorem dX7_product_57 : decode cX7_product 57 = .ok (.iload_n 3, 1) := by decide +kernel
theorem dX7_product_58 : decode cX7_product 58 = .ok (.iaload, 1) := by decide +kernel
theorem dX7_product_59 : decode cX7_product 59 = .ok (.iaload, 1) := by decide +kernel
theorem dX7_product_60 : decode cX7_product 60 = .ok (.iastore, 1) := by decide +kernel
theorem dX7_product_61 : decode cX7_product 61 = .ok (.iinc 3 1, 3) := by decide +kernel
theorem dX7_product_64 : decode cX7_product 64 = .ok (.goto (-26), 3) := by decide +kernel
theorem dX7_product_67 : decode cX7_product 67 = .ok (.goto (-62), 3) := by decide +kernel
theorem dX7_product_70 : decode cX7_product 70 = .ok (.aload_n 1, 1) := by decide +kernel
theorem dX7_product_71 : decode cX7_product 71 = .ok (.areturn, 1) := by decide +kernel
theorem dX7_sum_0 : decode cX7_sum 0 = .ok (.aload_n 0, 1) := by decide +kernel
theorem dX7_sum_1 : decode cX7_sum 1 = .ok (.invokevirtual 203, 3) := by decide +kernel
theorem dX7_sum_4 : decode cX7_sum 4 = .ok (.astore_n 1, 1) := by decide +kernel
theorem dX7_sum_5 : decode cX7_sum 5 = .ok (.aload_n 0, 1) := by decide +kernel
theorem dX7_sum_6 : decode cX7_sum 6 = .ok (.invokevirtual 124, 3) := by decide +kernel
theorem dX7_sum_9 : decode cX7_sum 9 = .ok (.ifCond .eq 109, 3) := by decide +kernel
theorem dX7_sum_12 : decode cX7_sum 12 = .ok (.aload_n 0, 1) := by decide +kernel
theorem dX7_sum_13 : decode cX7_sum 13 = .ok (.invokevirtual 128, 3) := by decide +kernel
theorem dX7_sum_16 : decode cX7_sum 16 = .ok (.bipush 43, 2) := by decide +kernel
theorem dX7_sum_18 : decode cX7_sum 18 = .ok (.if_icmp .eq 12, 3) := by decide +kernel
theorem dX7_sum_21 : decode cX7_sum 21 = .ok (.aload_n 0, 1) := by decide +kernel
theorem dX7_sum_22 : decode cX7_sum 22 = .ok (.invokevirtual 128, 3) := by decide +kernel
theorem dX7_sum_25 : decode cX7_sum 25 = .ok (.bipush 45, 2) := by decide +kernel
theorem dX7_sum_27 : decode cX7_sum 27 = .ok (.if_icmp .ne 91, 3) := by decide +kernel
theorem dX7_sum_30 : decode cX7_sum 30 = .ok (.aload_n 0, 1) := by decide +kernel
theorem dX7_sum_31 : decode cX7_sum 31 = .ok (.invokevirtual 128, 3) := by decide +kernel
theorem dX7_sum_34 : decode cX7_sum 34 = .ok (.bipush 43, 2) := by decide +kernel
theorem dX7_sum_36 : decode cX7_sum 36 = .ok (.if_icmp .ne 7, 3) := by decide +kernel
theorem dX7_sum_39 : decode cX7_sum 39 = .ok (.iconst 1, 1) := by decide +kernel
theorem dX7_sum_40 : decode cX7_sum 40 = .ok (.goto 4, 3) := by decide +kernel
theorem dX7_sum_43 : decode cX7_sum 43 = .ok (.iconst 0, 1) := by decide +kernel
theorem dX7_sum_44 : decode cX7_sum 44 = .ok (.istore_n 2, 1) := by decide +kernel
theorem dX7_sum_45 : decode cX7_sum 45 = .ok (.aload_n 0, 1) := by decide +kernel
theorem dX7_sum_46 : decode cX7_sum 46 = .ok (.dup, 1) := by decide +kernel
theorem dX7_sum_47 : decode cX7_sum 47 = .ok (.getfield 111, 3) := by decide +kernel
theorem dX7_sum_50 : decode cX7_sum 50 = .ok (.iconst 1, 1) := by decide +kernel
theorem dX7_sum_51 : decode cX7_sum 51 = .ok (.iadd, 1) := by decide +kernel
theorem dX7_sum_52 : decode cX7_sum 52 = .ok (.putfield 111, 3) := by decide +kernel
theorem dX7_sum_55 : decode cX7_sum 55 = .ok (.aload_n 0, 1) := by decide +kernel
theorem dX7_sum_56 : decode cX7_sum 56 = .ok (.invokevirtual 203, 3) := by decide +kernel
theorem dX7_sum_59 : decode cX7_sum 59 = .ok (.astore_n 3, 1) := by decide +kernel
theorem dX7_sum_60 : decode cX7_sum 60 = .ok (.iconst 0, 1) := by decide +kernel
theorem dX7_sum_61 : decode cX7_sum 61 = .ok (.istore 4, 2) := by decide +kernel
theorem dX7_sum_63 : decode cX7_sum 63 = .ok (.iload 4, 2) := by decide +kernel
theorem dX7_sum_65 : decode cX7_sum 65 = .ok (.aload_n 0, 1) := by decide +kernel
theorem dX7_sum_66 : decode cX7_sum 66 = .ok (.getfield 92, 3) := by decide +kernel
theorem dX7_sum_69 : decode cX7_sum 69 = .ok (.if_icmp .ge 46, 3) := by decide +kernel
theorem dX7_sum_72 : decode cX7_sum 72 = .ok (.aload_n 1, 1) := by decide +kernel
theorem dX7_sum_73 : decode cX7_sum 73 = .ok (.iload 4, 2) := by decide +kernel
theorem dX7_sum_75 : decode cX7_sum 75 = .ok (.iload_n 2, 1) := by decide +kernel
theorem dX7_sum_76 : decode cX7_sum 76 = .ok (.ifCond .eq 20, 3) := by decide +kernel
theorem dX7_sum_79 : decode cX7_sum 79 = .ok (.aload_n 0, 1) := by decide +kernel
theorem dX7_sum_80 : decode cX7_sum 80 = .ok (.getfield 31, 3) := by decide +kernel
theorem dX7_sum_83 : decode cX7_sum 83 = .ok (.aload_n 1, 1) := by decide +kernel
theorem dX7_sum_84 : decode cX7_sum 84 = .ok (.iload 4, 2) := by decide +kernel
theorem dX7_sum_86 : decode cX7_sum 86 = .ok (.iaload, 1) := by decide +kernel
theorem dX7_sum_87 : decode cX7_sum 87 = .ok (.aaload, 1) := by decide +kernel
theorem dX7_sum_88 : decode cX7_sum 88 = .ok (.aload_n 3, 1) := by decide +kernel
theorem dX7_sum_89 : decode cX7_sum 89 = .ok (.iload 4, 2) := by decide +kernel
theorem dX7_sum_91 : decode cX7_sum 91 = .ok (.iaload, 1) := by decide +kernel
theorem dX7_sum_92 : decode cX7_sum 92 = .ok (.iaload, 1) := by decide +kernel
theorem dX7_sum_93 : decode cX7_sum 93 = .ok (.goto 15, 3) := by decide +kernel
theorem dX7_sum_96 : decode cX7_sum 96 = .ok (.aload_n 0, 1) := by decide +kernel
theorem dX7_sum_97 : decode cX7_sum 97 = .ok (.aload_n 1, 1) := by decide +kernel
theorem dX7_sum_98 : decode cX7_sum 98 = .ok (.iload 4, 2) := by decide +kernel
theorem dX7_sum_100 : decode cX7_sum 100 = .ok (.iaload, 1) := by decide +kernel
theorem dX7_sum_101 : decode cX7_sum 101 = .ok (.aload_n 3, 1) := by decide +kernel
theorem dX7_sum_102 : decode cX7_sum 102 = .ok (.iload 4, 2) := by decide +kernel
theorem dX7_sum_104 : decode cX7_sum 104 = .ok (.iaload, 1) := by decide +kernel
theorem dX7_sum_105 : decode cX7_sum 105 = .ok (.invokevirtual 105, 3) := by decide +kernel
theorem dX7_sum_108 : decode cX7_sum 108 = .ok (.iastore, 1) := by decide +kernel
theorem dX7_sum_109 : decode cX7_sum 109 = .ok (.iinc 4 1, 3) := by decide +kernel
theorem dX7_sum_112 : decode cX7_sum 112 = .ok (.goto (-49), 3) := by decide +kernel
theorem dX7_sum_115 : decode cX7_sum 115 = .ok (.goto (-110), 3) := by decide +kernel
theorem dX7_sum_118 : decode cX7_sum 118 = .ok (.aload_n 1, 1) := by decide +kernel
theorem dX7_sum_119 : decode cX7_sum 119 = .ok (.areturn, 1) := by decide +kernel
theorem dX7_readsPoly_0 : decode cX7_readsPoly 0 = .ok (.aload_n 0, 1) := by decide +kernel
theorem dX7_readsPoly_1 : decode cX7_readsPoly 1 = .ok (.getfield 23, 3) := by decide +kernel
theorem dX7_readsPoly_4 : decode cX7_readsPoly 4 = .ok (.iconst 2, 1) := by decide +kernel
theorem dX7_readsPoly_5 : decode cX7_readsPoly 5 = .ok (.iaload, 1) := by decide +kernel
theorem dX7_readsPoly_6 : decode cX7_readsPoly 6 = .ok (.bipush 6, 2) := by decide +kernel
theorem dX7_readsPoly_8 : decode cX7_readsPoly 8 = .ok (.if_icmp .ne 9, 3) := by decide +kernel
theorem dX7_readsPoly_11 : decode cX7_readsPoly 11 = .ok (.aload_n 0, 1) := by decide +kernel
theorem dX7_readsPoly_12 : decode cX7_readsPoly 12 = .ok (.iconst 3, 1) := by decide +kernel
theorem dX7_readsPoly_13 : decode cX7_readsPoly 13 = .ok (.iload_n 1, 1) := by decide +kernel
theorem dX7_readsPoly_14 : decode cX7_readsPoly 14 = .ok (.invokevirtual 143, 3) := by decide +kernel
theorem dX7_readsPoly_17 : decode cX7_readsPoly 17 = .ok (.aload_n 0, 1) := by decide +kernel
theorem dX7_readsPoly_18 : decode cX7_readsPoly 18 = .ok (.iconst 0, 1) := by decide +kernel
theorem dX7_readsPoly_19 : decode cX7_readsPoly 19 = .ok (.putfield 158, 3) := by decide +kernel
theorem dX7_readsPoly_22 : decode cX7_readsPoly 22 = .ok (.aload_n 0, 1) := by decide +kernel
theorem dX7_readsPoly_23 : decode cX7_readsPoly 23 = .ok (.invokevirtual 181, 3) := by decide +kernel
theorem dX7_readsPoly_26 : decode cX7_readsPoly 26 = .ok (.astore_n 2, 1) := by decide +kernel
theorem dX7_readsPoly_27 : decode cX7_readsPoly 27 = .ok (.aload_n 0, 1) := by decide +kernel
theorem dX7_readsPoly_28 : decode cX7_readsPoly 28 = .ok (.bipush 59, 2) := by decide +kernel
theorem dX7_readsPoly_30 : decode cX7_readsPoly 30 = .ok (.invokevirtual 161, 3) := by decide +kernel
theorem dX7_readsPoly_33 : decode cX7_readsPoly 33 = .ok (.aload_n 0, 1) := by decide +kernel
theorem dX7_readsPoly_34 : decode cX7_readsPoly 34 = .ok (.invokevirtual 124, 3) := by decide +kernel
theorem dX7_readsPoly_37 : decode cX7_readsPoly 37 = .ok (.ifCond .ne 4, 3) := by decide +kernel
theorem dX7_readsPoly_40 : decode cX7_readsPoly 40 = .ok (.return_, 1) := by decide +kernel
theorem dX7_readsPoly_41 : decode cX7_readsPoly 41 = .ok (.iconst 0, 1) := by decide +kernel
theorem dX7_readsPoly_42 : decode cX7_readsPoly 42 = .ok (.istore_n 3, 1) := by decide +kernel
theorem dX7_readsPoly_43 : decode cX7_readsPoly 43 = .ok (.iload_n 3, 1) := by decide +kernel
theorem dX7_readsPoly_44 : decode cX7_readsPoly 44 = .ok (.aload_n 0, 1) := by decide +kernel
theorem dX7_readsPoly_45 : decode cX7_readsPoly 45 = .ok (.getfield 92, 3) := by decide +kernel
theorem dX7_readsPoly_48 : decode cX7_readsPoly 48 = .ok (.if_icmp .ge 30, 3) := by decide +kernel
theorem dX7_readsPoly_51 : decode cX7_readsPoly 51 = .ok (.aload_n 0, 1) := by decide +kernel
theorem dX7_readsPoly_52 : decode cX7_readsPoly 52 = .ok (.getfield 23, 3) := by decide +kernel
theorem dX7_readsPoly_55 : decode cX7_readsPoly 55 = .ok (.iconst 3, 1) := by decide +kernel
theorem dX7_readsPoly_56 : decode cX7_readsPoly 56 = .ok (.bipush 64, 2) := by decide +kernel
theorem dX7_readsPoly_58 : decode cX7_readsPoly 58 = .ok (.aload_n 0, 1) := by decide +kernel
theorem dX7_readsPoly_59 : decode cX7_readsPoly 59 = .ok (.getfield 23, 3) := by decide +kernel
theorem dX7_readsPoly_62 : decode cX7_readsPoly 62 = .ok (.iconst 2, 1) := by decide +kernel
theorem dX7_readsPoly_63 : decode cX7_readsPoly 63 = .ok (.iaload, 1) := by decide +kernel
theorem dX7_readsPoly_64 : decode cX7_readsPoly 64 = .ok (.imul, 1) := by decide +kernel
theorem dX7_readsPoly_65 : decode cX7_readsPoly 65 = .ok (.iadd, 1) := by decide +kernel
theorem dX7_readsPoly_66 : decode cX7_readsPoly 66 = .ok (.iload_n 3, 1) := by decide +kernel
theorem dX7_readsPoly_67 : decode cX7_readsPoly 67 = .ok (.iadd, 1) := by decide +kernel
theorem dX7_readsPoly_68 : decode cX7_readsPoly 68 = .ok (.aload_n 2, 1) := by decide +kernel
theorem dX7_readsPoly_69 : decode cX7_readsPoly 69 = .ok (.iload_n 3, 1) := by decide +kernel
theorem dX7_readsPoly_70 : decode cX7_readsPoly 70 = .ok (.iaload, 1) := by decide +kernel
theorem dX7_readsPoly_71 : decode cX7_readsPoly 71 = .ok (.iastore, 1) := by decide +kernel
theorem dX7_readsPoly_72 : decode cX7_readsPoly 72 = .ok (.iinc 3 1, 3) := by decide +kernel
theorem dX7_readsPoly_75 : decode cX7_readsPoly 75 = .ok (.goto (-32), 3) := by decide +kernel
theorem dX7_readsPoly_78 : decode cX7_readsPoly 78 = .ok (.aload_n 0, 1) := by decide +kernel
theorem dX7_readsPoly_79 : decode cX7_readsPoly 79 = .ok (.getfield 23, 3) := by decide +kernel
theorem dX7_readsPoly_82 : decode cX7_readsPoly 82 = .ok (.iconst 2, 1) := by decide +kernel
theorem dX7_readsPoly_83 : decode cX7_readsPoly 83 = .ok (.dup2, 1) := by decide +kernel
theorem dX7_readsPoly_84 : decode cX7_readsPoly 84 = .ok (.iaload, 1) := by decide +kernel
theorem dX7_readsPoly_85 : decode cX7_readsPoly 85 = .ok (.iconst 1, 1) := by decide +kernel
theorem dX7_readsPoly_86 : decode cX7_readsPoly 86 = .ok (.iadd, 1) := by decide +kernel
theorem dX7_readsPoly_87 : decode cX7_readsPoly 87 = .ok (.iastore, 1) := by decide +kernel
theorem dX7_readsPoly_88 : decode cX7_readsPoly 88 = .ok (.return_, 1) := by decide +kernel
theorem dX7_isPrime_0 : decode cX7_isPrime 0 = .ok (.iconst 2, 1) := by decide +kernel
theorem dX7_isPrime_1 : decode cX7_isPrime 1 = .ok (.istore_n 1, 1) := by decide +kernel
theorem dX7_isPrime_2 : decode cX7_isPrime 2 = .ok (.iload_n 1, 1) := by decide +kernel
theorem dX7_isPrime_3 : decode cX7_isPrime 3 = .ok (.iload_n 1, 1) := by decide +kernel
theorem dX7_isPrime_4 : decode cX7_isPrime 4 = .ok (.imul, 1) := by decide +kernel
theorem dX7_isPrime_5 : decode cX7_isPrime 5 = .ok (.iload_n 0, 1) := by decide +kernel
theorem dX7_isPrime_6 : decode cX7_isPrime 6 = .ok (.if_icmp .gt 17, 3) := by decide +kernel
theorem dX7_isPrime_9 : decode cX7_isPrime 9 = .ok (.iload_n 0, 1) := by decide +kernel
theorem dX7_isPrime_10 : decode cX7_isPrime 10 = .ok (.iload_n 1, 1) := by decide +kernel
theorem dX7_isPrime_11 : decode cX7_isPrime 11 = .ok (.irem, 1) := by decide +kernel
theorem dX7_isPrime_12 : decode cX7_isPrime 12 = .ok (.ifCond .ne 5, 3) := by decide +kernel
theorem dX7_isPrime_15 : decode cX7_isPrime 15 = .ok (.iconst 0, 1) := by decide +kernel
theorem dX7_isPrime_16 : decode cX7_isPrime 16 = .ok (.ireturn, 1) := by decide +kernel
theorem dX7_isPrime_17 : decode cX7_isPrime 17 = .ok (.iinc 1 1, 3) := by decide +kernel
theorem dX7_isPrime_20 : decode cX7_isPrime 20 = .ok (.goto (-18), 3) := by decide +kernel
theorem dX7_isPrime_23 : decode cX7_isPrime 23 = .ok (.iload_n 0, 1) := by decide +kernel
theorem dX7_isPrime_24 : decode cX7_isPrime 24 = .ok (.iconst 1, 1) := by decide +kernel
theorem dX7_isPrime_25 : decode cX7_isPrime 25 = .ok (.if_icmp .le 7, 3) := by decide +kernel
theorem dX7_isPrime_28 : decode cX7_isPrime 28 = .ok (.iconst 1, 1) := by decide +kernel
theorem dX7_isPrime_29 : decode cX7_isPrime 29 = .ok (.goto 4, 3) := by decide +kernel
theorem dX7_isPrime_32 : decode cX7_isPrime 32 = .ok (.iconst 0, 1) := by decide +kernel
theorem dX7_isPrime_33 : decode cX7_isPrime 33 = .ok (.ireturn, 1) := by decide +kernel
theorem dX7_readsField_0 : decode cX7_readsField 0 = .ok (.aload_n 0, 1) := by decide +kernel
theorem dX7_readsField_1 : decode cX7_readsField 1 = .ok (.ldc 206, 2) := by decide +kernel
theorem dX7_readsField_3 : decode cX7_readsField 3 = .ok (.invokevirtual 174, 3) := by decide +kernel
theorem dX7_readsField_6 : decode cX7_readsField 6 = .ok (.ifCond .ne 12, 3) := by decide +kernel
theorem dX7_readsField_9 : decode cX7_readsField 9 = .ok (.aload_n 0, 1) := by decide +kernel
theorem dX7_readsField_10 : decode cX7_readsField 10 = .ok (.iconst 1, 1) := by decide +kernel
theorem dX7_readsField_11 : decode cX7_readsField 11 = .ok (.aload_n 0, 1) := by decide +kernel
theorem dX7_readsField_12 : decode cX7_readsField 12 = .ok (.getfield 111, 3) := by decide +kernel
theorem dX7_readsField_15 : decode cX7_readsField 15 = .ok (.invokevirtual 143, 3) := by decide +kernel
theorem dX7_readsField_18 : decode cX7_readsField 18 = .ok (.aload_n 0, 1) := by decide +kernel
theorem dX7_readsField_19 : decode cX7_readsField 19 = .ok (.iconst 2, 1) := by decide +kernel
theorem dX7_readsField_20 : decode cX7_readsField 20 = .ok (.bipush 64, 2) := by decide +kernel
theorem dX7_readsField_22 : decode cX7_readsField 22 = .ok (.invokevirtual 169, 3) := by decide +kernel
theorem dX7_readsField_25 : decode cX7_readsField 25 = .ok (.istore_n 1, 1) := by decide +kernel
theorem dX7_readsField_26 : decode cX7_readsField 26 = .ok (.aload_n 0, 1) := by decide +kernel
theorem dX7_readsField_27 : decode cX7_readsField 27 = .ok (.invokevirtual 124, 3) := by decide +kernel
theorem dX7_readsField_30 : decode cX7_readsField 30 = .ok (.ifCond .eq 19, 3) := by decide +kernel
theorem dX7_readsField_33 : decode cX7_readsField 33 = .ok (.iload_n 1, 1) := by decide +kernel
theorem dX7_readsField_34 : decode cX7_readsField 34 = .ok (.invokestatic 208, 3) := by decide +kernel
theorem dX7_readsField_37 : decode cX7_readsField 37 = .ok (.ifCond .ne 12, 3) := by decide +kernel
theorem dX7_readsField_40 : decode cX7_readsField 40 = .ok (.aload_n 0, 1) := by decide +kernel
theorem dX7_readsField_41 : decode cX7_readsField 41 = .ok (.iconst 2, 1) := by decide +kernel
theorem dX7_readsField_42 : decode cX7_readsField 42 = .ok (.aload_n 0, 1) := by decide +kernel
theorem dX7_readsField_43 : decode cX7_readsField 43 = .ok (.getfield 150, 3) := by decide +kernel
theorem dX7_readsField_46 : decode cX7_readsField 46 = .ok (.invokevirtual 143, 3) := by decide +kernel
theorem dX7_readsField_49 : decode cX7_readsField 49 = .ok (.aload_n 0, 1) := by decide +kernel
theorem dX7_readsField_50 : decode cX7_readsField 50 = .ok (.iconst 1, 1) := by decide +kernel
theorem dX7_readsField_51 : decode cX7_readsField 51 = .ok (.bipush 6, 2) := by decide +kernel
theorem dX7_readsField_53 : decode cX7_readsField 53 = .ok (.invokevirtual 169, 3) := by decide +kernel
theorem dX7_readsField_56 : decode cX7_readsField 56 = .ok (.istore_n 2, 1) := by decide +kernel
theorem dX7_readsField_57 : decode cX7_readsField 57 = .ok (.aload_n 0, 1) := by decide +kernel
theorem dX7_readsField_58 : decode cX7_readsField 58 = .ok (.invokevirtual 124, 3) := by decide +kernel
theorem dX7_readsField_61 : decode cX7_readsField 61 = .ok (.ifCond .eq 22, 3) := by decide +kernel
theorem dX7_readsField_64 : decode cX7_readsField 64 = .ok (.iload_n 1, 1) := by decide +kernel
theorem dX7_readsField_65 : decode cX7_readsField 65 = .ok (.iload_n 2, 1) := by decide +kernel
theorem dX7_readsField_66 : decode cX7_readsField 66 = .ok (.invokestatic 78, 3) := by decide +kernel
theorem dX7_readsField_69 : decode cX7_readsField 69 = .ok (.bipush 64, 2) := by decide +kernel
theorem dX7_readsField_71 : decode cX7_readsField 71 = .ok (.if_icmp .le 12, 3) := by decide +kernel
theorem dX7_readsField_74 : decode cX7_readsField 74 = .ok (.aload_n 0, 1) := by decide +kernel
theorem dX7_readsField_75 : decode cX7_readsField 75 = .ok (.iconst 2, 1) := by decide +kernel
theorem dX7_readsField_76 : decode cX7_readsField 76 = .ok (.aload_n 0, 1) := by decide +kernel
theorem dX7_readsField_77 : decode cX7_readsField 77 = .ok (.getfield 150, 3) := by decide +kernel
theorem dX7_readsField_80 : decode cX7_readsField 80 = .ok (.invokevirtual 143, 3) := by decide +kernel
theorem dX7_readsField_83 : decode cX7_readsField 83 = .ok (.aload_n 0, 1) := by decide +kernel
theorem dX7_readsField_84 : decode cX7_readsField 84 = .ok (.bipush 59, 2) := by decide +kernel
theorem dX7_readsField_86 : decode cX7_readsField 86 = .ok (.invokevirtual 161, 3) := by decide +kernel
theorem dX7_readsField_89 : decode cX7_readsField 89 = .ok (.aload_n 0, 1) := by decide +kernel
theorem dX7_readsField_90 : decode cX7_readsField 90 = .ok (.invokevirtual 124, 3) := by decide +kernel
theorem dX7_readsField_93 : decode cX7_readsField 93 = .ok (.ifCond .ne 4, 3) := by decide +kernel
theorem dX7_readsField_96 : decode cX7_readsField 96 = .ok (.return_, 1) := by decide +kernel
theorem dX7_readsField_97 : decode cX7_readsField 97 = .ok (.aload_n 0, 1) := by decide +kernel
theorem dX7_readsField_98 : decode cX7_readsField 98 = .ok (.getfield 23, 3) := by decide +kernel
theorem dX7_readsField_101 : decode cX7_readsField 101 = .ok (.iconst 0, 1) := by decide +kernel
theorem dX7_readsField_102 : decode cX7_readsField 102 = .ok (.iload_n 1, 1) := by decide +kernel
theorem dX7_readsField_103 : decode cX7_readsField 103 = .ok (.iastore, 1) := by decide +kernel
theorem dX7_readsField_104 : decode cX7_readsField 104 = .ok (.aload_n 0, 1) := by decide +kernel
theorem dX7_readsField_105 : decode cX7_readsField 105 = .ok (.getfield 23, 3) := by decide +kernel
theorem dX7_readsField_108 : decode cX7_readsField 108 = .ok (.iconst 1, 1) := by decide +kernel
theorem dX7_readsField_109 : decode cX7_readsField 109 = .ok (.iload_n 2, 1) := by decide +kernel
theorem dX7_readsField_110 : decode cX7_readsField 110 = .ok (.iastore, 1) := by decide +kernel
theorem dX7_readsField_111 : decode cX7_readsField 111 = .ok (.aload_n 0, 1) := by decide +kernel
theorem dX7_readsField_112 : decode cX7_readsField 112 = .ok (.aload_n 0, 1) := by decide +kernel
theorem dX7_readsField_113 : decode cX7_readsField 113 = .ok (.getfield 23, 3) := by decide +kernel
theorem dX7_readsField_116 : decode cX7_readsField 116 = .ok (.invokevirtual 211, 3) := by decide +kernel
theorem dX7_readsField_119 : decode cX7_readsField 119 = .ok (.return_, 1) := by decide +kernel
theorem dX7_text_0 : decode cX7_text 0 = .ok (.aload_n 0, 1) := by decide +kernel
theorem dX7_text_1 : decode cX7_text 1 = .ok (.iconst 0, 1) := by decide +kernel
theorem dX7_text_2 : decode cX7_text 2 = .ok (.putfield 58, 3) := by decide +kernel
theorem dX7_text_5 : decode cX7_text 5 = .ok (.aload_n 0, 1) := by decide +kernel
theorem dX7_text_6 : decode cX7_text 6 = .ok (.iload_n 1, 1) := by decide +kernel
theorem dX7_text_7 : decode cX7_text 7 = .ok (.i2l, 1) := by decide +kernel
theorem dX7_text_8 : decode cX7_text 8 = .ok (.lconst 0, 1) := by decide +kernel
theorem dX7_text_9 : decode cX7_text 9 = .ok (.aload_n 0, 1) := by decide +kernel
theorem dX7_text_10 : decode cX7_text 10 = .ok (.getfield 61, 3) := by decide +kernel
theorem dX7_text_13 : decode cX7_text 13 = .ok (.i2l, 1) := by decide +kernel
theorem dX7_text_14 : decode cX7_text 14 = .ok (.invokestatic 154, 3) := by decide +kernel
theorem dX7_text_17 : decode cX7_text 17 = .ok (.ifCond .ne 7, 3) := by decide +kernel
theorem dX7_text_20 : decode cX7_text 20 = .ok (.iconst 1, 1) := by decide +kernel
theorem dX7_text_21 : decode cX7_text 21 = .ok (.goto 4, 3) := by decide +kernel
theorem dX7_text_24 : decode cX7_text 24 = .ok (.iconst 0, 1) := by decide +kernel
theorem dX7_text_25 : decode cX7_text 25 = .ok (.iconst 1, 1) := by decide +kernel
theorem dX7_text_26 : decode cX7_text 26 = .ok (.iconst 1, 1) := by decide +kernel
theorem dX7_text_27 : decode cX7_text 27 = .ok (.invokevirtual 215, 3) := by decide +kernel
theorem dX7_text_30 : decode cX7_text 30 = .ok (.ifCond .eq 5, 3) := by decide +kernel
theorem dX7_text_33 : decode cX7_text 33 = .ok (.iconst 0, 1) := by decide +kernel
theorem dX7_text_34 : decode cX7_text 34 = .ok (.ireturn, 1) := by decide +kernel
theorem dX7_text_35 : decode cX7_text 35 = .ok (.aload_n 0, 1) := by decide +kernel
theorem dX7_text_36 : decode cX7_text 36 = .ok (.iconst 0, 1) := by decide +kernel
theorem dX7_text_37 : decode cX7_text 37 = .ok (.putfield 61, 3) := by decide +kernel
theorem dX7_text_40 : decode cX7_text 40 = .ok (.aload_n 0, 1) := by decide +kernel
theorem dX7_text_41 : decode cX7_text 41 = .ok (.iload_n 1, 1) := by decide +kernel
theorem dX7_text_42 : decode cX7_text 42 = .ok (.putfield 108, 3) := by decide +kernel
theorem dX7_text_45 : decode cX7_text 45 = .ok (.aload_n 0, 1) := by decide +kernel
theorem dX7_text_46 : decode cX7_text 46 = .ok (.iconst 0, 1) := by decide +kernel
theorem dX7_text_47 : decode cX7_text 47 = .ok (.putfield 111, 3) := by decide +kernel
theorem dX7_text_50 : decode cX7_text 50 = .ok (.aload_n 0, 1) := by decide +kernel
theorem dX7_text_51 : decode cX7_text 51 = .ok (.iconst 0, 1) := by decide +kernel
theorem dX7_text_52 : decode cX7_text 52 = .ok (.putfield 118, 3) := by decide +kernel
theorem dX7_text_55 : decode cX7_text 55 = .ok (.aload_n 0, 1) := by decide +kernel
theorem dX7_text_56 : decode cX7_text 56 = .ok (.iconst (-1), 1) := by decide +kernel
theorem dX7_text_57 : decode cX7_text 57 = .ok (.putfield 121, 3) := by decide +kernel
theorem dX7_text_60 : decode cX7_text 60 = .ok (.iconst 0, 1) := by decide +kernel
theorem dX7_text_61 : decode cX7_text 61 = .ok (.istore_n 2, 1) := by decide +kernel
theorem dX7_text_62 : decode cX7_text 62 = .ok (.iload_n 2, 1) := by decide +kernel
theorem dX7_text_63 : decode cX7_text 63 = .ok (.sipush 387, 3) := by decide +kernel
theorem dX7_text_66 : decode cX7_text 66 = .ok (.if_icmp .ge 16, 3) := by decide +kernel
theorem dX7_text_69 : decode cX7_text 69 = .ok (.aload_n 0, 1) := by decide +kernel
theorem dX7_text_70 : decode cX7_text 70 = .ok (.getfield 23, 3) := by decide +kernel
theorem dX7_text_73 : decode cX7_text 73 = .ok (.iload_n 2, 1) := by decide +kernel
theorem dX7_text_74 : decode cX7_text 74 = .ok (.iconst 0, 1) := by decide +kernel
theorem dX7_text_75 : decode cX7_text 75 = .ok (.iastore, 1) := by decide +kernel
theorem dX7_text_76 : decode cX7_text 76 = .ok (.iinc 2 1, 3) := by decide +kernel
theorem dX7_text_79 : decode cX7_text 79 = .ok (.goto (-17), 3) := by decide +kernel
theorem dX7_text_82 : decode cX7_text 82 = .ok (.aload_n 0, 1) := by decide +kernel
theorem dX7_text_83 : decode cX7_text 83 = .ok (.invokevirtual 219, 3) := by decide +kernel
theorem dX7_text_86 : decode cX7_text 86 = .ok (.aload_n 0, 1) := by decide +kernel
theorem dX7_text_87 : decode cX7_text 87 = .ok (.invokevirtual 124, 3) := by decide +kernel
theorem dX7_text_90 : decode cX7_text 90 = .ok (.ifCond .eq 42, 3) := by decide +kernel
theorem dX7_text_93 : decode cX7_text 93 = .ok (.aload_n 0, 1) := by decide +kernel
theorem dX7_text_94 : decode cX7_text 94 = .ok (.invokevirtual 128, 3) := by decide +kernel
theorem dX7_text_97 : decode cX7_text 97 = .ok (.iconst (-1), 1) := by decide +kernel
theorem dX7_text_98 : decode cX7_text 98 = .ok (.if_icmp .eq 34, 3) := by decide +kernel
theorem dX7_text_101 : decode cX7_text 101 = .ok (.aload_n 0, 1) := by decide +kernel
theorem dX7_text_102 : decode cX7_text 102 = .ok (.getfield 111, 3) := by decide +kernel
theorem dX7_text_105 : decode cX7_text 105 = .ok (.istore_n 2, 1) := by decide +kernel
theorem dX7_text_106 : decode cX7_text 106 = .ok (.aload_n 0, 1) := by decide +kernel
theorem dX7_text_107 : decode cX7_text 107 = .ok (.ldc 222, 2) := by decide +kernel
theorem dX7_text_109 : decode cX7_text 109 = .ok (.invokevirtual 174, 3) := by decide +kernel
theorem dX7_text_112 : decode cX7_text 112 = .ok (.ifCond .eq 11, 3) := by decide +kernel
theorem dX7_text_115 : decode cX7_text 115 = .ok (.aload_n 0, 1) := by decide +kernel
theorem dX7_text_116 : decode cX7_text 116 = .ok (.iload_n 2, 1) := by decide +kernel
theorem dX7_text_117 : decode cX7_text 117 = .ok (.invokevirtual 224, 3) := by decide +kernel
theorem dX7_text_120 : decode cX7_text 120 = .ok (.goto 9, 3) := by decide +kernel
theorem dX7_text_123 : decode cX7_text 123 = .ok (.aload_n 0, 1) := by decide +kernel
theorem dX7_text_124 : decode cX7_text 124 = .ok (.iconst 1, 1) := by decide +kernel
theorem dX7_text_125 : decode cX7_text 125 = .ok (.iload_n 2, 1) := by decide +kernel
theorem dX7_text_126 : decode cX7_text 126 = .ok (.invokevirtual 143, 3) := by decide +kernel
theorem dX7_text_129 : decode cX7_text 129 = .ok (.goto (-43), 3) := by decide +kernel
theorem dX7_text_132 : decode cX7_text 132 = .ok (.aload_n 0, 1) := by decide +kernel
theorem dX7_text_133 : decode cX7_text 133 = .ok (.aload_n 0, 1) := by decide +kernel
theorem dX7_text_134 : decode cX7_text 134 = .ok (.getfield 121, 3) := by decide +kernel
theorem dX7_text_137 : decode cX7_text 137 = .ok (.putfield 13, 3) := by decide +kernel
theorem dX7_text_140 : decode cX7_text 140 = .ok (.aload_n 0, 1) := by decide +kernel
theorem dX7_text_141 : decode cX7_text 141 = .ok (.invokevirtual 124, 3) := by decide +kernel
theorem dX7_text_144 : decode cX7_text 144 = .ok (.ifCond .ne 11, 3) := by decide +kernel
theorem dX7_text_147 : decode cX7_text 147 = .ok (.aload_n 0, 1) := by decide +kernel
theorem dX7_text_148 : decode cX7_text 148 = .ok (.getfield 118, 3) := by decide +kernel
theorem dX7_text_151 : decode cX7_text 151 = .ok (.bipush 10, 2) := by decide +kernel
theorem dX7_text_153 : decode cX7_text 153 = .ok (.isub, 1) := by decide +kernel
theorem dX7_text_154 : decode cX7_text 154 = .ok (.ireturn, 1) := by decide +kernel
theorem dX7_text_155 : decode cX7_text 155 = .ok (.aload_n 0, 1) := by decide +kernel
theorem dX7_text_156 : decode cX7_text 156 = .ok (.invokevirtual 227, 3) := by decide +kernel
theorem dX7_text_159 : decode cX7_text 159 = .ok (.aload_n 0, 1) := by decide +kernel
theorem dX7_text_160 : decode cX7_text 160 = .ok (.getfield 23, 3) := by decide +kernel
theorem dX7_text_163 : decode cX7_text 163 = .ok (.aload_n 0, 1) := by decide +kernel
theorem dX7_text_164 : decode cX7_text 164 = .ok (.getfield 20, 3) := by decide +kernel
theorem dX7_text_167 : decode cX7_text 167 = .ok (.invokestatic 230, 3) := by decide +kernel
theorem dX7_text_170 : decode cX7_text 170 = .ok (.aload_n 0, 1) := by decide +kernel
theorem dX7_text_171 : decode cX7_text 171 = .ok (.getfield 20, 3) := by decide +kernel
theorem dX7_text_174 : decode cX7_text 174 = .ok (.iconst 2, 1) := by decide +kernel
theorem dX7_text_175 : decode cX7_text 175 = .ok (.iaload, 1) := by decide +kernel
theorem dX7_text_176 : decode cX7_text 176 = .ok (.ireturn, 1) := by decide +kernel
theorem dX7_fault_0 : decode cX7_fault 0 = .ok (.aload_n 0, 1) := by decide +kernel
theorem dX7_fault_1 : decode cX7_fault 1 = .ok (.iconst 0, 1) := by decide +kernel
theorem dX7_fault_2 : decode cX7_fault 2 = .ok (.putfield 58, 3) := by decide +kernel
theorem dX7_fault_5 : decode cX7_fault 5 = .ok (.aload_n 0, 1) := by decide +kernel
theorem dX7_fault_6 : decode cX7_fault 6 = .ok (.getfield 13, 3) := by decide +kernel
theorem dX7_fault_9 : decode cX7_fault 9 = .ok (.ireturn, 1) := by decide +kernel
theorem dX7_remembers_0 : decode cX7_remembers 0 = .ok (.aload_n 0, 1) := by decide +kernel
theorem dX7_remembers_1 : decode cX7_remembers 1 = .ok (.getfield 234, 3) := by decide +kernel
theorem dX7_remembers_4 : decode cX7_remembers 4 = .ok (.bipush 8, 2) := by decide +kernel
theorem dX7_remembers_6 : decode cX7_remembers 6 = .ok (.if_icmp .ne 44, 3) := by decide +kernel
theorem dX7_remembers_9 : decode cX7_remembers 9 = .ok (.iconst 1, 1) := by decide +kernel
theorem dX7_remembers_10 : decode cX7_remembers 10 = .ok (.istore_n 1, 1) := by decide +kernel
theorem dX7_remembers_11 : decode cX7_remembers 11 = .ok (.iload_n 1, 1) := by decide +kernel
theorem dX7_remembers_12 : decode cX7_remembers 12 = .ok (.bipush 8, 2) := by decide +kernel
theorem dX7_remembers_14 : decode cX7_remembers 14 = .ok (.if_icmp .ge 26, 3) := by decide +kernel
theorem dX7_remembers_17 : decode cX7_remembers 17 = .ok (.aload_n 0, 1) := by decide +kernel
theorem dX7_remembers_18 : decode cX7_remembers 18 = .ok (.getfield 28, 3) := by decide +kernel
theorem dX7_remembers_21 : decode cX7_remembers 21 = .ok (.iload_n 1, 1) := by decide +kernel
theorem dX7_remembers_22 : decode cX7_remembers 22 = .ok (.aaload, 1) := by decide +kernel
theorem dX7_remembers_23 : decode cX7_remembers 23 = .ok (.aload_n 0, 1) := by decide +kernel
theorem dX7_remembers_24 : decode cX7_remembers 24 = .ok (.getfield 28, 3) := by decide +kernel
theorem dX7_remembers_27 : decode cX7_remembers 27 = .ok (.iload_n 1, 1) := by decide +kernel
theorem dX7_remembers_28 : decode cX7_remembers 28 = .ok (.iconst 1, 1) := by decide +kernel
theorem dX7_remembers_29 : decode cX7_remembers 29 = .ok (.isub, 1) := by decide +kernel
theorem dX7_remembers_30 : decode cX7_remembers 30 = .ok (.aaload, 1) := by decide +kernel
theorem dX7_remembers_31 : decode cX7_remembers 31 = .ok (.invokestatic 230, 3) := by decide +kernel
theorem dX7_remembers_34 : decode cX7_remembers 34 = .ok (.iinc 1 1, 3) := by decide +kernel
theorem dX7_remembers_37 : decode cX7_remembers 37 = .ok (.goto (-26), 3) := by decide +kernel
theorem dX7_remembers_40 : decode cX7_remembers 40 = .ok (.aload_n 0, 1) := by decide +kernel
theorem dX7_remembers_41 : decode cX7_remembers 41 = .ok (.dup, 1) := by decide +kernel
theorem dX7_remembers_42 : decode cX7_remembers 42 = .ok (.getfield 234, 3) := by decide +kernel
theorem dX7_remembers_45 : decode cX7_remembers 45 = .ok (.iconst 1, 1) := by decide +kernel
theorem dX7_remembers_46 : decode cX7_remembers 46 = .ok (.isub, 1) := by decide +kernel
theorem dX7_remembers_47 : decode cX7_remembers 47 = .ok (.putfield 234, 3) := by decide +kernel
theorem dX7_remembers_50 : decode cX7_remembers 50 = .ok (.aload_n 0, 1) := by decide +kernel
theorem dX7_remembers_51 : decode cX7_remembers 51 = .ok (.getfield 20, 3) := by decide +kernel
theorem dX7_remembers_54 : decode cX7_remembers 54 = .ok (.aload_n 0, 1) := by decide +kernel
theorem dX7_remembers_55 : decode cX7_remembers 55 = .ok (.getfield 28, 3) := by decide +kernel
theorem dX7_remembers_58 : decode cX7_remembers 58 = .ok (.aload_n 0, 1) := by decide +kernel
theorem dX7_remembers_59 : decode cX7_remembers 59 = .ok (.getfield 234, 3) := by decide +kernel
theorem dX7_remembers_62 : decode cX7_remembers 62 = .ok (.aaload, 1) := by decide +kernel
theorem dX7_remembers_63 : decode cX7_remembers 63 = .ok (.invokestatic 230, 3) := by decide +kernel
theorem dX7_remembers_66 : decode cX7_remembers 66 = .ok (.aload_n 0, 1) := by decide +kernel
theorem dX7_remembers_67 : decode cX7_remembers 67 = .ok (.dup, 1) := by decide +kernel
theorem dX7_remembers_68 : decode cX7_remembers 68 = .ok (.getfield 234, 3) := by decide +kernel
theorem dX7_remembers_71 : decode cX7_remembers 71 = .ok (.iconst 1, 1) := by decide +kernel
theorem dX7_remembers_72 : decode cX7_remembers 72 = .ok (.iadd, 1) := by decide +kernel
theorem dX7_remembers_73 : decode cX7_remembers 73 = .ok (.putfield 234, 3) := by decide +kernel
theorem dX7_remembers_76 : decode cX7_remembers 76 = .ok (.return_, 1) := by decide +kernel
theorem dX7_undo_0 : decode cX7_undo 0 = .ok (.aload_n 0, 1) := by decide +kernel
theorem dX7_undo_1 : decode cX7_undo 1 = .ok (.iconst 0, 1) := by decide +kernel
theorem dX7_undo_2 : decode cX7_undo 2 = .ok (.putfield 58, 3) := by decide +kernel
theorem dX7_undo_5 : decode cX7_undo 5 = .ok (.aload_n 0, 1) := by decide +kernel
theorem dX7_undo_6 : decode cX7_undo 6 = .ok (.getfield 234, 3) := by decide +kernel
theorem dX7_undo_9 : decode cX7_undo 9 = .ok (.ifCond .ne 5, 3) := by decide +kernel
theorem dX7_undo_12 : decode cX7_undo 12 = .ok (.iconst (-1), 1) := by decide +kernel
theorem dX7_undo_13 : decode cX7_undo 13 = .ok (.ireturn, 1) := by decide +kernel
theorem dX7_undo_14 : decode cX7_undo 14 = .ok (.aload_n 0, 1) := by decide +kernel
theorem dX7_undo_15 : decode cX7_undo 15 = .ok (.dup, 1) := by decide +kernel
theorem dX7_undo_16 : decode cX7_undo 16 = .ok (.getfield 234, 3) := by decide +kernel
theorem dX7_undo_19 : decode cX7_undo 19 = .ok (.iconst 1, 1) := by decide +kernel
theorem dX7_undo_20 : decode cX7_undo 20 = .ok (.isub, 1) := by decide +kernel
theorem dX7_undo_21 : decode cX7_undo 21 = .ok (.putfield 234, 3) := by decide +kernel
theorem dX7_undo_24 : decode cX7_undo 24 = .ok (.aload_n 0, 1) := by decide +kernel
theorem dX7_undo_25 : decode cX7_undo 25 = .ok (.getfield 28, 3) := by decide +kernel
theorem dX7_undo_28 : decode cX7_undo 28 = .ok (.aload_n 0, 1) := by decide +kernel
theorem dX7_undo_29 : decode cX7_undo 29 = .ok (.getfield 234, 3) := by decide +kernel
theorem dX7_undo_32 : decode cX7_undo 32 = .ok (.aaload, 1) := by decide +kernel
theorem dX7_undo_33 : decode cX7_undo 33 = .ok (.aload_n 0, 1) := by decide +kernel
theorem dX7_undo_34 : decode cX7_undo 34 = .ok (.getfield 20, 3) := by decide +kernel
theorem dX7_undo_37 : decode cX7_undo 37 = .ok (.invokestatic 230, 3) := by decide +kernel
theorem dX7_undo_40 : decode cX7_undo 40 = .ok (.aload_n 0, 1) := by decide +kernel
theorem dX7_undo_41 : decode cX7_undo 41 = .ok (.getfield 234, 3) := by decide +kernel
theorem dX7_undo_44 : decode cX7_undo 44 = .ok (.ireturn, 1) := by decide +kernel
theorem dX7_begins_0 : decode cX7_begins 0 = .ok (.aload_n 0, 1) := by decide +kernel
theorem dX7_begins_1 : decode cX7_begins 1 = .ok (.iconst 0, 1) := by decide +kernel
theorem dX7_begins_2 : decode cX7_begins 2 = .ok (.putfield 58, 3) := by decide +kernel
theorem dX7_begins_5 : decode cX7_begins 5 = .ok (.aload_n 0, 1) := by decide +kernel
theorem dX7_begins_6 : decode cX7_begins 6 = .ok (.aload_n 0, 1) := by decide +kernel
theorem dX7_begins_7 : decode cX7_begins 7 = .ok (.getfield 20, 3) := by decide +kernel
theorem dX7_begins_10 : decode cX7_begins 10 = .ok (.invokevirtual 211, 3) := by decide +kernel
theorem dX7_begins_13 : decode cX7_begins 13 = .ok (.return_, 1) := by decide +kernel
theorem dX7_isPoly_0 : decode cX7_isPoly 0 = .ok (.iload_n 1, 1) := by decide +kernel
theorem dX7_isPoly_1 : decode cX7_isPoly 1 = .ok (.i2l, 1) := by decide +kernel
theorem dX7_isPoly_2 : decode cX7_isPoly 2 = .ok (.lconst 0, 1) := by decide +kernel
theorem dX7_isPoly_3 : decode cX7_isPoly 3 = .ok (.aload_n 0, 1) := by decide +kernel
theorem dX7_isPoly_4 : decode cX7_isPoly 4 = .ok (.getfield 20, 3) := by decide +kernel
theorem dX7_isPoly_7 : decode cX7_isPoly 7 = .ok (.iconst 2, 1) := by decide +kernel
theorem dX7_isPoly_8 : decode cX7_isPoly 8 = .ok (.iaload, 1) := by decide +kernel
theorem dX7_isPoly_9 : decode cX7_isPoly 9 = .ok (.iconst 1, 1) := by decide +kernel
theorem dX7_isPoly_10 : decode cX7_isPoly 10 = .ok (.isub, 1) := by decide +kernel
theorem dX7_isPoly_11 : decode cX7_isPoly 11 = .ok (.i2l, 1) := by decide +kernel
theorem dX7_isPoly_12 : decode cX7_isPoly 12 = .ok (.invokestatic 154, 3) := by decide +kernel
theorem dX7_isPoly_15 : decode cX7_isPoly 15 = .ok (.ireturn, 1) := by decide +kernel
theorem dX7_isPoint_0 : decode cX7_isPoint 0 = .ok (.iload_n 1, 1) := by decide +kernel
theorem dX7_isPoint_1 : decode cX7_isPoint 1 = .ok (.i2l, 1) := by decide +kernel
theorem dX7_isPoint_2 : decode cX7_isPoint 2 = .ok (.lconst 0, 1) := by decide +kernel
theorem dX7_isPoint_3 : decode cX7_isPoint 3 = .ok (.aload_n 0, 1) := by decide +kernel
theorem dX7_isPoint_4 : decode cX7_isPoint 4 = .ok (.getfield 92, 3) := by decide +kernel
theorem dX7_isPoint_7 : decode cX7_isPoint 7 = .ok (.iconst 1, 1) := by decide +kernel
theorem dX7_isPoint_8 : decode cX7_isPoint 8 = .ok (.isub, 1) := by decide +kernel
theorem dX7_isPoint_9 : decode cX7_isPoint 9 = .ok (.i2l, 1) := by decide +kernel
theorem dX7_isPoint_10 : decode cX7_isPoint 10 = .ok (.invokestatic 154, 3) := by decide +kernel
theorem dX7_isPoint_13 : decode cX7_isPoint 13 = .ok (.ireturn, 1) := by decide +kernel
theorem dX7_of_0 : decode cX7_of 0 = .ok (.aload_n 0, 1) := by decide +kernel
theorem dX7_of_1 : decode cX7_of 1 = .ok (.getfield 20, 3) := by decide +kernel
theorem dX7_of_4 : decode cX7_of 4 = .ok (.iconst 3, 1) := by decide +kernel
theorem dX7_of_5 : decode cX7_of 5 = .ok (.bipush 64, 2) := by decide +kernel
theorem dX7_of_7 : decode cX7_of 7 = .ok (.iload_n 1, 1) := by decide +kernel
theorem dX7_of_8 : decode cX7_of 8 = .ok (.imul, 1) := by decide +kernel
theorem dX7_of_9 : decode cX7_of 9 = .ok (.iadd, 1) := by decide +kernel
theorem dX7_of_10 : decode cX7_of 10 = .ok (.iload_n 2, 1) := by decide +kernel
theorem dX7_of_11 : decode cX7_of 11 = .ok (.iadd, 1) := by decide +kernel
theorem dX7_of_12 : decode cX7_of 12 = .ok (.iaload, 1) := by decide +kernel
theorem dX7_of_13 : decode cX7_of 13 = .ok (.ireturn, 1) := by decide +kernel
theorem dX7_takesValues_0 : decode cX7_takesValues 0 = .ok (.iconst 0, 1) := by decide +kernel
theorem dX7_takesValues_1 : decode cX7_takesValues 1 = .ok (.istore_n 2, 1) := by decide +kernel
theorem dX7_takesValues_2 : decode cX7_takesValues 2 = .ok (.iload_n 2, 1) := by decide +kernel
theorem dX7_takesValues_3 : decode cX7_takesValues 3 = .ok (.aload_n 0, 1) := by decide +kernel
theorem dX7_takesValues_4 : decode cX7_takesValues 4 = .ok (.getfield 92, 3) := by decide +kernel
theorem dX7_takesValues_7 : decode cX7_takesValues 7 = .ok (.if_icmp .ge 21, 3) := by decide +kernel
theorem dX7_takesValues_10 : decode cX7_takesValues 10 = .ok (.aload_n 0, 1) := by decide +kernel
theorem dX7_takesValues_11 : decode cX7_takesValues 11 = .ok (.getfield 46, 3) := by decide +kernel
theorem dX7_takesValues_14 : decode cX7_takesValues 14 = .ok (.iload_n 2, 1) := by decide +kernel
theorem dX7_takesValues_15 : decode cX7_takesValues 15 = .ok (.aload_n 0, 1) := by decide +kernel
theorem dX7_takesValues_16 : decode cX7_takesValues 16 = .ok (.iload_n 1, 1) := by decide +kernel
