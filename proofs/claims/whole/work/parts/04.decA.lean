theorem dX0_init_0 : decode cX0_init 0 = .ok (.aload_n 0, 1) := by decide +kernel
theorem dX0_init_1 : decode cX0_init 1 = .ok (.invokespecial 3, 3) := by decide +kernel
theorem dX0_init_4 : decode cX0_init 4 = .ok (.aload_n 0, 1) := by decide +kernel
theorem dX0_init_5 : decode cX0_init 5 = .ok (.sipush 4096, 3) := by decide +kernel
theorem dX0_init_8 : decode cX0_init 8 = .ok (.newarray .int, 2) := by decide +kernel
theorem dX0_init_10 : decode cX0_init 10 = .ok (.putfield 9, 3) := by decide +kernel
theorem dX0_init_13 : decode cX0_init 13 = .ok (.aload_n 0, 1) := by decide +kernel
theorem dX0_init_14 : decode cX0_init 14 = .ok (.sipush 4096, 3) := by decide +kernel
theorem dX0_init_17 : decode cX0_init 17 = .ok (.newarray .int, 2) := by decide +kernel
theorem dX0_init_19 : decode cX0_init 19 = .ok (.putfield 15, 3) := by decide +kernel
theorem dX0_init_22 : decode cX0_init 22 = .ok (.aload_n 0, 1) := by decide +kernel
theorem dX0_init_23 : decode cX0_init 23 = .ok (.bipush 64, 2) := by decide +kernel
theorem dX0_init_25 : decode cX0_init 25 = .ok (.newarray .int, 2) := by decide +kernel
theorem dX0_init_27 : decode cX0_init 27 = .ok (.putfield 18, 3) := by decide +kernel
theorem dX0_init_30 : decode cX0_init 30 = .ok (.aload_n 0, 1) := by decide +kernel
theorem dX0_init_31 : decode cX0_init 31 = .ok (.bipush 64, 2) := by decide +kernel
theorem dX0_init_33 : decode cX0_init 33 = .ok (.newarray .int, 2) := by decide +kernel
theorem dX0_init_35 : decode cX0_init 35 = .ok (.putfield 21, 3) := by decide +kernel
theorem dX0_init_38 : decode cX0_init 38 = .ok (.aload_n 0, 1) := by decide +kernel
theorem dX0_init_39 : decode cX0_init 39 = .ok (.bipush 64, 2) := by decide +kernel
theorem dX0_init_41 : decode cX0_init 41 = .ok (.newarray .int, 2) := by decide +kernel
theorem dX0_init_43 : decode cX0_init 43 = .ok (.putfield 24, 3) := by decide +kernel
theorem dX0_init_46 : decode cX0_init 46 = .ok (.aload_n 0, 1) := by decide +kernel
theorem dX0_init_47 : decode cX0_init 47 = .ok (.iconst 2, 1) := by decide +kernel
theorem dX0_init_48 : decode cX0_init 48 = .ok (.iconst 1, 1) := by decide +kernel
theorem dX0_init_49 : decode cX0_init 49 = .ok (.invokevirtual 27, 3) := by decide +kernel
theorem dX0_init_52 : decode cX0_init 52 = .ok (.return_, 1) := by decide +kernel
theorem dX0_tune_0 : decode cX0_tune 0 = .ok (.iload_n 1, 1) := by decide +kernel
theorem dX0_tune_1 : decode cX0_tune 1 = .ok (.aload_n 0, 1) := by decide +kernel
theorem dX0_tune_2 : decode cX0_tune 2 = .ok (.getfield 31, 3) := by decide +kernel
theorem dX0_tune_5 : decode cX0_tune 5 = .ok (.if_icmp .ne 12, 3) := by decide +kernel
theorem dX0_tune_8 : decode cX0_tune 8 = .ok (.iload_n 2, 1) := by decide +kernel
theorem dX0_tune_9 : decode cX0_tune 9 = .ok (.aload_n 0, 1) := by decide +kernel
theorem dX0_tune_10 : decode cX0_tune 10 = .ok (.getfield 35, 3) := by decide +kernel
theorem dX0_tune_13 : decode cX0_tune 13 = .ok (.if_icmp .ne 4, 3) := by decide +kernel
theorem dX0_tune_16 : decode cX0_tune 16 = .ok (.return_, 1) := by decide +kernel
theorem dX0_tune_17 : decode cX0_tune 17 = .ok (.iload_n 1, 1) := by decide +kernel
theorem dX0_tune_18 : decode cX0_tune 18 = .ok (.iload_n 2, 1) := by decide +kernel
theorem dX0_tune_19 : decode cX0_tune 19 = .ok (.invokestatic 38, 3) := by decide +kernel
theorem dX0_tune_22 : decode cX0_tune 22 = .ok (.istore_n 3, 1) := by decide +kernel
theorem dX0_tune_23 : decode cX0_tune 23 = .ok (.iload_n 1, 1) := by decide +kernel
theorem dX0_tune_24 : decode cX0_tune 24 = .ok (.iconst 2, 1) := by decide +kernel
theorem dX0_tune_25 : decode cX0_tune 25 = .ok (.if_icmp .lt 14, 3) := by decide +kernel
theorem dX0_tune_28 : decode cX0_tune 28 = .ok (.iload_n 2, 1) := by decide +kernel
theorem dX0_tune_29 : decode cX0_tune 29 = .ok (.iconst 1, 1) := by decide +kernel
theorem dX0_tune_30 : decode cX0_tune 30 = .ok (.if_icmp .lt 9, 3) := by decide +kernel
theorem dX0_tune_33 : decode cX0_tune 33 = .ok (.iload_n 3, 1) := by decide +kernel
theorem dX0_tune_34 : decode cX0_tune 34 = .ok (.bipush 64, 2) := by decide +kernel
theorem dX0_tune_36 : decode cX0_tune 36 = .ok (.if_icmp .le 4, 3) := by decide +kernel
theorem dX0_tune_39 : decode cX0_tune 39 = .ok (.return_, 1) := by decide +kernel
theorem dX0_tune_40 : decode cX0_tune 40 = .ok (.aload_n 0, 1) := by decide +kernel
theorem dX0_tune_41 : decode cX0_tune 41 = .ok (.iload_n 1, 1) := by decide +kernel
theorem dX0_tune_42 : decode cX0_tune 42 = .ok (.putfield 31, 3) := by decide +kernel
theorem dX0_tune_45 : decode cX0_tune 45 = .ok (.aload_n 0, 1) := by decide +kernel
theorem dX0_tune_46 : decode cX0_tune 46 = .ok (.iload_n 2, 1) := by decide +kernel
theorem dX0_tune_47 : decode cX0_tune 47 = .ok (.putfield 35, 3) := by decide +kernel
theorem dX0_tune_50 : decode cX0_tune 50 = .ok (.aload_n 0, 1) := by decide +kernel
theorem dX0_tune_51 : decode cX0_tune 51 = .ok (.iload_n 3, 1) := by decide +kernel
theorem dX0_tune_52 : decode cX0_tune 52 = .ok (.putfield 42, 3) := by decide +kernel
theorem dX0_tune_55 : decode cX0_tune 55 = .ok (.aload_n 0, 1) := by decide +kernel
theorem dX0_tune_56 : decode cX0_tune 56 = .ok (.iload_n 3, 1) := by decide +kernel
theorem dX0_tune_57 : decode cX0_tune 57 = .ok (.invokestatic 45, 3) := by decide +kernel
theorem dX0_tune_60 : decode cX0_tune 60 = .ok (.putfield 49, 3) := by decide +kernel
theorem dX0_tune_63 : decode cX0_tune 63 = .ok (.aload_n 0, 1) := by decide +kernel
theorem dX0_tune_64 : decode cX0_tune 64 = .ok (.iload_n 1, 1) := by decide +kernel
theorem dX0_tune_65 : decode cX0_tune 65 = .ok (.iload_n 3, 1) := by decide +kernel
theorem dX0_tune_66 : decode cX0_tune 66 = .ok (.invokevirtual 52, 3) := by decide +kernel
theorem dX0_tune_69 : decode cX0_tune 69 = .ok (.aload_n 0, 1) := by decide +kernel
theorem dX0_tune_70 : decode cX0_tune 70 = .ok (.iload_n 1, 1) := by decide +kernel
theorem dX0_tune_71 : decode cX0_tune 71 = .ok (.iload_n 3, 1) := by decide +kernel
theorem dX0_tune_72 : decode cX0_tune 72 = .ok (.invokevirtual 55, 3) := by decide +kernel
theorem dX0_tune_75 : decode cX0_tune 75 = .ok (.aload_n 0, 1) := by decide +kernel
theorem dX0_tune_76 : decode cX0_tune 76 = .ok (.iload_n 1, 1) := by decide +kernel
theorem dX0_tune_77 : decode cX0_tune 77 = .ok (.iload_n 3, 1) := by decide +kernel
theorem dX0_tune_78 : decode cX0_tune 78 = .ok (.invokevirtual 58, 3) := by decide +kernel
theorem dX0_tune_81 : decode cX0_tune 81 = .ok (.return_, 1) := by decide +kernel
theorem dX0_sizeOf_0 : decode cX0_sizeOf 0 = .ok (.iconst 1, 1) := by decide +kernel
theorem dX0_sizeOf_1 : decode cX0_sizeOf 1 = .ok (.istore_n 2, 1) := by decide +kernel
theorem dX0_sizeOf_2 : decode cX0_sizeOf 2 = .ok (.iconst 0, 1) := by decide +kernel
theorem dX0_sizeOf_3 : decode cX0_sizeOf 3 = .ok (.istore_n 3, 1) := by decide +kernel
theorem dX0_sizeOf_4 : decode cX0_sizeOf 4 = .ok (.iload_n 3, 1) := by decide +kernel
theorem dX0_sizeOf_5 : decode cX0_sizeOf 5 = .ok (.iload_n 1, 1) := by decide +kernel
theorem dX0_sizeOf_6 : decode cX0_sizeOf 6 = .ok (.if_icmp .ge 19, 3) := by decide +kernel
theorem dX0_sizeOf_9 : decode cX0_sizeOf 9 = .ok (.iload_n 2, 1) := by decide +kernel
theorem dX0_sizeOf_10 : decode cX0_sizeOf 10 = .ok (.bipush 64, 2) := by decide +kernel
theorem dX0_sizeOf_12 : decode cX0_sizeOf 12 = .ok (.if_icmp .gt 13, 3) := by decide +kernel
theorem dX0_sizeOf_15 : decode cX0_sizeOf 15 = .ok (.iload_n 2, 1) := by decide +kernel
theorem dX0_sizeOf_16 : decode cX0_sizeOf 16 = .ok (.iload_n 0, 1) := by decide +kernel
theorem dX0_sizeOf_17 : decode cX0_sizeOf 17 = .ok (.imul, 1) := by decide +kernel
theorem dX0_sizeOf_18 : decode cX0_sizeOf 18 = .ok (.istore_n 2, 1) := by decide +kernel
theorem dX0_sizeOf_19 : decode cX0_sizeOf 19 = .ok (.iinc 3 1, 3) := by decide +kernel
theorem dX0_sizeOf_22 : decode cX0_sizeOf 22 = .ok (.goto (-18), 3) := by decide +kernel
theorem dX0_sizeOf_25 : decode cX0_sizeOf 25 = .ok (.iload_n 2, 1) := by decide +kernel
theorem dX0_sizeOf_26 : decode cX0_sizeOf 26 = .ok (.ireturn, 1) := by decide +kernel
theorem dX0_leastModulus_0 : decode cX0_leastModulus 0 = .ok (.iload_n 0, 1) := by decide +kernel
theorem dX0_leastModulus_1 : decode cX0_leastModulus 1 = .ok (.lookupswitch 94 #[(4, 83), (8, 83), (9, 87), (16, 83), (25, 92), (27, 89), (32, 85), (49, 87), (64, 83)], 83) := by decide +kernel
theorem dX0_leastModulus_84 : decode cX0_leastModulus 84 = .ok (.iconst 3, 1) := by decide +kernel
theorem dX0_leastModulus_85 : decode cX0_leastModulus 85 = .ok (.ireturn, 1) := by decide +kernel
theorem dX0_leastModulus_86 : decode cX0_leastModulus 86 = .ok (.iconst 5, 1) := by decide +kernel
theorem dX0_leastModulus_87 : decode cX0_leastModulus 87 = .ok (.ireturn, 1) := by decide +kernel
theorem dX0_leastModulus_88 : decode cX0_leastModulus 88 = .ok (.iconst 1, 1) := by decide +kernel
theorem dX0_leastModulus_89 : decode cX0_leastModulus 89 = .ok (.ireturn, 1) := by decide +kernel
theorem dX0_leastModulus_90 : decode cX0_leastModulus 90 = .ok (.bipush 7, 2) := by decide +kernel
theorem dX0_leastModulus_92 : decode cX0_leastModulus 92 = .ok (.ireturn, 1) := by decide +kernel
theorem dX0_leastModulus_93 : decode cX0_leastModulus 93 = .ok (.iconst 2, 1) := by decide +kernel
theorem dX0_leastModulus_94 : decode cX0_leastModulus 94 = .ok (.ireturn, 1) := by decide +kernel
theorem dX0_leastModulus_95 : decode cX0_leastModulus 95 = .ok (.iconst 0, 1) := by decide +kernel
theorem dX0_leastModulus_96 : decode cX0_leastModulus 96 = .ok (.ireturn, 1) := by decide +kernel
theorem dX0_fillSums_0 : decode cX0_fillSums 0 = .ok (.iload_n 1, 1) := by decide +kernel
theorem dX0_fillSums_1 : decode cX0_fillSums 1 = .ok (.iconst 2, 1) := by decide +kernel
theorem dX0_fillSums_2 : decode cX0_fillSums 2 = .ok (.if_icmp .ge 4, 3) := by decide +kernel
theorem dX0_fillSums_5 : decode cX0_fillSums 5 = .ok (.return_, 1) := by decide +kernel
theorem dX0_fillSums_6 : decode cX0_fillSums 6 = .ok (.iconst 0, 1) := by decide +kernel
theorem dX0_fillSums_7 : decode cX0_fillSums 7 = .ok (.istore_n 3, 1) := by decide +kernel
theorem dX0_fillSums_8 : decode cX0_fillSums 8 = .ok (.iload_n 3, 1) := by decide +kernel
theorem dX0_fillSums_9 : decode cX0_fillSums 9 = .ok (.iload_n 2, 1) := by decide +kernel
theorem dX0_fillSums_10 : decode cX0_fillSums 10 = .ok (.if_icmp .ge 84, 3) := by decide +kernel
theorem dX0_fillSums_13 : decode cX0_fillSums 13 = .ok (.aload_n 0, 1) := by decide +kernel
theorem dX0_fillSums_14 : decode cX0_fillSums 14 = .ok (.getfield 18, 3) := by decide +kernel
theorem dX0_fillSums_17 : decode cX0_fillSums 17 = .ok (.iload_n 3, 1) := by decide +kernel
theorem dX0_fillSums_18 : decode cX0_fillSums 18 = .ok (.aload_n 0, 1) := by decide +kernel
theorem dX0_fillSums_19 : decode cX0_fillSums 19 = .ok (.getfield 18, 3) := by decide +kernel
theorem dX0_fillSums_22 : decode cX0_fillSums 22 = .ok (.iload_n 3, 1) := by decide +kernel
theorem dX0_fillSums_23 : decode cX0_fillSums 23 = .ok (.iload_n 1, 1) := by decide +kernel
theorem dX0_fillSums_24 : decode cX0_fillSums 24 = .ok (.idiv, 1) := by decide +kernel
theorem dX0_fillSums_25 : decode cX0_fillSums 25 = .ok (.iaload, 1) := by decide +kernel
theorem dX0_fillSums_26 : decode cX0_fillSums 26 = .ok (.iload_n 1, 1) := by decide +kernel
theorem dX0_fillSums_27 : decode cX0_fillSums 27 = .ok (.imul, 1) := by decide +kernel
theorem dX0_fillSums_28 : decode cX0_fillSums 28 = .ok (.iload_n 1, 1) := by decide +kernel
theorem dX0_fillSums_29 : decode cX0_fillSums 29 = .ok (.iload_n 3, 1) := by decide +kernel
theorem dX0_fillSums_30 : decode cX0_fillSums 30 = .ok (.iload_n 1, 1) := by decide +kernel
theorem dX0_fillSums_31 : decode cX0_fillSums 31 = .ok (.irem, 1) := by decide +kernel
theorem dX0_fillSums_32 : decode cX0_fillSums 32 = .ok (.isub, 1) := by decide +kernel
theorem dX0_fillSums_33 : decode cX0_fillSums 33 = .ok (.iload_n 1, 1) := by decide +kernel
theorem dX0_fillSums_34 : decode cX0_fillSums 34 = .ok (.irem, 1) := by decide +kernel
theorem dX0_fillSums_35 : decode cX0_fillSums 35 = .ok (.iadd, 1) := by decide +kernel
theorem dX0_fillSums_36 : decode cX0_fillSums 36 = .ok (.iastore, 1) := by decide +kernel
theorem dX0_fillSums_37 : decode cX0_fillSums 37 = .ok (.iconst 0, 1) := by decide +kernel
theorem dX0_fillSums_38 : decode cX0_fillSums 38 = .ok (.istore 4, 2) := by decide +kernel
theorem dX0_fillSums_40 : decode cX0_fillSums 40 = .ok (.iload 4, 2) := by decide +kernel
theorem dX0_fillSums_42 : decode cX0_fillSums 42 = .ok (.iload_n 2, 1) := by decide +kernel
theorem dX0_fillSums_43 : decode cX0_fillSums 43 = .ok (.if_icmp .ge 45, 3) := by decide +kernel
theorem dX0_fillSums_46 : decode cX0_fillSums 46 = .ok (.aload_n 0, 1) := by decide +kernel
theorem dX0_fillSums_47 : decode cX0_fillSums 47 = .ok (.getfield 9, 3) := by decide +kernel
theorem dX0_fillSums_50 : decode cX0_fillSums 50 = .ok (.iload_n 3, 1) := by decide +kernel
theorem dX0_fillSums_51 : decode cX0_fillSums 51 = .ok (.bipush 64, 2) := by decide +kernel
theorem dX0_fillSums_53 : decode cX0_fillSums 53 = .ok (.imul, 1) := by decide +kernel
theorem dX0_fillSums_54 : decode cX0_fillSums 54 = .ok (.iload 4, 2) := by decide +kernel
theorem dX0_fillSums_56 : decode cX0_fillSums 56 = .ok (.iadd, 1) := by decide +kernel
theorem dX0_fillSums_57 : decode cX0_fillSums 57 = .ok (.aload_n 0, 1) := by decide +kernel
theorem dX0_fillSums_58 : decode cX0_fillSums 58 = .ok (.iload_n 3, 1) := by decide +kernel
theorem dX0_fillSums_59 : decode cX0_fillSums 59 = .ok (.iload_n 1, 1) := by decide +kernel
theorem dX0_fillSums_60 : decode cX0_fillSums 60 = .ok (.idiv, 1) := by decide +kernel
theorem dX0_fillSums_61 : decode cX0_fillSums 61 = .ok (.iload 4, 2) := by decide +kernel
theorem dX0_fillSums_63 : decode cX0_fillSums 63 = .ok (.iload_n 1, 1) := by decide +kernel
theorem dX0_fillSums_64 : decode cX0_fillSums 64 = .ok (.idiv, 1) := by decide +kernel
theorem dX0_fillSums_65 : decode cX0_fillSums 65 = .ok (.invokevirtual 61, 3) := by decide +kernel
theorem dX0_fillSums_68 : decode cX0_fillSums 68 = .ok (.iload_n 1, 1) := by decide +kernel
theorem dX0_fillSums_69 : decode cX0_fillSums 69 = .ok (.imul, 1) := by decide +kernel
theorem dX0_fillSums_70 : decode cX0_fillSums 70 = .ok (.iload_n 3, 1) := by decide +kernel
theorem dX0_fillSums_71 : decode cX0_fillSums 71 = .ok (.iload_n 1, 1) := by decide +kernel
theorem dX0_fillSums_72 : decode cX0_fillSums 72 = .ok (.irem, 1) := by decide +kernel
theorem dX0_fillSums_73 : decode cX0_fillSums 73 = .ok (.iload 4, 2) := by decide +kernel
theorem dX0_fillSums_75 : decode cX0_fillSums 75 = .ok (.iload_n 1, 1) := by decide +kernel
theorem dX0_fillSums_76 : decode cX0_fillSums 76 = .ok (.irem, 1) := by decide +kernel
theorem dX0_fillSums_77 : decode cX0_fillSums 77 = .ok (.iadd, 1) := by decide +kernel
theorem dX0_fillSums_78 : decode cX0_fillSums 78 = .ok (.iload_n 1, 1) := by decide +kernel
theorem dX0_fillSums_79 : decode cX0_fillSums 79 = .ok (.irem, 1) := by decide +kernel
theorem dX0_fillSums_80 : decode cX0_fillSums 80 = .ok (.iadd, 1) := by decide +kernel
theorem dX0_fillSums_81 : decode cX0_fillSums 81 = .ok (.iastore, 1) := by decide +kernel
theorem dX0_fillSums_82 : decode cX0_fillSums 82 = .ok (.iinc 4 1, 3) := by decide +kernel
theorem dX0_fillSums_85 : decode cX0_fillSums 85 = .ok (.goto (-45), 3) := by decide +kernel
theorem dX0_fillSums_88 : decode cX0_fillSums 88 = .ok (.iinc 3 1, 3) := by decide +kernel
theorem dX0_fillSums_91 : decode cX0_fillSums 91 = .ok (.goto (-83), 3) := by decide +kernel
theorem dX0_fillSums_94 : decode cX0_fillSums 94 = .ok (.return_, 1) := by decide +kernel
theorem dX0_fillRisen_0 : decode cX0_fillRisen 0 = .ok (.iload_n 1, 1) := by decide +kernel
theorem dX0_fillRisen_1 : decode cX0_fillRisen 1 = .ok (.iconst 2, 1) := by decide +kernel
theorem dX0_fillRisen_2 : decode cX0_fillRisen 2 = .ok (.if_icmp .ge 4, 3) := by decide +kernel
theorem dX0_fillRisen_5 : decode cX0_fillRisen 5 = .ok (.return_, 1) := by decide +kernel
theorem dX0_fillRisen_6 : decode cX0_fillRisen 6 = .ok (.iload_n 2, 1) := by decide +kernel
theorem dX0_fillRisen_7 : decode cX0_fillRisen 7 = .ok (.iload_n 1, 1) := by decide +kernel
theorem dX0_fillRisen_8 : decode cX0_fillRisen 8 = .ok (.idiv, 1) := by decide +kernel
theorem dX0_fillRisen_9 : decode cX0_fillRisen 9 = .ok (.istore_n 3, 1) := by decide +kernel
theorem dX0_fillRisen_10 : decode cX0_fillRisen 10 = .ok (.iconst 0, 1) := by decide +kernel
theorem dX0_fillRisen_11 : decode cX0_fillRisen 11 = .ok (.istore 4, 2) := by decide +kernel
theorem dX0_fillRisen_13 : decode cX0_fillRisen 13 = .ok (.iload 4, 2) := by decide +kernel
theorem dX0_fillRisen_15 : decode cX0_fillRisen 15 = .ok (.iload_n 2, 1) := by decide +kernel
theorem dX0_fillRisen_16 : decode cX0_fillRisen 16 = .ok (.if_icmp .ge 51, 3) := by decide +kernel
theorem dX0_fillRisen_19 : decode cX0_fillRisen 19 = .ok (.aload_n 0, 1) := by decide +kernel
theorem dX0_fillRisen_20 : decode cX0_fillRisen 20 = .ok (.getfield 24, 3) := by decide +kernel
theorem dX0_fillRisen_23 : decode cX0_fillRisen 23 = .ok (.iload 4, 2) := by decide +kernel
theorem dX0_fillRisen_25 : decode cX0_fillRisen 25 = .ok (.iload 4, 2) := by decide +kernel
theorem dX0_fillRisen_27 : decode cX0_fillRisen 27 = .ok (.iload_n 3, 1) := by decide +kernel
theorem dX0_fillRisen_28 : decode cX0_fillRisen 28 = .ok (.if_icmp .ge 10, 3) := by decide +kernel
theorem dX0_fillRisen_31 : decode cX0_fillRisen 31 = .ok (.iload 4, 2) := by decide +kernel
theorem dX0_fillRisen_33 : decode cX0_fillRisen 33 = .ok (.iload_n 1, 1) := by decide +kernel
theorem dX0_fillRisen_34 : decode cX0_fillRisen 34 = .ok (.imul, 1) := by decide +kernel
theorem dX0_fillRisen_35 : decode cX0_fillRisen 35 = .ok (.goto 25, 3) := by decide +kernel
theorem dX0_fillRisen_38 : decode cX0_fillRisen 38 = .ok (.aload_n 0, 1) := by decide +kernel
theorem dX0_fillRisen_39 : decode cX0_fillRisen 39 = .ok (.aload_n 0, 1) := by decide +kernel
theorem dX0_fillRisen_40 : decode cX0_fillRisen 40 = .ok (.getfield 24, 3) := by decide +kernel
theorem dX0_fillRisen_43 : decode cX0_fillRisen 43 = .ok (.iload 4, 2) := by decide +kernel
theorem dX0_fillRisen_45 : decode cX0_fillRisen 45 = .ok (.iload_n 3, 1) := by decide +kernel
theorem dX0_fillRisen_46 : decode cX0_fillRisen 46 = .ok (.isub, 1) := by decide +kernel
theorem dX0_fillRisen_47 : decode cX0_fillRisen 47 = .ok (.iaload, 1) := by decide +kernel
theorem dX0_fillRisen_48 : decode cX0_fillRisen 48 = .ok (.aload_n 0, 1) := by decide +kernel
theorem dX0_fillRisen_49 : decode cX0_fillRisen 49 = .ok (.getfield 18, 3) := by decide +kernel
theorem dX0_fillRisen_52 : decode cX0_fillRisen 52 = .ok (.aload_n 0, 1) := by decide +kernel
theorem dX0_fillRisen_53 : decode cX0_fillRisen 53 = .ok (.getfield 49, 3) := by decide +kernel
theorem dX0_fillRisen_56 : decode cX0_fillRisen 56 = .ok (.iaload, 1) := by decide +kernel
theorem dX0_fillRisen_57 : decode cX0_fillRisen 57 = .ok (.invokevirtual 61, 3) := by decide +kernel
theorem dX0_fillRisen_60 : decode cX0_fillRisen 60 = .ok (.iastore, 1) := by decide +kernel
theorem dX0_fillRisen_61 : decode cX0_fillRisen 61 = .ok (.iinc 4 1, 3) := by decide +kernel
theorem dX0_fillRisen_64 : decode cX0_fillRisen 64 = .ok (.goto (-51), 3) := by decide +kernel
theorem dX0_fillRisen_67 : decode cX0_fillRisen 67 = .ok (.return_, 1) := by decide +kernel
theorem dX0_fillProducts_0 : decode cX0_fillProducts 0 = .ok (.iload_n 1, 1) := by decide +kernel
theorem dX0_fillProducts_1 : decode cX0_fillProducts 1 = .ok (.iconst 2, 1) := by decide +kernel
theorem dX0_fillProducts_2 : decode cX0_fillProducts 2 = .ok (.if_icmp .ge 4, 3) := by decide +kernel
theorem dX0_fillProducts_5 : decode cX0_fillProducts 5 = .ok (.return_, 1) := by decide +kernel
theorem dX0_fillProducts_6 : decode cX0_fillProducts 6 = .ok (.iconst 0, 1) := by decide +kernel
theorem dX0_fillProducts_7 : decode cX0_fillProducts 7 = .ok (.istore_n 3, 1) := by decide +kernel
theorem dX0_fillProducts_8 : decode cX0_fillProducts 8 = .ok (.iload_n 3, 1) := by decide +kernel
theorem dX0_fillProducts_9 : decode cX0_fillProducts 9 = .ok (.iload_n 2, 1) := by decide +kernel
theorem dX0_fillProducts_10 : decode cX0_fillProducts 10 = .ok (.if_icmp .ge 114, 3) := by decide +kernel
theorem dX0_fillProducts_13 : decode cX0_fillProducts 13 = .ok (.aload_n 0, 1) := by decide +kernel
theorem dX0_fillProducts_14 : decode cX0_fillProducts 14 = .ok (.getfield 15, 3) := by decide +kernel
theorem dX0_fillProducts_17 : decode cX0_fillProducts 17 = .ok (.iload_n 3, 1) := by decide +kernel
theorem dX0_fillProducts_18 : decode cX0_fillProducts 18 = .ok (.bipush 64, 2) := by decide +kernel
theorem dX0_fillProducts_20 : decode cX0_fillProducts 20 = .ok (.imul, 1) := by decide +kernel
theorem dX0_fillProducts_21 : decode cX0_fillProducts 21 = .ok (.iconst 0, 1) := by decide +kernel
theorem dX0_fillProducts_22 : decode cX0_fillProducts 22 = .ok (.iastore, 1) := by decide +kernel
theorem dX0_fillProducts_23 : decode cX0_fillProducts 23 = .ok (.iconst 1, 1) := by decide +kernel
theorem dX0_fillProducts_24 : decode cX0_fillProducts 24 = .ok (.istore 4, 2) := by decide +kernel
theorem dX0_fillProducts_26 : decode cX0_fillProducts 26 = .ok (.iload 4, 2) := by decide +kernel
theorem dX0_fillProducts_28 : decode cX0_fillProducts 28 = .ok (.iload_n 2, 1) := by decide +kernel
theorem dX0_fillProducts_29 : decode cX0_fillProducts 29 = .ok (.if_icmp .ge 89, 3) := by decide +kernel
theorem dX0_fillProducts_32 : decode cX0_fillProducts 32 = .ok (.iload 4, 2) := by decide +kernel
theorem dX0_fillProducts_34 : decode cX0_fillProducts 34 = .ok (.iload_n 1, 1) := by decide +kernel
theorem dX0_fillProducts_35 : decode cX0_fillProducts 35 = .ok (.if_icmp .ge 20, 3) := by decide +kernel
theorem dX0_fillProducts_38 : decode cX0_fillProducts 38 = .ok (.aload_n 0, 1) := by decide +kernel
theorem dX0_fillProducts_39 : decode cX0_fillProducts 39 = .ok (.aload_n 0, 1) := by decide +kernel
theorem dX0_fillProducts_40 : decode cX0_fillProducts 40 = .ok (.iload_n 3, 1) := by decide +kernel
theorem dX0_fillProducts_41 : decode cX0_fillProducts 41 = .ok (.iload 4, 2) := by decide +kernel
theorem dX0_fillProducts_43 : decode cX0_fillProducts 43 = .ok (.iconst 1, 1) := by decide +kernel
theorem dX0_fillProducts_44 : decode cX0_fillProducts 44 = .ok (.isub, 1) := by decide +kernel
theorem dX0_fillProducts_45 : decode cX0_fillProducts 45 = .ok (.invokevirtual 64, 3) := by decide +kernel
theorem dX0_fillProducts_48 : decode cX0_fillProducts 48 = .ok (.iload_n 3, 1) := by decide +kernel
theorem dX0_fillProducts_49 : decode cX0_fillProducts 49 = .ok (.invokevirtual 61, 3) := by decide +kernel
theorem dX0_fillProducts_52 : decode cX0_fillProducts 52 = .ok (.goto 30, 3) := by decide +kernel
theorem dX0_fillProducts_55 : decode cX0_fillProducts 55 = .ok (.aload_n 0, 1) := by decide +kernel
theorem dX0_fillProducts_56 : decode cX0_fillProducts 56 = .ok (.aload_n 0, 1) := by decide +kernel
theorem dX0_fillProducts_57 : decode cX0_fillProducts 57 = .ok (.getfield 24, 3) := by decide +kernel
theorem dX0_fillProducts_60 : decode cX0_fillProducts 60 = .ok (.aload_n 0, 1) := by decide +kernel
theorem dX0_fillProducts_61 : decode cX0_fillProducts 61 = .ok (.iload_n 3, 1) := by decide +kernel
theorem dX0_fillProducts_62 : decode cX0_fillProducts 62 = .ok (.iload 4, 2) := by decide +kernel
theorem dX0_fillProducts_64 : decode cX0_fillProducts 64 = .ok (.iload_n 1, 1) := by decide +kernel
theorem dX0_fillProducts_65 : decode cX0_fillProducts 65 = .ok (.idiv, 1) := by decide +kernel
theorem dX0_fillProducts_66 : decode cX0_fillProducts 66 = .ok (.invokevirtual 64, 3) := by decide +kernel
theorem dX0_fillProducts_69 : decode cX0_fillProducts 69 = .ok (.iaload, 1) := by decide +kernel
theorem dX0_fillProducts_70 : decode cX0_fillProducts 70 = .ok (.aload_n 0, 1) := by decide +kernel
theorem dX0_fillProducts_71 : decode cX0_fillProducts 71 = .ok (.iload_n 3, 1) := by decide +kernel
theorem dX0_fillProducts_72 : decode cX0_fillProducts 72 = .ok (.iload 4, 2) := by decide +kernel
theorem dX0_fillProducts_74 : decode cX0_fillProducts 74 = .ok (.iload_n 1, 1) := by decide +kernel
theorem dX0_fillProducts_75 : decode cX0_fillProducts 75 = .ok (.irem, 1) := by decide +kernel
theorem dX0_fillProducts_76 : decode cX0_fillProducts 76 = .ok (.invokevirtual 64, 3) := by decide +kernel
theorem dX0_fillProducts_79 : decode cX0_fillProducts 79 = .ok (.invokevirtual 61, 3) := by decide +kernel
theorem dX0_fillProducts_82 : decode cX0_fillProducts 82 = .ok (.istore 5, 2) := by decide +kernel
theorem dX0_fillProducts_84 : decode cX0_fillProducts 84 = .ok (.aload_n 0, 1) := by decide +kernel
theorem dX0_fillProducts_85 : decode cX0_fillProducts 85 = .ok (.getfield 15, 3) := by decide +kernel
theorem dX0_fillProducts_88 : decode cX0_fillProducts 88 = .ok (.iload_n 3, 1) := by decide +kernel
theorem dX0_fillProducts_89 : decode cX0_fillProducts 89 = .ok (.bipush 64, 2) := by decide +kernel
theorem dX0_fillProducts_91 : decode cX0_fillProducts 91 = .ok (.imul, 1) := by decide +kernel
theorem dX0_fillProducts_92 : decode cX0_fillProducts 92 = .ok (.iload 4, 2) := by decide +kernel
theorem dX0_fillProducts_94 : decode cX0_fillProducts 94 = .ok (.iadd, 1) := by decide +kernel
theorem dX0_fillProducts_95 : decode cX0_fillProducts 95 = .ok (.iload 5, 2) := by decide +kernel
theorem dX0_fillProducts_97 : decode cX0_fillProducts 97 = .ok (.iastore, 1) := by decide +kernel
theorem dX0_fillProducts_98 : decode cX0_fillProducts 98 = .ok (.iload 5, 2) := by decide +kernel
theorem dX0_fillProducts_100 : decode cX0_fillProducts 100 = .ok (.iconst 1, 1) := by decide +kernel
theorem dX0_fillProducts_101 : decode cX0_fillProducts 101 = .ok (.if_icmp .ne 11, 3) := by decide +kernel
theorem dX0_fillProducts_104 : decode cX0_fillProducts 104 = .ok (.aload_n 0, 1) := by decide +kernel
theorem dX0_fillProducts_105 : decode cX0_fillProducts 105 = .ok (.getfield 21, 3) := by decide +kernel
theorem dX0_fillProducts_108 : decode cX0_fillProducts 108 = .ok (.iload_n 3, 1) := by decide +kernel
theorem dX0_fillProducts_109 : decode cX0_fillProducts 109 = .ok (.iload 4, 2) := by decide +kernel
theorem dX0_fillProducts_111 : decode cX0_fillProducts 111 = .ok (.iastore, 1) := by decide +kernel
theorem dX0_fillProducts_112 : decode cX0_fillProducts 112 = .ok (.iinc 4 1, 3) := by decide +kernel
theorem dX0_fillProducts_115 : decode cX0_fillProducts 115 = .ok (.goto (-89), 3) := by decide +kernel
theorem dX0_fillProducts_118 : decode cX0_fillProducts 118 = .ok (.iinc 3 1, 3) := by decide +kernel
theorem dX0_fillProducts_121 : decode cX0_fillProducts 121 = .ok (.goto (-113), 3) := by decide +kernel
theorem dX0_fillProducts_124 : decode cX0_fillProducts 124 = .ok (.return_, 1) := by decide +kernel
theorem dX0_sum_0 : decode cX0_sum 0 = .ok (.aload_n 0, 1) := by decide +kernel
theorem dX0_sum_1 : decode cX0_sum 1 = .ok (.getfield 9, 3) := by decide +kernel
theorem dX0_sum_4 : decode cX0_sum 4 = .ok (.iload_n 1, 1) := by decide +kernel
theorem dX0_sum_5 : decode cX0_sum 5 = .ok (.bipush 64, 2) := by decide +kernel
theorem dX0_sum_7 : decode cX0_sum 7 = .ok (.imul, 1) := by decide +kernel
theorem dX0_sum_8 : decode cX0_sum 8 = .ok (.iload_n 2, 1) := by decide +kernel
theorem dX0_sum_9 : decode cX0_sum 9 = .ok (.iadd, 1) := by decide +kernel
theorem dX0_sum_10 : decode cX0_sum 10 = .ok (.iaload, 1) := by decide +kernel
theorem dX0_sum_11 : decode cX0_sum 11 = .ok (.ireturn, 1) := by decide +kernel
theorem dX0_difference_0 : decode cX0_difference 0 = .ok (.aload_n 0, 1) := by decide +kernel
theorem dX0_difference_1 : decode cX0_difference 1 = .ok (.getfield 9, 3) := by decide +kernel
theorem dX0_difference_4 : decode cX0_difference 4 = .ok (.iload_n 1, 1) := by decide +kernel
theorem dX0_difference_5 : decode cX0_difference 5 = .ok (.bipush 64, 2) := by decide +kernel
theorem dX0_difference_7 : decode cX0_difference 7 = .ok (.imul, 1) := by decide +kernel
theorem dX0_difference_8 : decode cX0_difference 8 = .ok (.aload_n 0, 1) := by decide +kernel
theorem dX0_difference_9 : decode cX0_difference 9 = .ok (.getfield 18, 3) := by decide +kernel
theorem dX0_difference_12 : decode cX0_difference 12 = .ok (.iload_n 2, 1) := by decide +kernel
theorem dX0_difference_13 : decode cX0_difference 13 = .ok (.iaload, 1) := by decide +kernel
theorem dX0_difference_14 : decode cX0_difference 14 = .ok (.iadd, 1) := by decide +kernel
theorem dX0_difference_15 : decode cX0_difference 15 = .ok (.iaload, 1) := by decide +kernel
theorem dX0_difference_16 : decode cX0_difference 16 = .ok (.ireturn, 1) := by decide +kernel
theorem dX0_product_0 : decode cX0_product 0 = .ok (.aload_n 0, 1) := by decide +kernel
theorem dX0_product_1 : decode cX0_product 1 = .ok (.getfield 15, 3) := by decide +kernel
theorem dX0_product_4 : decode cX0_product 4 = .ok (.iload_n 1, 1) := by decide +kernel
theorem dX0_product_5 : decode cX0_product 5 = .ok (.bipush 64, 2) := by decide +kernel
theorem dX0_product_7 : decode cX0_product 7 = .ok (.imul, 1) := by decide +kernel
theorem dX0_product_8 : decode cX0_product 8 = .ok (.iload_n 2, 1) := by decide +kernel
theorem dX0_product_9 : decode cX0_product 9 = .ok (.iadd, 1) := by decide +kernel
theorem dX0_product_10 : decode cX0_product 10 = .ok (.iaload, 1) := by decide +kernel
theorem dX0_product_11 : decode cX0_product 11 = .ok (.ireturn, 1) := by decide +kernel
theorem dX0_raised_0 : decode cX0_raised 0 = .ok (.iconst 1, 1) := by decide +kernel
theorem dX0_raised_1 : decode cX0_raised 1 = .ok (.istore_n 3, 1) := by decide +kernel
theorem dX0_raised_2 : decode cX0_raised 2 = .ok (.iload_n 1, 1) := by decide +kernel
theorem dX0_raised_3 : decode cX0_raised 3 = .ok (.istore 4, 2) := by decide +kernel
theorem dX0_raised_5 : decode cX0_raised 5 = .ok (.iload_n 2, 1) := by decide +kernel
theorem dX0_raised_6 : decode cX0_raised 6 = .ok (.istore 5, 2) := by decide +kernel
theorem dX0_raised_8 : decode cX0_raised 8 = .ok (.iload 5, 2) := by decide +kernel
theorem dX0_raised_10 : decode cX0_raised 10 = .ok (.ifCond .le 38, 3) := by decide +kernel
theorem dX0_raised_13 : decode cX0_raised 13 = .ok (.iload 5, 2) := by decide +kernel
theorem dX0_raised_15 : decode cX0_raised 15 = .ok (.iconst 1, 1) := by decide +kernel
theorem dX0_raised_16 : decode cX0_raised 16 = .ok (.iand, 1) := by decide +kernel
theorem dX0_raised_17 : decode cX0_raised 17 = .ok (.iconst 1, 1) := by decide +kernel
theorem dX0_raised_18 : decode cX0_raised 18 = .ok (.if_icmp .ne 11, 3) := by decide +kernel
theorem dX0_raised_21 : decode cX0_raised 21 = .ok (.aload_n 0, 1) := by decide +kernel
theorem dX0_raised_22 : decode cX0_raised 22 = .ok (.iload_n 3, 1) := by decide +kernel
theorem dX0_raised_23 : decode cX0_raised 23 = .ok (.iload 4, 2) := by decide +kernel
theorem dX0_raised_25 : decode cX0_raised 25 = .ok (.invokevirtual 64, 3) := by decide +kernel
theorem dX0_raised_28 : decode cX0_raised 28 = .ok (.istore_n 3, 1) := by decide +kernel
theorem dX0_raised_29 : decode cX0_raised 29 = .ok (.aload_n 0, 1) := by decide +kernel
theorem dX0_raised_30 : decode cX0_raised 30 = .ok (.iload 4, 2) := by decide +kernel
theorem dX0_raised_32 : decode cX0_raised 32 = .ok (.iload 4, 2) := by decide +kernel
theorem dX0_raised_34 : decode cX0_raised 34 = .ok (.invokevirtual 64, 3) := by decide +kernel
theorem dX0_raised_37 : decode cX0_raised 37 = .ok (.istore 4, 2) := by decide +kernel
theorem dX0_raised_39 : decode cX0_raised 39 = .ok (.iload 5, 2) := by decide +kernel
theorem dX0_raised_41 : decode cX0_raised 41 = .ok (.iconst 1, 1) := by decide +kernel
theorem dX0_raised_42 : decode cX0_raised 42 = .ok (.ishr, 1) := by decide +kernel
theorem dX0_raised_43 : decode cX0_raised 43 = .ok (.istore 5, 2) := by decide +kernel
theorem dX0_raised_45 : decode cX0_raised 45 = .ok (.goto (-37), 3) := by decide +kernel
theorem dX0_raised_48 : decode cX0_raised 48 = .ok (.iload_n 3, 1) := by decide +kernel
theorem dX0_raised_49 : decode cX0_raised 49 = .ok (.ireturn, 1) := by decide +kernel
theorem dX0_dicksonAt_0 : decode cX0_dicksonAt 0 = .ok (.aload_n 0, 1) := by decide +kernel
theorem dX0_dicksonAt_1 : decode cX0_dicksonAt 1 = .ok (.iconst 1, 1) := by decide +kernel
theorem dX0_dicksonAt_2 : decode cX0_dicksonAt 2 = .ok (.iconst 1, 1) := by decide +kernel
theorem dX0_dicksonAt_3 : decode cX0_dicksonAt 3 = .ok (.invokevirtual 61, 3) := by decide +kernel
theorem dX0_dicksonAt_6 : decode cX0_dicksonAt 6 = .ok (.istore 4, 2) := by decide +kernel
theorem dX0_dicksonAt_8 : decode cX0_dicksonAt 8 = .ok (.iload_n 3, 1) := by decide +kernel
theorem dX0_dicksonAt_9 : decode cX0_dicksonAt 9 = .ok (.istore 5, 2) := by decide +kernel
theorem dX0_dicksonAt_11 : decode cX0_dicksonAt 11 = .ok (.iconst 1, 1) := by decide +kernel
theorem dX0_dicksonAt_12 : decode cX0_dicksonAt 12 = .ok (.istore 6, 2) := by decide +kernel
theorem dX0_dicksonAt_14 : decode cX0_dicksonAt 14 = .ok (.bipush 13, 2) := by decide +kernel
theorem dX0_dicksonAt_16 : decode cX0_dicksonAt 16 = .ok (.istore 7, 2) := by decide +kernel
theorem dX0_dicksonAt_18 : decode cX0_dicksonAt 18 = .ok (.iload 7, 2) := by decide +kernel
theorem dX0_dicksonAt_20 : decode cX0_dicksonAt 20 = .ok (.ifCond .lt 126, 3) := by decide +kernel
theorem dX0_dicksonAt_23 : decode cX0_dicksonAt 23 = .ok (.aload_n 0, 1) := by decide +kernel
theorem dX0_dicksonAt_24 : decode cX0_dicksonAt 24 = .ok (.aload_n 0, 1) := by decide +kernel
theorem dX0_dicksonAt_25 : decode cX0_dicksonAt 25 = .ok (.iload 4, 2) := by decide +kernel
theorem dX0_dicksonAt_27 : decode cX0_dicksonAt 27 = .ok (.iload 5, 2) := by decide +kernel
theorem dX0_dicksonAt_29 : decode cX0_dicksonAt 29 = .ok (.invokevirtual 64, 3) := by decide +kernel
theorem dX0_dicksonAt_32 : decode cX0_dicksonAt 32 = .ok (.aload_n 0, 1) := by decide +kernel
theorem dX0_dicksonAt_33 : decode cX0_dicksonAt 33 = .ok (.iload 6, 2) := by decide +kernel
theorem dX0_dicksonAt_35 : decode cX0_dicksonAt 35 = .ok (.iload_n 3, 1) := by decide +kernel
theorem dX0_dicksonAt_36 : decode cX0_dicksonAt 36 = .ok (.invokevirtual 64, 3) := by decide +kernel
theorem dX0_dicksonAt_39 : decode cX0_dicksonAt 39 = .ok (.invokevirtual 67, 3) := by decide +kernel
theorem dX0_dicksonAt_42 : decode cX0_dicksonAt 42 = .ok (.istore 8, 2) := by decide +kernel
theorem dX0_dicksonAt_44 : decode cX0_dicksonAt 44 = .ok (.aload_n 0, 1) := by decide +kernel
theorem dX0_dicksonAt_45 : decode cX0_dicksonAt 45 = .ok (.iload 6, 2) := by decide +kernel
theorem dX0_dicksonAt_47 : decode cX0_dicksonAt 47 = .ok (.iload 6, 2) := by decide +kernel
theorem dX0_dicksonAt_49 : decode cX0_dicksonAt 49 = .ok (.invokevirtual 64, 3) := by decide +kernel
theorem dX0_dicksonAt_52 : decode cX0_dicksonAt 52 = .ok (.istore 9, 2) := by decide +kernel
theorem dX0_dicksonAt_54 : decode cX0_dicksonAt 54 = .ok (.iload_n 1, 1) := by decide +kernel
theorem dX0_dicksonAt_55 : decode cX0_dicksonAt 55 = .ok (.iload 7, 2) := by decide +kernel
theorem dX0_dicksonAt_57 : decode cX0_dicksonAt 57 = .ok (.ishr, 1) := by decide +kernel
theorem dX0_dicksonAt_58 : decode cX0_dicksonAt 58 = .ok (.iconst 1, 1) := by decide +kernel
theorem dX0_dicksonAt_59 : decode cX0_dicksonAt 59 = .ok (.iand, 1) := by decide +kernel
theorem dX0_dicksonAt_60 : decode cX0_dicksonAt 60 = .ok (.ifCond .ne 36, 3) := by decide +kernel
theorem dX0_dicksonAt_63 : decode cX0_dicksonAt 63 = .ok (.aload_n 0, 1) := by decide +kernel
theorem dX0_dicksonAt_64 : decode cX0_dicksonAt 64 = .ok (.aload_n 0, 1) := by decide +kernel
theorem dX0_dicksonAt_65 : decode cX0_dicksonAt 65 = .ok (.iload 4, 2) := by decide +kernel
theorem dX0_dicksonAt_67 : decode cX0_dicksonAt 67 = .ok (.iload 4, 2) := by decide +kernel
theorem dX0_dicksonAt_69 : decode cX0_dicksonAt 69 = .ok (.invokevirtual 64, 3) := by decide +kernel
theorem dX0_dicksonAt_72 : decode cX0_dicksonAt 72 = .ok (.aload_n 0, 1) := by decide +kernel
theorem dX0_dicksonAt_73 : decode cX0_dicksonAt 73 = .ok (.iload 6, 2) := by decide +kernel
theorem dX0_dicksonAt_75 : decode cX0_dicksonAt 75 = .ok (.iload 6, 2) := by decide +kernel
theorem dX0_dicksonAt_77 : decode cX0_dicksonAt 77 = .ok (.invokevirtual 61, 3) := by decide +kernel
theorem dX0_dicksonAt_80 : decode cX0_dicksonAt 80 = .ok (.invokevirtual 67, 3) := by decide +kernel
theorem dX0_dicksonAt_83 : decode cX0_dicksonAt 83 = .ok (.istore 4, 2) := by decide +kernel
theorem dX0_dicksonAt_85 : decode cX0_dicksonAt 85 = .ok (.iload 8, 2) := by decide +kernel
theorem dX0_dicksonAt_87 : decode cX0_dicksonAt 87 = .ok (.istore 5, 2) := by decide +kernel
theorem dX0_dicksonAt_89 : decode cX0_dicksonAt 89 = .ok (.iload 9, 2) := by decide +kernel
theorem dX0_dicksonAt_91 : decode cX0_dicksonAt 91 = .ok (.istore 6, 2) := by decide +kernel
theorem dX0_dicksonAt_93 : decode cX0_dicksonAt 93 = .ok (.goto 47, 3) := by decide +kernel
theorem dX0_dicksonAt_96 : decode cX0_dicksonAt 96 = .ok (.aload_n 0, 1) := by decide +kernel
theorem dX0_dicksonAt_97 : decode cX0_dicksonAt 97 = .ok (.iload 6, 2) := by decide +kernel
theorem dX0_dicksonAt_99 : decode cX0_dicksonAt 99 = .ok (.iload_n 2, 1) := by decide +kernel
theorem dX0_dicksonAt_100 : decode cX0_dicksonAt 100 = .ok (.invokevirtual 64, 3) := by decide +kernel
theorem dX0_dicksonAt_103 : decode cX0_dicksonAt 103 = .ok (.istore 10, 2) := by decide +kernel
theorem dX0_dicksonAt_105 : decode cX0_dicksonAt 105 = .ok (.iload 8, 2) := by decide +kernel
theorem dX0_dicksonAt_107 : decode cX0_dicksonAt 107 = .ok (.istore 4, 2) := by decide +kernel
theorem dX0_dicksonAt_109 : decode cX0_dicksonAt 109 = .ok (.aload_n 0, 1) := by decide +kernel
theorem dX0_dicksonAt_110 : decode cX0_dicksonAt 110 = .ok (.aload_n 0, 1) := by decide +kernel
theorem dX0_dicksonAt_111 : decode cX0_dicksonAt 111 = .ok (.iload 5, 2) := by decide +kernel
theorem dX0_dicksonAt_113 : decode cX0_dicksonAt 113 = .ok (.iload 5, 2) := by decide +kernel
theorem dX0_dicksonAt_115 : decode cX0_dicksonAt 115 = .ok (.invokevirtual 64, 3) := by decide +kernel
theorem dX0_dicksonAt_118 : decode cX0_dicksonAt 118 = .ok (.aload_n 0, 1) := by decide +kernel
theorem dX0_dicksonAt_119 : decode cX0_dicksonAt 119 = .ok (.iload 10, 2) := by decide +kernel
theorem dX0_dicksonAt_121 : decode cX0_dicksonAt 121 = .ok (.iload 10, 2) := by decide +kernel
theorem dX0_dicksonAt_123 : decode cX0_dicksonAt 123 = .ok (.invokevirtual 61, 3) := by decide +kernel
theorem dX0_dicksonAt_126 : decode cX0_dicksonAt 126 = .ok (.invokevirtual 67, 3) := by decide +kernel
theorem dX0_dicksonAt_129 : decode cX0_dicksonAt 129 = .ok (.istore 5, 2) := by decide +kernel
theorem dX0_dicksonAt_131 : decode cX0_dicksonAt 131 = .ok (.aload_n 0, 1) := by decide +kernel
theorem dX0_dicksonAt_132 : decode cX0_dicksonAt 132 = .ok (.iload 9, 2) := by decide +kernel
theorem dX0_dicksonAt_134 : decode cX0_dicksonAt 134 = .ok (.iload_n 2, 1) := by decide +kernel
theorem dX0_dicksonAt_135 : decode cX0_dicksonAt 135 = .ok (.invokevirtual 64, 3) := by decide +kernel
theorem dX0_dicksonAt_138 : decode cX0_dicksonAt 138 = .ok (.istore 6, 2) := by decide +kernel
theorem dX0_dicksonAt_140 : decode cX0_dicksonAt 140 = .ok (.iinc 7 (-1), 3) := by decide +kernel
theorem dX0_dicksonAt_143 : decode cX0_dicksonAt 143 = .ok (.goto (-125), 3) := by decide +kernel
theorem dX0_dicksonAt_146 : decode cX0_dicksonAt 146 = .ok (.iload 4, 2) := by decide +kernel
theorem dX0_dicksonAt_148 : decode cX0_dicksonAt 148 = .ok (.ireturn, 1) := by decide +kernel
theorem dX1_init_0 : decode cX1_init 0 = .ok (.aload_n 0, 1) := by decide +kernel
theorem dX1_init_1 : decode cX1_init 1 = .ok (.invokespecial 3, 3) := by decide +kernel
theorem dX1_init_4 : decode cX1_init 4 = .ok (.aload_n 0, 1) := by decide +kernel
theorem dX1_init_5 : decode cX1_init 5 = .ok (.bipush 8, 2) := by decide +kernel
theorem dX1_init_7 : decode cX1_init 7 = .ok (.anewarray 9, 3) := by decide +kernel
theorem dX1_init_10 : decode cX1_init 10 = .ok (.putfield 11, 3) := by decide +kernel
theorem dX1_init_13 : decode cX1_init 13 = .ok (.iconst 0, 1) := by decide +kernel
theorem dX1_init_14 : decode cX1_init 14 = .ok (.istore_n 1, 1) := by decide +kernel
theorem dX1_init_15 : decode cX1_init 15 = .ok (.iload_n 1, 1) := by decide +kernel
theorem dX1_init_16 : decode cX1_init 16 = .ok (.bipush 8, 2) := by decide +kernel
theorem dX1_init_18 : decode cX1_init 18 = .ok (.if_icmp .ge 22, 3) := by decide +kernel
theorem dX1_init_21 : decode cX1_init 21 = .ok (.aload_n 0, 1) := by decide +kernel
theorem dX1_init_22 : decode cX1_init 22 = .ok (.getfield 11, 3) := by decide +kernel
theorem dX1_init_25 : decode cX1_init 25 = .ok (.iload_n 1, 1) := by decide +kernel
theorem dX1_init_26 : decode cX1_init 26 = .ok (.new 9, 3) := by decide +kernel
theorem dX1_init_29 : decode cX1_init 29 = .ok (.dup, 1) := by decide +kernel
theorem dX1_init_30 : decode cX1_init 30 = .ok (.invokespecial 17, 3) := by decide +kernel
theorem dX1_init_33 : decode cX1_init 33 = .ok (.aastore, 1) := by decide +kernel
theorem dX1_init_34 : decode cX1_init 34 = .ok (.iinc 1 1, 3) := by decide +kernel
theorem dX1_init_37 : decode cX1_init 37 = .ok (.goto (-22), 3) := by decide +kernel
theorem dX1_init_40 : decode cX1_init 40 = .ok (.return_, 1) := by decide +kernel
theorem dX1_keep_0 : decode cX1_keep 0 = .ok (.aload_n 0, 1) := by decide +kernel
theorem dX1_keep_1 : decode cX1_keep 1 = .ok (.getfield 11, 3) := by decide +kernel
theorem dX1_keep_4 : decode cX1_keep 4 = .ok (.aload_n 0, 1) := by decide +kernel
theorem dX1_keep_5 : decode cX1_keep 5 = .ok (.getfield 18, 3) := by decide +kernel
theorem dX1_keep_8 : decode cX1_keep 8 = .ok (.aaload, 1) := by decide +kernel
theorem dX1_keep_9 : decode cX1_keep 9 = .ok (.aload_n 1, 1) := by decide +kernel
theorem dX1_keep_10 : decode cX1_keep 10 = .ok (.invokevirtual 22, 3) := by decide +kernel
theorem dX1_keep_13 : decode cX1_keep 13 = .ok (.aload_n 0, 1) := by decide +kernel
theorem dX1_keep_14 : decode cX1_keep 14 = .ok (.aload_n 0, 1) := by decide +kernel
theorem dX1_keep_15 : decode cX1_keep 15 = .ok (.getfield 18, 3) := by decide +kernel
theorem dX1_keep_18 : decode cX1_keep 18 = .ok (.iconst 1, 1) := by decide +kernel
theorem dX1_keep_19 : decode cX1_keep 19 = .ok (.iadd, 1) := by decide +kernel
theorem dX1_keep_20 : decode cX1_keep 20 = .ok (.bipush 8, 2) := by decide +kernel
theorem dX1_keep_22 : decode cX1_keep 22 = .ok (.if_icmp .ge 12, 3) := by decide +kernel
theorem dX1_keep_25 : decode cX1_keep 25 = .ok (.aload_n 0, 1) := by decide +kernel
theorem dX1_keep_26 : decode cX1_keep 26 = .ok (.getfield 18, 3) := by decide +kernel
theorem dX1_keep_29 : decode cX1_keep 29 = .ok (.iconst 1, 1) := by decide +kernel
theorem dX1_keep_30 : decode cX1_keep 30 = .ok (.iadd, 1) := by decide +kernel
theorem dX1_keep_31 : decode cX1_keep 31 = .ok (.goto 4, 3) := by decide +kernel
theorem dX1_keep_34 : decode cX1_keep 34 = .ok (.iconst 0, 1) := by decide +kernel
theorem dX1_keep_35 : decode cX1_keep 35 = .ok (.putfield 18, 3) := by decide +kernel
theorem dX1_keep_38 : decode cX1_keep 38 = .ok (.aload_n 0, 1) := by decide +kernel
theorem dX1_keep_39 : decode cX1_keep 39 = .ok (.aload_n 0, 1) := by decide +kernel
theorem dX1_keep_40 : decode cX1_keep 40 = .ok (.getfield 26, 3) := by decide +kernel
theorem dX1_keep_43 : decode cX1_keep 43 = .ok (.bipush 8, 2) := by decide +kernel
theorem dX1_keep_45 : decode cX1_keep 45 = .ok (.if_icmp .ge 12, 3) := by decide +kernel
theorem dX1_keep_48 : decode cX1_keep 48 = .ok (.aload_n 0, 1) := by decide +kernel
theorem dX1_keep_49 : decode cX1_keep 49 = .ok (.getfield 26, 3) := by decide +kernel
theorem dX1_keep_52 : decode cX1_keep 52 = .ok (.iconst 1, 1) := by decide +kernel
theorem dX1_keep_53 : decode cX1_keep 53 = .ok (.iadd, 1) := by decide +kernel
theorem dX1_keep_54 : decode cX1_keep 54 = .ok (.goto 5, 3) := by decide +kernel
theorem dX1_keep_57 : decode cX1_keep 57 = .ok (.bipush 8, 2) := by decide +kernel
theorem dX1_keep_59 : decode cX1_keep 59 = .ok (.putfield 26, 3) := by decide +kernel
theorem dX1_keep_62 : decode cX1_keep 62 = .ok (.return_, 1) := by decide +kernel
theorem dX1_takeLast_0 : decode cX1_takeLast 0 = .ok (.aload_n 0, 1) := by decide +kernel
theorem dX1_takeLast_1 : decode cX1_takeLast 1 = .ok (.getfield 26, 3) := by decide +kernel
theorem dX1_takeLast_4 : decode cX1_takeLast 4 = .ok (.ifCond .ne 5, 3) := by decide +kernel
theorem dX1_takeLast_7 : decode cX1_takeLast 7 = .ok (.aconst_null, 1) := by decide +kernel
theorem dX1_takeLast_8 : decode cX1_takeLast 8 = .ok (.areturn, 1) := by decide +kernel
theorem dX1_takeLast_9 : decode cX1_takeLast 9 = .ok (.aload_n 0, 1) := by decide +kernel
theorem dX1_takeLast_10 : decode cX1_takeLast 10 = .ok (.dup, 1) := by decide +kernel
theorem dX1_takeLast_11 : decode cX1_takeLast 11 = .ok (.getfield 26, 3) := by decide +kernel
theorem dX1_takeLast_14 : decode cX1_takeLast 14 = .ok (.iconst 1, 1) := by decide +kernel
theorem dX1_takeLast_15 : decode cX1_takeLast 15 = .ok (.isub, 1) := by decide +kernel
theorem dX1_takeLast_16 : decode cX1_takeLast 16 = .ok (.putfield 26, 3) := by decide +kernel
theorem dX1_takeLast_19 : decode cX1_takeLast 19 = .ok (.aload_n 0, 1) := by decide +kernel
theorem dX1_takeLast_20 : decode cX1_takeLast 20 = .ok (.aload_n 0, 1) := by decide +kernel
theorem dX1_takeLast_21 : decode cX1_takeLast 21 = .ok (.getfield 18, 3) := by decide +kernel
theorem dX1_takeLast_24 : decode cX1_takeLast 24 = .ok (.ifCond .le 12, 3) := by decide +kernel
theorem dX1_takeLast_27 : decode cX1_takeLast 27 = .ok (.aload_n 0, 1) := by decide +kernel
theorem dX1_takeLast_28 : decode cX1_takeLast 28 = .ok (.getfield 18, 3) := by decide +kernel
theorem dX1_takeLast_31 : decode cX1_takeLast 31 = .ok (.iconst 1, 1) := by decide +kernel
theorem dX1_takeLast_32 : decode cX1_takeLast 32 = .ok (.isub, 1) := by decide +kernel
theorem dX1_takeLast_33 : decode cX1_takeLast 33 = .ok (.goto 5, 3) := by decide +kernel
theorem dX1_takeLast_36 : decode cX1_takeLast 36 = .ok (.bipush 7, 2) := by decide +kernel
theorem dX1_takeLast_38 : decode cX1_takeLast 38 = .ok (.putfield 18, 3) := by decide +kernel
theorem dX1_takeLast_41 : decode cX1_takeLast 41 = .ok (.aload_n 0, 1) := by decide +kernel
theorem dX1_takeLast_42 : decode cX1_takeLast 42 = .ok (.getfield 11, 3) := by decide +kernel
theorem dX1_takeLast_45 : decode cX1_takeLast 45 = .ok (.aload_n 0, 1) := by decide +kernel
theorem dX1_takeLast_46 : decode cX1_takeLast 46 = .ok (.getfield 18, 3) := by decide +kernel
theorem dX1_takeLast_49 : decode cX1_takeLast 49 = .ok (.aaload, 1) := by decide +kernel
theorem dX1_takeLast_50 : decode cX1_takeLast 50 = .ok (.areturn, 1) := by decide +kernel
theorem dX2_init_0 : decode cX2_init 0 = .ok (.aload_n 0, 1) := by decide +kernel
theorem dX2_init_1 : decode cX2_init 1 = .ok (.invokespecial 3, 3) := by decide +kernel
theorem dX2_init_4 : decode cX2_init 4 = .ok (.aload_n 0, 1) := by decide +kernel
theorem dX2_init_5 : decode cX2_init 5 = .ok (.aload_n 1, 1) := by decide +kernel
theorem dX2_init_6 : decode cX2_init 6 = .ok (.putfield 9, 3) := by decide +kernel
theorem dX2_init_9 : decode cX2_init 9 = .ok (.aload_n 0, 1) := by decide +kernel
theorem dX2_init_10 : decode cX2_init 10 = .ok (.aload_n 2, 1) := by decide +kernel
theorem dX2_init_11 : decode cX2_init 11 = .ok (.putfield 15, 3) := by decide +kernel
theorem dX2_init_14 : decode cX2_init 14 = .ok (.aload_n 0, 1) := by decide +kernel
theorem dX2_init_15 : decode cX2_init 15 = .ok (.aload_n 3, 1) := by decide +kernel
theorem dX2_init_16 : decode cX2_init 16 = .ok (.putfield 19, 3) := by decide +kernel
theorem dX2_init_19 : decode cX2_init 19 = .ok (.aload_n 0, 1) := by decide +kernel
theorem dX2_init_20 : decode cX2_init 20 = .ok (.iconst 5, 1) := by decide +kernel
theorem dX2_init_21 : decode cX2_init 21 = .ok (.bipush 64, 2) := by decide +kernel
theorem dX2_init_23 : decode cX2_init 23 = .ok (.multianewarray 23 2, 4) := by decide +kernel
theorem dX2_init_27 : decode cX2_init 27 = .ok (.putfield 25, 3) := by decide +kernel
theorem dX2_init_30 : decode cX2_init 30 = .ok (.aload_n 0, 1) := by decide +kernel
theorem dX2_init_31 : decode cX2_init 31 = .ok (.iconst 5, 1) := by decide +kernel
theorem dX2_init_32 : decode cX2_init 32 = .ok (.bipush 64, 2) := by decide +kernel
theorem dX2_init_34 : decode cX2_init 34 = .ok (.multianewarray 23 2, 4) := by decide +kernel
theorem dX2_init_38 : decode cX2_init 38 = .ok (.putfield 28, 3) := by decide +kernel
theorem dX2_init_41 : decode cX2_init 41 = .ok (.aload_n 0, 1) := by decide +kernel
theorem dX2_init_42 : decode cX2_init 42 = .ok (.iconst 5, 1) := by decide +kernel
theorem dX2_init_43 : decode cX2_init 43 = .ok (.bipush 64, 2) := by decide +kernel
theorem dX2_init_45 : decode cX2_init 45 = .ok (.multianewarray 23 2, 4) := by decide +kernel
theorem dX2_init_49 : decode cX2_init 49 = .ok (.putfield 31, 3) := by decide +kernel
theorem dX2_init_52 : decode cX2_init 52 = .ok (.return_, 1) := by decide +kernel
theorem dX2_read_0 : decode cX2_read 0 = .ok (.aload_n 0, 1) := by decide +kernel
theorem dX2_read_1 : decode cX2_read 1 = .ok (.iconst 0, 1) := by decide +kernel
theorem dX2_read_2 : decode cX2_read 2 = .ok (.putfield 34, 3) := by decide +kernel
theorem dX2_read_5 : decode cX2_read 5 = .ok (.aload_n 0, 1) := by decide +kernel
theorem dX2_read_6 : decode cX2_read 6 = .ok (.iconst (-1), 1) := by decide +kernel
theorem dX2_read_7 : decode cX2_read 7 = .ok (.putfield 38, 3) := by decide +kernel
theorem dX2_read_10 : decode cX2_read 10 = .ok (.aload_n 0, 1) := by decide +kernel
theorem dX2_read_11 : decode cX2_read 11 = .ok (.getfield 19, 3) := by decide +kernel
theorem dX2_read_14 : decode cX2_read 14 = .ok (.iconst 0, 1) := by decide +kernel
theorem dX2_read_15 : decode cX2_read 15 = .ok (.putfield 41, 3) := by decide +kernel
theorem dX2_read_18 : decode cX2_read 18 = .ok (.aload_n 0, 1) := by decide +kernel
theorem dX2_read_19 : decode cX2_read 19 = .ok (.invokevirtual 46, 3) := by decide +kernel
theorem dX2_read_22 : decode cX2_read 22 = .ok (.ifCond .ne 5, 3) := by decide +kernel
theorem dX2_read_25 : decode cX2_read 25 = .ok (.iconst 0, 1) := by decide +kernel
theorem dX2_read_26 : decode cX2_read 26 = .ok (.ireturn, 1) := by decide +kernel
theorem dX2_read_27 : decode cX2_read 27 = .ok (.iconst 0, 1) := by decide +kernel
theorem dX2_read_28 : decode cX2_read 28 = .ok (.istore_n 1, 1) := by decide +kernel
theorem dX2_read_29 : decode cX2_read 29 = .ok (.iload_n 1, 1) := by decide +kernel
theorem dX2_read_30 : decode cX2_read 30 = .ok (.bipush 6, 2) := by decide +kernel
theorem dX2_read_32 : decode cX2_read 32 = .ok (.if_icmp .gt 121, 3) := by decide +kernel
theorem dX2_read_35 : decode cX2_read 35 = .ok (.aload_n 0, 1) := by decide +kernel
theorem dX2_read_36 : decode cX2_read 36 = .ok (.getfield 9, 3) := by decide +kernel
theorem dX2_read_39 : decode cX2_read 39 = .ok (.getfield 50, 3) := by decide +kernel
theorem dX2_read_42 : decode cX2_read 42 = .ok (.ifCond .eq 111, 3) := by decide +kernel
theorem dX2_read_45 : decode cX2_read 45 = .ok (.aload_n 0, 1) := by decide +kernel
theorem dX2_read_46 : decode cX2_read 46 = .ok (.getfield 9, 3) := by decide +kernel
theorem dX2_read_49 : decode cX2_read 49 = .ok (.getfield 50, 3) := by decide +kernel
theorem dX2_read_52 : decode cX2_read 52 = .ok (.iconst 3, 1) := by decide +kernel
theorem dX2_read_53 : decode cX2_read 53 = .ok (.if_icmp .eq 9, 3) := by decide +kernel
theorem dX2_read_56 : decode cX2_read 56 = .ok (.aload_n 0, 1) := by decide +kernel
theorem dX2_read_57 : decode cX2_read 57 = .ok (.iconst 1, 1) := by decide +kernel
theorem dX2_read_58 : decode cX2_read 58 = .ok (.invokevirtual 55, 3) := by decide +kernel
theorem dX2_read_61 : decode cX2_read 61 = .ok (.ireturn, 1) := by decide +kernel
theorem dX2_read_62 : decode cX2_read 62 = .ok (.aload_n 0, 1) := by decide +kernel
theorem dX2_read_63 : decode cX2_read 63 = .ok (.getfield 19, 3) := by decide +kernel
theorem dX2_read_66 : decode cX2_read 66 = .ok (.getfield 41, 3) := by decide +kernel
theorem dX2_read_69 : decode cX2_read 69 = .ok (.bipush 6, 2) := by decide +kernel
theorem dX2_read_71 : decode cX2_read 71 = .ok (.if_icmp .lt 9, 3) := by decide +kernel
theorem dX2_read_74 : decode cX2_read 74 = .ok (.aload_n 0, 1) := by decide +kernel
theorem dX2_read_75 : decode cX2_read 75 = .ok (.iconst 3, 1) := by decide +kernel
theorem dX2_read_76 : decode cX2_read 76 = .ok (.invokevirtual 55, 3) := by decide +kernel
theorem dX2_read_79 : decode cX2_read 79 = .ok (.ireturn, 1) := by decide +kernel
theorem dX2_read_80 : decode cX2_read 80 = .ok (.aload_n 0, 1) := by decide +kernel
theorem dX2_read_81 : decode cX2_read 81 = .ok (.getfield 9, 3) := by decide +kernel
theorem dX2_read_84 : decode cX2_read 84 = .ok (.invokevirtual 59, 3) := by decide +kernel
theorem dX2_read_87 : decode cX2_read 87 = .ok (.aload_n 0, 1) := by decide +kernel
theorem dX2_read_88 : decode cX2_read 88 = .ok (.iconst 0, 1) := by decide +kernel
theorem dX2_read_89 : decode cX2_read 89 = .ok (.invokevirtual 62, 3) := by decide +kernel
theorem dX2_read_92 : decode cX2_read 92 = .ok (.ifCond .eq 12, 3) := by decide +kernel
theorem dX2_read_95 : decode cX2_read 95 = .ok (.aload_n 0, 1) := by decide +kernel
theorem dX2_read_96 : decode cX2_read 96 = .ok (.bipush 59, 2) := by decide +kernel
theorem dX2_read_98 : decode cX2_read 98 = .ok (.invokevirtual 65, 3) := by decide +kernel
theorem dX2_read_101 : decode cX2_read 101 = .ok (.ifCond .ne 5, 3) := by decide +kernel
theorem dX2_read_104 : decode cX2_read 104 = .ok (.iconst 0, 1) := by decide +kernel
theorem dX2_read_105 : decode cX2_read 105 = .ok (.ireturn, 1) := by decide +kernel
theorem dX2_read_106 : decode cX2_read 106 = .ok (.aload_n 0, 1) := by decide +kernel
theorem dX2_read_107 : decode cX2_read 107 = .ok (.getfield 25, 3) := by decide +kernel
theorem dX2_read_110 : decode cX2_read 110 = .ok (.iconst 0, 1) := by decide +kernel
theorem dX2_read_111 : decode cX2_read 111 = .ok (.aaload, 1) := by decide +kernel
theorem dX2_read_112 : decode cX2_read 112 = .ok (.iconst 0, 1) := by decide +kernel
theorem dX2_read_113 : decode cX2_read 113 = .ok (.aload_n 0, 1) := by decide +kernel
theorem dX2_read_114 : decode cX2_read 114 = .ok (.getfield 19, 3) := by decide +kernel
theorem dX2_read_117 : decode cX2_read 117 = .ok (.getfield 68, 3) := by decide +kernel
theorem dX2_read_120 : decode cX2_read 120 = .ok (.aload_n 0, 1) := by decide +kernel
theorem dX2_read_121 : decode cX2_read 121 = .ok (.getfield 19, 3) := by decide +kernel
theorem dX2_read_124 : decode cX2_read 124 = .ok (.getfield 41, 3) := by decide +kernel
theorem dX2_read_127 : decode cX2_read 127 = .ok (.aaload, 1) := by decide +kernel
theorem dX2_read_128 : decode cX2_read 128 = .ok (.iconst 0, 1) := by decide +kernel
theorem dX2_read_129 : decode cX2_read 129 = .ok (.bipush 64, 2) := by decide +kernel
theorem dX2_read_131 : decode cX2_read 131 = .ok (.invokestatic 71, 3) := by decide +kernel
theorem dX2_read_134 : decode cX2_read 134 = .ok (.aload_n 0, 1) := by decide +kernel
theorem dX2_read_135 : decode cX2_read 135 = .ok (.getfield 19, 3) := by decide +kernel
theorem dX2_read_138 : decode cX2_read 138 = .ok (.dup, 1) := by decide +kernel
theorem dX2_read_139 : decode cX2_read 139 = .ok (.getfield 41, 3) := by decide +kernel
theorem dX2_read_142 : decode cX2_read 142 = .ok (.iconst 1, 1) := by decide +kernel
theorem dX2_read_143 : decode cX2_read 143 = .ok (.iadd, 1) := by decide +kernel
theorem dX2_read_144 : decode cX2_read 144 = .ok (.putfield 41, 3) := by decide +kernel
theorem dX2_read_147 : decode cX2_read 147 = .ok (.iinc 1 1, 3) := by decide +kernel
theorem dX2_read_150 : decode cX2_read 150 = .ok (.goto (-121), 3) := by decide +kernel
theorem dX2_read_153 : decode cX2_read 153 = .ok (.iconst 1, 1) := by decide +kernel
theorem dX2_read_154 : decode cX2_read 154 = .ok (.ireturn, 1) := by decide +kernel
theorem dX2_refuse_0 : decode cX2_refuse 0 = .ok (.aload_n 0, 1) := by decide +kernel
theorem dX2_refuse_1 : decode cX2_refuse 1 = .ok (.iload_n 1, 1) := by decide +kernel
theorem dX2_refuse_2 : decode cX2_refuse 2 = .ok (.putfield 34, 3) := by decide +kernel
theorem dX2_refuse_5 : decode cX2_refuse 5 = .ok (.aload_n 0, 1) := by decide +kernel
theorem dX2_refuse_6 : decode cX2_refuse 6 = .ok (.aload_n 0, 1) := by decide +kernel
theorem dX2_refuse_7 : decode cX2_refuse 7 = .ok (.getfield 9, 3) := by decide +kernel
theorem dX2_refuse_10 : decode cX2_refuse 10 = .ok (.getfield 77, 3) := by decide +kernel
theorem dX2_refuse_13 : decode cX2_refuse 13 = .ok (.putfield 38, 3) := by decide +kernel
theorem dX2_refuse_16 : decode cX2_refuse 16 = .ok (.iconst 0, 1) := by decide +kernel
theorem dX2_refuse_17 : decode cX2_refuse 17 = .ok (.ireturn, 1) := by decide +kernel
theorem dX2_takeSign_0 : decode cX2_takeSign 0 = .ok (.aload_n 0, 1) := by decide +kernel
theorem dX2_takeSign_1 : decode cX2_takeSign 1 = .ok (.getfield 9, 3) := by decide +kernel
theorem dX2_takeSign_4 : decode cX2_takeSign 4 = .ok (.getfield 50, 3) := by decide +kernel
theorem dX2_takeSign_7 : decode cX2_takeSign 7 = .ok (.iload_n 1, 1) := by decide +kernel
theorem dX2_takeSign_8 : decode cX2_takeSign 8 = .ok (.if_icmp .eq 9, 3) := by decide +kernel
theorem dX2_takeSign_11 : decode cX2_takeSign 11 = .ok (.aload_n 0, 1) := by decide +kernel
theorem dX2_takeSign_12 : decode cX2_takeSign 12 = .ok (.iconst 1, 1) := by decide +kernel
theorem dX2_takeSign_13 : decode cX2_takeSign 13 = .ok (.invokevirtual 55, 3) := by decide +kernel
theorem dX2_takeSign_16 : decode cX2_takeSign 16 = .ok (.ireturn, 1) := by decide +kernel
theorem dX2_takeSign_17 : decode cX2_takeSign 17 = .ok (.aload_n 0, 1) := by decide +kernel
theorem dX2_takeSign_18 : decode cX2_takeSign 18 = .ok (.getfield 9, 3) := by decide +kernel
theorem dX2_takeSign_21 : decode cX2_takeSign 21 = .ok (.invokevirtual 59, 3) := by decide +kernel
theorem dX2_takeSign_24 : decode cX2_takeSign 24 = .ok (.iconst 1, 1) := by decide +kernel
theorem dX2_takeSign_25 : decode cX2_takeSign 25 = .ok (.ireturn, 1) := by decide +kernel
theorem dX2_seeNumber_0 : decode cX2_seeNumber 0 = .ok (.aload_n 0, 1) := by decide +kernel
theorem dX2_seeNumber_1 : decode cX2_seeNumber 1 = .ok (.getfield 9, 3) := by decide +kernel
theorem dX2_seeNumber_4 : decode cX2_seeNumber 4 = .ok (.getfield 50, 3) := by decide +kernel
theorem dX2_seeNumber_7 : decode cX2_seeNumber 7 = .ok (.iconst 1, 1) := by decide +kernel
theorem dX2_seeNumber_8 : decode cX2_seeNumber 8 = .ok (.if_icmp .eq 9, 3) := by decide +kernel
theorem dX2_seeNumber_11 : decode cX2_seeNumber 11 = .ok (.aload_n 0, 1) := by decide +kernel
theorem dX2_seeNumber_12 : decode cX2_seeNumber 12 = .ok (.iconst 1, 1) := by decide +kernel
theorem dX2_seeNumber_13 : decode cX2_seeNumber 13 = .ok (.invokevirtual 55, 3) := by decide +kernel
theorem dX2_seeNumber_16 : decode cX2_seeNumber 16 = .ok (.ireturn, 1) := by decide +kernel
theorem dX2_seeNumber_17 : decode cX2_seeNumber 17 = .ok (.aload_n 0, 1) := by decide +kernel
theorem dX2_seeNumber_18 : decode cX2_seeNumber 18 = .ok (.getfield 9, 3) := by decide +kernel
theorem dX2_seeNumber_21 : decode cX2_seeNumber 21 = .ok (.getfield 80, 3) := by decide +kernel
theorem dX2_seeNumber_24 : decode cX2_seeNumber 24 = .ok (.iload_n 1, 1) := by decide +kernel
theorem dX2_seeNumber_25 : decode cX2_seeNumber 25 = .ok (.if_icmp .le 11, 3) := by decide +kernel
theorem dX2_seeNumber_28 : decode cX2_seeNumber 28 = .ok (.aload_n 0, 1) := by decide +kernel
theorem dX2_seeNumber_29 : decode cX2_seeNumber 29 = .ok (.iconst 2, 1) := by decide +kernel
theorem dX2_seeNumber_30 : decode cX2_seeNumber 30 = .ok (.invokevirtual 55, 3) := by decide +kernel
theorem dX2_seeNumber_33 : decode cX2_seeNumber 33 = .ok (.ifCond .eq 7, 3) := by decide +kernel
theorem dX2_seeNumber_36 : decode cX2_seeNumber 36 = .ok (.iconst 1, 1) := by decide +kernel
theorem dX2_seeNumber_37 : decode cX2_seeNumber 37 = .ok (.goto 4, 3) := by decide +kernel
theorem dX2_seeNumber_40 : decode cX2_seeNumber 40 = .ok (.iconst 0, 1) := by decide +kernel
theorem dX2_seeNumber_41 : decode cX2_seeNumber 41 = .ok (.ireturn, 1) := by decide +kernel
theorem dX2_readField_0 : decode cX2_readField 0 = .ok (.aload_n 0, 1) := by decide +kernel
theorem dX2_readField_1 : decode cX2_readField 1 = .ok (.getfield 9, 3) := by decide +kernel
theorem dX2_readField_4 : decode cX2_readField 4 = .ok (.getfield 50, 3) := by decide +kernel
theorem dX2_readField_7 : decode cX2_readField 7 = .ok (.iconst 2, 1) := by decide +kernel
theorem dX2_readField_8 : decode cX2_readField 8 = .ok (.if_icmp .eq 9, 3) := by decide +kernel
theorem dX2_readField_11 : decode cX2_readField 11 = .ok (.aload_n 0, 1) := by decide +kernel
theorem dX2_readField_12 : decode cX2_readField 12 = .ok (.iconst 1, 1) := by decide +kernel
theorem dX2_readField_13 : decode cX2_readField 13 = .ok (.invokevirtual 55, 3) := by decide +kernel
theorem dX2_readField_16 : decode cX2_readField 16 = .ok (.ireturn, 1) := by decide +kernel
theorem dX2_readField_17 : decode cX2_readField 17 = .ok (.aload_n 0, 1) := by decide +kernel
theorem dX2_readField_18 : decode cX2_readField 18 = .ok (.getfield 9, 3) := by decide +kernel
theorem dX2_readField_21 : decode cX2_readField 21 = .ok (.invokevirtual 59, 3) := by decide +kernel
theorem dX2_readField_24 : decode cX2_readField 24 = .ok (.aload_n 0, 1) := by decide +kernel
theorem dX2_readField_25 : decode cX2_readField 25 = .ok (.bipush 64, 2) := by decide +kernel
theorem dX2_readField_27 : decode cX2_readField 27 = .ok (.invokevirtual 83, 3) := by decide +kernel
theorem dX2_readField_30 : decode cX2_readField 30 = .ok (.ifCond .ne 5, 3) := by decide +kernel
theorem dX2_readField_33 : decode cX2_readField 33 = .ok (.iconst 0, 1) := by decide +kernel
theorem dX2_readField_34 : decode cX2_readField 34 = .ok (.ireturn, 1) := by decide +kernel
theorem dX2_readField_35 : decode cX2_readField 35 = .ok (.aload_n 0, 1) := by decide +kernel
theorem dX2_readField_36 : decode cX2_readField 36 = .ok (.getfield 9, 3) := by decide +kernel
theorem dX2_readField_39 : decode cX2_readField 39 = .ok (.getfield 80, 3) := by decide +kernel
theorem dX2_readField_42 : decode cX2_readField 42 = .ok (.istore_n 1, 1) := by decide +kernel
theorem dX2_readField_43 : decode cX2_readField 43 = .ok (.iload_n 1, 1) := by decide +kernel
theorem dX2_readField_44 : decode cX2_readField 44 = .ok (.invokestatic 86, 3) := by decide +kernel
theorem dX2_readField_47 : decode cX2_readField 47 = .ok (.ifCond .ne 9, 3) := by decide +kernel
theorem dX2_readField_50 : decode cX2_readField 50 = .ok (.aload_n 0, 1) := by decide +kernel
theorem dX2_readField_51 : decode cX2_readField 51 = .ok (.iconst 2, 1) := by decide +kernel
theorem dX2_readField_52 : decode cX2_readField 52 = .ok (.invokevirtual 55, 3) := by decide +kernel
theorem dX2_readField_55 : decode cX2_readField 55 = .ok (.ireturn, 1) := by decide +kernel
theorem dX2_readField_56 : decode cX2_readField 56 = .ok (.aload_n 0, 1) := by decide +kernel
theorem dX2_readField_57 : decode cX2_readField 57 = .ok (.getfield 9, 3) := by decide +kernel
theorem dX2_readField_60 : decode cX2_readField 60 = .ok (.invokevirtual 59, 3) := by decide +kernel
theorem dX2_readField_63 : decode cX2_readField 63 = .ok (.aload_n 0, 1) := by decide +kernel
theorem dX2_readField_64 : decode cX2_readField 64 = .ok (.bipush 64, 2) := by decide +kernel
theorem dX2_readField_66 : decode cX2_readField 66 = .ok (.invokevirtual 83, 3) := by decide +kernel
theorem dX2_readField_69 : decode cX2_readField 69 = .ok (.ifCond .ne 5, 3) := by decide +kernel
theorem dX2_readField_72 : decode cX2_readField 72 = .ok (.iconst 0, 1) := by decide +kernel
theorem dX2_readField_73 : decode cX2_readField 73 = .ok (.ireturn, 1) := by decide +kernel
theorem dX2_readField_74 : decode cX2_readField 74 = .ok (.aload_n 0, 1) := by decide +kernel
theorem dX2_readField_75 : decode cX2_readField 75 = .ok (.getfield 9, 3) := by decide +kernel
theorem dX2_readField_78 : decode cX2_readField 78 = .ok (.getfield 80, 3) := by decide +kernel
theorem dX2_readField_81 : decode cX2_readField 81 = .ok (.istore_n 2, 1) := by decide +kernel
theorem dX2_readField_82 : decode cX2_readField 82 = .ok (.iload_n 2, 1) := by decide +kernel
theorem dX2_readField_83 : decode cX2_readField 83 = .ok (.ifCond .eq 13, 3) := by decide +kernel
theorem dX2_readField_86 : decode cX2_readField 86 = .ok (.iload_n 1, 1) := by decide +kernel
theorem dX2_readField_87 : decode cX2_readField 87 = .ok (.iload_n 2, 1) := by decide +kernel
theorem dX2_readField_88 : decode cX2_readField 88 = .ok (.invokestatic 89, 3) := by decide +kernel
theorem dX2_readField_91 : decode cX2_readField 91 = .ok (.bipush 64, 2) := by decide +kernel
theorem dX2_readField_93 : decode cX2_readField 93 = .ok (.if_icmp .le 9, 3) := by decide +kernel
theorem dX2_readField_96 : decode cX2_readField 96 = .ok (.aload_n 0, 1) := by decide +kernel
theorem dX2_readField_97 : decode cX2_readField 97 = .ok (.iconst 2, 1) := by decide +kernel
theorem dX2_readField_98 : decode cX2_readField 98 = .ok (.invokevirtual 55, 3) := by decide +kernel
theorem dX2_readField_101 : decode cX2_readField 101 = .ok (.ireturn, 1) := by decide +kernel
theorem dX2_readField_102 : decode cX2_readField 102 = .ok (.aload_n 0, 1) := by decide +kernel
theorem dX2_readField_103 : decode cX2_readField 103 = .ok (.getfield 9, 3) := by decide +kernel
theorem dX2_readField_106 : decode cX2_readField 106 = .ok (.invokevirtual 59, 3) := by decide +kernel
theorem dX2_readField_109 : decode cX2_readField 109 = .ok (.aload_n 0, 1) := by decide +kernel
theorem dX2_readField_110 : decode cX2_readField 110 = .ok (.getfield 19, 3) := by decide +kernel
theorem dX2_readField_113 : decode cX2_readField 113 = .ok (.iload_n 1, 1) := by decide +kernel
theorem dX2_readField_114 : decode cX2_readField 114 = .ok (.putfield 95, 3) := by decide +kernel
theorem dX2_readField_117 : decode cX2_readField 117 = .ok (.aload_n 0, 1) := by decide +kernel
theorem dX2_readField_118 : decode cX2_readField 118 = .ok (.getfield 19, 3) := by decide +kernel
theorem dX2_readField_121 : decode cX2_readField 121 = .ok (.iload_n 2, 1) := by decide +kernel
theorem dX2_readField_122 : decode cX2_readField 122 = .ok (.putfield 98, 3) := by decide +kernel
theorem dX2_readField_125 : decode cX2_readField 125 = .ok (.aload_n 0, 1) := by decide +kernel
theorem dX2_readField_126 : decode cX2_readField 126 = .ok (.getfield 15, 3) := by decide +kernel
theorem dX2_readField_129 : decode cX2_readField 129 = .ok (.iload_n 1, 1) := by decide +kernel
theorem dX2_readField_130 : decode cX2_readField 130 = .ok (.iload_n 2, 1) := by decide +kernel
theorem dX2_readField_131 : decode cX2_readField 131 = .ok (.invokevirtual 101, 3) := by decide +kernel
theorem dX2_readField_134 : decode cX2_readField 134 = .ok (.aload_n 0, 1) := by decide +kernel
theorem dX2_readField_135 : decode cX2_readField 135 = .ok (.bipush 59, 2) := by decide +kernel
theorem dX2_readField_137 : decode cX2_readField 137 = .ok (.invokevirtual 65, 3) := by decide +kernel
theorem dX2_readField_140 : decode cX2_readField 140 = .ok (.ireturn, 1) := by decide +kernel
theorem dX2_isPrime_0 : decode cX2_isPrime 0 = .ok (.iconst 2, 1) := by decide +kernel
theorem dX2_isPrime_1 : decode cX2_isPrime 1 = .ok (.istore_n 1, 1) := by decide +kernel
theorem dX2_isPrime_2 : decode cX2_isPrime 2 = .ok (.iload_n 1, 1) := by decide +kernel
theorem dX2_isPrime_3 : decode cX2_isPrime 3 = .ok (.iload_n 0, 1) := by decide +kernel
theorem dX2_isPrime_4 : decode cX2_isPrime 4 = .ok (.if_icmp .ge 17, 3) := by decide +kernel
theorem dX2_isPrime_7 : decode cX2_isPrime 7 = .ok (.iload_n 0, 1) := by decide +kernel
theorem dX2_isPrime_8 : decode cX2_isPrime 8 = .ok (.iload_n 1, 1) := by decide +kernel
theorem dX2_isPrime_9 : decode cX2_isPrime 9 = .ok (.irem, 1) := by decide +kernel
theorem dX2_isPrime_10 : decode cX2_isPrime 10 = .ok (.ifCond .ne 5, 3) := by decide +kernel
theorem dX2_isPrime_13 : decode cX2_isPrime 13 = .ok (.iconst 0, 1) := by decide +kernel
theorem dX2_isPrime_14 : decode cX2_isPrime 14 = .ok (.ireturn, 1) := by decide +kernel
theorem dX2_isPrime_15 : decode cX2_isPrime 15 = .ok (.iinc 1 1, 3) := by decide +kernel
theorem dX2_isPrime_18 : decode cX2_isPrime 18 = .ok (.goto (-16), 3) := by decide +kernel
theorem dX2_isPrime_21 : decode cX2_isPrime 21 = .ok (.iload_n 0, 1) := by decide +kernel
theorem dX2_isPrime_22 : decode cX2_isPrime 22 = .ok (.iconst 2, 1) := by decide +kernel
theorem dX2_isPrime_23 : decode cX2_isPrime 23 = .ok (.if_icmp .lt 7, 3) := by decide +kernel
theorem dX2_isPrime_26 : decode cX2_isPrime 26 = .ok (.iconst 1, 1) := by decide +kernel
theorem dX2_isPrime_27 : decode cX2_isPrime 27 = .ok (.goto 4, 3) := by decide +kernel
theorem dX2_isPrime_30 : decode cX2_isPrime 30 = .ok (.iconst 0, 1) := by decide +kernel
theorem dX2_isPrime_31 : decode cX2_isPrime 31 = .ok (.ireturn, 1) := by decide +kernel
theorem dX2_readSum_0 : decode cX2_readSum 0 = .ok (.aload_n 0, 1) := by decide +kernel
theorem dX2_readSum_1 : decode cX2_readSum 1 = .ok (.iload_n 1, 1) := by decide +kernel
theorem dX2_readSum_2 : decode cX2_readSum 2 = .ok (.invokevirtual 105, 3) := by decide +kernel
theorem dX2_readSum_5 : decode cX2_readSum 5 = .ok (.ifCond .ne 5, 3) := by decide +kernel
theorem dX2_readSum_8 : decode cX2_readSum 8 = .ok (.iconst 0, 1) := by decide +kernel
theorem dX2_readSum_9 : decode cX2_readSum 9 = .ok (.ireturn, 1) := by decide +kernel
theorem dX2_readSum_10 : decode cX2_readSum 10 = .ok (.aload_n 0, 1) := by decide +kernel
theorem dX2_readSum_11 : decode cX2_readSum 11 = .ok (.getfield 25, 3) := by decide +kernel
theorem dX2_readSum_14 : decode cX2_readSum 14 = .ok (.iload_n 1, 1) := by decide +kernel
theorem dX2_readSum_15 : decode cX2_readSum 15 = .ok (.aaload, 1) := by decide +kernel
theorem dX2_readSum_16 : decode cX2_readSum 16 = .ok (.astore_n 2, 1) := by decide +kernel
theorem dX2_readSum_17 : decode cX2_readSum 17 = .ok (.aload_n 0, 1) := by decide +kernel
theorem dX2_readSum_18 : decode cX2_readSum 18 = .ok (.getfield 28, 3) := by decide +kernel
theorem dX2_readSum_21 : decode cX2_readSum 21 = .ok (.iload_n 1, 1) := by decide +kernel
theorem dX2_readSum_22 : decode cX2_readSum 22 = .ok (.aaload, 1) := by decide +kernel
theorem dX2_readSum_23 : decode cX2_readSum 23 = .ok (.astore_n 3, 1) := by decide +kernel
theorem dX2_readSum_24 : decode cX2_readSum 24 = .ok (.aload_n 3, 1) := by decide +kernel
theorem dX2_readSum_25 : decode cX2_readSum 25 = .ok (.iconst 0, 1) := by decide +kernel
theorem dX2_readSum_26 : decode cX2_readSum 26 = .ok (.aload_n 2, 1) := by decide +kernel
theorem dX2_readSum_27 : decode cX2_readSum 27 = .ok (.iconst 0, 1) := by decide +kernel
theorem dX2_readSum_28 : decode cX2_readSum 28 = .ok (.bipush 64, 2) := by decide +kernel
theorem dX2_readSum_30 : decode cX2_readSum 30 = .ok (.invokestatic 71, 3) := by decide +kernel
theorem dX2_readSum_33 : decode cX2_readSum 33 = .ok (.iconst 0, 1) := by decide +kernel
theorem dX2_readSum_34 : decode cX2_readSum 34 = .ok (.istore 4, 2) := by decide +kernel
theorem dX2_readSum_36 : decode cX2_readSum 36 = .ok (.iload 4, 2) := by decide +kernel
theorem dX2_readSum_38 : decode cX2_readSum 38 = .ok (.sipush 300, 3) := by decide +kernel
theorem dX2_readSum_41 : decode cX2_readSum 41 = .ok (.if_icmp .ge 116, 3) := by decide +kernel
theorem dX2_readSum_44 : decode cX2_readSum 44 = .ok (.aload_n 0, 1) := by decide +kernel
theorem dX2_readSum_45 : decode cX2_readSum 45 = .ok (.getfield 9, 3) := by decide +kernel
theorem dX2_readSum_48 : decode cX2_readSum 48 = .ok (.getfield 50, 3) := by decide +kernel
theorem dX2_readSum_51 : decode cX2_readSum 51 = .ok (.istore 5, 2) := by decide +kernel
theorem dX2_readSum_53 : decode cX2_readSum 53 = .ok (.iload 5, 2) := by decide +kernel
theorem dX2_readSum_55 : decode cX2_readSum 55 = .ok (.bipush 43, 2) := by decide +kernel
theorem dX2_readSum_57 : decode cX2_readSum 57 = .ok (.if_icmp .eq 12, 3) := by decide +kernel
theorem dX2_readSum_60 : decode cX2_readSum 60 = .ok (.iload 5, 2) := by decide +kernel
theorem dX2_readSum_62 : decode cX2_readSum 62 = .ok (.bipush 45, 2) := by decide +kernel
theorem dX2_readSum_64 : decode cX2_readSum 64 = .ok (.if_icmp .eq 5, 3) := by decide +kernel
theorem dX2_readSum_67 : decode cX2_readSum 67 = .ok (.iconst 1, 1) := by decide +kernel
theorem dX2_readSum_68 : decode cX2_readSum 68 = .ok (.ireturn, 1) := by decide +kernel
theorem dX2_readSum_69 : decode cX2_readSum 69 = .ok (.aload_n 0, 1) := by decide +kernel
theorem dX2_readSum_70 : decode cX2_readSum 70 = .ok (.getfield 9, 3) := by decide +kernel
theorem dX2_readSum_73 : decode cX2_readSum 73 = .ok (.invokevirtual 59, 3) := by decide +kernel
theorem dX2_readSum_76 : decode cX2_readSum 76 = .ok (.aload_n 0, 1) := by decide +kernel
theorem dX2_readSum_77 : decode cX2_readSum 77 = .ok (.iload_n 1, 1) := by decide +kernel
theorem dX2_readSum_78 : decode cX2_readSum 78 = .ok (.invokevirtual 105, 3) := by decide +kernel
theorem dX2_readSum_81 : decode cX2_readSum 81 = .ok (.ifCond .ne 5, 3) := by decide +kernel
theorem dX2_readSum_84 : decode cX2_readSum 84 = .ok (.iconst 0, 1) := by decide +kernel
theorem dX2_readSum_85 : decode cX2_readSum 85 = .ok (.ireturn, 1) := by decide +kernel
theorem dX2_readSum_86 : decode cX2_readSum 86 = .ok (.iconst 0, 1) := by decide +kernel
theorem dX2_readSum_87 : decode cX2_readSum 87 = .ok (.istore 6, 2) := by decide +kernel
theorem dX2_readSum_89 : decode cX2_readSum 89 = .ok (.iload 6, 2) := by decide +kernel
theorem dX2_readSum_91 : decode cX2_readSum 91 = .ok (.aload_n 0, 1) := by decide +kernel
theorem dX2_readSum_92 : decode cX2_readSum 92 = .ok (.getfield 15, 3) := by decide +kernel
theorem dX2_readSum_95 : decode cX2_readSum 95 = .ok (.getfield 108, 3) := by decide +kernel
theorem dX2_readSum_98 : decode cX2_readSum 98 = .ok (.if_icmp .ge 53, 3) := by decide +kernel
theorem dX2_readSum_101 : decode cX2_readSum 101 = .ok (.aload_n 2, 1) := by decide +kernel
theorem dX2_readSum_102 : decode cX2_readSum 102 = .ok (.iload 6, 2) := by decide +kernel
theorem dX2_readSum_104 : decode cX2_readSum 104 = .ok (.iload 5, 2) := by decide +kernel
theorem dX2_readSum_106 : decode cX2_readSum 106 = .ok (.bipush 43, 2) := by decide +kernel
theorem dX2_readSum_108 : decode cX2_readSum 108 = .ok (.if_icmp .ne 21, 3) := by decide +kernel
theorem dX2_readSum_111 : decode cX2_readSum 111 = .ok (.aload_n 0, 1) := by decide +kernel
theorem dX2_readSum_112 : decode cX2_readSum 112 = .ok (.getfield 15, 3) := by decide +kernel
theorem dX2_readSum_115 : decode cX2_readSum 115 = .ok (.aload_n 2, 1) := by decide +kernel
theorem dX2_readSum_116 : decode cX2_readSum 116 = .ok (.iload 6, 2) := by decide +kernel
theorem dX2_readSum_118 : decode cX2_readSum 118 = .ok (.iaload, 1) := by decide +kernel
theorem dX2_readSum_119 : decode cX2_readSum 119 = .ok (.aload_n 3, 1) := by decide +kernel
theorem dX2_readSum_120 : decode cX2_readSum 120 = .ok (.iload 6, 2) := by decide +kernel
theorem dX2_readSum_122 : decode cX2_readSum 122 = .ok (.iaload, 1) := by decide +kernel
theorem dX2_readSum_123 : decode cX2_readSum 123 = .ok (.invokevirtual 111, 3) := by decide +kernel
theorem dX2_readSum_126 : decode cX2_readSum 126 = .ok (.goto 18, 3) := by decide +kernel
theorem dX2_readSum_129 : decode cX2_readSum 129 = .ok (.aload_n 0, 1) := by decide +kernel
theorem dX2_readSum_130 : decode cX2_readSum 130 = .ok (.getfield 15, 3) := by decide +kernel
theorem dX2_readSum_133 : decode cX2_readSum 133 = .ok (.aload_n 2, 1) := by decide +kernel
theorem dX2_readSum_134 : decode cX2_readSum 134 = .ok (.iload 6, 2) := by decide +kernel
theorem dX2_readSum_136 : decode cX2_readSum 136 = .ok (.iaload, 1) := by decide +kernel
theorem dX2_readSum_137 : decode cX2_readSum 137 = .ok (.aload_n 3, 1) := by decide +kernel
theorem dX2_readSum_138 : decode cX2_readSum 138 = .ok (.iload 6, 2) := by decide +kernel
theorem dX2_readSum_140 : decode cX2_readSum 140 = .ok (.iaload, 1) := by decide +kernel
theorem dX2_readSum_141 : decode cX2_readSum 141 = .ok (.invokevirtual 114, 3) := by decide +kernel
theorem dX2_readSum_144 : decode cX2_readSum 144 = .ok (.iastore, 1) := by decide +kernel
theorem dX2_readSum_145 : decode cX2_readSum 145 = .ok (.iinc 6 1, 3) := by decide +kernel
theorem dX2_readSum_148 : decode cX2_readSum 148 = .ok (.goto (-59), 3) := by decide +kernel
theorem dX2_readSum_151 : decode cX2_readSum 151 = .ok (.iinc 4 1, 3) := by decide +kernel
theorem dX2_readSum_154 : decode cX2_readSum 154 = .ok (.goto (-118), 3) := by decide +kernel
theorem dX2_readSum_157 : decode cX2_readSum 157 = .ok (.iconst 1, 1) := by decide +kernel
theorem dX2_readSum_158 : decode cX2_readSum 158 = .ok (.ireturn, 1) := by decide +kernel
theorem dX2_readProduct_0 : decode cX2_readProduct 0 = .ok (.aload_n 0, 1) := by decide +kernel
theorem dX2_readProduct_1 : decode cX2_readProduct 1 = .ok (.iload_n 1, 1) := by decide +kernel
theorem dX2_readProduct_2 : decode cX2_readProduct 2 = .ok (.invokevirtual 117, 3) := by decide +kernel
theorem dX2_readProduct_5 : decode cX2_readProduct 5 = .ok (.ifCond .ne 5, 3) := by decide +kernel
theorem dX2_readProduct_8 : decode cX2_readProduct 8 = .ok (.iconst 0, 1) := by decide +kernel
theorem dX2_readProduct_9 : decode cX2_readProduct 9 = .ok (.ireturn, 1) := by decide +kernel
theorem dX2_readProduct_10 : decode cX2_readProduct 10 = .ok (.aload_n 0, 1) := by decide +kernel
theorem dX2_readProduct_11 : decode cX2_readProduct 11 = .ok (.getfield 28, 3) := by decide +kernel
theorem dX2_readProduct_14 : decode cX2_readProduct 14 = .ok (.iload_n 1, 1) := by decide +kernel
theorem dX2_readProduct_15 : decode cX2_readProduct 15 = .ok (.aaload, 1) := by decide +kernel
theorem dX2_readProduct_16 : decode cX2_readProduct 16 = .ok (.astore_n 2, 1) := by decide +kernel
theorem dX2_readProduct_17 : decode cX2_readProduct 17 = .ok (.aload_n 0, 1) := by decide +kernel
theorem dX2_readProduct_18 : decode cX2_readProduct 18 = .ok (.getfield 31, 3) := by decide +kernel
theorem dX2_readProduct_21 : decode cX2_readProduct 21 = .ok (.iload_n 1, 1) := by decide +kernel
theorem dX2_readProduct_22 : decode cX2_readProduct 22 = .ok (.aaload, 1) := by decide +kernel
theorem dX2_readProduct_23 : decode cX2_readProduct 23 = .ok (.astore_n 3, 1) := by decide +kernel
theorem dX2_readProduct_24 : decode cX2_readProduct 24 = .ok (.aload_n 3, 1) := by decide +kernel
theorem dX2_readProduct_25 : decode cX2_readProduct 25 = .ok (.iconst 0, 1) := by decide +kernel
theorem dX2_readProduct_26 : decode cX2_readProduct 26 = .ok (.aload_n 2, 1) := by decide +kernel
theorem dX2_readProduct_27 : decode cX2_readProduct 27 = .ok (.iconst 0, 1) := by decide +kernel
theorem dX2_readProduct_28 : decode cX2_readProduct 28 = .ok (.bipush 64, 2) := by decide +kernel
theorem dX2_readProduct_30 : decode cX2_readProduct 30 = .ok (.invokestatic 71, 3) := by decide +kernel
theorem dX2_readProduct_33 : decode cX2_readProduct 33 = .ok (.iconst 0, 1) := by decide +kernel
theorem dX2_readProduct_34 : decode cX2_readProduct 34 = .ok (.istore 4, 2) := by decide +kernel
theorem dX2_readProduct_36 : decode cX2_readProduct 36 = .ok (.iload 4, 2) := by decide +kernel
theorem dX2_readProduct_38 : decode cX2_readProduct 38 = .ok (.sipush 300, 3) := by decide +kernel
theorem dX2_readProduct_41 : decode cX2_readProduct 41 = .ok (.if_icmp .ge 78, 3) := by decide +kernel
theorem dX2_readProduct_44 : decode cX2_readProduct 44 = .ok (.aload_n 0, 1) := by decide +kernel
theorem dX2_readProduct_45 : decode cX2_readProduct 45 = .ok (.getfield 9, 3) := by decide +kernel
theorem dX2_readProduct_48 : decode cX2_readProduct 48 = .ok (.getfield 50, 3) := by decide +kernel
theorem dX2_readProduct_51 : decode cX2_readProduct 51 = .ok (.bipush 42, 2) := by decide +kernel
theorem dX2_readProduct_53 : decode cX2_readProduct 53 = .ok (.if_icmp .ne 66, 3) := by decide +kernel
theorem dX2_readProduct_56 : decode cX2_readProduct 56 = .ok (.aload_n 0, 1) := by decide +kernel
theorem dX2_readProduct_57 : decode cX2_readProduct 57 = .ok (.getfield 9, 3) := by decide +kernel
theorem dX2_readProduct_60 : decode cX2_readProduct 60 = .ok (.invokevirtual 59, 3) := by decide +kernel
theorem dX2_readProduct_63 : decode cX2_readProduct 63 = .ok (.aload_n 0, 1) := by decide +kernel
theorem dX2_readProduct_64 : decode cX2_readProduct 64 = .ok (.iload_n 1, 1) := by decide +kernel
theorem dX2_readProduct_65 : decode cX2_readProduct 65 = .ok (.invokevirtual 117, 3) := by decide +kernel
theorem dX2_readProduct_68 : decode cX2_readProduct 68 = .ok (.ifCond .ne 5, 3) := by decide +kernel
theorem dX2_readProduct_71 : decode cX2_readProduct 71 = .ok (.iconst 0, 1) := by decide +kernel
theorem dX2_readProduct_72 : decode cX2_readProduct 72 = .ok (.ireturn, 1) := by decide +kernel
theorem dX2_readProduct_73 : decode cX2_readProduct 73 = .ok (.iconst 0, 1) := by decide +kernel
theorem dX2_readProduct_74 : decode cX2_readProduct 74 = .ok (.istore 5, 2) := by decide +kernel
theorem dX2_readProduct_76 : decode cX2_readProduct 76 = .ok (.iload 5, 2) := by decide +kernel
theorem dX2_readProduct_78 : decode cX2_readProduct 78 = .ok (.aload_n 0, 1) := by decide +kernel
theorem dX2_readProduct_79 : decode cX2_readProduct 79 = .ok (.getfield 15, 3) := by decide +kernel
theorem dX2_readProduct_82 : decode cX2_readProduct 82 = .ok (.getfield 108, 3) := by decide +kernel
theorem dX2_readProduct_85 : decode cX2_readProduct 85 = .ok (.if_icmp .ge 28, 3) := by decide +kernel
theorem dX2_readProduct_88 : decode cX2_readProduct 88 = .ok (.aload_n 2, 1) := by decide +kernel
theorem dX2_readProduct_89 : decode cX2_readProduct 89 = .ok (.iload 5, 2) := by decide +kernel
theorem dX2_readProduct_91 : decode cX2_readProduct 91 = .ok (.aload_n 0, 1) := by decide +kernel
theorem dX2_readProduct_92 : decode cX2_readProduct 92 = .ok (.getfield 15, 3) := by decide +kernel
theorem dX2_readProduct_95 : decode cX2_readProduct 95 = .ok (.aload_n 2, 1) := by decide +kernel
theorem dX2_readProduct_96 : decode cX2_readProduct 96 = .ok (.iload 5, 2) := by decide +kernel
theorem dX2_readProduct_98 : decode cX2_readProduct 98 = .ok (.iaload, 1) := by decide +kernel
theorem dX2_readProduct_99 : decode cX2_readProduct 99 = .ok (.aload_n 3, 1) := by decide +kernel
theorem dX2_readProduct_100 : decode cX2_readProduct 100 = .ok (.iload 5, 2) := by decide +kernel
theorem dX2_readProduct_102 : decode cX2_readProduct 102 = .ok (.iaload, 1) := by decide +kernel
theorem dX2_readProduct_103 : decode cX2_readProduct 103 = .ok (.invokevirtual 120, 3) := by decide +kernel
theorem dX2_readProduct_106 : decode cX2_readProduct 106 = .ok (.iastore, 1) := by decide +kernel
theorem dX2_readProduct_107 : decode cX2_readProduct 107 = .ok (.iinc 5 1, 3) := by decide +kernel
theorem dX2_readProduct_110 : decode cX2_readProduct 110 = .ok (.goto (-34), 3) := by decide +kernel
theorem dX2_readProduct_113 : decode cX2_readProduct 113 = .ok (.iinc 4 1, 3) := by decide +kernel
theorem dX2_readProduct_116 : decode cX2_readProduct 116 = .ok (.goto (-80), 3) := by decide +kernel
theorem dX2_readProduct_119 : decode cX2_readProduct 119 = .ok (.iconst 1, 1) := by decide +kernel
theorem dX2_readProduct_120 : decode cX2_readProduct 120 = .ok (.ireturn, 1) := by decide +kernel
theorem dX2_readUnit_0 : decode cX2_readUnit 0 = .ok (.aload_n 0, 1) := by decide +kernel
theorem dX2_readUnit_1 : decode cX2_readUnit 1 = .ok (.getfield 9, 3) := by decide +kernel
theorem dX2_readUnit_4 : decode cX2_readUnit 4 = .ok (.getfield 50, 3) := by decide +kernel
theorem dX2_readUnit_7 : decode cX2_readUnit 7 = .ok (.lookupswitch 109 #[(1, 49), (4, 63), (5, 86), (6, 95), (40, 77)], 49) := by decide +kernel
theorem dX2_readUnit_56 : decode cX2_readUnit 56 = .ok (.aload_n 0, 1) := by decide +kernel
theorem dX2_readUnit_57 : decode cX2_readUnit 57 = .ok (.aload_n 0, 1) := by decide +kernel
theorem dX2_readUnit_58 : decode cX2_readUnit 58 = .ok (.getfield 31, 3) := by decide +kernel
theorem dX2_readUnit_61 : decode cX2_readUnit 61 = .ok (.iload_n 1, 1) := by decide +kernel
theorem dX2_readUnit_62 : decode cX2_readUnit 62 = .ok (.aaload, 1) := by decide +kernel
theorem dX2_readUnit_63 : decode cX2_readUnit 63 = .ok (.invokevirtual 123, 3) := by decide +kernel
theorem dX2_readUnit_66 : decode cX2_readUnit 66 = .ok (.istore_n 2, 1) := by decide +kernel
theorem dX2_readUnit_67 : decode cX2_readUnit 67 = .ok (.goto 55, 3) := by decide +kernel
theorem dX2_readUnit_70 : decode cX2_readUnit 70 = .ok (.aload_n 0, 1) := by decide +kernel
theorem dX2_readUnit_71 : decode cX2_readUnit 71 = .ok (.aload_n 0, 1) := by decide +kernel
theorem dX2_readUnit_72 : decode cX2_readUnit 72 = .ok (.getfield 31, 3) := by decide +kernel
theorem dX2_readUnit_75 : decode cX2_readUnit 75 = .ok (.iload_n 1, 1) := by decide +kernel
theorem dX2_readUnit_76 : decode cX2_readUnit 76 = .ok (.aaload, 1) := by decide +kernel
theorem dX2_readUnit_77 : decode cX2_readUnit 77 = .ok (.invokevirtual 127, 3) := by decide +kernel
theorem dX2_readUnit_80 : decode cX2_readUnit 80 = .ok (.istore_n 2, 1) := by decide +kernel
theorem dX2_readUnit_81 : decode cX2_readUnit 81 = .ok (.goto 41, 3) := by decide +kernel
theorem dX2_readUnit_84 : decode cX2_readUnit 84 = .ok (.aload_n 0, 1) := by decide +kernel
theorem dX2_readUnit_85 : decode cX2_readUnit 85 = .ok (.iload_n 1, 1) := by decide +kernel
theorem dX2_readUnit_86 : decode cX2_readUnit 86 = .ok (.invokevirtual 130, 3) := by decide +kernel
theorem dX2_readUnit_89 : decode cX2_readUnit 89 = .ok (.istore_n 2, 1) := by decide +kernel
theorem dX2_readUnit_90 : decode cX2_readUnit 90 = .ok (.goto 32, 3) := by decide +kernel
theorem dX2_readUnit_93 : decode cX2_readUnit 93 = .ok (.aload_n 0, 1) := by decide +kernel
theorem dX2_readUnit_94 : decode cX2_readUnit 94 = .ok (.iload_n 1, 1) := by decide +kernel
theorem dX2_readUnit_95 : decode cX2_readUnit 95 = .ok (.invokevirtual 133, 3) := by decide +kernel
theorem dX2_readUnit_98 : decode cX2_readUnit 98 = .ok (.istore_n 2, 1) := by decide +kernel
theorem dX2_readUnit_99 : decode cX2_readUnit 99 = .ok (.goto 23, 3) := by decide +kernel
theorem dX2_readUnit_102 : decode cX2_readUnit 102 = .ok (.aload_n 0, 1) := by decide +kernel
theorem dX2_readUnit_103 : decode cX2_readUnit 103 = .ok (.aload_n 0, 1) := by decide +kernel
theorem dX2_readUnit_104 : decode cX2_readUnit 104 = .ok (.getfield 31, 3) := by decide +kernel
theorem dX2_readUnit_107 : decode cX2_readUnit 107 = .ok (.iload_n 1, 1) := by decide +kernel
theorem dX2_readUnit_108 : decode cX2_readUnit 108 = .ok (.aaload, 1) := by decide +kernel
theorem dX2_readUnit_109 : decode cX2_readUnit 109 = .ok (.invokevirtual 136, 3) := by decide +kernel
theorem dX2_readUnit_112 : decode cX2_readUnit 112 = .ok (.istore_n 2, 1) := by decide +kernel
theorem dX2_readUnit_113 : decode cX2_readUnit 113 = .ok (.goto 9, 3) := by decide +kernel
theorem dX2_readUnit_116 : decode cX2_readUnit 116 = .ok (.aload_n 0, 1) := by decide +kernel
theorem dX2_readUnit_117 : decode cX2_readUnit 117 = .ok (.iconst 1, 1) := by decide +kernel
theorem dX2_readUnit_118 : decode cX2_readUnit 118 = .ok (.invokevirtual 55, 3) := by decide +kernel
theorem dX2_readUnit_121 : decode cX2_readUnit 121 = .ok (.istore_n 2, 1) := by decide +kernel
theorem dX2_readUnit_122 : decode cX2_readUnit 122 = .ok (.iload_n 2, 1) := by decide +kernel
theorem dX2_readUnit_123 : decode cX2_readUnit 123 = .ok (.ifCond .eq 32, 3) := by decide +kernel
theorem dX2_readUnit_126 : decode cX2_readUnit 126 = .ok (.aload_n 0, 1) := by decide +kernel
theorem dX2_readUnit_127 : decode cX2_readUnit 127 = .ok (.getfield 9, 3) := by decide +kernel
theorem dX2_readUnit_130 : decode cX2_readUnit 130 = .ok (.getfield 50, 3) := by decide +kernel
theorem dX2_readUnit_133 : decode cX2_readUnit 133 = .ok (.bipush 94, 2) := by decide +kernel
theorem dX2_readUnit_135 : decode cX2_readUnit 135 = .ok (.if_icmp .ne 16, 3) := by decide +kernel
theorem dX2_readUnit_138 : decode cX2_readUnit 138 = .ok (.aload_n 0, 1) := by decide +kernel
theorem dX2_readUnit_139 : decode cX2_readUnit 139 = .ok (.aload_n 0, 1) := by decide +kernel
theorem dX2_readUnit_140 : decode cX2_readUnit 140 = .ok (.getfield 31, 3) := by decide +kernel
theorem dX2_readUnit_143 : decode cX2_readUnit 143 = .ok (.iload_n 1, 1) := by decide +kernel
theorem dX2_readUnit_144 : decode cX2_readUnit 144 = .ok (.aaload, 1) := by decide +kernel
theorem dX2_readUnit_145 : decode cX2_readUnit 145 = .ok (.invokevirtual 139, 3) := by decide +kernel
theorem dX2_readUnit_148 : decode cX2_readUnit 148 = .ok (.ifCond .eq 7, 3) := by decide +kernel
theorem dX2_readUnit_151 : decode cX2_readUnit 151 = .ok (.iconst 1, 1) := by decide +kernel
theorem dX2_readUnit_152 : decode cX2_readUnit 152 = .ok (.goto 4, 3) := by decide +kernel
theorem dX2_readUnit_155 : decode cX2_readUnit 155 = .ok (.iconst 0, 1) := by decide +kernel
theorem dX2_readUnit_156 : decode cX2_readUnit 156 = .ok (.ireturn, 1) := by decide +kernel
theorem dX2_readPoint_0 : decode cX2_readPoint 0 = .ok (.aload_n 0, 1) := by decide +kernel
theorem dX2_readPoint_1 : decode cX2_readPoint 1 = .ok (.aload_n 0, 1) := by decide +kernel
theorem dX2_readPoint_2 : decode cX2_readPoint 2 = .ok (.getfield 15, 3) := by decide +kernel
theorem dX2_readPoint_5 : decode cX2_readPoint 5 = .ok (.getfield 108, 3) := by decide +kernel
theorem dX2_readPoint_8 : decode cX2_readPoint 8 = .ok (.iconst 1, 1) := by decide +kernel
theorem dX2_readPoint_9 : decode cX2_readPoint 9 = .ok (.isub, 1) := by decide +kernel
theorem dX2_readPoint_10 : decode cX2_readPoint 10 = .ok (.invokevirtual 83, 3) := by decide +kernel
theorem dX2_readPoint_13 : decode cX2_readPoint 13 = .ok (.ifCond .ne 5, 3) := by decide +kernel
theorem dX2_readPoint_16 : decode cX2_readPoint 16 = .ok (.iconst 0, 1) := by decide +kernel
theorem dX2_readPoint_17 : decode cX2_readPoint 17 = .ok (.ireturn, 1) := by decide +kernel
theorem dX2_readPoint_18 : decode cX2_readPoint 18 = .ok (.iconst 0, 1) := by decide +kernel
theorem dX2_readPoint_19 : decode cX2_readPoint 19 = .ok (.istore_n 2, 1) := by decide +kernel
theorem dX2_readPoint_20 : decode cX2_readPoint 20 = .ok (.iload_n 2, 1) := by decide +kernel
theorem dX2_readPoint_21 : decode cX2_readPoint 21 = .ok (.aload_n 0, 1) := by decide +kernel
theorem dX2_readPoint_22 : decode cX2_readPoint 22 = .ok (.getfield 15, 3) := by decide +kernel
theorem dX2_readPoint_25 : decode cX2_readPoint 25 = .ok (.getfield 108, 3) := by decide +kernel
theorem dX2_readPoint_28 : decode cX2_readPoint 28 = .ok (.if_icmp .ge 19, 3) := by decide +kernel
theorem dX2_readPoint_31 : decode cX2_readPoint 31 = .ok (.aload_n 1, 1) := by decide +kernel
theorem dX2_readPoint_32 : decode cX2_readPoint 32 = .ok (.iload_n 2, 1) := by decide +kernel
theorem dX2_readPoint_33 : decode cX2_readPoint 33 = .ok (.aload_n 0, 1) := by decide +kernel
theorem dX2_readPoint_34 : decode cX2_readPoint 34 = .ok (.getfield 9, 3) := by decide +kernel
theorem dX2_readPoint_37 : decode cX2_readPoint 37 = .ok (.getfield 80, 3) := by decide +kernel
theorem dX2_readPoint_40 : decode cX2_readPoint 40 = .ok (.iastore, 1) := by decide +kernel
theorem dX2_readPoint_41 : decode cX2_readPoint 41 = .ok (.iinc 2 1, 3) := by decide +kernel
theorem dX2_readPoint_44 : decode cX2_readPoint 44 = .ok (.goto (-24), 3) := by decide +kernel
theorem dX2_readPoint_47 : decode cX2_readPoint 47 = .ok (.aload_n 0, 1) := by decide +kernel
theorem dX2_readPoint_48 : decode cX2_readPoint 48 = .ok (.getfield 9, 3) := by decide +kernel
theorem dX2_readPoint_51 : decode cX2_readPoint 51 = .ok (.invokevirtual 59, 3) := by decide +kernel
theorem dX2_readPoint_54 : decode cX2_readPoint 54 = .ok (.iconst 1, 1) := by decide +kernel
theorem dX2_readPoint_55 : decode cX2_readPoint 55 = .ok (.ireturn, 1) := by decide +kernel
theorem dX2_readX_0 : decode cX2_readX 0 = .ok (.iconst 0, 1) := by decide +kernel
theorem dX2_readX_1 : decode cX2_readX 1 = .ok (.istore_n 2, 1) := by decide +kernel
theorem dX2_readX_2 : decode cX2_readX 2 = .ok (.iload_n 2, 1) := by decide +kernel
theorem dX2_readX_3 : decode cX2_readX 3 = .ok (.aload_n 0, 1) := by decide +kernel
theorem dX2_readX_4 : decode cX2_readX 4 = .ok (.getfield 15, 3) := by decide +kernel
theorem dX2_readX_7 : decode cX2_readX 7 = .ok (.getfield 108, 3) := by decide +kernel
theorem dX2_readX_10 : decode cX2_readX 10 = .ok (.if_icmp .ge 13, 3) := by decide +kernel
theorem dX2_readX_13 : decode cX2_readX 13 = .ok (.aload_n 1, 1) := by decide +kernel
theorem dX2_readX_14 : decode cX2_readX 14 = .ok (.iload_n 2, 1) := by decide +kernel
theorem dX2_readX_15 : decode cX2_readX 15 = .ok (.iload_n 2, 1) := by decide +kernel
theorem dX2_readX_16 : decode cX2_readX 16 = .ok (.iastore, 1) := by decide +kernel
theorem dX2_readX_17 : decode cX2_readX 17 = .ok (.iinc 2 1, 3) := by decide +kernel
theorem dX2_readX_20 : decode cX2_readX 20 = .ok (.goto (-18), 3) := by decide +kernel
theorem dX2_readX_23 : decode cX2_readX 23 = .ok (.aload_n 0, 1) := by decide +kernel
theorem dX2_readX_24 : decode cX2_readX 24 = .ok (.getfield 9, 3) := by decide +kernel
theorem dX2_readX_27 : decode cX2_readX 27 = .ok (.invokevirtual 59, 3) := by decide +kernel
theorem dX2_readX_30 : decode cX2_readX 30 = .ok (.iconst 1, 1) := by decide +kernel
theorem dX2_readX_31 : decode cX2_readX 31 = .ok (.ireturn, 1) := by decide +kernel
theorem dX2_readBracket_0 : decode cX2_readBracket 0 = .ok (.aload_n 0, 1) := by decide +kernel
theorem dX2_readBracket_1 : decode cX2_readBracket 1 = .ok (.getfield 9, 3) := by decide +kernel
theorem dX2_readBracket_4 : decode cX2_readBracket 4 = .ok (.getfield 50, 3) := by decide +kernel
theorem dX2_readBracket_7 : decode cX2_readBracket 7 = .ok (.bipush 40, 2) := by decide +kernel
theorem dX2_readBracket_9 : decode cX2_readBracket 9 = .ok (.if_icmp .eq 9, 3) := by decide +kernel
theorem dX2_readBracket_12 : decode cX2_readBracket 12 = .ok (.aload_n 0, 1) := by decide +kernel
theorem dX2_readBracket_13 : decode cX2_readBracket 13 = .ok (.iconst 1, 1) := by decide +kernel
theorem dX2_readBracket_14 : decode cX2_readBracket 14 = .ok (.invokevirtual 55, 3) := by decide +kernel
theorem dX2_readBracket_17 : decode cX2_readBracket 17 = .ok (.ireturn, 1) := by decide +kernel
theorem dX2_readBracket_18 : decode cX2_readBracket 18 = .ok (.iload_n 1, 1) := by decide +kernel
theorem dX2_readBracket_19 : decode cX2_readBracket 19 = .ok (.iconst 4, 1) := by decide +kernel
theorem dX2_readBracket_20 : decode cX2_readBracket 20 = .ok (.if_icmp .lt 9, 3) := by decide +kernel
theorem dX2_readBracket_23 : decode cX2_readBracket 23 = .ok (.aload_n 0, 1) := by decide +kernel
theorem dX2_readBracket_24 : decode cX2_readBracket 24 = .ok (.iconst 4, 1) := by decide +kernel
theorem dX2_readBracket_25 : decode cX2_readBracket 25 = .ok (.invokevirtual 55, 3) := by decide +kernel
theorem dX2_readBracket_28 : decode cX2_readBracket 28 = .ok (.ireturn, 1) := by decide +kernel
theorem dX2_readBracket_29 : decode cX2_readBracket 29 = .ok (.aload_n 0, 1) := by decide +kernel
theorem dX2_readBracket_30 : decode cX2_readBracket 30 = .ok (.getfield 9, 3) := by decide +kernel
theorem dX2_readBracket_33 : decode cX2_readBracket 33 = .ok (.invokevirtual 59, 3) := by decide +kernel
theorem dX2_readBracket_36 : decode cX2_readBracket 36 = .ok (.aload_n 0, 1) := by decide +kernel
theorem dX2_readBracket_37 : decode cX2_readBracket 37 = .ok (.iload_n 1, 1) := by decide +kernel
theorem dX2_readBracket_38 : decode cX2_readBracket 38 = .ok (.iconst 1, 1) := by decide +kernel
theorem dX2_readBracket_39 : decode cX2_readBracket 39 = .ok (.iadd, 1) := by decide +kernel
theorem dX2_readBracket_40 : decode cX2_readBracket 40 = .ok (.invokevirtual 62, 3) := by decide +kernel
theorem dX2_readBracket_43 : decode cX2_readBracket 43 = .ok (.ifCond .ne 5, 3) := by decide +kernel
theorem dX2_readBracket_46 : decode cX2_readBracket 46 = .ok (.iconst 0, 1) := by decide +kernel
theorem dX2_readBracket_47 : decode cX2_readBracket 47 = .ok (.ireturn, 1) := by decide +kernel
theorem dX2_readBracket_48 : decode cX2_readBracket 48 = .ok (.aload_n 0, 1) := by decide +kernel
theorem dX2_readBracket_49 : decode cX2_readBracket 49 = .ok (.getfield 9, 3) := by decide +kernel
theorem dX2_readBracket_52 : decode cX2_readBracket 52 = .ok (.getfield 50, 3) := by decide +kernel
theorem dX2_readBracket_55 : decode cX2_readBracket 55 = .ok (.bipush 41, 2) := by decide +kernel
theorem dX2_readBracket_57 : decode cX2_readBracket 57 = .ok (.if_icmp .eq 9, 3) := by decide +kernel
theorem dX2_readBracket_60 : decode cX2_readBracket 60 = .ok (.aload_n 0, 1) := by decide +kernel
theorem dX2_readBracket_61 : decode cX2_readBracket 61 = .ok (.iconst 1, 1) := by decide +kernel
theorem dX2_readBracket_62 : decode cX2_readBracket 62 = .ok (.invokevirtual 55, 3) := by decide +kernel
theorem dX2_readBracket_65 : decode cX2_readBracket 65 = .ok (.ireturn, 1) := by decide +kernel
theorem dX2_readBracket_66 : decode cX2_readBracket 66 = .ok (.aload_n 0, 1) := by decide +kernel
theorem dX2_readBracket_67 : decode cX2_readBracket 67 = .ok (.getfield 9, 3) := by decide +kernel
theorem dX2_readBracket_70 : decode cX2_readBracket 70 = .ok (.invokevirtual 59, 3) := by decide +kernel
theorem dX2_readBracket_73 : decode cX2_readBracket 73 = .ok (.aload_n 0, 1) := by decide +kernel
theorem dX2_readBracket_74 : decode cX2_readBracket 74 = .ok (.getfield 25, 3) := by decide +kernel
theorem dX2_readBracket_77 : decode cX2_readBracket 77 = .ok (.iload_n 1, 1) := by decide +kernel
theorem dX2_readBracket_78 : decode cX2_readBracket 78 = .ok (.iconst 1, 1) := by decide +kernel
theorem dX2_readBracket_79 : decode cX2_readBracket 79 = .ok (.iadd, 1) := by decide +kernel
theorem dX2_readBracket_80 : decode cX2_readBracket 80 = .ok (.aaload, 1) := by decide +kernel
theorem dX2_readBracket_81 : decode cX2_readBracket 81 = .ok (.iconst 0, 1) := by decide +kernel
theorem dX2_readBracket_82 : decode cX2_readBracket 82 = .ok (.aload_n 0, 1) := by decide +kernel
theorem dX2_readBracket_83 : decode cX2_readBracket 83 = .ok (.getfield 31, 3) := by decide +kernel
theorem dX2_readBracket_86 : decode cX2_readBracket 86 = .ok (.iload_n 1, 1) := by decide +kernel
theorem dX2_readBracket_87 : decode cX2_readBracket 87 = .ok (.aaload, 1) := by decide +kernel
theorem dX2_readBracket_88 : decode cX2_readBracket 88 = .ok (.iconst 0, 1) := by decide +kernel
theorem dX2_readBracket_89 : decode cX2_readBracket 89 = .ok (.bipush 64, 2) := by decide +kernel
theorem dX2_readBracket_91 : decode cX2_readBracket 91 = .ok (.invokestatic 71, 3) := by decide +kernel
theorem dX2_readBracket_94 : decode cX2_readBracket 94 = .ok (.iconst 1, 1) := by decide +kernel
theorem dX2_readBracket_95 : decode cX2_readBracket 95 = .ok (.ireturn, 1) := by decide +kernel
theorem dX2_readInner_0 : decode cX2_readInner 0 = .ok (.aload_n 0, 1) := by decide +kernel
theorem dX2_readInner_1 : decode cX2_readInner 1 = .ok (.getfield 9, 3) := by decide +kernel
theorem dX2_readInner_4 : decode cX2_readInner 4 = .ok (.invokevirtual 59, 3) := by decide +kernel
theorem dX2_readInner_7 : decode cX2_readInner 7 = .ok (.aload_n 0, 1) := by decide +kernel
theorem dX2_readInner_8 : decode cX2_readInner 8 = .ok (.aload_n 0, 1) := by decide +kernel
theorem dX2_readInner_9 : decode cX2_readInner 9 = .ok (.getfield 19, 3) := by decide +kernel
theorem dX2_readInner_12 : decode cX2_readInner 12 = .ok (.getfield 41, 3) := by decide +kernel
theorem dX2_readInner_15 : decode cX2_readInner 15 = .ok (.iconst 1, 1) := by decide +kernel
theorem dX2_readInner_16 : decode cX2_readInner 16 = .ok (.isub, 1) := by decide +kernel
theorem dX2_readInner_17 : decode cX2_readInner 17 = .ok (.invokevirtual 83, 3) := by decide +kernel
theorem dX2_readInner_20 : decode cX2_readInner 20 = .ok (.ifCond .ne 5, 3) := by decide +kernel
theorem dX2_readInner_23 : decode cX2_readInner 23 = .ok (.iconst 0, 1) := by decide +kernel
theorem dX2_readInner_24 : decode cX2_readInner 24 = .ok (.ireturn, 1) := by decide +kernel
theorem dX2_readInner_25 : decode cX2_readInner 25 = .ok (.aload_n 0, 1) := by decide +kernel
theorem dX2_readInner_26 : decode cX2_readInner 26 = .ok (.getfield 19, 3) := by decide +kernel
theorem dX2_readInner_29 : decode cX2_readInner 29 = .ok (.getfield 68, 3) := by decide +kernel
theorem dX2_readInner_32 : decode cX2_readInner 32 = .ok (.aload_n 0, 1) := by decide +kernel
theorem dX2_readInner_33 : decode cX2_readInner 33 = .ok (.getfield 9, 3) := by decide +kernel
theorem dX2_readInner_36 : decode cX2_readInner 36 = .ok (.getfield 80, 3) := by decide +kernel
theorem dX2_readInner_39 : decode cX2_readInner 39 = .ok (.aaload, 1) := by decide +kernel
theorem dX2_readInner_40 : decode cX2_readInner 40 = .ok (.astore_n 2, 1) := by decide +kernel
theorem dX2_readInner_41 : decode cX2_readInner 41 = .ok (.aload_n 0, 1) := by decide +kernel
theorem dX2_readInner_42 : decode cX2_readInner 42 = .ok (.getfield 9, 3) := by decide +kernel
theorem dX2_readInner_45 : decode cX2_readInner 45 = .ok (.invokevirtual 59, 3) := by decide +kernel
theorem dX2_readInner_48 : decode cX2_readInner 48 = .ok (.aload_n 0, 1) := by decide +kernel
theorem dX2_readInner_49 : decode cX2_readInner 49 = .ok (.iload_n 1, 1) := by decide +kernel
theorem dX2_readInner_50 : decode cX2_readInner 50 = .ok (.invokevirtual 130, 3) := by decide +kernel
theorem dX2_readInner_53 : decode cX2_readInner 53 = .ok (.ifCond .ne 5, 3) := by decide +kernel
theorem dX2_readInner_56 : decode cX2_readInner 56 = .ok (.iconst 0, 1) := by decide +kernel
theorem dX2_readInner_57 : decode cX2_readInner 57 = .ok (.ireturn, 1) := by decide +kernel
theorem dX2_readInner_58 : decode cX2_readInner 58 = .ok (.aload_n 0, 1) := by decide +kernel
theorem dX2_readInner_59 : decode cX2_readInner 59 = .ok (.getfield 31, 3) := by decide +kernel
theorem dX2_readInner_62 : decode cX2_readInner 62 = .ok (.iload_n 1, 1) := by decide +kernel
theorem dX2_readInner_63 : decode cX2_readInner 63 = .ok (.aaload, 1) := by decide +kernel
theorem dX2_readInner_64 : decode cX2_readInner 64 = .ok (.astore_n 3, 1) := by decide +kernel
theorem dX2_readInner_65 : decode cX2_readInner 65 = .ok (.iconst 0, 1) := by decide +kernel
theorem dX2_readInner_66 : decode cX2_readInner 66 = .ok (.istore 4, 2) := by decide +kernel
theorem dX2_readInner_68 : decode cX2_readInner 68 = .ok (.iload 4, 2) := by decide +kernel
theorem dX2_readInner_70 : decode cX2_readInner 70 = .ok (.aload_n 0, 1) := by decide +kernel
theorem dX2_readInner_71 : decode cX2_readInner 71 = .ok (.getfield 15, 3) := by decide +kernel
theorem dX2_readInner_74 : decode cX2_readInner 74 = .ok (.getfield 108, 3) := by decide +kernel
theorem dX2_readInner_77 : decode cX2_readInner 77 = .ok (.if_icmp .ge 19, 3) := by decide +kernel
theorem dX2_readInner_80 : decode cX2_readInner 80 = .ok (.aload_n 3, 1) := by decide +kernel
theorem dX2_readInner_81 : decode cX2_readInner 81 = .ok (.iload 4, 2) := by decide +kernel
theorem dX2_readInner_83 : decode cX2_readInner 83 = .ok (.aload_n 2, 1) := by decide +kernel
theorem dX2_readInner_84 : decode cX2_readInner 84 = .ok (.aload_n 3, 1) := by decide +kernel
theorem dX2_readInner_85 : decode cX2_readInner 85 = .ok (.iload 4, 2) := by decide +kernel
theorem dX2_readInner_87 : decode cX2_readInner 87 = .ok (.iaload, 1) := by decide +kernel
theorem dX2_readInner_88 : decode cX2_readInner 88 = .ok (.iaload, 1) := by decide +kernel
theorem dX2_readInner_89 : decode cX2_readInner 89 = .ok (.iastore, 1) := by decide +kernel
theorem dX2_readInner_90 : decode cX2_readInner 90 = .ok (.iinc 4 1, 3) := by decide +kernel
theorem dX2_readInner_93 : decode cX2_readInner 93 = .ok (.goto (-25), 3) := by decide +kernel
theorem dX2_readInner_96 : decode cX2_readInner 96 = .ok (.iconst 1, 1) := by decide +kernel
theorem dX2_readInner_97 : decode cX2_readInner 97 = .ok (.ireturn, 1) := by decide +kernel
theorem dX2_readDickson_0 : decode cX2_readDickson 0 = .ok (.aload_n 0, 1) := by decide +kernel
theorem dX2_readDickson_1 : decode cX2_readDickson 1 = .ok (.getfield 9, 3) := by decide +kernel
theorem dX2_readDickson_4 : decode cX2_readDickson 4 = .ok (.invokevirtual 59, 3) := by decide +kernel
theorem dX2_readDickson_7 : decode cX2_readDickson 7 = .ok (.aload_n 0, 1) := by decide +kernel
theorem dX2_readDickson_8 : decode cX2_readDickson 8 = .ok (.sipush 9999, 3) := by decide +kernel
theorem dX2_readDickson_11 : decode cX2_readDickson 11 = .ok (.invokevirtual 83, 3) := by decide +kernel
theorem dX2_readDickson_14 : decode cX2_readDickson 14 = .ok (.ifCond .ne 5, 3) := by decide +kernel
theorem dX2_readDickson_17 : decode cX2_readDickson 17 = .ok (.iconst 0, 1) := by decide +kernel
theorem dX2_readDickson_18 : decode cX2_readDickson 18 = .ok (.ireturn, 1) := by decide +kernel
theorem dX2_readDickson_19 : decode cX2_readDickson 19 = .ok (.aload_n 0, 1) := by decide +kernel
theorem dX2_readDickson_20 : decode cX2_readDickson 20 = .ok (.getfield 9, 3) := by decide +kernel
theorem dX2_readDickson_23 : decode cX2_readDickson 23 = .ok (.getfield 80, 3) := by decide +kernel
theorem dX2_readDickson_26 : decode cX2_readDickson 26 = .ok (.istore_n 2, 1) := by decide +kernel
theorem dX2_readDickson_27 : decode cX2_readDickson 27 = .ok (.aload_n 0, 1) := by decide +kernel
theorem dX2_readDickson_28 : decode cX2_readDickson 28 = .ok (.getfield 9, 3) := by decide +kernel
theorem dX2_readDickson_31 : decode cX2_readDickson 31 = .ok (.invokevirtual 59, 3) := by decide +kernel
theorem dX2_readDickson_34 : decode cX2_readDickson 34 = .ok (.aload_n 0, 1) := by decide +kernel
theorem dX2_readDickson_35 : decode cX2_readDickson 35 = .ok (.aload_n 0, 1) := by decide +kernel
theorem dX2_readDickson_36 : decode cX2_readDickson 36 = .ok (.getfield 15, 3) := by decide +kernel
theorem dX2_readDickson_39 : decode cX2_readDickson 39 = .ok (.getfield 108, 3) := by decide +kernel
theorem dX2_readDickson_42 : decode cX2_readDickson 42 = .ok (.iconst 1, 1) := by decide +kernel
theorem dX2_readDickson_43 : decode cX2_readDickson 43 = .ok (.isub, 1) := by decide +kernel
theorem dX2_readDickson_44 : decode cX2_readDickson 44 = .ok (.invokevirtual 83, 3) := by decide +kernel
theorem dX2_readDickson_47 : decode cX2_readDickson 47 = .ok (.ifCond .ne 5, 3) := by decide +kernel
theorem dX2_readDickson_50 : decode cX2_readDickson 50 = .ok (.iconst 0, 1) := by decide +kernel
theorem dX2_readDickson_51 : decode cX2_readDickson 51 = .ok (.ireturn, 1) := by decide +kernel
theorem dX2_readDickson_52 : decode cX2_readDickson 52 = .ok (.iconst 0, 1) := by decide +kernel
theorem dX2_readDickson_53 : decode cX2_readDickson 53 = .ok (.istore_n 3, 1) := by decide +kernel
theorem dX2_readDickson_54 : decode cX2_readDickson 54 = .ok (.iload_n 3, 1) := by decide +kernel
theorem dX2_readDickson_55 : decode cX2_readDickson 55 = .ok (.aload_n 0, 1) := by decide +kernel
theorem dX2_readDickson_56 : decode cX2_readDickson 56 = .ok (.getfield 15, 3) := by decide +kernel
theorem dX2_readDickson_59 : decode cX2_readDickson 59 = .ok (.getfield 108, 3) := by decide +kernel
theorem dX2_readDickson_62 : decode cX2_readDickson 62 = .ok (.if_icmp .ge 28, 3) := by decide +kernel
theorem dX2_readDickson_65 : decode cX2_readDickson 65 = .ok (.aload_n 1, 1) := by decide +kernel
theorem dX2_readDickson_66 : decode cX2_readDickson 66 = .ok (.iload_n 3, 1) := by decide +kernel
theorem dX2_readDickson_67 : decode cX2_readDickson 67 = .ok (.aload_n 0, 1) := by decide +kernel
theorem dX2_readDickson_68 : decode cX2_readDickson 68 = .ok (.getfield 15, 3) := by decide +kernel
theorem dX2_readDickson_71 : decode cX2_readDickson 71 = .ok (.iload_n 2, 1) := by decide +kernel
theorem dX2_readDickson_72 : decode cX2_readDickson 72 = .ok (.aload_n 0, 1) := by decide +kernel
theorem dX2_readDickson_73 : decode cX2_readDickson 73 = .ok (.getfield 9, 3) := by decide +kernel
theorem dX2_readDickson_76 : decode cX2_readDickson 76 = .ok (.getfield 80, 3) := by decide +kernel
theorem dX2_readDickson_79 : decode cX2_readDickson 79 = .ok (.iload_n 3, 1) := by decide +kernel
theorem dX2_readDickson_80 : decode cX2_readDickson 80 = .ok (.invokevirtual 142, 3) := by decide +kernel
theorem dX2_readDickson_83 : decode cX2_readDickson 83 = .ok (.iastore, 1) := by decide +kernel
theorem dX2_readDickson_84 : decode cX2_readDickson 84 = .ok (.iinc 3 1, 3) := by decide +kernel
theorem dX2_readDickson_87 : decode cX2_readDickson 87 = .ok (.goto (-33), 3) := by decide +kernel
theorem dX2_readDickson_90 : decode cX2_readDickson 90 = .ok (.aload_n 0, 1) := by decide +kernel
theorem dX2_readDickson_91 : decode cX2_readDickson 91 = .ok (.getfield 9, 3) := by decide +kernel
theorem dX2_readDickson_94 : decode cX2_readDickson 94 = .ok (.invokevirtual 59, 3) := by decide +kernel
theorem dX2_readDickson_97 : decode cX2_readDickson 97 = .ok (.iconst 1, 1) := by decide +kernel
theorem dX2_readDickson_98 : decode cX2_readDickson 98 = .ok (.ireturn, 1) := by decide +kernel
theorem dX2_readPower_0 : decode cX2_readPower 0 = .ok (.aload_n 0, 1) := by decide +kernel
theorem dX2_readPower_1 : decode cX2_readPower 1 = .ok (.getfield 9, 3) := by decide +kernel
theorem dX2_readPower_4 : decode cX2_readPower 4 = .ok (.invokevirtual 59, 3) := by decide +kernel
theorem dX2_readPower_7 : decode cX2_readPower 7 = .ok (.aload_n 0, 1) := by decide +kernel
theorem dX2_readPower_8 : decode cX2_readPower 8 = .ok (.sipush 9999, 3) := by decide +kernel
theorem dX2_readPower_11 : decode cX2_readPower 11 = .ok (.invokevirtual 83, 3) := by decide +kernel
theorem dX2_readPower_14 : decode cX2_readPower 14 = .ok (.ifCond .ne 5, 3) := by decide +kernel
theorem dX2_readPower_17 : decode cX2_readPower 17 = .ok (.iconst 0, 1) := by decide +kernel
theorem dX2_readPower_18 : decode cX2_readPower 18 = .ok (.ireturn, 1) := by decide +kernel
theorem dX2_readPower_19 : decode cX2_readPower 19 = .ok (.iconst 0, 1) := by decide +kernel
theorem dX2_readPower_20 : decode cX2_readPower 20 = .ok (.istore_n 2, 1) := by decide +kernel
theorem dX2_readPower_21 : decode cX2_readPower 21 = .ok (.iload_n 2, 1) := by decide +kernel
theorem dX2_readPower_22 : decode cX2_readPower 22 = .ok (.aload_n 0, 1) := by decide +kernel
theorem dX2_readPower_23 : decode cX2_readPower 23 = .ok (.getfield 15, 3) := by decide +kernel
theorem dX2_readPower_26 : decode cX2_readPower 26 = .ok (.getfield 108, 3) := by decide +kernel
theorem dX2_readPower_29 : decode cX2_readPower 29 = .ok (.if_icmp .ge 29, 3) := by decide +kernel
theorem dX2_readPower_32 : decode cX2_readPower 32 = .ok (.aload_n 1, 1) := by decide +kernel
theorem dX2_readPower_33 : decode cX2_readPower 33 = .ok (.iload_n 2, 1) := by decide +kernel
theorem dX2_readPower_34 : decode cX2_readPower 34 = .ok (.aload_n 0, 1) := by decide +kernel
theorem dX2_readPower_35 : decode cX2_readPower 35 = .ok (.getfield 15, 3) := by decide +kernel
theorem dX2_readPower_38 : decode cX2_readPower 38 = .ok (.aload_n 1, 1) := by decide +kernel
theorem dX2_readPower_39 : decode cX2_readPower 39 = .ok (.iload_n 2, 1) := by decide +kernel
theorem dX2_readPower_40 : decode cX2_readPower 40 = .ok (.iaload, 1) := by decide +kernel
theorem dX2_readPower_41 : decode cX2_readPower 41 = .ok (.aload_n 0, 1) := by decide +kernel
theorem dX2_readPower_42 : decode cX2_readPower 42 = .ok (.getfield 9, 3) := by decide +kernel
theorem dX2_readPower_45 : decode cX2_readPower 45 = .ok (.getfield 80, 3) := by decide +kernel
theorem dX2_readPower_48 : decode cX2_readPower 48 = .ok (.invokevirtual 146, 3) := by decide +kernel
theorem dX2_readPower_51 : decode cX2_readPower 51 = .ok (.iastore, 1) := by decide +kernel
theorem dX2_readPower_52 : decode cX2_readPower 52 = .ok (.iinc 2 1, 3) := by decide +kernel
theorem dX2_readPower_55 : decode cX2_readPower 55 = .ok (.goto (-34), 3) := by decide +kernel
theorem dX2_readPower_58 : decode cX2_readPower 58 = .ok (.aload_n 0, 1) := by decide +kernel
theorem dX2_readPower_59 : decode cX2_readPower 59 = .ok (.getfield 9, 3) := by decide +kernel
theorem dX2_readPower_62 : decode cX2_readPower 62 = .ok (.invokevirtual 59, 3) := by decide +kernel
theorem dX2_readPower_65 : decode cX2_readPower 65 = .ok (.iconst 1, 1) := by decide +kernel
theorem dX2_readPower_66 : decode cX2_readPower 66 = .ok (.ireturn, 1) := by decide +kernel
theorem dX3_init_0 : decode cX3_init 0 = .ok (.aload_n 0, 1) := by decide +kernel
theorem dX3_init_1 : decode cX3_init 1 = .ok (.invokespecial 3, 3) := by decide +kernel
theorem dX3_init_4 : decode cX3_init 4 = .ok (.aload_n 0, 1) := by decide +kernel
theorem dX3_init_5 : decode cX3_init 5 = .ok (.iconst 2, 1) := by decide +kernel
theorem dX3_init_6 : decode cX3_init 6 = .ok (.putfield 9, 3) := by decide +kernel
theorem dX3_init_9 : decode cX3_init 9 = .ok (.aload_n 0, 1) := by decide +kernel
theorem dX3_init_10 : decode cX3_init 10 = .ok (.iconst 1, 1) := by decide +kernel
theorem dX3_init_11 : decode cX3_init 11 = .ok (.putfield 15, 3) := by decide +kernel
theorem dX3_init_14 : decode cX3_init 14 = .ok (.aload_n 0, 1) := by decide +kernel
theorem dX3_init_15 : decode cX3_init 15 = .ok (.bipush 6, 2) := by decide +kernel
theorem dX3_init_17 : decode cX3_init 17 = .ok (.bipush 64, 2) := by decide +kernel
theorem dX3_init_19 : decode cX3_init 19 = .ok (.multianewarray 18 2, 4) := by decide +kernel
theorem dX3_init_23 : decode cX3_init 23 = .ok (.putfield 20, 3) := by decide +kernel
theorem dX3_init_26 : decode cX3_init 26 = .ok (.return_, 1) := by decide +kernel
theorem dX3_become_0 : decode cX3_become 0 = .ok (.aload_n 0, 1) := by decide +kernel
theorem dX3_become_1 : decode cX3_become 1 = .ok (.aload_n 1, 1) := by decide +kernel
theorem dX3_become_2 : decode cX3_become 2 = .ok (.getfield 9, 3) := by decide +kernel
theorem dX3_become_5 : decode cX3_become 5 = .ok (.putfield 9, 3) := by decide +kernel
theorem dX3_become_8 : decode cX3_become 8 = .ok (.aload_n 0, 1) := by decide +kernel
theorem dX3_become_9 : decode cX3_become 9 = .ok (.aload_n 1, 1) := by decide +kernel
theorem dX3_become_10 : decode cX3_become 10 = .ok (.getfield 15, 3) := by decide +kernel
theorem dX3_become_13 : decode cX3_become 13 = .ok (.putfield 15, 3) := by decide +kernel
theorem dX3_become_16 : decode cX3_become 16 = .ok (.aload_n 0, 1) := by decide +kernel
theorem dX3_become_17 : decode cX3_become 17 = .ok (.aload_n 1, 1) := by decide +kernel
theorem dX3_become_18 : decode cX3_become 18 = .ok (.getfield 23, 3) := by decide +kernel
theorem dX3_become_21 : decode cX3_become 21 = .ok (.putfield 23, 3) := by decide +kernel
theorem dX3_become_24 : decode cX3_become 24 = .ok (.iconst 0, 1) := by decide +kernel
theorem dX3_become_25 : decode cX3_become 25 = .ok (.istore_n 2, 1) := by decide +kernel
theorem dX3_become_26 : decode cX3_become 26 = .ok (.iload_n 2, 1) := by decide +kernel
theorem dX3_become_27 : decode cX3_become 27 = .ok (.aload_n 1, 1) := by decide +kernel
theorem dX3_become_28 : decode cX3_become 28 = .ok (.getfield 23, 3) := by decide +kernel
theorem dX3_become_31 : decode cX3_become 31 = .ok (.if_icmp .ge 28, 3) := by decide +kernel
theorem dX3_become_34 : decode cX3_become 34 = .ok (.aload_n 1, 1) := by decide +kernel
theorem dX3_become_35 : decode cX3_become 35 = .ok (.getfield 20, 3) := by decide +kernel
theorem dX3_become_38 : decode cX3_become 38 = .ok (.iload_n 2, 1) := by decide +kernel
theorem dX3_become_39 : decode cX3_become 39 = .ok (.aaload, 1) := by decide +kernel
theorem dX3_become_40 : decode cX3_become 40 = .ok (.iconst 0, 1) := by decide +kernel
theorem dX3_become_41 : decode cX3_become 41 = .ok (.aload_n 0, 1) := by decide +kernel
theorem dX3_become_42 : decode cX3_become 42 = .ok (.getfield 20, 3) := by decide +kernel
theorem dX3_become_45 : decode cX3_become 45 = .ok (.iload_n 2, 1) := by decide +kernel
theorem dX3_become_46 : decode cX3_become 46 = .ok (.aaload, 1) := by decide +kernel
theorem dX3_become_47 : decode cX3_become 47 = .ok (.iconst 0, 1) := by decide +kernel
theorem dX3_become_48 : decode cX3_become 48 = .ok (.bipush 64, 2) := by decide +kernel
theorem dX3_become_50 : decode cX3_become 50 = .ok (.invokestatic 26, 3) := by decide +kernel
theorem dX3_become_53 : decode cX3_become 53 = .ok (.iinc 2 1, 3) := by decide +kernel
theorem dX3_become_56 : decode cX3_become 56 = .ok (.goto (-30), 3) := by decide +kernel
theorem dX3_become_59 : decode cX3_become 59 = .ok (.return_, 1) := by decide +kernel
theorem dX3_remove_0 : decode cX3_remove 0 = .ok (.iload_n 1, 1) := by decide +kernel
theorem dX3_remove_1 : decode cX3_remove 1 = .ok (.iconst 1, 1) := by decide +kernel
theorem dX3_remove_2 : decode cX3_remove 2 = .ok (.iadd, 1) := by decide +kernel
theorem dX3_remove_3 : decode cX3_remove 3 = .ok (.istore_n 2, 1) := by decide +kernel
theorem dX3_remove_4 : decode cX3_remove 4 = .ok (.iload_n 2, 1) := by decide +kernel
theorem dX3_remove_5 : decode cX3_remove 5 = .ok (.aload_n 0, 1) := by decide +kernel
theorem dX3_remove_6 : decode cX3_remove 6 = .ok (.getfield 23, 3) := by decide +kernel
theorem dX3_remove_9 : decode cX3_remove 9 = .ok (.if_icmp .ge 30, 3) := by decide +kernel
theorem dX3_remove_12 : decode cX3_remove 12 = .ok (.aload_n 0, 1) := by decide +kernel
theorem dX3_remove_13 : decode cX3_remove 13 = .ok (.getfield 20, 3) := by decide +kernel
theorem dX3_remove_16 : decode cX3_remove 16 = .ok (.iload_n 2, 1) := by decide +kernel
theorem dX3_remove_17 : decode cX3_remove 17 = .ok (.aaload, 1) := by decide +kernel
theorem dX3_remove_18 : decode cX3_remove 18 = .ok (.iconst 0, 1) := by decide +kernel
theorem dX3_remove_19 : decode cX3_remove 19 = .ok (.aload_n 0, 1) := by decide +kernel
theorem dX3_remove_20 : decode cX3_remove 20 = .ok (.getfield 20, 3) := by decide +kernel
theorem dX3_remove_23 : decode cX3_remove 23 = .ok (.iload_n 2, 1) := by decide +kernel
theorem dX3_remove_24 : decode cX3_remove 24 = .ok (.iconst 1, 1) := by decide +kernel
theorem dX3_remove_25 : decode cX3_remove 25 = .ok (.isub, 1) := by decide +kernel
theorem dX3_remove_26 : decode cX3_remove 26 = .ok (.aaload, 1) := by decide +kernel
theorem dX3_remove_27 : decode cX3_remove 27 = .ok (.iconst 0, 1) := by decide +kernel
theorem dX3_remove_28 : decode cX3_remove 28 = .ok (.bipush 64, 2) := by decide +kernel
theorem dX3_remove_30 : decode cX3_remove 30 = .ok (.invokestatic 26, 3) := by decide +kernel
theorem dX3_remove_33 : decode cX3_remove 33 = .ok (.iinc 2 1, 3) := by decide +kernel
theorem dX3_remove_36 : decode cX3_remove 36 = .ok (.goto (-32), 3) := by decide +kernel
theorem dX3_remove_39 : decode cX3_remove 39 = .ok (.aload_n 0, 1) := by decide +kernel
theorem dX3_remove_40 : decode cX3_remove 40 = .ok (.dup, 1) := by decide +kernel
theorem dX3_remove_41 : decode cX3_remove 41 = .ok (.getfield 23, 3) := by decide +kernel
theorem dX3_remove_44 : decode cX3_remove 44 = .ok (.iconst 1, 1) := by decide +kernel
theorem dX3_remove_45 : decode cX3_remove 45 = .ok (.isub, 1) := by decide +kernel
theorem dX3_remove_46 : decode cX3_remove 46 = .ok (.putfield 23, 3) := by decide +kernel
theorem dX3_remove_49 : decode cX3_remove 49 = .ok (.return_, 1) := by decide +kernel
theorem dX5_init_0 : decode cX5_init 0 = .ok (.aload_n 0, 1) := by decide +kernel
theorem dX5_init_1 : decode cX5_init 1 = .ok (.invokespecial 3, 3) := by decide +kernel
theorem dX5_init_4 : decode cX5_init 4 = .ok (.aload_n 0, 1) := by decide +kernel
theorem dX5_init_5 : decode cX5_init 5 = .ok (.sipush 300, 3) := by decide +kernel
theorem dX5_init_8 : decode cX5_init 8 = .ok (.newarray .int, 2) := by decide +kernel
theorem dX5_init_10 : decode cX5_init 10 = .ok (.putfield 9, 3) := by decide +kernel
theorem dX5_init_13 : decode cX5_init 13 = .ok (.aload_n 0, 1) := by decide +kernel
theorem dX5_init_14 : decode cX5_init 14 = .ok (.sipush 301, 3) := by decide +kernel
theorem dX5_init_17 : decode cX5_init 17 = .ok (.newarray .int, 2) := by decide +kernel
theorem dX5_init_19 : decode cX5_init 19 = .ok (.putfield 15, 3) := by decide +kernel
theorem dX5_init_22 : decode cX5_init 22 = .ok (.aload_n 0, 1) := by decide +kernel
theorem dX5_init_23 : decode cX5_init 23 = .ok (.sipush 301, 3) := by decide +kernel
theorem dX5_init_26 : decode cX5_init 26 = .ok (.newarray .int, 2) := by decide +kernel
theorem dX5_init_28 : decode cX5_init 28 = .ok (.putfield 18, 3) := by decide +kernel
theorem dX5_init_31 : decode cX5_init 31 = .ok (.aload_n 0, 1) := by decide +kernel
theorem dX5_init_32 : decode cX5_init 32 = .ok (.sipush 301, 3) := by decide +kernel
theorem dX5_init_35 : decode cX5_init 35 = .ok (.newarray .int, 2) := by decide +kernel
theorem dX5_init_37 : decode cX5_init 37 = .ok (.putfield 21, 3) := by decide +kernel
theorem dX5_init_40 : decode cX5_init 40 = .ok (.return_, 1) := by decide +kernel
theorem dX5_put_0 : decode cX5_put 0 = .ok (.bipush 24, 2) := by decide +kernel
theorem dX5_put_2 : decode cX5_put 2 = .ok (.istore_n 2, 1) := by decide +kernel
theorem dX5_put_3 : decode cX5_put 3 = .ok (.iload_n 2, 1) := by decide +kernel
theorem dX5_put_4 : decode cX5_put 4 = .ok (.ifCond .lt 45, 3) := by decide +kernel
theorem dX5_put_7 : decode cX5_put 7 = .ok (.aload_n 0, 1) := by decide +kernel
theorem dX5_put_8 : decode cX5_put 8 = .ok (.getfield 24, 3) := by decide +kernel
theorem dX5_put_11 : decode cX5_put 11 = .ok (.sipush 300, 3) := by decide +kernel
theorem dX5_put_14 : decode cX5_put 14 = .ok (.if_icmp .ge 35, 3) := by decide +kernel
theorem dX5_put_17 : decode cX5_put 17 = .ok (.aload_n 0, 1) := by decide +kernel
theorem dX5_put_18 : decode cX5_put 18 = .ok (.getfield 9, 3) := by decide +kernel
theorem dX5_put_21 : decode cX5_put 21 = .ok (.aload_n 0, 1) := by decide +kernel
theorem dX5_put_22 : decode cX5_put 22 = .ok (.getfield 24, 3) := by decide +kernel
theorem dX5_put_25 : decode cX5_put 25 = .ok (.iload_n 1, 1) := by decide +kernel
theorem dX5_put_26 : decode cX5_put 26 = .ok (.iload_n 2, 1) := by decide +kernel
theorem dX5_put_27 : decode cX5_put 27 = .ok (.iushr, 1) := by decide +kernel
theorem dX5_put_28 : decode cX5_put 28 = .ok (.sipush 255, 3) := by decide +kernel
theorem dX5_put_31 : decode cX5_put 31 = .ok (.iand, 1) := by decide +kernel
theorem dX5_put_32 : decode cX5_put 32 = .ok (.iastore, 1) := by decide +kernel
theorem dX5_put_33 : decode cX5_put 33 = .ok (.aload_n 0, 1) := by decide +kernel
theorem dX5_put_34 : decode cX5_put 34 = .ok (.dup, 1) := by decide +kernel
theorem dX5_put_35 : decode cX5_put 35 = .ok (.getfield 24, 3) := by decide +kernel
theorem dX5_put_38 : decode cX5_put 38 = .ok (.iconst 1, 1) := by decide +kernel
theorem dX5_put_39 : decode cX5_put 39 = .ok (.iadd, 1) := by decide +kernel
theorem dX5_put_40 : decode cX5_put 40 = .ok (.putfield 24, 3) := by decide +kernel
theorem dX5_put_43 : decode cX5_put 43 = .ok (.iinc 2 (-8), 3) := by decide +kernel
theorem dX5_put_46 : decode cX5_put 46 = .ok (.goto (-43), 3) := by decide +kernel
theorem dX5_put_49 : decode cX5_put 49 = .ok (.return_, 1) := by decide +kernel
theorem dX5_cut_0 : decode cX5_cut 0 = .ok (.iconst 0, 1) := by decide +kernel
theorem dX5_cut_1 : decode cX5_cut 1 = .ok (.istore_n 2, 1) := by decide +kernel
theorem dX5_cut_2 : decode cX5_cut 2 = .ok (.iconst 0, 1) := by decide +kernel
theorem dX5_cut_3 : decode cX5_cut 3 = .ok (.istore_n 3, 1) := by decide +kernel
theorem dX5_cut_4 : decode cX5_cut 4 = .ok (.iconst 0, 1) := by decide +kernel
theorem dX5_cut_5 : decode cX5_cut 5 = .ok (.istore 4, 2) := by decide +kernel
theorem dX5_cut_7 : decode cX5_cut 7 = .ok (.iload 4, 2) := by decide +kernel
theorem dX5_cut_9 : decode cX5_cut 9 = .ok (.sipush 300, 3) := by decide +kernel
theorem dX5_cut_12 : decode cX5_cut 12 = .ok (.if_icmp .ge 49, 3) := by decide +kernel
theorem dX5_cut_15 : decode cX5_cut 15 = .ok (.iload_n 3, 1) := by decide +kernel
theorem dX5_cut_16 : decode cX5_cut 16 = .ok (.iload_n 1, 1) := by decide +kernel
theorem dX5_cut_17 : decode cX5_cut 17 = .ok (.if_icmp .ge 44, 3) := by decide +kernel
theorem dX5_cut_20 : decode cX5_cut 20 = .ok (.aload_n 0, 1) := by decide +kernel
theorem dX5_cut_21 : decode cX5_cut 21 = .ok (.getfield 9, 3) := by decide +kernel
theorem dX5_cut_24 : decode cX5_cut 24 = .ok (.iload_n 3, 1) := by decide +kernel
theorem dX5_cut_25 : decode cX5_cut 25 = .ok (.iaload, 1) := by decide +kernel
theorem dX5_cut_26 : decode cX5_cut 26 = .ok (.bipush 32, 2) := by decide +kernel
theorem dX5_cut_28 : decode cX5_cut 28 = .ok (.if_icmp .ne 9, 3) := by decide +kernel
theorem dX5_cut_31 : decode cX5_cut 31 = .ok (.iinc 3 1, 3) := by decide +kernel
theorem dX5_cut_34 : decode cX5_cut 34 = .ok (.goto 21, 3) := by decide +kernel
theorem dX5_cut_37 : decode cX5_cut 37 = .ok (.aload_n 0, 1) := by decide +kernel
theorem dX5_cut_38 : decode cX5_cut 38 = .ok (.getfield 18, 3) := by decide +kernel
theorem dX5_cut_41 : decode cX5_cut 41 = .ok (.iload_n 2, 1) := by decide +kernel
theorem dX5_cut_42 : decode cX5_cut 42 = .ok (.iload_n 3, 1) := by decide +kernel
theorem dX5_cut_43 : decode cX5_cut 43 = .ok (.iastore, 1) := by decide +kernel
theorem dX5_cut_44 : decode cX5_cut 44 = .ok (.aload_n 0, 1) := by decide +kernel
theorem dX5_cut_45 : decode cX5_cut 45 = .ok (.iload_n 2, 1) := by decide +kernel
theorem dX5_cut_46 : decode cX5_cut 46 = .ok (.iload_n 3, 1) := by decide +kernel
theorem dX5_cut_47 : decode cX5_cut 47 = .ok (.iload_n 1, 1) := by decide +kernel
theorem dX5_cut_48 : decode cX5_cut 48 = .ok (.invokevirtual 28, 3) := by decide +kernel
theorem dX5_cut_51 : decode cX5_cut 51 = .ok (.istore_n 3, 1) := by decide +kernel
theorem dX5_cut_52 : decode cX5_cut 52 = .ok (.iinc 2 1, 3) := by decide +kernel
theorem dX5_cut_55 : decode cX5_cut 55 = .ok (.iinc 4 1, 3) := by decide +kernel
theorem dX5_cut_58 : decode cX5_cut 58 = .ok (.goto (-51), 3) := by decide +kernel
theorem dX5_cut_61 : decode cX5_cut 61 = .ok (.aload_n 0, 1) := by decide +kernel
theorem dX5_cut_62 : decode cX5_cut 62 = .ok (.getfield 15, 3) := by decide +kernel
theorem dX5_cut_65 : decode cX5_cut 65 = .ok (.iload_n 2, 1) := by decide +kernel
theorem dX5_cut_66 : decode cX5_cut 66 = .ok (.iconst 0, 1) := by decide +kernel
theorem dX5_cut_67 : decode cX5_cut 67 = .ok (.iastore, 1) := by decide +kernel
theorem dX5_cut_68 : decode cX5_cut 68 = .ok (.aload_n 0, 1) := by decide +kernel
theorem dX5_cut_69 : decode cX5_cut 69 = .ok (.getfield 18, 3) := by decide +kernel
theorem dX5_cut_72 : decode cX5_cut 72 = .ok (.iload_n 2, 1) := by decide +kernel
theorem dX5_cut_73 : decode cX5_cut 73 = .ok (.iload_n 1, 1) := by decide +kernel
theorem dX5_cut_74 : decode cX5_cut 74 = .ok (.iastore, 1) := by decide +kernel
theorem dX5_cut_75 : decode cX5_cut 75 = .ok (.aload_n 0, 1) := by decide +kernel
theorem dX5_cut_76 : decode cX5_cut 76 = .ok (.iconst (-1), 1) := by decide +kernel
theorem dX5_cut_77 : decode cX5_cut 77 = .ok (.putfield 32, 3) := by decide +kernel
theorem dX5_cut_80 : decode cX5_cut 80 = .ok (.aload_n 0, 1) := by decide +kernel
theorem dX5_cut_81 : decode cX5_cut 81 = .ok (.bipush 7, 2) := by decide +kernel
theorem dX5_cut_83 : decode cX5_cut 83 = .ok (.putfield 35, 3) := by decide +kernel
theorem dX5_cut_86 : decode cX5_cut 86 = .ok (.aload_n 0, 1) := by decide +kernel
theorem dX5_cut_87 : decode cX5_cut 87 = .ok (.invokevirtual 38, 3) := by decide +kernel
theorem dX5_cut_90 : decode cX5_cut 90 = .ok (.return_, 1) := by decide +kernel
theorem dX5_cutOne_0 : decode cX5_cutOne 0 = .ok (.aload_n 0, 1) := by decide +kernel
theorem dX5_cutOne_1 : decode cX5_cutOne 1 = .ok (.getfield 9, 3) := by decide +kernel
theorem dX5_cutOne_4 : decode cX5_cutOne 4 = .ok (.iload_n 2, 1) := by decide +kernel
theorem dX5_cutOne_5 : decode cX5_cutOne 5 = .ok (.iaload, 1) := by decide +kernel
theorem dX5_cutOne_6 : decode cX5_cutOne 6 = .ok (.istore 4, 2) := by decide +kernel
theorem dX5_cutOne_8 : decode cX5_cutOne 8 = .ok (.iload_n 2, 1) := by decide +kernel
theorem dX5_cutOne_9 : decode cX5_cutOne 9 = .ok (.iconst 1, 1) := by decide +kernel
theorem dX5_cutOne_10 : decode cX5_cutOne 10 = .ok (.iadd, 1) := by decide +kernel
theorem dX5_cutOne_11 : decode cX5_cutOne 11 = .ok (.istore 5, 2) := by decide +kernel
theorem dX5_cutOne_13 : decode cX5_cutOne 13 = .ok (.iload 4, 2) := by decide +kernel
theorem dX5_cutOne_15 : decode cX5_cutOne 15 = .ok (.invokestatic 41, 3) := by decide +kernel
theorem dX5_cutOne_18 : decode cX5_cutOne 18 = .ok (.ifCond .eq 76, 3) := by decide +kernel
theorem dX5_cutOne_21 : decode cX5_cutOne 21 = .ok (.iload 4, 2) := by decide +kernel
theorem dX5_cutOne_23 : decode cX5_cutOne 23 = .ok (.bipush 48, 2) := by decide +kernel
theorem dX5_cutOne_25 : decode cX5_cutOne 25 = .ok (.isub, 1) := by decide +kernel
theorem dX5_cutOne_26 : decode cX5_cutOne 26 = .ok (.istore 6, 2) := by decide +kernel
theorem dX5_cutOne_28 : decode cX5_cutOne 28 = .ok (.iload 5, 2) := by decide +kernel
theorem dX5_cutOne_30 : decode cX5_cutOne 30 = .ok (.iload_n 3, 1) := by decide +kernel
theorem dX5_cutOne_31 : decode cX5_cutOne 31 = .ok (.if_icmp .ge 45, 3) := by decide +kernel
theorem dX5_cutOne_34 : decode cX5_cutOne 34 = .ok (.aload_n 0, 1) := by decide +kernel
theorem dX5_cutOne_35 : decode cX5_cutOne 35 = .ok (.getfield 9, 3) := by decide +kernel
theorem dX5_cutOne_38 : decode cX5_cutOne 38 = .ok (.iload 5, 2) := by decide +kernel
theorem dX5_cutOne_40 : decode cX5_cutOne 40 = .ok (.iaload, 1) := by decide +kernel
theorem dX5_cutOne_41 : decode cX5_cutOne 41 = .ok (.invokestatic 41, 3) := by decide +kernel
theorem dX5_cutOne_44 : decode cX5_cutOne 44 = .ok (.ifCond .eq 32, 3) := by decide +kernel
theorem dX5_cutOne_47 : decode cX5_cutOne 47 = .ok (.bipush 10, 2) := by decide +kernel
theorem dX5_cutOne_49 : decode cX5_cutOne 49 = .ok (.iload 6, 2) := by decide +kernel
theorem dX5_cutOne_51 : decode cX5_cutOne 51 = .ok (.imul, 1) := by decide +kernel
theorem dX5_cutOne_52 : decode cX5_cutOne 52 = .ok (.aload_n 0, 1) := by decide +kernel
theorem dX5_cutOne_53 : decode cX5_cutOne 53 = .ok (.getfield 9, 3) := by decide +kernel
theorem dX5_cutOne_56 : decode cX5_cutOne 56 = .ok (.iload 5, 2) := by decide +kernel
theorem dX5_cutOne_58 : decode cX5_cutOne 58 = .ok (.iaload, 1) := by decide +kernel
theorem dX5_cutOne_59 : decode cX5_cutOne 59 = .ok (.iadd, 1) := by decide +kernel
theorem dX5_cutOne_60 : decode cX5_cutOne 60 = .ok (.bipush 48, 2) := by decide +kernel
theorem dX5_cutOne_62 : decode cX5_cutOne 62 = .ok (.isub, 1) := by decide +kernel
theorem dX5_cutOne_63 : decode cX5_cutOne 63 = .ok (.ldc 45, 2) := by decide +kernel
theorem dX5_cutOne_65 : decode cX5_cutOne 65 = .ok (.invokestatic 46, 3) := by decide +kernel
theorem dX5_cutOne_68 : decode cX5_cutOne 68 = .ok (.istore 6, 2) := by decide +kernel
theorem dX5_cutOne_70 : decode cX5_cutOne 70 = .ok (.iinc 5 1, 3) := by decide +kernel
theorem dX5_cutOne_73 : decode cX5_cutOne 73 = .ok (.goto (-45), 3) := by decide +kernel
theorem dX5_cutOne_76 : decode cX5_cutOne 76 = .ok (.aload_n 0, 1) := by decide +kernel
theorem dX5_cutOne_77 : decode cX5_cutOne 77 = .ok (.getfield 15, 3) := by decide +kernel
theorem dX5_cutOne_80 : decode cX5_cutOne 80 = .ok (.iload_n 1, 1) := by decide +kernel
theorem dX5_cutOne_81 : decode cX5_cutOne 81 = .ok (.iconst 1, 1) := by decide +kernel
theorem dX5_cutOne_82 : decode cX5_cutOne 82 = .ok (.iastore, 1) := by decide +kernel
theorem dX5_cutOne_83 : decode cX5_cutOne 83 = .ok (.aload_n 0, 1) := by decide +kernel
theorem dX5_cutOne_84 : decode cX5_cutOne 84 = .ok (.getfield 21, 3) := by decide +kernel
theorem dX5_cutOne_87 : decode cX5_cutOne 87 = .ok (.iload_n 1, 1) := by decide +kernel
theorem dX5_cutOne_88 : decode cX5_cutOne 88 = .ok (.iload 6, 2) := by decide +kernel
theorem dX5_cutOne_90 : decode cX5_cutOne 90 = .ok (.iastore, 1) := by decide +kernel
theorem dX5_cutOne_91 : decode cX5_cutOne 91 = .ok (.goto 73, 3) := by decide +kernel
theorem dX5_cutOne_94 : decode cX5_cutOne 94 = .ok (.iload 4, 2) := by decide +kernel
theorem dX5_cutOne_96 : decode cX5_cutOne 96 = .ok (.invokestatic 52, 3) := by decide +kernel
theorem dX5_cutOne_99 : decode cX5_cutOne 99 = .ok (.ifCond .eq 44, 3) := by decide +kernel
theorem dX5_cutOne_102 : decode cX5_cutOne 102 = .ok (.iload 5, 2) := by decide +kernel
theorem dX5_cutOne_104 : decode cX5_cutOne 104 = .ok (.iload_n 3, 1) := by decide +kernel
theorem dX5_cutOne_105 : decode cX5_cutOne 105 = .ok (.if_icmp .ge 22, 3) := by decide +kernel
theorem dX5_cutOne_108 : decode cX5_cutOne 108 = .ok (.aload_n 0, 1) := by decide +kernel
theorem dX5_cutOne_109 : decode cX5_cutOne 109 = .ok (.getfield 9, 3) := by decide +kernel
theorem dX5_cutOne_112 : decode cX5_cutOne 112 = .ok (.iload 5, 2) := by decide +kernel
theorem dX5_cutOne_114 : decode cX5_cutOne 114 = .ok (.iaload, 1) := by decide +kernel
theorem dX5_cutOne_115 : decode cX5_cutOne 115 = .ok (.invokestatic 52, 3) := by decide +kernel
theorem dX5_cutOne_118 : decode cX5_cutOne 118 = .ok (.ifCond .eq 9, 3) := by decide +kernel
theorem dX5_cutOne_121 : decode cX5_cutOne 121 = .ok (.iinc 5 1, 3) := by decide +kernel
theorem dX5_cutOne_124 : decode cX5_cutOne 124 = .ok (.goto (-22), 3) := by decide +kernel
theorem dX5_cutOne_127 : decode cX5_cutOne 127 = .ok (.aload_n 0, 1) := by decide +kernel
theorem dX5_cutOne_128 : decode cX5_cutOne 128 = .ok (.getfield 15, 3) := by decide +kernel
theorem dX5_cutOne_131 : decode cX5_cutOne 131 = .ok (.iload_n 1, 1) := by decide +kernel
theorem dX5_cutOne_132 : decode cX5_cutOne 132 = .ok (.aload_n 0, 1) := by decide +kernel
theorem dX5_cutOne_133 : decode cX5_cutOne 133 = .ok (.iload_n 2, 1) := by decide +kernel
theorem dX5_cutOne_134 : decode cX5_cutOne 134 = .ok (.iload 5, 2) := by decide +kernel
theorem dX5_cutOne_136 : decode cX5_cutOne 136 = .ok (.invokevirtual 55, 3) := by decide +kernel
theorem dX5_cutOne_139 : decode cX5_cutOne 139 = .ok (.iastore, 1) := by decide +kernel
theorem dX5_cutOne_140 : decode cX5_cutOne 140 = .ok (.goto 24, 3) := by decide +kernel
theorem dX5_cutOne_143 : decode cX5_cutOne 143 = .ok (.aload_n 0, 1) := by decide +kernel
theorem dX5_cutOne_144 : decode cX5_cutOne 144 = .ok (.getfield 15, 3) := by decide +kernel
theorem dX5_cutOne_147 : decode cX5_cutOne 147 = .ok (.iload_n 1, 1) := by decide +kernel
theorem dX5_cutOne_148 : decode cX5_cutOne 148 = .ok (.iload 4, 2) := by decide +kernel
theorem dX5_cutOne_150 : decode cX5_cutOne 150 = .ok (.invokestatic 58, 3) := by decide +kernel
theorem dX5_cutOne_153 : decode cX5_cutOne 153 = .ok (.ifCond .eq 8, 3) := by decide +kernel
theorem dX5_cutOne_156 : decode cX5_cutOne 156 = .ok (.iload 4, 2) := by decide +kernel
theorem dX5_cutOne_158 : decode cX5_cutOne 158 = .ok (.goto 5, 3) := by decide +kernel
theorem dX5_cutOne_161 : decode cX5_cutOne 161 = .ok (.bipush 7, 2) := by decide +kernel
theorem dX5_cutOne_163 : decode cX5_cutOne 163 = .ok (.iastore, 1) := by decide +kernel
theorem dX5_cutOne_164 : decode cX5_cutOne 164 = .ok (.iload 5, 2) := by decide +kernel
theorem dX5_cutOne_166 : decode cX5_cutOne 166 = .ok (.ireturn, 1) := by decide +kernel
theorem dX5_isDigit_0 : decode cX5_isDigit 0 = .ok (.iload_n 0, 1) := by decide +kernel
theorem dX5_isDigit_1 : decode cX5_isDigit 1 = .ok (.bipush 48, 2) := by decide +kernel
theorem dX5_isDigit_3 : decode cX5_isDigit 3 = .ok (.if_icmp .lt 13, 3) := by decide +kernel
theorem dX5_isDigit_6 : decode cX5_isDigit 6 = .ok (.iload_n 0, 1) := by decide +kernel
theorem dX5_isDigit_7 : decode cX5_isDigit 7 = .ok (.bipush 57, 2) := by decide +kernel
theorem dX5_isDigit_9 : decode cX5_isDigit 9 = .ok (.if_icmp .gt 7, 3) := by decide +kernel
theorem dX5_isDigit_12 : decode cX5_isDigit 12 = .ok (.iconst 1, 1) := by decide +kernel
theorem dX5_isDigit_13 : decode cX5_isDigit 13 = .ok (.goto 4, 3) := by decide +kernel
theorem dX5_isDigit_16 : decode cX5_isDigit 16 = .ok (.iconst 0, 1) := by decide +kernel
theorem dX5_isDigit_17 : decode cX5_isDigit 17 = .ok (.ireturn, 1) := by decide +kernel
theorem dX5_isLetter_0 : decode cX5_isLetter 0 = .ok (.iload_n 0, 1) := by decide +kernel
theorem dX5_isLetter_1 : decode cX5_isLetter 1 = .ok (.bipush 97, 2) := by decide +kernel
theorem dX5_isLetter_3 : decode cX5_isLetter 3 = .ok (.if_icmp .lt 13, 3) := by decide +kernel
theorem dX5_isLetter_6 : decode cX5_isLetter 6 = .ok (.iload_n 0, 1) := by decide +kernel
theorem dX5_isLetter_7 : decode cX5_isLetter 7 = .ok (.bipush 122, 2) := by decide +kernel
theorem dX5_isLetter_9 : decode cX5_isLetter 9 = .ok (.if_icmp .gt 7, 3) := by decide +kernel
theorem dX5_isLetter_12 : decode cX5_isLetter 12 = .ok (.iconst 1, 1) := by decide +kernel
theorem dX5_isLetter_13 : decode cX5_isLetter 13 = .ok (.goto 4, 3) := by decide +kernel
theorem dX5_isLetter_16 : decode cX5_isLetter 16 = .ok (.iconst 0, 1) := by decide +kernel
theorem dX5_isLetter_17 : decode cX5_isLetter 17 = .ok (.ireturn, 1) := by decide +kernel
theorem dX5_isSign_0 : decode cX5_isSign 0 = .ok (.iload_n 0, 1) := by decide +kernel
theorem dX5_isSign_1 : decode cX5_isSign 1 = .ok (.bipush 40, 2) := by decide +kernel
theorem dX5_isSign_3 : decode cX5_isSign 3 = .ok (.if_icmp .lt 9, 3) := by decide +kernel
theorem dX5_isSign_6 : decode cX5_isSign 6 = .ok (.iload_n 0, 1) := by decide +kernel
theorem dX5_isSign_7 : decode cX5_isSign 7 = .ok (.bipush 43, 2) := by decide +kernel
theorem dX5_isSign_9 : decode cX5_isSign 9 = .ok (.if_icmp .le 21, 3) := by decide +kernel
theorem dX5_isSign_12 : decode cX5_isSign 12 = .ok (.iload_n 0, 1) := by decide +kernel
theorem dX5_isSign_13 : decode cX5_isSign 13 = .ok (.bipush 45, 2) := by decide +kernel
theorem dX5_isSign_15 : decode cX5_isSign 15 = .ok (.if_icmp .eq 15, 3) := by decide +kernel
theorem dX5_isSign_18 : decode cX5_isSign 18 = .ok (.iload_n 0, 1) := by decide +kernel
theorem dX5_isSign_19 : decode cX5_isSign 19 = .ok (.bipush 59, 2) := by decide +kernel
theorem dX5_isSign_21 : decode cX5_isSign 21 = .ok (.if_icmp .eq 9, 3) := by decide +kernel
theorem dX5_isSign_24 : decode cX5_isSign 24 = .ok (.iload_n 0, 1) := by decide +kernel
theorem dX5_isSign_25 : decode cX5_isSign 25 = .ok (.bipush 94, 2) := by decide +kernel
theorem dX5_isSign_27 : decode cX5_isSign 27 = .ok (.if_icmp .ne 7, 3) := by decide +kernel
theorem dX5_isSign_30 : decode cX5_isSign 30 = .ok (.iconst 1, 1) := by decide +kernel
theorem dX5_isSign_31 : decode cX5_isSign 31 = .ok (.goto 4, 3) := by decide +kernel
theorem dX5_isSign_34 : decode cX5_isSign 34 = .ok (.iconst 0, 1) := by decide +kernel
theorem dX5_isSign_35 : decode cX5_isSign 35 = .ok (.ireturn, 1) := by decide +kernel
theorem dX5_wordKind_0 : decode cX5_wordKind 0 = .ok (.aload_n 0, 1) := by decide +kernel
theorem dX5_wordKind_1 : decode cX5_wordKind 1 = .ok (.ldc 61, 2) := by decide +kernel
theorem dX5_wordKind_3 : decode cX5_wordKind 3 = .ok (.iload_n 1, 1) := by decide +kernel
theorem dX5_wordKind_4 : decode cX5_wordKind 4 = .ok (.iload_n 2, 1) := by decide +kernel
theorem dX5_wordKind_5 : decode cX5_wordKind 5 = .ok (.invokevirtual 63, 3) := by decide +kernel
theorem dX5_wordKind_8 : decode cX5_wordKind 8 = .ok (.ifCond .eq 5, 3) := by decide +kernel
theorem dX5_wordKind_11 : decode cX5_wordKind 11 = .ok (.iconst 4, 1) := by decide +kernel
theorem dX5_wordKind_12 : decode cX5_wordKind 12 = .ok (.ireturn, 1) := by decide +kernel
theorem dX5_wordKind_13 : decode cX5_wordKind 13 = .ok (.aload_n 0, 1) := by decide +kernel
theorem dX5_wordKind_14 : decode cX5_wordKind 14 = .ok (.ldc 67, 2) := by decide +kernel
theorem dX5_wordKind_16 : decode cX5_wordKind 16 = .ok (.iload_n 1, 1) := by decide +kernel
theorem dX5_wordKind_17 : decode cX5_wordKind 17 = .ok (.iload_n 2, 1) := by decide +kernel
theorem dX5_wordKind_18 : decode cX5_wordKind 18 = .ok (.invokevirtual 63, 3) := by decide +kernel
theorem dX5_wordKind_21 : decode cX5_wordKind 21 = .ok (.ifCond .eq 5, 3) := by decide +kernel
theorem dX5_wordKind_24 : decode cX5_wordKind 24 = .ok (.iconst 5, 1) := by decide +kernel
theorem dX5_wordKind_25 : decode cX5_wordKind 25 = .ok (.ireturn, 1) := by decide +kernel
theorem dX5_wordKind_26 : decode cX5_wordKind 26 = .ok (.aload_n 0, 1) := by decide +kernel
theorem dX5_wordKind_27 : decode cX5_wordKind 27 = .ok (.ldc 69, 2) := by decide +kernel
theorem dX5_wordKind_29 : decode cX5_wordKind 29 = .ok (.iload_n 1, 1) := by decide +kernel
theorem dX5_wordKind_30 : decode cX5_wordKind 30 = .ok (.iload_n 2, 1) := by decide +kernel
theorem dX5_wordKind_31 : decode cX5_wordKind 31 = .ok (.invokevirtual 63, 3) := by decide +kernel
theorem dX5_wordKind_34 : decode cX5_wordKind 34 = .ok (.ifCond .eq 5, 3) := by decide +kernel
theorem dX5_wordKind_37 : decode cX5_wordKind 37 = .ok (.iconst 3, 1) := by decide +kernel
theorem dX5_wordKind_38 : decode cX5_wordKind 38 = .ok (.ireturn, 1) := by decide +kernel
theorem dX5_wordKind_39 : decode cX5_wordKind 39 = .ok (.aload_n 0, 1) := by decide +kernel
theorem dX5_wordKind_40 : decode cX5_wordKind 40 = .ok (.ldc 71, 2) := by decide +kernel
theorem dX5_wordKind_42 : decode cX5_wordKind 42 = .ok (.iload_n 1, 1) := by decide +kernel
theorem dX5_wordKind_43 : decode cX5_wordKind 43 = .ok (.iload_n 2, 1) := by decide +kernel
theorem dX5_wordKind_44 : decode cX5_wordKind 44 = .ok (.invokevirtual 63, 3) := by decide +kernel
theorem dX5_wordKind_47 : decode cX5_wordKind 47 = .ok (.ifCond .eq 5, 3) := by decide +kernel
theorem dX5_wordKind_50 : decode cX5_wordKind 50 = .ok (.iconst 2, 1) := by decide +kernel
theorem dX5_wordKind_51 : decode cX5_wordKind 51 = .ok (.ireturn, 1) := by decide +kernel
theorem dX5_wordKind_52 : decode cX5_wordKind 52 = .ok (.aload_n 0, 1) := by decide +kernel
theorem dX5_wordKind_53 : decode cX5_wordKind 53 = .ok (.ldc 73, 2) := by decide +kernel
theorem dX5_wordKind_55 : decode cX5_wordKind 55 = .ok (.iload_n 1, 1) := by decide +kernel
theorem dX5_wordKind_56 : decode cX5_wordKind 56 = .ok (.iload_n 2, 1) := by decide +kernel
theorem dX5_wordKind_57 : decode cX5_wordKind 57 = .ok (.invokevirtual 63, 3) := by decide +kernel
theorem dX5_wordKind_60 : decode cX5_wordKind 60 = .ok (.ifCond .eq 8, 3) := by decide +kernel
theorem dX5_wordKind_63 : decode cX5_wordKind 63 = .ok (.bipush 6, 2) := by decide +kernel
theorem dX5_wordKind_65 : decode cX5_wordKind 65 = .ok (.goto 5, 3) := by decide +kernel
theorem dX5_wordKind_68 : decode cX5_wordKind 68 = .ok (.bipush 7, 2) := by decide +kernel
theorem dX5_wordKind_70 : decode cX5_wordKind 70 = .ok (.ireturn, 1) := by decide +kernel
theorem dX5_spells_0 : decode cX5_spells 0 = .ok (.aload_n 1, 1) := by decide +kernel
theorem dX5_spells_1 : decode cX5_spells 1 = .ok (.invokevirtual 75, 3) := by decide +kernel
theorem dX5_spells_4 : decode cX5_spells 4 = .ok (.iload_n 3, 1) := by decide +kernel
theorem dX5_spells_5 : decode cX5_spells 5 = .ok (.iload_n 2, 1) := by decide +kernel
theorem dX5_spells_6 : decode cX5_spells 6 = .ok (.isub, 1) := by decide +kernel
theorem dX5_spells_7 : decode cX5_spells 7 = .ok (.if_icmp .eq 5, 3) := by decide +kernel
theorem dX5_spells_10 : decode cX5_spells 10 = .ok (.iconst 0, 1) := by decide +kernel
theorem dX5_spells_11 : decode cX5_spells 11 = .ok (.ireturn, 1) := by decide +kernel
theorem dX5_spells_12 : decode cX5_spells 12 = .ok (.iconst 0, 1) := by decide +kernel
theorem dX5_spells_13 : decode cX5_spells 13 = .ok (.istore 4, 2) := by decide +kernel
theorem dX5_spells_15 : decode cX5_spells 15 = .ok (.iload 4, 2) := by decide +kernel
theorem dX5_spells_17 : decode cX5_spells 17 = .ok (.aload_n 1, 1) := by decide +kernel
theorem dX5_spells_18 : decode cX5_spells 18 = .ok (.invokevirtual 75, 3) := by decide +kernel
theorem dX5_spells_21 : decode cX5_spells 21 = .ok (.if_icmp .ge 29, 3) := by decide +kernel
theorem dX5_spells_24 : decode cX5_spells 24 = .ok (.aload_n 1, 1) := by decide +kernel
theorem dX5_spells_25 : decode cX5_spells 25 = .ok (.iload 4, 2) := by decide +kernel
theorem dX5_spells_27 : decode cX5_spells 27 = .ok (.invokevirtual 81, 3) := by decide +kernel
theorem dX5_spells_30 : decode cX5_spells 30 = .ok (.aload_n 0, 1) := by decide +kernel
theorem dX5_spells_31 : decode cX5_spells 31 = .ok (.getfield 9, 3) := by decide +kernel
theorem dX5_spells_34 : decode cX5_spells 34 = .ok (.iload_n 2, 1) := by decide +kernel
theorem dX5_spells_35 : decode cX5_spells 35 = .ok (.iload 4, 2) := by decide +kernel
theorem dX5_spells_37 : decode cX5_spells 37 = .ok (.iadd, 1) := by decide +kernel
theorem dX5_spells_38 : decode cX5_spells 38 = .ok (.iaload, 1) := by decide +kernel
theorem dX5_spells_39 : decode cX5_spells 39 = .ok (.if_icmp .eq 5, 3) := by decide +kernel
theorem dX5_spells_42 : decode cX5_spells 42 = .ok (.iconst 0, 1) := by decide +kernel
theorem dX5_spells_43 : decode cX5_spells 43 = .ok (.ireturn, 1) := by decide +kernel
theorem dX5_spells_44 : decode cX5_spells 44 = .ok (.iinc 4 1, 3) := by decide +kernel
theorem dX5_spells_47 : decode cX5_spells 47 = .ok (.goto (-32), 3) := by decide +kernel
theorem dX5_spells_50 : decode cX5_spells 50 = .ok (.iconst 1, 1) := by decide +kernel
theorem dX5_spells_51 : decode cX5_spells 51 = .ok (.ireturn, 1) := by decide +kernel
theorem dX5_step_0 : decode cX5_step 0 = .ok (.aload_n 0, 1) := by decide +kernel
theorem dX5_step_1 : decode cX5_step 1 = .ok (.getfield 35, 3) := by decide +kernel
theorem dX5_step_4 : decode cX5_step 4 = .ok (.ifCond .eq 52, 3) := by decide +kernel
theorem dX5_step_7 : decode cX5_step 7 = .ok (.aload_n 0, 1) := by decide +kernel
theorem dX5_step_8 : decode cX5_step 8 = .ok (.dup, 1) := by decide +kernel
theorem dX5_step_9 : decode cX5_step 9 = .ok (.getfield 32, 3) := by decide +kernel
theorem dX5_step_12 : decode cX5_step 12 = .ok (.iconst 1, 1) := by decide +kernel
theorem dX5_step_13 : decode cX5_step 13 = .ok (.iadd, 1) := by decide +kernel
theorem dX5_step_14 : decode cX5_step 14 = .ok (.putfield 32, 3) := by decide +kernel
theorem dX5_step_17 : decode cX5_step 17 = .ok (.aload_n 0, 1) := by decide +kernel
theorem dX5_step_18 : decode cX5_step 18 = .ok (.aload_n 0, 1) := by decide +kernel
theorem dX5_step_19 : decode cX5_step 19 = .ok (.getfield 15, 3) := by decide +kernel
theorem dX5_step_22 : decode cX5_step 22 = .ok (.aload_n 0, 1) := by decide +kernel
theorem dX5_step_23 : decode cX5_step 23 = .ok (.getfield 32, 3) := by decide +kernel
theorem dX5_step_26 : decode cX5_step 26 = .ok (.iaload, 1) := by decide +kernel
theorem dX5_step_27 : decode cX5_step 27 = .ok (.putfield 35, 3) := by decide +kernel
theorem dX5_step_30 : decode cX5_step 30 = .ok (.aload_n 0, 1) := by decide +kernel
theorem dX5_step_31 : decode cX5_step 31 = .ok (.aload_n 0, 1) := by decide +kernel
theorem dX5_step_32 : decode cX5_step 32 = .ok (.getfield 18, 3) := by decide +kernel
theorem dX5_step_35 : decode cX5_step 35 = .ok (.aload_n 0, 1) := by decide +kernel
theorem dX5_step_36 : decode cX5_step 36 = .ok (.getfield 32, 3) := by decide +kernel
theorem dX5_step_39 : decode cX5_step 39 = .ok (.iaload, 1) := by decide +kernel
theorem dX5_step_40 : decode cX5_step 40 = .ok (.putfield 85, 3) := by decide +kernel
theorem dX5_step_43 : decode cX5_step 43 = .ok (.aload_n 0, 1) := by decide +kernel
theorem dX5_step_44 : decode cX5_step 44 = .ok (.aload_n 0, 1) := by decide +kernel
theorem dX5_step_45 : decode cX5_step 45 = .ok (.getfield 21, 3) := by decide +kernel
theorem dX5_step_48 : decode cX5_step 48 = .ok (.aload_n 0, 1) := by decide +kernel
theorem dX5_step_49 : decode cX5_step 49 = .ok (.getfield 32, 3) := by decide +kernel
theorem dX5_step_52 : decode cX5_step 52 = .ok (.iaload, 1) := by decide +kernel
theorem dX5_step_53 : decode cX5_step 53 = .ok (.putfield 88, 3) := by decide +kernel
theorem dX5_step_56 : decode cX5_step 56 = .ok (.return_, 1) := by decide +kernel
