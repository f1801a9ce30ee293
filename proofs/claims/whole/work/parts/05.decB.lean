theorem dX4_init_0 : decode cX4_init 0 = .ok (.aload_n 0, 1) := by decide +kernel
theorem dX4_init_1 : decode cX4_init 1 = .ok (.invokespecial 3, 3) := by decide +kernel
theorem dX4_init_4 : decode cX4_init 4 = .ok (.aload_n 0, 1) := by decide +kernel
theorem dX4_init_5 : decode cX4_init 5 = .ok (.aload_n 1, 1) := by decide +kernel
theorem dX4_init_6 : decode cX4_init 6 = .ok (.putfield 9, 3) := by decide +kernel
theorem dX4_init_9 : decode cX4_init 9 = .ok (.aload_n 0, 1) := by decide +kernel
theorem dX4_init_10 : decode cX4_init 10 = .ok (.bipush 65, 2) := by decide +kernel
theorem dX4_init_12 : decode cX4_init 12 = .ok (.newarray .int, 2) := by decide +kernel
theorem dX4_init_14 : decode cX4_init 14 = .ok (.putfield 15, 3) := by decide +kernel
theorem dX4_init_17 : decode cX4_init 17 = .ok (.aload_n 0, 1) := by decide +kernel
theorem dX4_init_18 : decode cX4_init 18 = .ok (.bipush 64, 2) := by decide +kernel
theorem dX4_init_20 : decode cX4_init 20 = .ok (.newarray .int, 2) := by decide +kernel
theorem dX4_init_22 : decode cX4_init 22 = .ok (.putfield 19, 3) := by decide +kernel
theorem dX4_init_25 : decode cX4_init 25 = .ok (.aload_n 0, 1) := by decide +kernel
theorem dX4_init_26 : decode cX4_init 26 = .ok (.bipush 64, 2) := by decide +kernel
theorem dX4_init_28 : decode cX4_init 28 = .ok (.newarray .int, 2) := by decide +kernel
theorem dX4_init_30 : decode cX4_init 30 = .ok (.putfield 22, 3) := by decide +kernel
theorem dX4_init_33 : decode cX4_init 33 = .ok (.aload_n 0, 1) := by decide +kernel
theorem dX4_init_34 : decode cX4_init 34 = .ok (.bipush 64, 2) := by decide +kernel
theorem dX4_init_36 : decode cX4_init 36 = .ok (.newarray .int, 2) := by decide +kernel
theorem dX4_init_38 : decode cX4_init 38 = .ok (.putfield 25, 3) := by decide +kernel
theorem dX4_init_41 : decode cX4_init 41 = .ok (.return_, 1) := by decide +kernel
theorem dX4_join_0 : decode cX4_join 0 = .ok (.iconst 0, 1) := by decide +kernel
theorem dX4_join_1 : decode cX4_join 1 = .ok (.istore 4, 2) := by decide +kernel
theorem dX4_join_3 : decode cX4_join 3 = .ok (.iload 4, 2) := by decide +kernel
theorem dX4_join_5 : decode cX4_join 5 = .ok (.aload_n 0, 1) := by decide +kernel
theorem dX4_join_6 : decode cX4_join 6 = .ok (.getfield 9, 3) := by decide +kernel
theorem dX4_join_9 : decode cX4_join 9 = .ok (.getfield 28, 3) := by decide +kernel
theorem dX4_join_12 : decode cX4_join 12 = .ok (.if_icmp .ge 19, 3) := by decide +kernel
theorem dX4_join_15 : decode cX4_join 15 = .ok (.aload_n 3, 1) := by decide +kernel
theorem dX4_join_16 : decode cX4_join 16 = .ok (.iload 4, 2) := by decide +kernel
theorem dX4_join_18 : decode cX4_join 18 = .ok (.aload_n 1, 1) := by decide +kernel
theorem dX4_join_19 : decode cX4_join 19 = .ok (.aload_n 2, 1) := by decide +kernel
theorem dX4_join_20 : decode cX4_join 20 = .ok (.iload 4, 2) := by decide +kernel
theorem dX4_join_22 : decode cX4_join 22 = .ok (.iaload, 1) := by decide +kernel
theorem dX4_join_23 : decode cX4_join 23 = .ok (.iaload, 1) := by decide +kernel
theorem dX4_join_24 : decode cX4_join 24 = .ok (.iastore, 1) := by decide +kernel
theorem dX4_join_25 : decode cX4_join 25 = .ok (.iinc 4 1, 3) := by decide +kernel
theorem dX4_join_28 : decode cX4_join 28 = .ok (.goto (-25), 3) := by decide +kernel
theorem dX4_join_31 : decode cX4_join 31 = .ok (.return_, 1) := by decide +kernel
theorem dX4_repeat_0 : decode cX4_repeat 0 = .ok (.aload_n 0, 1) := by decide +kernel
theorem dX4_repeat_1 : decode cX4_repeat 1 = .ok (.getfield 22, 3) := by decide +kernel
theorem dX4_repeat_4 : decode cX4_repeat 4 = .ok (.astore 4, 2) := by decide +kernel
theorem dX4_repeat_6 : decode cX4_repeat 6 = .ok (.aload_n 0, 1) := by decide +kernel
theorem dX4_repeat_7 : decode cX4_repeat 7 = .ok (.getfield 25, 3) := by decide +kernel
theorem dX4_repeat_10 : decode cX4_repeat 10 = .ok (.astore 5, 2) := by decide +kernel
theorem dX4_repeat_12 : decode cX4_repeat 12 = .ok (.iconst 0, 1) := by decide +kernel
theorem dX4_repeat_13 : decode cX4_repeat 13 = .ok (.istore 6, 2) := by decide +kernel
theorem dX4_repeat_15 : decode cX4_repeat 15 = .ok (.iload 6, 2) := by decide +kernel
theorem dX4_repeat_17 : decode cX4_repeat 17 = .ok (.aload_n 0, 1) := by decide +kernel
theorem dX4_repeat_18 : decode cX4_repeat 18 = .ok (.getfield 9, 3) := by decide +kernel
theorem dX4_repeat_21 : decode cX4_repeat 21 = .ok (.getfield 28, 3) := by decide +kernel
theorem dX4_repeat_24 : decode cX4_repeat 24 = .ok (.if_icmp .ge 24, 3) := by decide +kernel
theorem dX4_repeat_27 : decode cX4_repeat 27 = .ok (.aload_n 3, 1) := by decide +kernel
theorem dX4_repeat_28 : decode cX4_repeat 28 = .ok (.iload 6, 2) := by decide +kernel
theorem dX4_repeat_30 : decode cX4_repeat 30 = .ok (.iload 6, 2) := by decide +kernel
theorem dX4_repeat_32 : decode cX4_repeat 32 = .ok (.iastore, 1) := by decide +kernel
theorem dX4_repeat_33 : decode cX4_repeat 33 = .ok (.aload 4, 2) := by decide +kernel
theorem dX4_repeat_35 : decode cX4_repeat 35 = .ok (.iload 6, 2) := by decide +kernel
theorem dX4_repeat_37 : decode cX4_repeat 37 = .ok (.aload_n 1, 1) := by decide +kernel
theorem dX4_repeat_38 : decode cX4_repeat 38 = .ok (.iload 6, 2) := by decide +kernel
theorem dX4_repeat_40 : decode cX4_repeat 40 = .ok (.iaload, 1) := by decide +kernel
theorem dX4_repeat_41 : decode cX4_repeat 41 = .ok (.iastore, 1) := by decide +kernel
theorem dX4_repeat_42 : decode cX4_repeat 42 = .ok (.iinc 6 1, 3) := by decide +kernel
theorem dX4_repeat_45 : decode cX4_repeat 45 = .ok (.goto (-30), 3) := by decide +kernel
theorem dX4_repeat_48 : decode cX4_repeat 48 = .ok (.iload_n 2, 1) := by decide +kernel
theorem dX4_repeat_49 : decode cX4_repeat 49 = .ok (.istore 6, 2) := by decide +kernel
theorem dX4_repeat_51 : decode cX4_repeat 51 = .ok (.iload 6, 2) := by decide +kernel
theorem dX4_repeat_53 : decode cX4_repeat 53 = .ok (.ifCond .le 50, 3) := by decide +kernel
theorem dX4_repeat_56 : decode cX4_repeat 56 = .ok (.iload 6, 2) := by decide +kernel
theorem dX4_repeat_58 : decode cX4_repeat 58 = .ok (.iconst 1, 1) := by decide +kernel
theorem dX4_repeat_59 : decode cX4_repeat 59 = .ok (.iand, 1) := by decide +kernel
theorem dX4_repeat_60 : decode cX4_repeat 60 = .ok (.iconst 1, 1) := by decide +kernel
theorem dX4_repeat_61 : decode cX4_repeat 61 = .ok (.if_icmp .ne 11, 3) := by decide +kernel
theorem dX4_repeat_64 : decode cX4_repeat 64 = .ok (.aload_n 0, 1) := by decide +kernel
theorem dX4_repeat_65 : decode cX4_repeat 65 = .ok (.aload 4, 2) := by decide +kernel
theorem dX4_repeat_67 : decode cX4_repeat 67 = .ok (.aload_n 3, 1) := by decide +kernel
theorem dX4_repeat_68 : decode cX4_repeat 68 = .ok (.aload_n 3, 1) := by decide +kernel
theorem dX4_repeat_69 : decode cX4_repeat 69 = .ok (.invokevirtual 34, 3) := by decide +kernel
theorem dX4_repeat_72 : decode cX4_repeat 72 = .ok (.aload_n 0, 1) := by decide +kernel
theorem dX4_repeat_73 : decode cX4_repeat 73 = .ok (.aload 4, 2) := by decide +kernel
theorem dX4_repeat_75 : decode cX4_repeat 75 = .ok (.aload 4, 2) := by decide +kernel
theorem dX4_repeat_77 : decode cX4_repeat 77 = .ok (.aload 5, 2) := by decide +kernel
theorem dX4_repeat_79 : decode cX4_repeat 79 = .ok (.invokevirtual 34, 3) := by decide +kernel
theorem dX4_repeat_82 : decode cX4_repeat 82 = .ok (.aload 5, 2) := by decide +kernel
theorem dX4_repeat_84 : decode cX4_repeat 84 = .ok (.astore 7, 2) := by decide +kernel
theorem dX4_repeat_86 : decode cX4_repeat 86 = .ok (.aload 4, 2) := by decide +kernel
theorem dX4_repeat_88 : decode cX4_repeat 88 = .ok (.astore 5, 2) := by decide +kernel
theorem dX4_repeat_90 : decode cX4_repeat 90 = .ok (.aload 7, 2) := by decide +kernel
theorem dX4_repeat_92 : decode cX4_repeat 92 = .ok (.astore 4, 2) := by decide +kernel
theorem dX4_repeat_94 : decode cX4_repeat 94 = .ok (.iload 6, 2) := by decide +kernel
theorem dX4_repeat_96 : decode cX4_repeat 96 = .ok (.iconst 1, 1) := by decide +kernel
theorem dX4_repeat_97 : decode cX4_repeat 97 = .ok (.ishr, 1) := by decide +kernel
theorem dX4_repeat_98 : decode cX4_repeat 98 = .ok (.istore 6, 2) := by decide +kernel
theorem dX4_repeat_100 : decode cX4_repeat 100 = .ok (.goto (-49), 3) := by decide +kernel
theorem dX4_repeat_103 : decode cX4_repeat 103 = .ok (.return_, 1) := by decide +kernel
theorem dX4_invert_0 : decode cX4_invert 0 = .ok (.iconst 0, 1) := by decide +kernel
theorem dX4_invert_1 : decode cX4_invert 1 = .ok (.istore_n 3, 1) := by decide +kernel
theorem dX4_invert_2 : decode cX4_invert 2 = .ok (.iload_n 3, 1) := by decide +kernel
theorem dX4_invert_3 : decode cX4_invert 3 = .ok (.aload_n 0, 1) := by decide +kernel
theorem dX4_invert_4 : decode cX4_invert 4 = .ok (.getfield 9, 3) := by decide +kernel
theorem dX4_invert_7 : decode cX4_invert 7 = .ok (.getfield 28, 3) := by decide +kernel
theorem dX4_invert_10 : decode cX4_invert 10 = .ok (.if_icmp .ge 15, 3) := by decide +kernel
theorem dX4_invert_13 : decode cX4_invert 13 = .ok (.aload_n 2, 1) := by decide +kernel
theorem dX4_invert_14 : decode cX4_invert 14 = .ok (.aload_n 1, 1) := by decide +kernel
theorem dX4_invert_15 : decode cX4_invert 15 = .ok (.iload_n 3, 1) := by decide +kernel
theorem dX4_invert_16 : decode cX4_invert 16 = .ok (.iaload, 1) := by decide +kernel
theorem dX4_invert_17 : decode cX4_invert 17 = .ok (.iload_n 3, 1) := by decide +kernel
theorem dX4_invert_18 : decode cX4_invert 18 = .ok (.iastore, 1) := by decide +kernel
theorem dX4_invert_19 : decode cX4_invert 19 = .ok (.iinc 3 1, 3) := by decide +kernel
theorem dX4_invert_22 : decode cX4_invert 22 = .ok (.goto (-20), 3) := by decide +kernel
theorem dX4_invert_25 : decode cX4_invert 25 = .ok (.return_, 1) := by decide +kernel
theorem dX4_coefficientOf_0 : decode cX4_coefficientOf 0 = .ok (.iload_n 2, 1) := by decide +kernel
theorem dX4_coefficientOf_1 : decode cX4_coefficientOf 1 = .ok (.ifCond .ne 7, 3) := by decide +kernel
theorem dX4_coefficientOf_4 : decode cX4_coefficientOf 4 = .ok (.aload_n 1, 1) := by decide +kernel
theorem dX4_coefficientOf_5 : decode cX4_coefficientOf 5 = .ok (.iconst 0, 1) := by decide +kernel
theorem dX4_coefficientOf_6 : decode cX4_coefficientOf 6 = .ok (.iaload, 1) := by decide +kernel
theorem dX4_coefficientOf_7 : decode cX4_coefficientOf 7 = .ok (.ireturn, 1) := by decide +kernel
theorem dX4_coefficientOf_8 : decode cX4_coefficientOf 8 = .ok (.iconst 0, 1) := by decide +kernel
theorem dX4_coefficientOf_9 : decode cX4_coefficientOf 9 = .ok (.istore_n 3, 1) := by decide +kernel
theorem dX4_coefficientOf_10 : decode cX4_coefficientOf 10 = .ok (.iconst 0, 1) := by decide +kernel
theorem dX4_coefficientOf_11 : decode cX4_coefficientOf 11 = .ok (.istore 4, 2) := by decide +kernel
theorem dX4_coefficientOf_13 : decode cX4_coefficientOf 13 = .ok (.iload 4, 2) := by decide +kernel
theorem dX4_coefficientOf_15 : decode cX4_coefficientOf 15 = .ok (.aload_n 0, 1) := by decide +kernel
theorem dX4_coefficientOf_16 : decode cX4_coefficientOf 16 = .ok (.getfield 9, 3) := by decide +kernel
theorem dX4_coefficientOf_19 : decode cX4_coefficientOf 19 = .ok (.getfield 28, 3) := by decide +kernel
theorem dX4_coefficientOf_22 : decode cX4_coefficientOf 22 = .ok (.if_icmp .ge 49, 3) := by decide +kernel
theorem dX4_coefficientOf_25 : decode cX4_coefficientOf 25 = .ok (.aload_n 0, 1) := by decide +kernel
theorem dX4_coefficientOf_26 : decode cX4_coefficientOf 26 = .ok (.getfield 9, 3) := by decide +kernel
theorem dX4_coefficientOf_29 : decode cX4_coefficientOf 29 = .ok (.iload_n 3, 1) := by decide +kernel
theorem dX4_coefficientOf_30 : decode cX4_coefficientOf 30 = .ok (.aload_n 0, 1) := by decide +kernel
theorem dX4_coefficientOf_31 : decode cX4_coefficientOf 31 = .ok (.getfield 9, 3) := by decide +kernel
theorem dX4_coefficientOf_34 : decode cX4_coefficientOf 34 = .ok (.aload_n 1, 1) := by decide +kernel
theorem dX4_coefficientOf_35 : decode cX4_coefficientOf 35 = .ok (.iload 4, 2) := by decide +kernel
theorem dX4_coefficientOf_37 : decode cX4_coefficientOf 37 = .ok (.iaload, 1) := by decide +kernel
theorem dX4_coefficientOf_38 : decode cX4_coefficientOf 38 = .ok (.aload_n 0, 1) := by decide +kernel
theorem dX4_coefficientOf_39 : decode cX4_coefficientOf 39 = .ok (.getfield 9, 3) := by decide +kernel
theorem dX4_coefficientOf_42 : decode cX4_coefficientOf 42 = .ok (.iload 4, 2) := by decide +kernel
theorem dX4_coefficientOf_44 : decode cX4_coefficientOf 44 = .ok (.aload_n 0, 1) := by decide +kernel
theorem dX4_coefficientOf_45 : decode cX4_coefficientOf 45 = .ok (.getfield 9, 3) := by decide +kernel
theorem dX4_coefficientOf_48 : decode cX4_coefficientOf 48 = .ok (.getfield 28, 3) := by decide +kernel
theorem dX4_coefficientOf_51 : decode cX4_coefficientOf 51 = .ok (.iconst 1, 1) := by decide +kernel
theorem dX4_coefficientOf_52 : decode cX4_coefficientOf 52 = .ok (.isub, 1) := by decide +kernel
theorem dX4_coefficientOf_53 : decode cX4_coefficientOf 53 = .ok (.iload_n 2, 1) := by decide +kernel
theorem dX4_coefficientOf_54 : decode cX4_coefficientOf 54 = .ok (.isub, 1) := by decide +kernel
theorem dX4_coefficientOf_55 : decode cX4_coefficientOf 55 = .ok (.invokevirtual 38, 3) := by decide +kernel
theorem dX4_coefficientOf_58 : decode cX4_coefficientOf 58 = .ok (.invokevirtual 42, 3) := by decide +kernel
theorem dX4_coefficientOf_61 : decode cX4_coefficientOf 61 = .ok (.invokevirtual 45, 3) := by decide +kernel
theorem dX4_coefficientOf_64 : decode cX4_coefficientOf 64 = .ok (.istore_n 3, 1) := by decide +kernel
theorem dX4_coefficientOf_65 : decode cX4_coefficientOf 65 = .ok (.iinc 4 1, 3) := by decide +kernel
theorem dX4_coefficientOf_68 : decode cX4_coefficientOf 68 = .ok (.goto (-55), 3) := by decide +kernel
theorem dX4_coefficientOf_71 : decode cX4_coefficientOf 71 = .ok (.aload_n 0, 1) := by decide +kernel
theorem dX4_coefficientOf_72 : decode cX4_coefficientOf 72 = .ok (.getfield 9, 3) := by decide +kernel
theorem dX4_coefficientOf_75 : decode cX4_coefficientOf 75 = .ok (.getfield 48, 3) := by decide +kernel
theorem dX4_coefficientOf_78 : decode cX4_coefficientOf 78 = .ok (.iload_n 3, 1) := by decide +kernel
theorem dX4_coefficientOf_79 : decode cX4_coefficientOf 79 = .ok (.iaload, 1) := by decide +kernel
theorem dX4_coefficientOf_80 : decode cX4_coefficientOf 80 = .ok (.ireturn, 1) := by decide +kernel
theorem dX4_degreeOf_0 : decode cX4_degreeOf 0 = .ok (.aload_n 0, 1) := by decide +kernel
theorem dX4_degreeOf_1 : decode cX4_degreeOf 1 = .ok (.getfield 22, 3) := by decide +kernel
theorem dX4_degreeOf_4 : decode cX4_degreeOf 4 = .ok (.astore_n 2, 1) := by decide +kernel
theorem dX4_degreeOf_5 : decode cX4_degreeOf 5 = .ok (.iconst 0, 1) := by decide +kernel
theorem dX4_degreeOf_6 : decode cX4_degreeOf 6 = .ok (.istore_n 3, 1) := by decide +kernel
theorem dX4_degreeOf_7 : decode cX4_degreeOf 7 = .ok (.iload_n 3, 1) := by decide +kernel
theorem dX4_degreeOf_8 : decode cX4_degreeOf 8 = .ok (.aload_n 0, 1) := by decide +kernel
theorem dX4_degreeOf_9 : decode cX4_degreeOf 9 = .ok (.getfield 9, 3) := by decide +kernel
theorem dX4_degreeOf_12 : decode cX4_degreeOf 12 = .ok (.getfield 28, 3) := by decide +kernel
theorem dX4_degreeOf_15 : decode cX4_degreeOf 15 = .ok (.if_icmp .ge 13, 3) := by decide +kernel
theorem dX4_degreeOf_18 : decode cX4_degreeOf 18 = .ok (.aload_n 2, 1) := by decide +kernel
theorem dX4_degreeOf_19 : decode cX4_degreeOf 19 = .ok (.iload_n 3, 1) := by decide +kernel
theorem dX4_degreeOf_20 : decode cX4_degreeOf 20 = .ok (.iconst 1, 1) := by decide +kernel
theorem dX4_degreeOf_21 : decode cX4_degreeOf 21 = .ok (.iastore, 1) := by decide +kernel
theorem dX4_degreeOf_22 : decode cX4_degreeOf 22 = .ok (.iinc 3 1, 3) := by decide +kernel
theorem dX4_degreeOf_25 : decode cX4_degreeOf 25 = .ok (.goto (-18), 3) := by decide +kernel
theorem dX4_degreeOf_28 : decode cX4_degreeOf 28 = .ok (.aload_n 0, 1) := by decide +kernel
theorem dX4_degreeOf_29 : decode cX4_degreeOf 29 = .ok (.getfield 9, 3) := by decide +kernel
theorem dX4_degreeOf_32 : decode cX4_degreeOf 32 = .ok (.getfield 28, 3) := by decide +kernel
theorem dX4_degreeOf_35 : decode cX4_degreeOf 35 = .ok (.iconst 1, 1) := by decide +kernel
theorem dX4_degreeOf_36 : decode cX4_degreeOf 36 = .ok (.isub, 1) := by decide +kernel
theorem dX4_degreeOf_37 : decode cX4_degreeOf 37 = .ok (.istore_n 3, 1) := by decide +kernel
theorem dX4_degreeOf_38 : decode cX4_degreeOf 38 = .ok (.iload_n 3, 1) := by decide +kernel
theorem dX4_degreeOf_39 : decode cX4_degreeOf 39 = .ok (.ifCond .le 83, 3) := by decide +kernel
theorem dX4_degreeOf_42 : decode cX4_degreeOf 42 = .ok (.iconst 0, 1) := by decide +kernel
theorem dX4_degreeOf_43 : decode cX4_degreeOf 43 = .ok (.istore 4, 2) := by decide +kernel
theorem dX4_degreeOf_45 : decode cX4_degreeOf 45 = .ok (.iconst 0, 1) := by decide +kernel
theorem dX4_degreeOf_46 : decode cX4_degreeOf 46 = .ok (.istore 5, 2) := by decide +kernel
theorem dX4_degreeOf_48 : decode cX4_degreeOf 48 = .ok (.iload 5, 2) := by decide +kernel
theorem dX4_degreeOf_50 : decode cX4_degreeOf 50 = .ok (.aload_n 0, 1) := by decide +kernel
theorem dX4_degreeOf_51 : decode cX4_degreeOf 51 = .ok (.getfield 9, 3) := by decide +kernel
theorem dX4_degreeOf_54 : decode cX4_degreeOf 54 = .ok (.getfield 28, 3) := by decide +kernel
theorem dX4_degreeOf_57 : decode cX4_degreeOf 57 = .ok (.if_icmp .ge 52, 3) := by decide +kernel
theorem dX4_degreeOf_60 : decode cX4_degreeOf 60 = .ok (.aload_n 0, 1) := by decide +kernel
theorem dX4_degreeOf_61 : decode cX4_degreeOf 61 = .ok (.getfield 9, 3) := by decide +kernel
theorem dX4_degreeOf_64 : decode cX4_degreeOf 64 = .ok (.iload 4, 2) := by decide +kernel
theorem dX4_degreeOf_66 : decode cX4_degreeOf 66 = .ok (.aload_n 0, 1) := by decide +kernel
theorem dX4_degreeOf_67 : decode cX4_degreeOf 67 = .ok (.getfield 9, 3) := by decide +kernel
theorem dX4_degreeOf_70 : decode cX4_degreeOf 70 = .ok (.aload_n 1, 1) := by decide +kernel
theorem dX4_degreeOf_71 : decode cX4_degreeOf 71 = .ok (.iload 5, 2) := by decide +kernel
theorem dX4_degreeOf_73 : decode cX4_degreeOf 73 = .ok (.iaload, 1) := by decide +kernel
theorem dX4_degreeOf_74 : decode cX4_degreeOf 74 = .ok (.aload_n 2, 1) := by decide +kernel
theorem dX4_degreeOf_75 : decode cX4_degreeOf 75 = .ok (.iload 5, 2) := by decide +kernel
theorem dX4_degreeOf_77 : decode cX4_degreeOf 77 = .ok (.iaload, 1) := by decide +kernel
theorem dX4_degreeOf_78 : decode cX4_degreeOf 78 = .ok (.invokevirtual 42, 3) := by decide +kernel
theorem dX4_degreeOf_81 : decode cX4_degreeOf 81 = .ok (.invokevirtual 45, 3) := by decide +kernel
theorem dX4_degreeOf_84 : decode cX4_degreeOf 84 = .ok (.istore 4, 2) := by decide +kernel
theorem dX4_degreeOf_86 : decode cX4_degreeOf 86 = .ok (.aload_n 2, 1) := by decide +kernel
theorem dX4_degreeOf_87 : decode cX4_degreeOf 87 = .ok (.iload 5, 2) := by decide +kernel
theorem dX4_degreeOf_89 : decode cX4_degreeOf 89 = .ok (.aload_n 0, 1) := by decide +kernel
theorem dX4_degreeOf_90 : decode cX4_degreeOf 90 = .ok (.getfield 9, 3) := by decide +kernel
theorem dX4_degreeOf_93 : decode cX4_degreeOf 93 = .ok (.aload_n 2, 1) := by decide +kernel
theorem dX4_degreeOf_94 : decode cX4_degreeOf 94 = .ok (.iload 5, 2) := by decide +kernel
theorem dX4_degreeOf_96 : decode cX4_degreeOf 96 = .ok (.iaload, 1) := by decide +kernel
theorem dX4_degreeOf_97 : decode cX4_degreeOf 97 = .ok (.iload 5, 2) := by decide +kernel
theorem dX4_degreeOf_99 : decode cX4_degreeOf 99 = .ok (.invokevirtual 42, 3) := by decide +kernel
theorem dX4_degreeOf_102 : decode cX4_degreeOf 102 = .ok (.iastore, 1) := by decide +kernel
theorem dX4_degreeOf_103 : decode cX4_degreeOf 103 = .ok (.iinc 5 1, 3) := by decide +kernel
theorem dX4_degreeOf_106 : decode cX4_degreeOf 106 = .ok (.goto (-58), 3) := by decide +kernel
theorem dX4_degreeOf_109 : decode cX4_degreeOf 109 = .ok (.iload 4, 2) := by decide +kernel
theorem dX4_degreeOf_111 : decode cX4_degreeOf 111 = .ok (.ifCond .eq 5, 3) := by decide +kernel
theorem dX4_degreeOf_114 : decode cX4_degreeOf 114 = .ok (.iload_n 3, 1) := by decide +kernel
theorem dX4_degreeOf_115 : decode cX4_degreeOf 115 = .ok (.ireturn, 1) := by decide +kernel
theorem dX4_degreeOf_116 : decode cX4_degreeOf 116 = .ok (.iinc 3 (-1), 3) := by decide +kernel
theorem dX4_degreeOf_119 : decode cX4_degreeOf 119 = .ok (.goto (-81), 3) := by decide +kernel
theorem dX4_degreeOf_122 : decode cX4_degreeOf 122 = .ok (.aload_n 1, 1) := by decide +kernel
theorem dX4_degreeOf_123 : decode cX4_degreeOf 123 = .ok (.iconst 0, 1) := by decide +kernel
theorem dX4_degreeOf_124 : decode cX4_degreeOf 124 = .ok (.iaload, 1) := by decide +kernel
theorem dX4_degreeOf_125 : decode cX4_degreeOf 125 = .ok (.ifCond .eq 7, 3) := by decide +kernel
theorem dX4_degreeOf_128 : decode cX4_degreeOf 128 = .ok (.iconst 0, 1) := by decide +kernel
theorem dX4_degreeOf_129 : decode cX4_degreeOf 129 = .ok (.goto 4, 3) := by decide +kernel
theorem dX4_degreeOf_132 : decode cX4_degreeOf 132 = .ok (.iconst (-1), 1) := by decide +kernel
theorem dX4_degreeOf_133 : decode cX4_degreeOf 133 = .ok (.ireturn, 1) := by decide +kernel
theorem dX4_countOf_0 : decode cX4_countOf 0 = .ok (.iconst 0, 1) := by decide +kernel
theorem dX4_countOf_1 : decode cX4_countOf 1 = .ok (.istore_n 3, 1) := by decide +kernel
theorem dX4_countOf_2 : decode cX4_countOf 2 = .ok (.iconst 0, 1) := by decide +kernel
theorem dX4_countOf_3 : decode cX4_countOf 3 = .ok (.istore 4, 2) := by decide +kernel
theorem dX4_countOf_5 : decode cX4_countOf 5 = .ok (.iload 4, 2) := by decide +kernel
theorem dX4_countOf_7 : decode cX4_countOf 7 = .ok (.aload_n 0, 1) := by decide +kernel
theorem dX4_countOf_8 : decode cX4_countOf 8 = .ok (.getfield 9, 3) := by decide +kernel
theorem dX4_countOf_11 : decode cX4_countOf 11 = .ok (.getfield 28, 3) := by decide +kernel
theorem dX4_countOf_14 : decode cX4_countOf 14 = .ok (.if_icmp .ge 20, 3) := by decide +kernel
theorem dX4_countOf_17 : decode cX4_countOf 17 = .ok (.aload_n 1, 1) := by decide +kernel
theorem dX4_countOf_18 : decode cX4_countOf 18 = .ok (.iload 4, 2) := by decide +kernel
theorem dX4_countOf_20 : decode cX4_countOf 20 = .ok (.iaload, 1) := by decide +kernel
theorem dX4_countOf_21 : decode cX4_countOf 21 = .ok (.iload_n 2, 1) := by decide +kernel
theorem dX4_countOf_22 : decode cX4_countOf 22 = .ok (.if_icmp .ne 6, 3) := by decide +kernel
theorem dX4_countOf_25 : decode cX4_countOf 25 = .ok (.iinc 3 1, 3) := by decide +kernel
theorem dX4_countOf_28 : decode cX4_countOf 28 = .ok (.iinc 4 1, 3) := by decide +kernel
theorem dX4_countOf_31 : decode cX4_countOf 31 = .ok (.goto (-26), 3) := by decide +kernel
theorem dX4_countOf_34 : decode cX4_countOf 34 = .ok (.iload_n 3, 1) := by decide +kernel
theorem dX4_countOf_35 : decode cX4_countOf 35 = .ok (.ireturn, 1) := by decide +kernel
theorem dX4_imageOf_0 : decode cX4_imageOf 0 = .ok (.lconst 0, 1) := by decide +kernel
theorem dX4_imageOf_1 : decode cX4_imageOf 1 = .ok (.lstore_n 2, 1) := by decide +kernel
theorem dX4_imageOf_2 : decode cX4_imageOf 2 = .ok (.iconst 0, 1) := by decide +kernel
theorem dX4_imageOf_3 : decode cX4_imageOf 3 = .ok (.istore 4, 2) := by decide +kernel
theorem dX4_imageOf_5 : decode cX4_imageOf 5 = .ok (.iload 4, 2) := by decide +kernel
theorem dX4_imageOf_7 : decode cX4_imageOf 7 = .ok (.aload_n 0, 1) := by decide +kernel
theorem dX4_imageOf_8 : decode cX4_imageOf 8 = .ok (.getfield 9, 3) := by decide +kernel
theorem dX4_imageOf_11 : decode cX4_imageOf 11 = .ok (.getfield 28, 3) := by decide +kernel
theorem dX4_imageOf_14 : decode cX4_imageOf 14 = .ok (.if_icmp .ge 18, 3) := by decide +kernel
theorem dX4_imageOf_17 : decode cX4_imageOf 17 = .ok (.lload_n 2, 1) := by decide +kernel
theorem dX4_imageOf_18 : decode cX4_imageOf 18 = .ok (.lconst 1, 1) := by decide +kernel
theorem dX4_imageOf_19 : decode cX4_imageOf 19 = .ok (.aload_n 1, 1) := by decide +kernel
theorem dX4_imageOf_20 : decode cX4_imageOf 20 = .ok (.iload 4, 2) := by decide +kernel
theorem dX4_imageOf_22 : decode cX4_imageOf 22 = .ok (.iaload, 1) := by decide +kernel
theorem dX4_imageOf_23 : decode cX4_imageOf 23 = .ok (.lshl, 1) := by decide +kernel
theorem dX4_imageOf_24 : decode cX4_imageOf 24 = .ok (.lor, 1) := by decide +kernel
theorem dX4_imageOf_25 : decode cX4_imageOf 25 = .ok (.lstore_n 2, 1) := by decide +kernel
theorem dX4_imageOf_26 : decode cX4_imageOf 26 = .ok (.iinc 4 1, 3) := by decide +kernel
theorem dX4_imageOf_29 : decode cX4_imageOf 29 = .ok (.goto (-24), 3) := by decide +kernel
theorem dX4_imageOf_32 : decode cX4_imageOf 32 = .ok (.lload_n 2, 1) := by decide +kernel
theorem dX4_imageOf_33 : decode cX4_imageOf 33 = .ok (.invokestatic 51, 3) := by decide +kernel
theorem dX4_imageOf_36 : decode cX4_imageOf 36 = .ok (.ireturn, 1) := by decide +kernel
theorem dX4_isPermuting_0 : decode cX4_isPermuting 0 = .ok (.aload_n 0, 1) := by decide +kernel
theorem dX4_isPermuting_1 : decode cX4_isPermuting 1 = .ok (.aload_n 1, 1) := by decide +kernel
theorem dX4_isPermuting_2 : decode cX4_isPermuting 2 = .ok (.invokevirtual 57, 3) := by decide +kernel
theorem dX4_isPermuting_5 : decode cX4_isPermuting 5 = .ok (.aload_n 0, 1) := by decide +kernel
theorem dX4_isPermuting_6 : decode cX4_isPermuting 6 = .ok (.getfield 9, 3) := by decide +kernel
theorem dX4_isPermuting_9 : decode cX4_isPermuting 9 = .ok (.getfield 28, 3) := by decide +kernel
theorem dX4_isPermuting_12 : decode cX4_isPermuting 12 = .ok (.if_icmp .ne 7, 3) := by decide +kernel
theorem dX4_isPermuting_15 : decode cX4_isPermuting 15 = .ok (.iconst 1, 1) := by decide +kernel
theorem dX4_isPermuting_16 : decode cX4_isPermuting 16 = .ok (.goto 4, 3) := by decide +kernel
theorem dX4_isPermuting_19 : decode cX4_isPermuting 19 = .ok (.iconst 0, 1) := by decide +kernel
theorem dX4_isPermuting_20 : decode cX4_isPermuting 20 = .ok (.ireturn, 1) := by decide +kernel
theorem dX4_powersOf_0 : decode cX4_powersOf 0 = .ok (.aload_n 0, 1) := by decide +kernel
theorem dX4_powersOf_1 : decode cX4_powersOf 1 = .ok (.aload_n 1, 1) := by decide +kernel
theorem dX4_powersOf_2 : decode cX4_powersOf 2 = .ok (.iconst 0, 1) := by decide +kernel
theorem dX4_powersOf_3 : decode cX4_powersOf 3 = .ok (.invokevirtual 61, 3) := by decide +kernel
theorem dX4_powersOf_6 : decode cX4_powersOf 6 = .ok (.iconst 1, 1) := by decide +kernel
theorem dX4_powersOf_7 : decode cX4_powersOf 7 = .ok (.if_icmp .eq 5, 3) := by decide +kernel
theorem dX4_powersOf_10 : decode cX4_powersOf 10 = .ok (.iconst 0, 1) := by decide +kernel
theorem dX4_powersOf_11 : decode cX4_powersOf 11 = .ok (.ireturn, 1) := by decide +kernel
theorem dX4_powersOf_12 : decode cX4_powersOf 12 = .ok (.aload_n 0, 1) := by decide +kernel
theorem dX4_powersOf_13 : decode cX4_powersOf 13 = .ok (.getfield 22, 3) := by decide +kernel
theorem dX4_powersOf_16 : decode cX4_powersOf 16 = .ok (.astore_n 2, 1) := by decide +kernel
theorem dX4_powersOf_17 : decode cX4_powersOf 17 = .ok (.iconst 0, 1) := by decide +kernel
theorem dX4_powersOf_18 : decode cX4_powersOf 18 = .ok (.istore_n 3, 1) := by decide +kernel
theorem dX4_powersOf_19 : decode cX4_powersOf 19 = .ok (.iload_n 3, 1) := by decide +kernel
theorem dX4_powersOf_20 : decode cX4_powersOf 20 = .ok (.aload_n 0, 1) := by decide +kernel
theorem dX4_powersOf_21 : decode cX4_powersOf 21 = .ok (.getfield 9, 3) := by decide +kernel
theorem dX4_powersOf_24 : decode cX4_powersOf 24 = .ok (.getfield 28, 3) := by decide +kernel
theorem dX4_powersOf_27 : decode cX4_powersOf 27 = .ok (.if_icmp .ge 13, 3) := by decide +kernel
theorem dX4_powersOf_30 : decode cX4_powersOf 30 = .ok (.aload_n 2, 1) := by decide +kernel
theorem dX4_powersOf_31 : decode cX4_powersOf 31 = .ok (.iload_n 3, 1) := by decide +kernel
theorem dX4_powersOf_32 : decode cX4_powersOf 32 = .ok (.iconst 1, 1) := by decide +kernel
theorem dX4_powersOf_33 : decode cX4_powersOf 33 = .ok (.iastore, 1) := by decide +kernel
theorem dX4_powersOf_34 : decode cX4_powersOf 34 = .ok (.iinc 3 1, 3) := by decide +kernel
theorem dX4_powersOf_37 : decode cX4_powersOf 37 = .ok (.goto (-18), 3) := by decide +kernel
theorem dX4_powersOf_40 : decode cX4_powersOf 40 = .ok (.iconst 0, 1) := by decide +kernel
theorem dX4_powersOf_41 : decode cX4_powersOf 41 = .ok (.istore_n 3, 1) := by decide +kernel
theorem dX4_powersOf_42 : decode cX4_powersOf 42 = .ok (.iconst 1, 1) := by decide +kernel
theorem dX4_powersOf_43 : decode cX4_powersOf 43 = .ok (.istore 4, 2) := by decide +kernel
theorem dX4_powersOf_45 : decode cX4_powersOf 45 = .ok (.iload 4, 2) := by decide +kernel
theorem dX4_powersOf_47 : decode cX4_powersOf 47 = .ok (.aload_n 0, 1) := by decide +kernel
theorem dX4_powersOf_48 : decode cX4_powersOf 48 = .ok (.getfield 9, 3) := by decide +kernel
theorem dX4_powersOf_51 : decode cX4_powersOf 51 = .ok (.getfield 28, 3) := by decide +kernel
theorem dX4_powersOf_54 : decode cX4_powersOf 54 = .ok (.iconst 2, 1) := by decide +kernel
theorem dX4_powersOf_55 : decode cX4_powersOf 55 = .ok (.isub, 1) := by decide +kernel
theorem dX4_powersOf_56 : decode cX4_powersOf 56 = .ok (.if_icmp .gt 100, 3) := by decide +kernel
theorem dX4_powersOf_59 : decode cX4_powersOf 59 = .ok (.iconst 0, 1) := by decide +kernel
theorem dX4_powersOf_60 : decode cX4_powersOf 60 = .ok (.istore 5, 2) := by decide +kernel
theorem dX4_powersOf_62 : decode cX4_powersOf 62 = .ok (.iconst 0, 1) := by decide +kernel
theorem dX4_powersOf_63 : decode cX4_powersOf 63 = .ok (.istore 6, 2) := by decide +kernel
theorem dX4_powersOf_65 : decode cX4_powersOf 65 = .ok (.iload 6, 2) := by decide +kernel
theorem dX4_powersOf_67 : decode cX4_powersOf 67 = .ok (.aload_n 0, 1) := by decide +kernel
theorem dX4_powersOf_68 : decode cX4_powersOf 68 = .ok (.getfield 9, 3) := by decide +kernel
theorem dX4_powersOf_71 : decode cX4_powersOf 71 = .ok (.getfield 28, 3) := by decide +kernel
theorem dX4_powersOf_74 : decode cX4_powersOf 74 = .ok (.if_icmp .ge 43, 3) := by decide +kernel
theorem dX4_powersOf_77 : decode cX4_powersOf 77 = .ok (.aload_n 2, 1) := by decide +kernel
theorem dX4_powersOf_78 : decode cX4_powersOf 78 = .ok (.iload 6, 2) := by decide +kernel
theorem dX4_powersOf_80 : decode cX4_powersOf 80 = .ok (.aload_n 0, 1) := by decide +kernel
theorem dX4_powersOf_81 : decode cX4_powersOf 81 = .ok (.getfield 9, 3) := by decide +kernel
theorem dX4_powersOf_84 : decode cX4_powersOf 84 = .ok (.aload_n 2, 1) := by decide +kernel
theorem dX4_powersOf_85 : decode cX4_powersOf 85 = .ok (.iload 6, 2) := by decide +kernel
theorem dX4_powersOf_87 : decode cX4_powersOf 87 = .ok (.iaload, 1) := by decide +kernel
theorem dX4_powersOf_88 : decode cX4_powersOf 88 = .ok (.aload_n 1, 1) := by decide +kernel
theorem dX4_powersOf_89 : decode cX4_powersOf 89 = .ok (.iload 6, 2) := by decide +kernel
theorem dX4_powersOf_91 : decode cX4_powersOf 91 = .ok (.iaload, 1) := by decide +kernel
theorem dX4_powersOf_92 : decode cX4_powersOf 92 = .ok (.invokevirtual 42, 3) := by decide +kernel
theorem dX4_powersOf_95 : decode cX4_powersOf 95 = .ok (.iastore, 1) := by decide +kernel
theorem dX4_powersOf_96 : decode cX4_powersOf 96 = .ok (.aload_n 0, 1) := by decide +kernel
theorem dX4_powersOf_97 : decode cX4_powersOf 97 = .ok (.getfield 9, 3) := by decide +kernel
theorem dX4_powersOf_100 : decode cX4_powersOf 100 = .ok (.iload 5, 2) := by decide +kernel
theorem dX4_powersOf_102 : decode cX4_powersOf 102 = .ok (.aload_n 2, 1) := by decide +kernel
theorem dX4_powersOf_103 : decode cX4_powersOf 103 = .ok (.iload 6, 2) := by decide +kernel
theorem dX4_powersOf_105 : decode cX4_powersOf 105 = .ok (.iaload, 1) := by decide +kernel
theorem dX4_powersOf_106 : decode cX4_powersOf 106 = .ok (.invokevirtual 45, 3) := by decide +kernel
theorem dX4_powersOf_109 : decode cX4_powersOf 109 = .ok (.istore 5, 2) := by decide +kernel
theorem dX4_powersOf_111 : decode cX4_powersOf 111 = .ok (.iinc 6 1, 3) := by decide +kernel
theorem dX4_powersOf_114 : decode cX4_powersOf 114 = .ok (.goto (-49), 3) := by decide +kernel
theorem dX4_powersOf_117 : decode cX4_powersOf 117 = .ok (.iload_n 3, 1) := by decide +kernel
theorem dX4_powersOf_118 : decode cX4_powersOf 118 = .ok (.iconst 1, 1) := by decide +kernel
theorem dX4_powersOf_119 : decode cX4_powersOf 119 = .ok (.iadd, 1) := by decide +kernel
theorem dX4_powersOf_120 : decode cX4_powersOf 120 = .ok (.aload_n 0, 1) := by decide +kernel
theorem dX4_powersOf_121 : decode cX4_powersOf 121 = .ok (.getfield 9, 3) := by decide +kernel
theorem dX4_powersOf_124 : decode cX4_powersOf 124 = .ok (.getfield 65, 3) := by decide +kernel
theorem dX4_powersOf_127 : decode cX4_powersOf 127 = .ok (.if_icmp .ge 9, 3) := by decide +kernel
theorem dX4_powersOf_130 : decode cX4_powersOf 130 = .ok (.iload_n 3, 1) := by decide +kernel
theorem dX4_powersOf_131 : decode cX4_powersOf 131 = .ok (.iconst 1, 1) := by decide +kernel
theorem dX4_powersOf_132 : decode cX4_powersOf 132 = .ok (.iadd, 1) := by decide +kernel
theorem dX4_powersOf_133 : decode cX4_powersOf 133 = .ok (.goto 4, 3) := by decide +kernel
theorem dX4_powersOf_136 : decode cX4_powersOf 136 = .ok (.iconst 0, 1) := by decide +kernel
theorem dX4_powersOf_137 : decode cX4_powersOf 137 = .ok (.istore_n 3, 1) := by decide +kernel
theorem dX4_powersOf_138 : decode cX4_powersOf 138 = .ok (.iload 5, 2) := by decide +kernel
theorem dX4_powersOf_140 : decode cX4_powersOf 140 = .ok (.ifCond .eq 10, 3) := by decide +kernel
theorem dX4_powersOf_143 : decode cX4_powersOf 143 = .ok (.iload_n 3, 1) := by decide +kernel
theorem dX4_powersOf_144 : decode cX4_powersOf 144 = .ok (.ifCond .eq 6, 3) := by decide +kernel
theorem dX4_powersOf_147 : decode cX4_powersOf 147 = .ok (.iload 4, 2) := by decide +kernel
theorem dX4_powersOf_149 : decode cX4_powersOf 149 = .ok (.ireturn, 1) := by decide +kernel
theorem dX4_powersOf_150 : decode cX4_powersOf 150 = .ok (.iinc 4 1, 3) := by decide +kernel
theorem dX4_powersOf_153 : decode cX4_powersOf 153 = .ok (.goto (-108), 3) := by decide +kernel
theorem dX4_powersOf_156 : decode cX4_powersOf 156 = .ok (.iconst (-1), 1) := by decide +kernel
theorem dX4_powersOf_157 : decode cX4_powersOf 157 = .ok (.ireturn, 1) := by decide +kernel
theorem dX4_findCycles_0 : decode cX4_findCycles 0 = .ok (.iconst 0, 1) := by decide +kernel
theorem dX4_findCycles_1 : decode cX4_findCycles 1 = .ok (.istore_n 2, 1) := by decide +kernel
theorem dX4_findCycles_2 : decode cX4_findCycles 2 = .ok (.iload_n 2, 1) := by decide +kernel
theorem dX4_findCycles_3 : decode cX4_findCycles 3 = .ok (.bipush 64, 2) := by decide +kernel
theorem dX4_findCycles_5 : decode cX4_findCycles 5 = .ok (.if_icmp .gt 16, 3) := by decide +kernel
theorem dX4_findCycles_8 : decode cX4_findCycles 8 = .ok (.aload_n 0, 1) := by decide +kernel
theorem dX4_findCycles_9 : decode cX4_findCycles 9 = .ok (.getfield 15, 3) := by decide +kernel
theorem dX4_findCycles_12 : decode cX4_findCycles 12 = .ok (.iload_n 2, 1) := by decide +kernel
theorem dX4_findCycles_13 : decode cX4_findCycles 13 = .ok (.iconst 0, 1) := by decide +kernel
theorem dX4_findCycles_14 : decode cX4_findCycles 14 = .ok (.iastore, 1) := by decide +kernel
theorem dX4_findCycles_15 : decode cX4_findCycles 15 = .ok (.iinc 2 1, 3) := by decide +kernel
theorem dX4_findCycles_18 : decode cX4_findCycles 18 = .ok (.goto (-16), 3) := by decide +kernel
theorem dX4_findCycles_21 : decode cX4_findCycles 21 = .ok (.aload_n 0, 1) := by decide +kernel
theorem dX4_findCycles_22 : decode cX4_findCycles 22 = .ok (.iconst 0, 1) := by decide +kernel
theorem dX4_findCycles_23 : decode cX4_findCycles 23 = .ok (.putfield 68, 3) := by decide +kernel
theorem dX4_findCycles_26 : decode cX4_findCycles 26 = .ok (.lconst 0, 1) := by decide +kernel
theorem dX4_findCycles_27 : decode cX4_findCycles 27 = .ok (.lstore_n 2, 1) := by decide +kernel
theorem dX4_findCycles_28 : decode cX4_findCycles 28 = .ok (.iconst 0, 1) := by decide +kernel
theorem dX4_findCycles_29 : decode cX4_findCycles 29 = .ok (.istore 4, 2) := by decide +kernel
theorem dX4_findCycles_31 : decode cX4_findCycles 31 = .ok (.iload 4, 2) := by decide +kernel
theorem dX4_findCycles_33 : decode cX4_findCycles 33 = .ok (.aload_n 0, 1) := by decide +kernel
theorem dX4_findCycles_34 : decode cX4_findCycles 34 = .ok (.getfield 9, 3) := by decide +kernel
theorem dX4_findCycles_37 : decode cX4_findCycles 37 = .ok (.getfield 28, 3) := by decide +kernel
theorem dX4_findCycles_40 : decode cX4_findCycles 40 = .ok (.if_icmp .ge 84, 3) := by decide +kernel
theorem dX4_findCycles_43 : decode cX4_findCycles 43 = .ok (.iconst 0, 1) := by decide +kernel
theorem dX4_findCycles_44 : decode cX4_findCycles 44 = .ok (.istore 5, 2) := by decide +kernel
theorem dX4_findCycles_46 : decode cX4_findCycles 46 = .ok (.iload 4, 2) := by decide +kernel
theorem dX4_findCycles_48 : decode cX4_findCycles 48 = .ok (.istore 6, 2) := by decide +kernel
theorem dX4_findCycles_50 : decode cX4_findCycles 50 = .ok (.iload 5, 2) := by decide +kernel
theorem dX4_findCycles_52 : decode cX4_findCycles 52 = .ok (.aload_n 0, 1) := by decide +kernel
theorem dX4_findCycles_53 : decode cX4_findCycles 53 = .ok (.getfield 9, 3) := by decide +kernel
theorem dX4_findCycles_56 : decode cX4_findCycles 56 = .ok (.getfield 28, 3) := by decide +kernel
theorem dX4_findCycles_59 : decode cX4_findCycles 59 = .ok (.if_icmp .ge 33, 3) := by decide +kernel
theorem dX4_findCycles_62 : decode cX4_findCycles 62 = .ok (.lload_n 2, 1) := by decide +kernel
theorem dX4_findCycles_63 : decode cX4_findCycles 63 = .ok (.iload 6, 2) := by decide +kernel
theorem dX4_findCycles_65 : decode cX4_findCycles 65 = .ok (.lushr, 1) := by decide +kernel
theorem dX4_findCycles_66 : decode cX4_findCycles 66 = .ok (.lconst 1, 1) := by decide +kernel
theorem dX4_findCycles_67 : decode cX4_findCycles 67 = .ok (.land, 1) := by decide +kernel
theorem dX4_findCycles_68 : decode cX4_findCycles 68 = .ok (.lconst 0, 1) := by decide +kernel
theorem dX4_findCycles_69 : decode cX4_findCycles 69 = .ok (.lcmp, 1) := by decide +kernel
theorem dX4_findCycles_70 : decode cX4_findCycles 70 = .ok (.ifCond .ne 22, 3) := by decide +kernel
theorem dX4_findCycles_73 : decode cX4_findCycles 73 = .ok (.lload_n 2, 1) := by decide +kernel
theorem dX4_findCycles_74 : decode cX4_findCycles 74 = .ok (.lconst 1, 1) := by decide +kernel
theorem dX4_findCycles_75 : decode cX4_findCycles 75 = .ok (.iload 6, 2) := by decide +kernel
theorem dX4_findCycles_77 : decode cX4_findCycles 77 = .ok (.lshl, 1) := by decide +kernel
theorem dX4_findCycles_78 : decode cX4_findCycles 78 = .ok (.lor, 1) := by decide +kernel
theorem dX4_findCycles_79 : decode cX4_findCycles 79 = .ok (.lstore_n 2, 1) := by decide +kernel
theorem dX4_findCycles_80 : decode cX4_findCycles 80 = .ok (.aload_n 1, 1) := by decide +kernel
theorem dX4_findCycles_81 : decode cX4_findCycles 81 = .ok (.iload 6, 2) := by decide +kernel
theorem dX4_findCycles_83 : decode cX4_findCycles 83 = .ok (.iaload, 1) := by decide +kernel
theorem dX4_findCycles_84 : decode cX4_findCycles 84 = .ok (.istore 6, 2) := by decide +kernel
theorem dX4_findCycles_86 : decode cX4_findCycles 86 = .ok (.iinc 5 1, 3) := by decide +kernel
theorem dX4_findCycles_89 : decode cX4_findCycles 89 = .ok (.goto (-39), 3) := by decide +kernel
theorem dX4_findCycles_92 : decode cX4_findCycles 92 = .ok (.iload 5, 2) := by decide +kernel
theorem dX4_findCycles_94 : decode cX4_findCycles 94 = .ok (.ifCond .le 24, 3) := by decide +kernel
theorem dX4_findCycles_97 : decode cX4_findCycles 97 = .ok (.aload_n 0, 1) := by decide +kernel
theorem dX4_findCycles_98 : decode cX4_findCycles 98 = .ok (.getfield 15, 3) := by decide +kernel
theorem dX4_findCycles_101 : decode cX4_findCycles 101 = .ok (.iload 5, 2) := by decide +kernel
theorem dX4_findCycles_103 : decode cX4_findCycles 103 = .ok (.dup2, 1) := by decide +kernel
theorem dX4_findCycles_104 : decode cX4_findCycles 104 = .ok (.iaload, 1) := by decide +kernel
theorem dX4_findCycles_105 : decode cX4_findCycles 105 = .ok (.iconst 1, 1) := by decide +kernel
theorem dX4_findCycles_106 : decode cX4_findCycles 106 = .ok (.iadd, 1) := by decide +kernel
theorem dX4_findCycles_107 : decode cX4_findCycles 107 = .ok (.iastore, 1) := by decide +kernel
theorem dX4_findCycles_108 : decode cX4_findCycles 108 = .ok (.aload_n 0, 1) := by decide +kernel
theorem dX4_findCycles_109 : decode cX4_findCycles 109 = .ok (.dup, 1) := by decide +kernel
theorem dX4_findCycles_110 : decode cX4_findCycles 110 = .ok (.getfield 68, 3) := by decide +kernel
theorem dX4_findCycles_113 : decode cX4_findCycles 113 = .ok (.iconst 1, 1) := by decide +kernel
theorem dX4_findCycles_114 : decode cX4_findCycles 114 = .ok (.iadd, 1) := by decide +kernel
theorem dX4_findCycles_115 : decode cX4_findCycles 115 = .ok (.putfield 68, 3) := by decide +kernel
theorem dX4_findCycles_118 : decode cX4_findCycles 118 = .ok (.iinc 4 1, 3) := by decide +kernel
theorem dX4_findCycles_121 : decode cX4_findCycles 121 = .ok (.goto (-90), 3) := by decide +kernel
theorem dX4_findCycles_124 : decode cX4_findCycles 124 = .ok (.return_, 1) := by decide +kernel
theorem dX4_cycleMultiple_0 : decode cX4_cycleMultiple 0 = .ok (.iconst 1, 1) := by decide +kernel
theorem dX4_cycleMultiple_1 : decode cX4_cycleMultiple 1 = .ok (.istore_n 1, 1) := by decide +kernel
theorem dX4_cycleMultiple_2 : decode cX4_cycleMultiple 2 = .ok (.iconst 2, 1) := by decide +kernel
theorem dX4_cycleMultiple_3 : decode cX4_cycleMultiple 3 = .ok (.istore_n 2, 1) := by decide +kernel
theorem dX4_cycleMultiple_4 : decode cX4_cycleMultiple 4 = .ok (.iload_n 2, 1) := by decide +kernel
theorem dX4_cycleMultiple_5 : decode cX4_cycleMultiple 5 = .ok (.bipush 64, 2) := by decide +kernel
theorem dX4_cycleMultiple_7 : decode cX4_cycleMultiple 7 = .ok (.if_icmp .gt 38, 3) := by decide +kernel
theorem dX4_cycleMultiple_10 : decode cX4_cycleMultiple 10 = .ok (.aload_n 0, 1) := by decide +kernel
theorem dX4_cycleMultiple_11 : decode cX4_cycleMultiple 11 = .ok (.getfield 15, 3) := by decide +kernel
theorem dX4_cycleMultiple_14 : decode cX4_cycleMultiple 14 = .ok (.iload_n 2, 1) := by decide +kernel
theorem dX4_cycleMultiple_15 : decode cX4_cycleMultiple 15 = .ok (.iaload, 1) := by decide +kernel
theorem dX4_cycleMultiple_16 : decode cX4_cycleMultiple 16 = .ok (.ifCond .le 11, 3) := by decide +kernel
theorem dX4_cycleMultiple_19 : decode cX4_cycleMultiple 19 = .ok (.iload_n 1, 1) := by decide +kernel
theorem dX4_cycleMultiple_20 : decode cX4_cycleMultiple 20 = .ok (.iload_n 2, 1) := by decide +kernel
theorem dX4_cycleMultiple_21 : decode cX4_cycleMultiple 21 = .ok (.invokestatic 71, 3) := by decide +kernel
theorem dX4_cycleMultiple_24 : decode cX4_cycleMultiple 24 = .ok (.goto 4, 3) := by decide +kernel
theorem dX4_cycleMultiple_27 : decode cX4_cycleMultiple 27 = .ok (.iconst 0, 1) := by decide +kernel
theorem dX4_cycleMultiple_28 : decode cX4_cycleMultiple 28 = .ok (.istore_n 3, 1) := by decide +kernel
theorem dX4_cycleMultiple_29 : decode cX4_cycleMultiple 29 = .ok (.iload_n 3, 1) := by decide +kernel
theorem dX4_cycleMultiple_30 : decode cX4_cycleMultiple 30 = .ok (.ifCond .le 9, 3) := by decide +kernel
theorem dX4_cycleMultiple_33 : decode cX4_cycleMultiple 33 = .ok (.iload_n 1, 1) := by decide +kernel
theorem dX4_cycleMultiple_34 : decode cX4_cycleMultiple 34 = .ok (.iload_n 3, 1) := by decide +kernel
theorem dX4_cycleMultiple_35 : decode cX4_cycleMultiple 35 = .ok (.idiv, 1) := by decide +kernel
theorem dX4_cycleMultiple_36 : decode cX4_cycleMultiple 36 = .ok (.iload_n 2, 1) := by decide +kernel
theorem dX4_cycleMultiple_37 : decode cX4_cycleMultiple 37 = .ok (.imul, 1) := by decide +kernel
theorem dX4_cycleMultiple_38 : decode cX4_cycleMultiple 38 = .ok (.istore_n 1, 1) := by decide +kernel
theorem dX4_cycleMultiple_39 : decode cX4_cycleMultiple 39 = .ok (.iinc 2 1, 3) := by decide +kernel
theorem dX4_cycleMultiple_42 : decode cX4_cycleMultiple 42 = .ok (.goto (-38), 3) := by decide +kernel
theorem dX4_cycleMultiple_45 : decode cX4_cycleMultiple 45 = .ok (.iload_n 1, 1) := by decide +kernel
theorem dX4_cycleMultiple_46 : decode cX4_cycleMultiple 46 = .ok (.ireturn, 1) := by decide +kernel
theorem dX4_commonDivisor_0 : decode cX4_commonDivisor 0 = .ok (.iload_n 1, 1) := by decide +kernel
theorem dX4_commonDivisor_1 : decode cX4_commonDivisor 1 = .ok (.istore_n 2, 1) := by decide +kernel
theorem dX4_commonDivisor_2 : decode cX4_commonDivisor 2 = .ok (.iload_n 2, 1) := by decide +kernel
theorem dX4_commonDivisor_3 : decode cX4_commonDivisor 3 = .ok (.iconst 1, 1) := by decide +kernel
theorem dX4_commonDivisor_4 : decode cX4_commonDivisor 4 = .ok (.if_icmp .le 23, 3) := by decide +kernel
theorem dX4_commonDivisor_7 : decode cX4_commonDivisor 7 = .ok (.iload_n 1, 1) := by decide +kernel
theorem dX4_commonDivisor_8 : decode cX4_commonDivisor 8 = .ok (.iload_n 2, 1) := by decide +kernel
theorem dX4_commonDivisor_9 : decode cX4_commonDivisor 9 = .ok (.irem, 1) := by decide +kernel
theorem dX4_commonDivisor_10 : decode cX4_commonDivisor 10 = .ok (.ifCond .ne 11, 3) := by decide +kernel
theorem dX4_commonDivisor_13 : decode cX4_commonDivisor 13 = .ok (.iload_n 0, 1) := by decide +kernel
theorem dX4_commonDivisor_14 : decode cX4_commonDivisor 14 = .ok (.iload_n 2, 1) := by decide +kernel
theorem dX4_commonDivisor_15 : decode cX4_commonDivisor 15 = .ok (.irem, 1) := by decide +kernel
theorem dX4_commonDivisor_16 : decode cX4_commonDivisor 16 = .ok (.ifCond .ne 5, 3) := by decide +kernel
theorem dX4_commonDivisor_19 : decode cX4_commonDivisor 19 = .ok (.iload_n 2, 1) := by decide +kernel
theorem dX4_commonDivisor_20 : decode cX4_commonDivisor 20 = .ok (.ireturn, 1) := by decide +kernel
theorem dX4_commonDivisor_21 : decode cX4_commonDivisor 21 = .ok (.iinc 2 (-1), 3) := by decide +kernel
theorem dX4_commonDivisor_24 : decode cX4_commonDivisor 24 = .ok (.goto (-22), 3) := by decide +kernel
theorem dX4_commonDivisor_27 : decode cX4_commonDivisor 27 = .ok (.iconst 1, 1) := by decide +kernel
theorem dX4_commonDivisor_28 : decode cX4_commonDivisor 28 = .ok (.ireturn, 1) := by decide +kernel
theorem dX4_reachFrom_0 : decode cX4_reachFrom 0 = .ok (.lconst 1, 1) := by decide +kernel
theorem dX4_reachFrom_1 : decode cX4_reachFrom 1 = .ok (.iload_n 1, 1) := by decide +kernel
theorem dX4_reachFrom_2 : decode cX4_reachFrom 2 = .ok (.lshl, 1) := by decide +kernel
theorem dX4_reachFrom_3 : decode cX4_reachFrom 3 = .ok (.lstore_n 3, 1) := by decide +kernel
theorem dX4_reachFrom_4 : decode cX4_reachFrom 4 = .ok (.iconst 0, 1) := by decide +kernel
theorem dX4_reachFrom_5 : decode cX4_reachFrom 5 = .ok (.istore 5, 2) := by decide +kernel
theorem dX4_reachFrom_7 : decode cX4_reachFrom 7 = .ok (.iload 5, 2) := by decide +kernel
theorem dX4_reachFrom_9 : decode cX4_reachFrom 9 = .ok (.aload_n 0, 1) := by decide +kernel
theorem dX4_reachFrom_10 : decode cX4_reachFrom 10 = .ok (.getfield 9, 3) := by decide +kernel
theorem dX4_reachFrom_13 : decode cX4_reachFrom 13 = .ok (.getfield 28, 3) := by decide +kernel
theorem dX4_reachFrom_16 : decode cX4_reachFrom 16 = .ok (.if_icmp .ge 68, 3) := by decide +kernel
theorem dX4_reachFrom_19 : decode cX4_reachFrom 19 = .ok (.lload_n 3, 1) := by decide +kernel
theorem dX4_reachFrom_20 : decode cX4_reachFrom 20 = .ok (.lstore 6, 2) := by decide +kernel
theorem dX4_reachFrom_22 : decode cX4_reachFrom 22 = .ok (.iconst 0, 1) := by decide +kernel
theorem dX4_reachFrom_23 : decode cX4_reachFrom 23 = .ok (.istore 8, 2) := by decide +kernel
theorem dX4_reachFrom_25 : decode cX4_reachFrom 25 = .ok (.iload 8, 2) := by decide +kernel
theorem dX4_reachFrom_27 : decode cX4_reachFrom 27 = .ok (.aload_n 2, 1) := by decide +kernel
theorem dX4_reachFrom_28 : decode cX4_reachFrom 28 = .ok (.getfield 74, 3) := by decide +kernel
theorem dX4_reachFrom_31 : decode cX4_reachFrom 31 = .ok (.if_icmp .ge 38, 3) := by decide +kernel
theorem dX4_reachFrom_34 : decode cX4_reachFrom 34 = .ok (.aload_n 0, 1) := by decide +kernel
theorem dX4_reachFrom_35 : decode cX4_reachFrom 35 = .ok (.aload_n 2, 1) := by decide +kernel
theorem dX4_reachFrom_36 : decode cX4_reachFrom 36 = .ok (.getfield 79, 3) := by decide +kernel
theorem dX4_reachFrom_39 : decode cX4_reachFrom 39 = .ok (.iload 8, 2) := by decide +kernel
theorem dX4_reachFrom_41 : decode cX4_reachFrom 41 = .ok (.aaload, 1) := by decide +kernel
theorem dX4_reachFrom_42 : decode cX4_reachFrom 42 = .ok (.invokevirtual 83, 3) := by decide +kernel
theorem dX4_reachFrom_45 : decode cX4_reachFrom 45 = .ok (.ifCond .eq 18, 3) := by decide +kernel
theorem dX4_reachFrom_48 : decode cX4_reachFrom 48 = .ok (.lload_n 3, 1) := by decide +kernel
theorem dX4_reachFrom_49 : decode cX4_reachFrom 49 = .ok (.aload_n 0, 1) := by decide +kernel
theorem dX4_reachFrom_50 : decode cX4_reachFrom 50 = .ok (.aload_n 2, 1) := by decide +kernel
theorem dX4_reachFrom_51 : decode cX4_reachFrom 51 = .ok (.getfield 79, 3) := by decide +kernel
theorem dX4_reachFrom_54 : decode cX4_reachFrom 54 = .ok (.iload 8, 2) := by decide +kernel
theorem dX4_reachFrom_56 : decode cX4_reachFrom 56 = .ok (.aaload, 1) := by decide +kernel
theorem dX4_reachFrom_57 : decode cX4_reachFrom 57 = .ok (.lload_n 3, 1) := by decide +kernel
theorem dX4_reachFrom_58 : decode cX4_reachFrom 58 = .ok (.invokevirtual 87, 3) := by decide +kernel
theorem dX4_reachFrom_61 : decode cX4_reachFrom 61 = .ok (.lor, 1) := by decide +kernel
theorem dX4_reachFrom_62 : decode cX4_reachFrom 62 = .ok (.lstore_n 3, 1) := by decide +kernel
theorem dX4_reachFrom_63 : decode cX4_reachFrom 63 = .ok (.iinc 8 1, 3) := by decide +kernel
theorem dX4_reachFrom_66 : decode cX4_reachFrom 66 = .ok (.goto (-41), 3) := by decide +kernel
theorem dX4_reachFrom_69 : decode cX4_reachFrom 69 = .ok (.lload_n 3, 1) := by decide +kernel
theorem dX4_reachFrom_70 : decode cX4_reachFrom 70 = .ok (.lload 6, 2) := by decide +kernel
theorem dX4_reachFrom_72 : decode cX4_reachFrom 72 = .ok (.lcmp, 1) := by decide +kernel
theorem dX4_reachFrom_73 : decode cX4_reachFrom 73 = .ok (.ifCond .ne 5, 3) := by decide +kernel
theorem dX4_reachFrom_76 : decode cX4_reachFrom 76 = .ok (.lload_n 3, 1) := by decide +kernel
theorem dX4_reachFrom_77 : decode cX4_reachFrom 77 = .ok (.lreturn, 1) := by decide +kernel
theorem dX4_reachFrom_78 : decode cX4_reachFrom 78 = .ok (.iinc 5 1, 3) := by decide +kernel
theorem dX4_reachFrom_81 : decode cX4_reachFrom 81 = .ok (.goto (-74), 3) := by decide +kernel
theorem dX4_reachFrom_84 : decode cX4_reachFrom 84 = .ok (.lload_n 3, 1) := by decide +kernel
theorem dX4_reachFrom_85 : decode cX4_reachFrom 85 = .ok (.lreturn, 1) := by decide +kernel
theorem dX4_imageOfSet_0 : decode cX4_imageOfSet 0 = .ok (.lconst 0, 1) := by decide +kernel
theorem dX4_imageOfSet_1 : decode cX4_imageOfSet 1 = .ok (.lstore 4, 2) := by decide +kernel
theorem dX4_imageOfSet_3 : decode cX4_imageOfSet 3 = .ok (.iconst 0, 1) := by decide +kernel
theorem dX4_imageOfSet_4 : decode cX4_imageOfSet 4 = .ok (.istore 6, 2) := by decide +kernel
theorem dX4_imageOfSet_6 : decode cX4_imageOfSet 6 = .ok (.iload 6, 2) := by decide +kernel
theorem dX4_imageOfSet_8 : decode cX4_imageOfSet 8 = .ok (.aload_n 0, 1) := by decide +kernel
theorem dX4_imageOfSet_9 : decode cX4_imageOfSet 9 = .ok (.getfield 9, 3) := by decide +kernel
theorem dX4_imageOfSet_12 : decode cX4_imageOfSet 12 = .ok (.getfield 28, 3) := by decide +kernel
theorem dX4_imageOfSet_15 : decode cX4_imageOfSet 15 = .ok (.if_icmp .ge 31, 3) := by decide +kernel
theorem dX4_imageOfSet_18 : decode cX4_imageOfSet 18 = .ok (.lload_n 2, 1) := by decide +kernel
theorem dX4_imageOfSet_19 : decode cX4_imageOfSet 19 = .ok (.iload 6, 2) := by decide +kernel
theorem dX4_imageOfSet_21 : decode cX4_imageOfSet 21 = .ok (.lushr, 1) := by decide +kernel
theorem dX4_imageOfSet_22 : decode cX4_imageOfSet 22 = .ok (.lconst 1, 1) := by decide +kernel
theorem dX4_imageOfSet_23 : decode cX4_imageOfSet 23 = .ok (.land, 1) := by decide +kernel
theorem dX4_imageOfSet_24 : decode cX4_imageOfSet 24 = .ok (.lconst 1, 1) := by decide +kernel
theorem dX4_imageOfSet_25 : decode cX4_imageOfSet 25 = .ok (.lcmp, 1) := by decide +kernel
theorem dX4_imageOfSet_26 : decode cX4_imageOfSet 26 = .ok (.ifCond .ne 14, 3) := by decide +kernel
theorem dX4_imageOfSet_29 : decode cX4_imageOfSet 29 = .ok (.lload 4, 2) := by decide +kernel
theorem dX4_imageOfSet_31 : decode cX4_imageOfSet 31 = .ok (.lconst 1, 1) := by decide +kernel
theorem dX4_imageOfSet_32 : decode cX4_imageOfSet 32 = .ok (.aload_n 1, 1) := by decide +kernel
theorem dX4_imageOfSet_33 : decode cX4_imageOfSet 33 = .ok (.iload 6, 2) := by decide +kernel
theorem dX4_imageOfSet_35 : decode cX4_imageOfSet 35 = .ok (.iaload, 1) := by decide +kernel
theorem dX4_imageOfSet_36 : decode cX4_imageOfSet 36 = .ok (.lshl, 1) := by decide +kernel
theorem dX4_imageOfSet_37 : decode cX4_imageOfSet 37 = .ok (.lor, 1) := by decide +kernel
theorem dX4_imageOfSet_38 : decode cX4_imageOfSet 38 = .ok (.lstore 4, 2) := by decide +kernel
theorem dX4_imageOfSet_40 : decode cX4_imageOfSet 40 = .ok (.iinc 6 1, 3) := by decide +kernel
theorem dX4_imageOfSet_43 : decode cX4_imageOfSet 43 = .ok (.goto (-37), 3) := by decide +kernel
theorem dX4_imageOfSet_46 : decode cX4_imageOfSet 46 = .ok (.lload 4, 2) := by decide +kernel
theorem dX4_imageOfSet_48 : decode cX4_imageOfSet 48 = .ok (.lreturn, 1) := by decide +kernel
theorem dX4_spreadOf_0 : decode cX4_spreadOf 0 = .ok (.iconst 0, 1) := by decide +kernel
theorem dX4_spreadOf_1 : decode cX4_spreadOf 1 = .ok (.istore_n 2, 1) := by decide +kernel
theorem dX4_spreadOf_2 : decode cX4_spreadOf 2 = .ok (.iconst 1, 1) := by decide +kernel
theorem dX4_spreadOf_3 : decode cX4_spreadOf 3 = .ok (.istore_n 3, 1) := by decide +kernel
theorem dX4_spreadOf_4 : decode cX4_spreadOf 4 = .ok (.iload_n 3, 1) := by decide +kernel
theorem dX4_spreadOf_5 : decode cX4_spreadOf 5 = .ok (.aload_n 0, 1) := by decide +kernel
theorem dX4_spreadOf_6 : decode cX4_spreadOf 6 = .ok (.getfield 9, 3) := by decide +kernel
theorem dX4_spreadOf_9 : decode cX4_spreadOf 9 = .ok (.getfield 28, 3) := by decide +kernel
theorem dX4_spreadOf_12 : decode cX4_spreadOf 12 = .ok (.if_icmp .ge 107, 3) := by decide +kernel
theorem dX4_spreadOf_15 : decode cX4_spreadOf 15 = .ok (.iconst 0, 1) := by decide +kernel
theorem dX4_spreadOf_16 : decode cX4_spreadOf 16 = .ok (.istore 4, 2) := by decide +kernel
theorem dX4_spreadOf_18 : decode cX4_spreadOf 18 = .ok (.iload 4, 2) := by decide +kernel
theorem dX4_spreadOf_20 : decode cX4_spreadOf 20 = .ok (.aload_n 0, 1) := by decide +kernel
theorem dX4_spreadOf_21 : decode cX4_spreadOf 21 = .ok (.getfield 9, 3) := by decide +kernel
theorem dX4_spreadOf_24 : decode cX4_spreadOf 24 = .ok (.getfield 28, 3) := by decide +kernel
theorem dX4_spreadOf_27 : decode cX4_spreadOf 27 = .ok (.if_icmp .ge 17, 3) := by decide +kernel
theorem dX4_spreadOf_30 : decode cX4_spreadOf 30 = .ok (.aload_n 0, 1) := by decide +kernel
theorem dX4_spreadOf_31 : decode cX4_spreadOf 31 = .ok (.getfield 19, 3) := by decide +kernel
theorem dX4_spreadOf_34 : decode cX4_spreadOf 34 = .ok (.iload 4, 2) := by decide +kernel
theorem dX4_spreadOf_36 : decode cX4_spreadOf 36 = .ok (.iconst 0, 1) := by decide +kernel
theorem dX4_spreadOf_37 : decode cX4_spreadOf 37 = .ok (.iastore, 1) := by decide +kernel
theorem dX4_spreadOf_38 : decode cX4_spreadOf 38 = .ok (.iinc 4 1, 3) := by decide +kernel
theorem dX4_spreadOf_41 : decode cX4_spreadOf 41 = .ok (.goto (-23), 3) := by decide +kernel
theorem dX4_spreadOf_44 : decode cX4_spreadOf 44 = .ok (.iconst 0, 1) := by decide +kernel
theorem dX4_spreadOf_45 : decode cX4_spreadOf 45 = .ok (.istore 4, 2) := by decide +kernel
theorem dX4_spreadOf_47 : decode cX4_spreadOf 47 = .ok (.iload 4, 2) := by decide +kernel
theorem dX4_spreadOf_49 : decode cX4_spreadOf 49 = .ok (.aload_n 0, 1) := by decide +kernel
theorem dX4_spreadOf_50 : decode cX4_spreadOf 50 = .ok (.getfield 9, 3) := by decide +kernel
theorem dX4_spreadOf_53 : decode cX4_spreadOf 53 = .ok (.getfield 28, 3) := by decide +kernel
theorem dX4_spreadOf_56 : decode cX4_spreadOf 56 = .ok (.if_icmp .ge 57, 3) := by decide +kernel
theorem dX4_spreadOf_59 : decode cX4_spreadOf 59 = .ok (.aload_n 0, 1) := by decide +kernel
theorem dX4_spreadOf_60 : decode cX4_spreadOf 60 = .ok (.getfield 9, 3) := by decide +kernel
theorem dX4_spreadOf_63 : decode cX4_spreadOf 63 = .ok (.aload_n 1, 1) := by decide +kernel
theorem dX4_spreadOf_64 : decode cX4_spreadOf 64 = .ok (.aload_n 0, 1) := by decide +kernel
theorem dX4_spreadOf_65 : decode cX4_spreadOf 65 = .ok (.getfield 9, 3) := by decide +kernel
theorem dX4_spreadOf_68 : decode cX4_spreadOf 68 = .ok (.iload 4, 2) := by decide +kernel
theorem dX4_spreadOf_70 : decode cX4_spreadOf 70 = .ok (.iload_n 3, 1) := by decide +kernel
theorem dX4_spreadOf_71 : decode cX4_spreadOf 71 = .ok (.invokevirtual 45, 3) := by decide +kernel
theorem dX4_spreadOf_74 : decode cX4_spreadOf 74 = .ok (.iaload, 1) := by decide +kernel
theorem dX4_spreadOf_75 : decode cX4_spreadOf 75 = .ok (.aload_n 1, 1) := by decide +kernel
theorem dX4_spreadOf_76 : decode cX4_spreadOf 76 = .ok (.iload 4, 2) := by decide +kernel
theorem dX4_spreadOf_78 : decode cX4_spreadOf 78 = .ok (.iaload, 1) := by decide +kernel
theorem dX4_spreadOf_79 : decode cX4_spreadOf 79 = .ok (.invokevirtual 91, 3) := by decide +kernel
theorem dX4_spreadOf_82 : decode cX4_spreadOf 82 = .ok (.istore 5, 2) := by decide +kernel
theorem dX4_spreadOf_84 : decode cX4_spreadOf 84 = .ok (.aload_n 0, 1) := by decide +kernel
theorem dX4_spreadOf_85 : decode cX4_spreadOf 85 = .ok (.getfield 19, 3) := by decide +kernel
theorem dX4_spreadOf_88 : decode cX4_spreadOf 88 = .ok (.iload 5, 2) := by decide +kernel
theorem dX4_spreadOf_90 : decode cX4_spreadOf 90 = .ok (.dup2, 1) := by decide +kernel
theorem dX4_spreadOf_91 : decode cX4_spreadOf 91 = .ok (.iaload, 1) := by decide +kernel
theorem dX4_spreadOf_92 : decode cX4_spreadOf 92 = .ok (.iconst 1, 1) := by decide +kernel
theorem dX4_spreadOf_93 : decode cX4_spreadOf 93 = .ok (.iadd, 1) := by decide +kernel
theorem dX4_spreadOf_94 : decode cX4_spreadOf 94 = .ok (.iastore, 1) := by decide +kernel
theorem dX4_spreadOf_95 : decode cX4_spreadOf 95 = .ok (.iload_n 2, 1) := by decide +kernel
theorem dX4_spreadOf_96 : decode cX4_spreadOf 96 = .ok (.aload_n 0, 1) := by decide +kernel
theorem dX4_spreadOf_97 : decode cX4_spreadOf 97 = .ok (.getfield 19, 3) := by decide +kernel
theorem dX4_spreadOf_100 : decode cX4_spreadOf 100 = .ok (.iload 5, 2) := by decide +kernel
theorem dX4_spreadOf_102 : decode cX4_spreadOf 102 = .ok (.iaload, 1) := by decide +kernel
theorem dX4_spreadOf_103 : decode cX4_spreadOf 103 = .ok (.invokestatic 94, 3) := by decide +kernel
theorem dX4_spreadOf_106 : decode cX4_spreadOf 106 = .ok (.istore_n 2, 1) := by decide +kernel
theorem dX4_spreadOf_107 : decode cX4_spreadOf 107 = .ok (.iinc 4 1, 3) := by decide +kernel
theorem dX4_spreadOf_110 : decode cX4_spreadOf 110 = .ok (.goto (-63), 3) := by decide +kernel
theorem dX4_spreadOf_113 : decode cX4_spreadOf 113 = .ok (.iinc 3 1, 3) := by decide +kernel
theorem dX4_spreadOf_116 : decode cX4_spreadOf 116 = .ok (.goto (-112), 3) := by decide +kernel
theorem dX4_spreadOf_119 : decode cX4_spreadOf 119 = .ok (.iload_n 2, 1) := by decide +kernel
theorem dX4_spreadOf_120 : decode cX4_spreadOf 120 = .ok (.ireturn, 1) := by decide +kernel
theorem dX4_permutingMonomials_0 : decode cX4_permutingMonomials 0 = .ok (.aload_n 0, 1) := by decide +kernel
theorem dX4_permutingMonomials_1 : decode cX4_permutingMonomials 1 = .ok (.getfield 22, 3) := by decide +kernel
theorem dX4_permutingMonomials_4 : decode cX4_permutingMonomials 4 = .ok (.astore_n 1, 1) := by decide +kernel
theorem dX4_permutingMonomials_5 : decode cX4_permutingMonomials 5 = .ok (.iconst 0, 1) := by decide +kernel
theorem dX4_permutingMonomials_6 : decode cX4_permutingMonomials 6 = .ok (.istore_n 2, 1) := by decide +kernel
theorem dX4_permutingMonomials_7 : decode cX4_permutingMonomials 7 = .ok (.iload_n 2, 1) := by decide +kernel
theorem dX4_permutingMonomials_8 : decode cX4_permutingMonomials 8 = .ok (.aload_n 0, 1) := by decide +kernel
theorem dX4_permutingMonomials_9 : decode cX4_permutingMonomials 9 = .ok (.getfield 9, 3) := by decide +kernel
theorem dX4_permutingMonomials_12 : decode cX4_permutingMonomials 12 = .ok (.getfield 28, 3) := by decide +kernel
theorem dX4_permutingMonomials_15 : decode cX4_permutingMonomials 15 = .ok (.if_icmp .ge 13, 3) := by decide +kernel
theorem dX4_permutingMonomials_18 : decode cX4_permutingMonomials 18 = .ok (.aload_n 1, 1) := by decide +kernel
theorem dX4_permutingMonomials_19 : decode cX4_permutingMonomials 19 = .ok (.iload_n 2, 1) := by decide +kernel
theorem dX4_permutingMonomials_20 : decode cX4_permutingMonomials 20 = .ok (.iconst 1, 1) := by decide +kernel
theorem dX4_permutingMonomials_21 : decode cX4_permutingMonomials 21 = .ok (.iastore, 1) := by decide +kernel
theorem dX4_permutingMonomials_22 : decode cX4_permutingMonomials 22 = .ok (.iinc 2 1, 3) := by decide +kernel
theorem dX4_permutingMonomials_25 : decode cX4_permutingMonomials 25 = .ok (.goto (-18), 3) := by decide +kernel
theorem dX4_permutingMonomials_28 : decode cX4_permutingMonomials 28 = .ok (.lconst 0, 1) := by decide +kernel
theorem dX4_permutingMonomials_29 : decode cX4_permutingMonomials 29 = .ok (.lstore_n 2, 1) := by decide +kernel
theorem dX4_permutingMonomials_30 : decode cX4_permutingMonomials 30 = .ok (.iconst 1, 1) := by decide +kernel
theorem dX4_permutingMonomials_31 : decode cX4_permutingMonomials 31 = .ok (.istore 4, 2) := by decide +kernel
theorem dX4_permutingMonomials_33 : decode cX4_permutingMonomials 33 = .ok (.iload 4, 2) := by decide +kernel
theorem dX4_permutingMonomials_35 : decode cX4_permutingMonomials 35 = .ok (.aload_n 0, 1) := by decide +kernel
theorem dX4_permutingMonomials_36 : decode cX4_permutingMonomials 36 = .ok (.getfield 9, 3) := by decide +kernel
theorem dX4_permutingMonomials_39 : decode cX4_permutingMonomials 39 = .ok (.getfield 28, 3) := by decide +kernel
theorem dX4_permutingMonomials_42 : decode cX4_permutingMonomials 42 = .ok (.if_icmp .ge 62, 3) := by decide +kernel
theorem dX4_permutingMonomials_45 : decode cX4_permutingMonomials 45 = .ok (.iconst 0, 1) := by decide +kernel
theorem dX4_permutingMonomials_46 : decode cX4_permutingMonomials 46 = .ok (.istore 5, 2) := by decide +kernel
theorem dX4_permutingMonomials_48 : decode cX4_permutingMonomials 48 = .ok (.iload 5, 2) := by decide +kernel
theorem dX4_permutingMonomials_50 : decode cX4_permutingMonomials 50 = .ok (.aload_n 0, 1) := by decide +kernel
theorem dX4_permutingMonomials_51 : decode cX4_permutingMonomials 51 = .ok (.getfield 9, 3) := by decide +kernel
theorem dX4_permutingMonomials_54 : decode cX4_permutingMonomials 54 = .ok (.getfield 28, 3) := by decide +kernel
theorem dX4_permutingMonomials_57 : decode cX4_permutingMonomials 57 = .ok (.if_icmp .ge 26, 3) := by decide +kernel
theorem dX4_permutingMonomials_60 : decode cX4_permutingMonomials 60 = .ok (.aload_n 1, 1) := by decide +kernel
theorem dX4_permutingMonomials_61 : decode cX4_permutingMonomials 61 = .ok (.iload 5, 2) := by decide +kernel
theorem dX4_permutingMonomials_63 : decode cX4_permutingMonomials 63 = .ok (.aload_n 0, 1) := by decide +kernel
theorem dX4_permutingMonomials_64 : decode cX4_permutingMonomials 64 = .ok (.getfield 9, 3) := by decide +kernel
theorem dX4_permutingMonomials_67 : decode cX4_permutingMonomials 67 = .ok (.aload_n 1, 1) := by decide +kernel
theorem dX4_permutingMonomials_68 : decode cX4_permutingMonomials 68 = .ok (.iload 5, 2) := by decide +kernel
theorem dX4_permutingMonomials_70 : decode cX4_permutingMonomials 70 = .ok (.iaload, 1) := by decide +kernel
theorem dX4_permutingMonomials_71 : decode cX4_permutingMonomials 71 = .ok (.iload 5, 2) := by decide +kernel
theorem dX4_permutingMonomials_73 : decode cX4_permutingMonomials 73 = .ok (.invokevirtual 42, 3) := by decide +kernel
theorem dX4_permutingMonomials_76 : decode cX4_permutingMonomials 76 = .ok (.iastore, 1) := by decide +kernel
theorem dX4_permutingMonomials_77 : decode cX4_permutingMonomials 77 = .ok (.iinc 5 1, 3) := by decide +kernel
theorem dX4_permutingMonomials_80 : decode cX4_permutingMonomials 80 = .ok (.goto (-32), 3) := by decide +kernel
theorem dX4_permutingMonomials_83 : decode cX4_permutingMonomials 83 = .ok (.aload_n 0, 1) := by decide +kernel
theorem dX4_permutingMonomials_84 : decode cX4_permutingMonomials 84 = .ok (.aload_n 1, 1) := by decide +kernel
theorem dX4_permutingMonomials_85 : decode cX4_permutingMonomials 85 = .ok (.invokevirtual 83, 3) := by decide +kernel
theorem dX4_permutingMonomials_88 : decode cX4_permutingMonomials 88 = .ok (.ifCond .eq 10, 3) := by decide +kernel
theorem dX4_permutingMonomials_91 : decode cX4_permutingMonomials 91 = .ok (.lload_n 2, 1) := by decide +kernel
theorem dX4_permutingMonomials_92 : decode cX4_permutingMonomials 92 = .ok (.lconst 1, 1) := by decide +kernel
theorem dX4_permutingMonomials_93 : decode cX4_permutingMonomials 93 = .ok (.iload 4, 2) := by decide +kernel
theorem dX4_permutingMonomials_95 : decode cX4_permutingMonomials 95 = .ok (.lshl, 1) := by decide +kernel
theorem dX4_permutingMonomials_96 : decode cX4_permutingMonomials 96 = .ok (.lor, 1) := by decide +kernel
theorem dX4_permutingMonomials_97 : decode cX4_permutingMonomials 97 = .ok (.lstore_n 2, 1) := by decide +kernel
theorem dX4_permutingMonomials_98 : decode cX4_permutingMonomials 98 = .ok (.iinc 4 1, 3) := by decide +kernel
theorem dX4_permutingMonomials_101 : decode cX4_permutingMonomials 101 = .ok (.goto (-68), 3) := by decide +kernel
theorem dX4_permutingMonomials_104 : decode cX4_permutingMonomials 104 = .ok (.lload_n 2, 1) := by decide +kernel
theorem dX4_permutingMonomials_105 : decode cX4_permutingMonomials 105 = .ok (.lreturn, 1) := by decide +kernel
theorem dX4_permutingDicksons_0 : decode cX4_permutingDicksons 0 = .ok (.aload_n 0, 1) := by decide +kernel
theorem dX4_permutingDicksons_1 : decode cX4_permutingDicksons 1 = .ok (.getfield 22, 3) := by decide +kernel
theorem dX4_permutingDicksons_4 : decode cX4_permutingDicksons 4 = .ok (.astore_n 2, 1) := by decide +kernel
theorem dX4_permutingDicksons_5 : decode cX4_permutingDicksons 5 = .ok (.aload_n 0, 1) := by decide +kernel
theorem dX4_permutingDicksons_6 : decode cX4_permutingDicksons 6 = .ok (.getfield 25, 3) := by decide +kernel
theorem dX4_permutingDicksons_9 : decode cX4_permutingDicksons 9 = .ok (.astore_n 3, 1) := by decide +kernel
theorem dX4_permutingDicksons_10 : decode cX4_permutingDicksons 10 = .ok (.iconst 0, 1) := by decide +kernel
theorem dX4_permutingDicksons_11 : decode cX4_permutingDicksons 11 = .ok (.istore 4, 2) := by decide +kernel
theorem dX4_permutingDicksons_13 : decode cX4_permutingDicksons 13 = .ok (.iload 4, 2) := by decide +kernel
theorem dX4_permutingDicksons_15 : decode cX4_permutingDicksons 15 = .ok (.aload_n 0, 1) := by decide +kernel
theorem dX4_permutingDicksons_16 : decode cX4_permutingDicksons 16 = .ok (.getfield 9, 3) := by decide +kernel
theorem dX4_permutingDicksons_19 : decode cX4_permutingDicksons 19 = .ok (.getfield 28, 3) := by decide +kernel
theorem dX4_permutingDicksons_22 : decode cX4_permutingDicksons 22 = .ok (.if_icmp .ge 28, 3) := by decide +kernel
theorem dX4_permutingDicksons_25 : decode cX4_permutingDicksons 25 = .ok (.aload_n 2, 1) := by decide +kernel
theorem dX4_permutingDicksons_26 : decode cX4_permutingDicksons 26 = .ok (.iload 4, 2) := by decide +kernel
theorem dX4_permutingDicksons_28 : decode cX4_permutingDicksons 28 = .ok (.aload_n 0, 1) := by decide +kernel
theorem dX4_permutingDicksons_29 : decode cX4_permutingDicksons 29 = .ok (.getfield 9, 3) := by decide +kernel
theorem dX4_permutingDicksons_32 : decode cX4_permutingDicksons 32 = .ok (.iconst 1, 1) := by decide +kernel
theorem dX4_permutingDicksons_33 : decode cX4_permutingDicksons 33 = .ok (.iconst 1, 1) := by decide +kernel
theorem dX4_permutingDicksons_34 : decode cX4_permutingDicksons 34 = .ok (.invokevirtual 45, 3) := by decide +kernel
theorem dX4_permutingDicksons_37 : decode cX4_permutingDicksons 37 = .ok (.iastore, 1) := by decide +kernel
theorem dX4_permutingDicksons_38 : decode cX4_permutingDicksons 38 = .ok (.aload_n 3, 1) := by decide +kernel
theorem dX4_permutingDicksons_39 : decode cX4_permutingDicksons 39 = .ok (.iload 4, 2) := by decide +kernel
theorem dX4_permutingDicksons_41 : decode cX4_permutingDicksons 41 = .ok (.iload 4, 2) := by decide +kernel
theorem dX4_permutingDicksons_43 : decode cX4_permutingDicksons 43 = .ok (.iastore, 1) := by decide +kernel
theorem dX4_permutingDicksons_44 : decode cX4_permutingDicksons 44 = .ok (.iinc 4 1, 3) := by decide +kernel
theorem dX4_permutingDicksons_47 : decode cX4_permutingDicksons 47 = .ok (.goto (-34), 3) := by decide +kernel
theorem dX4_permutingDicksons_50 : decode cX4_permutingDicksons 50 = .ok (.lconst 0, 1) := by decide +kernel
theorem dX4_permutingDicksons_51 : decode cX4_permutingDicksons 51 = .ok (.lstore 4, 2) := by decide +kernel
theorem dX4_permutingDicksons_53 : decode cX4_permutingDicksons 53 = .ok (.iconst 1, 1) := by decide +kernel
theorem dX4_permutingDicksons_54 : decode cX4_permutingDicksons 54 = .ok (.istore 6, 2) := by decide +kernel
theorem dX4_permutingDicksons_56 : decode cX4_permutingDicksons 56 = .ok (.iload 6, 2) := by decide +kernel
theorem dX4_permutingDicksons_58 : decode cX4_permutingDicksons 58 = .ok (.bipush 63, 2) := by decide +kernel
theorem dX4_permutingDicksons_60 : decode cX4_permutingDicksons 60 = .ok (.if_icmp .gt 91, 3) := by decide +kernel
theorem dX4_permutingDicksons_63 : decode cX4_permutingDicksons 63 = .ok (.aload_n 0, 1) := by decide +kernel
theorem dX4_permutingDicksons_64 : decode cX4_permutingDicksons 64 = .ok (.aload_n 3, 1) := by decide +kernel
theorem dX4_permutingDicksons_65 : decode cX4_permutingDicksons 65 = .ok (.invokevirtual 83, 3) := by decide +kernel
theorem dX4_permutingDicksons_68 : decode cX4_permutingDicksons 68 = .ok (.ifCond .eq 12, 3) := by decide +kernel
theorem dX4_permutingDicksons_71 : decode cX4_permutingDicksons 71 = .ok (.lload 4, 2) := by decide +kernel
theorem dX4_permutingDicksons_73 : decode cX4_permutingDicksons 73 = .ok (.lconst 1, 1) := by decide +kernel
theorem dX4_permutingDicksons_74 : decode cX4_permutingDicksons 74 = .ok (.iload 6, 2) := by decide +kernel
theorem dX4_permutingDicksons_76 : decode cX4_permutingDicksons 76 = .ok (.lshl, 1) := by decide +kernel
theorem dX4_permutingDicksons_77 : decode cX4_permutingDicksons 77 = .ok (.lor, 1) := by decide +kernel
theorem dX4_permutingDicksons_78 : decode cX4_permutingDicksons 78 = .ok (.lstore 4, 2) := by decide +kernel
theorem dX4_permutingDicksons_80 : decode cX4_permutingDicksons 80 = .ok (.iconst 0, 1) := by decide +kernel
theorem dX4_permutingDicksons_81 : decode cX4_permutingDicksons 81 = .ok (.istore 7, 2) := by decide +kernel
theorem dX4_permutingDicksons_83 : decode cX4_permutingDicksons 83 = .ok (.iload 7, 2) := by decide +kernel
theorem dX4_permutingDicksons_85 : decode cX4_permutingDicksons 85 = .ok (.aload_n 0, 1) := by decide +kernel
theorem dX4_permutingDicksons_86 : decode cX4_permutingDicksons 86 = .ok (.getfield 9, 3) := by decide +kernel
theorem dX4_permutingDicksons_89 : decode cX4_permutingDicksons 89 = .ok (.getfield 28, 3) := by decide +kernel
theorem dX4_permutingDicksons_92 : decode cX4_permutingDicksons 92 = .ok (.if_icmp .ge 45, 3) := by decide +kernel
theorem dX4_permutingDicksons_95 : decode cX4_permutingDicksons 95 = .ok (.aload_n 2, 1) := by decide +kernel
theorem dX4_permutingDicksons_96 : decode cX4_permutingDicksons 96 = .ok (.iload 7, 2) := by decide +kernel
theorem dX4_permutingDicksons_98 : decode cX4_permutingDicksons 98 = .ok (.aload_n 0, 1) := by decide +kernel
theorem dX4_permutingDicksons_99 : decode cX4_permutingDicksons 99 = .ok (.getfield 9, 3) := by decide +kernel
theorem dX4_permutingDicksons_102 : decode cX4_permutingDicksons 102 = .ok (.aload_n 0, 1) := by decide +kernel
theorem dX4_permutingDicksons_103 : decode cX4_permutingDicksons 103 = .ok (.getfield 9, 3) := by decide +kernel
theorem dX4_permutingDicksons_106 : decode cX4_permutingDicksons 106 = .ok (.iload 7, 2) := by decide +kernel
theorem dX4_permutingDicksons_108 : decode cX4_permutingDicksons 108 = .ok (.aload_n 3, 1) := by decide +kernel
theorem dX4_permutingDicksons_109 : decode cX4_permutingDicksons 109 = .ok (.iload 7, 2) := by decide +kernel
theorem dX4_permutingDicksons_111 : decode cX4_permutingDicksons 111 = .ok (.iaload, 1) := by decide +kernel
theorem dX4_permutingDicksons_112 : decode cX4_permutingDicksons 112 = .ok (.invokevirtual 42, 3) := by decide +kernel
theorem dX4_permutingDicksons_115 : decode cX4_permutingDicksons 115 = .ok (.aload_n 0, 1) := by decide +kernel
theorem dX4_permutingDicksons_116 : decode cX4_permutingDicksons 116 = .ok (.getfield 9, 3) := by decide +kernel
theorem dX4_permutingDicksons_119 : decode cX4_permutingDicksons 119 = .ok (.iload_n 1, 1) := by decide +kernel
theorem dX4_permutingDicksons_120 : decode cX4_permutingDicksons 120 = .ok (.aload_n 2, 1) := by decide +kernel
theorem dX4_permutingDicksons_121 : decode cX4_permutingDicksons 121 = .ok (.iload 7, 2) := by decide +kernel
theorem dX4_permutingDicksons_123 : decode cX4_permutingDicksons 123 = .ok (.iaload, 1) := by decide +kernel
theorem dX4_permutingDicksons_124 : decode cX4_permutingDicksons 124 = .ok (.invokevirtual 42, 3) := by decide +kernel
theorem dX4_permutingDicksons_127 : decode cX4_permutingDicksons 127 = .ok (.invokevirtual 91, 3) := by decide +kernel
theorem dX4_permutingDicksons_130 : decode cX4_permutingDicksons 130 = .ok (.iastore, 1) := by decide +kernel
theorem dX4_permutingDicksons_131 : decode cX4_permutingDicksons 131 = .ok (.iinc 7 1, 3) := by decide +kernel
theorem dX4_permutingDicksons_134 : decode cX4_permutingDicksons 134 = .ok (.goto (-51), 3) := by decide +kernel
theorem dX4_permutingDicksons_137 : decode cX4_permutingDicksons 137 = .ok (.aload_n 2, 1) := by decide +kernel
theorem dX4_permutingDicksons_138 : decode cX4_permutingDicksons 138 = .ok (.astore 7, 2) := by decide +kernel
theorem dX4_permutingDicksons_140 : decode cX4_permutingDicksons 140 = .ok (.aload_n 3, 1) := by decide +kernel
theorem dX4_permutingDicksons_141 : decode cX4_permutingDicksons 141 = .ok (.astore_n 2, 1) := by decide +kernel
theorem dX4_permutingDicksons_142 : decode cX4_permutingDicksons 142 = .ok (.aload 7, 2) := by decide +kernel
theorem dX4_permutingDicksons_144 : decode cX4_permutingDicksons 144 = .ok (.astore_n 3, 1) := by decide +kernel
theorem dX4_permutingDicksons_145 : decode cX4_permutingDicksons 145 = .ok (.iinc 6 1, 3) := by decide +kernel
theorem dX4_permutingDicksons_148 : decode cX4_permutingDicksons 148 = .ok (.goto (-92), 3) := by decide +kernel
theorem dX4_permutingDicksons_151 : decode cX4_permutingDicksons 151 = .ok (.lload 4, 2) := by decide +kernel
theorem dX4_permutingDicksons_153 : decode cX4_permutingDicksons 153 = .ok (.lreturn, 1) := by decide +kernel
theorem dX4_permutingBinomials_0 : decode cX4_permutingBinomials 0 = .ok (.aload_n 0, 1) := by decide +kernel
theorem dX4_permutingBinomials_1 : decode cX4_permutingBinomials 1 = .ok (.getfield 22, 3) := by decide +kernel
theorem dX4_permutingBinomials_4 : decode cX4_permutingBinomials 4 = .ok (.astore_n 2, 1) := by decide +kernel
theorem dX4_permutingBinomials_5 : decode cX4_permutingBinomials 5 = .ok (.aload_n 0, 1) := by decide +kernel
theorem dX4_permutingBinomials_6 : decode cX4_permutingBinomials 6 = .ok (.getfield 25, 3) := by decide +kernel
theorem dX4_permutingBinomials_9 : decode cX4_permutingBinomials 9 = .ok (.astore_n 3, 1) := by decide +kernel
theorem dX4_permutingBinomials_10 : decode cX4_permutingBinomials 10 = .ok (.iconst 0, 1) := by decide +kernel
theorem dX4_permutingBinomials_11 : decode cX4_permutingBinomials 11 = .ok (.istore 4, 2) := by decide +kernel
theorem dX4_permutingBinomials_13 : decode cX4_permutingBinomials 13 = .ok (.iload 4, 2) := by decide +kernel
theorem dX4_permutingBinomials_15 : decode cX4_permutingBinomials 15 = .ok (.aload_n 0, 1) := by decide +kernel
theorem dX4_permutingBinomials_16 : decode cX4_permutingBinomials 16 = .ok (.getfield 9, 3) := by decide +kernel
theorem dX4_permutingBinomials_19 : decode cX4_permutingBinomials 19 = .ok (.getfield 28, 3) := by decide +kernel
theorem dX4_permutingBinomials_22 : decode cX4_permutingBinomials 22 = .ok (.if_icmp .ge 23, 3) := by decide +kernel
theorem dX4_permutingBinomials_25 : decode cX4_permutingBinomials 25 = .ok (.aload_n 2, 1) := by decide +kernel
theorem dX4_permutingBinomials_26 : decode cX4_permutingBinomials 26 = .ok (.iload 4, 2) := by decide +kernel
theorem dX4_permutingBinomials_28 : decode cX4_permutingBinomials 28 = .ok (.aload_n 0, 1) := by decide +kernel
theorem dX4_permutingBinomials_29 : decode cX4_permutingBinomials 29 = .ok (.getfield 9, 3) := by decide +kernel
theorem dX4_permutingBinomials_32 : decode cX4_permutingBinomials 32 = .ok (.iload 4, 2) := by decide +kernel
theorem dX4_permutingBinomials_34 : decode cX4_permutingBinomials 34 = .ok (.iload_n 1, 1) := by decide +kernel
theorem dX4_permutingBinomials_35 : decode cX4_permutingBinomials 35 = .ok (.invokevirtual 38, 3) := by decide +kernel
theorem dX4_permutingBinomials_38 : decode cX4_permutingBinomials 38 = .ok (.iastore, 1) := by decide +kernel
theorem dX4_permutingBinomials_39 : decode cX4_permutingBinomials 39 = .ok (.iinc 4 1, 3) := by decide +kernel
theorem dX4_permutingBinomials_42 : decode cX4_permutingBinomials 42 = .ok (.goto (-29), 3) := by decide +kernel
theorem dX4_permutingBinomials_45 : decode cX4_permutingBinomials 45 = .ok (.iconst 0, 1) := by decide +kernel
theorem dX4_permutingBinomials_46 : decode cX4_permutingBinomials 46 = .ok (.istore 4, 2) := by decide +kernel
theorem dX4_permutingBinomials_48 : decode cX4_permutingBinomials 48 = .ok (.iconst 0, 1) := by decide +kernel
theorem dX4_permutingBinomials_49 : decode cX4_permutingBinomials 49 = .ok (.istore 5, 2) := by decide +kernel
theorem dX4_permutingBinomials_51 : decode cX4_permutingBinomials 51 = .ok (.iload 5, 2) := by decide +kernel
theorem dX4_permutingBinomials_53 : decode cX4_permutingBinomials 53 = .ok (.aload_n 0, 1) := by decide +kernel
theorem dX4_permutingBinomials_54 : decode cX4_permutingBinomials 54 = .ok (.getfield 9, 3) := by decide +kernel
theorem dX4_permutingBinomials_57 : decode cX4_permutingBinomials 57 = .ok (.getfield 28, 3) := by decide +kernel
theorem dX4_permutingBinomials_60 : decode cX4_permutingBinomials 60 = .ok (.if_icmp .ge 67, 3) := by decide +kernel
theorem dX4_permutingBinomials_63 : decode cX4_permutingBinomials 63 = .ok (.iconst 0, 1) := by decide +kernel
theorem dX4_permutingBinomials_64 : decode cX4_permutingBinomials 64 = .ok (.istore 6, 2) := by decide +kernel
theorem dX4_permutingBinomials_66 : decode cX4_permutingBinomials 66 = .ok (.iload 6, 2) := by decide +kernel
theorem dX4_permutingBinomials_68 : decode cX4_permutingBinomials 68 = .ok (.aload_n 0, 1) := by decide +kernel
theorem dX4_permutingBinomials_69 : decode cX4_permutingBinomials 69 = .ok (.getfield 9, 3) := by decide +kernel
theorem dX4_permutingBinomials_72 : decode cX4_permutingBinomials 72 = .ok (.getfield 28, 3) := by decide +kernel
theorem dX4_permutingBinomials_75 : decode cX4_permutingBinomials 75 = .ok (.if_icmp .ge 35, 3) := by decide +kernel
theorem dX4_permutingBinomials_78 : decode cX4_permutingBinomials 78 = .ok (.aload_n 3, 1) := by decide +kernel
theorem dX4_permutingBinomials_79 : decode cX4_permutingBinomials 79 = .ok (.iload 6, 2) := by decide +kernel
theorem dX4_permutingBinomials_81 : decode cX4_permutingBinomials 81 = .ok (.aload_n 0, 1) := by decide +kernel
theorem dX4_permutingBinomials_82 : decode cX4_permutingBinomials 82 = .ok (.getfield 9, 3) := by decide +kernel
theorem dX4_permutingBinomials_85 : decode cX4_permutingBinomials 85 = .ok (.aload_n 2, 1) := by decide +kernel
theorem dX4_permutingBinomials_86 : decode cX4_permutingBinomials 86 = .ok (.iload 6, 2) := by decide +kernel
theorem dX4_permutingBinomials_88 : decode cX4_permutingBinomials 88 = .ok (.iaload, 1) := by decide +kernel
theorem dX4_permutingBinomials_89 : decode cX4_permutingBinomials 89 = .ok (.aload_n 0, 1) := by decide +kernel
theorem dX4_permutingBinomials_90 : decode cX4_permutingBinomials 90 = .ok (.getfield 9, 3) := by decide +kernel
theorem dX4_permutingBinomials_93 : decode cX4_permutingBinomials 93 = .ok (.iload 5, 2) := by decide +kernel
theorem dX4_permutingBinomials_95 : decode cX4_permutingBinomials 95 = .ok (.iload 6, 2) := by decide +kernel
theorem dX4_permutingBinomials_97 : decode cX4_permutingBinomials 97 = .ok (.invokevirtual 42, 3) := by decide +kernel
theorem dX4_permutingBinomials_100 : decode cX4_permutingBinomials 100 = .ok (.invokevirtual 45, 3) := by decide +kernel
theorem dX4_permutingBinomials_103 : decode cX4_permutingBinomials 103 = .ok (.iastore, 1) := by decide +kernel
theorem dX4_permutingBinomials_104 : decode cX4_permutingBinomials 104 = .ok (.iinc 6 1, 3) := by decide +kernel
theorem dX4_permutingBinomials_107 : decode cX4_permutingBinomials 107 = .ok (.goto (-41), 3) := by decide +kernel
theorem dX4_permutingBinomials_110 : decode cX4_permutingBinomials 110 = .ok (.aload_n 0, 1) := by decide +kernel
theorem dX4_permutingBinomials_111 : decode cX4_permutingBinomials 111 = .ok (.aload_n 3, 1) := by decide +kernel
theorem dX4_permutingBinomials_112 : decode cX4_permutingBinomials 112 = .ok (.invokevirtual 83, 3) := by decide +kernel
theorem dX4_permutingBinomials_115 : decode cX4_permutingBinomials 115 = .ok (.ifCond .eq 6, 3) := by decide +kernel
theorem dX4_permutingBinomials_118 : decode cX4_permutingBinomials 118 = .ok (.iinc 4 1, 3) := by decide +kernel
theorem dX4_permutingBinomials_121 : decode cX4_permutingBinomials 121 = .ok (.iinc 5 1, 3) := by decide +kernel
theorem dX4_permutingBinomials_124 : decode cX4_permutingBinomials 124 = .ok (.goto (-73), 3) := by decide +kernel
theorem dX4_permutingBinomials_127 : decode cX4_permutingBinomials 127 = .ok (.iload 4, 2) := by decide +kernel
theorem dX4_permutingBinomials_129 : decode cX4_permutingBinomials 129 = .ok (.ireturn, 1) := by decide +kernel
theorem dX6_init_0 : decode cX6_init 0 = .ok (.aload_n 0, 1) := by decide +kernel
theorem dX6_init_1 : decode cX6_init 1 = .ok (.invokespecial 1, 3) := by decide +kernel
theorem dX6_init_4 : decode cX6_init 4 = .ok (.aload_n 0, 1) := by decide +kernel
theorem dX6_init_5 : decode cX6_init 5 = .ok (.new 7, 3) := by decide +kernel
theorem dX6_init_8 : decode cX6_init 8 = .ok (.dup, 1) := by decide +kernel
theorem dX6_init_9 : decode cX6_init 9 = .ok (.invokespecial 9, 3) := by decide +kernel
theorem dX6_init_12 : decode cX6_init 12 = .ok (.putfield 10, 3) := by decide +kernel
theorem dX6_init_15 : decode cX6_init 15 = .ok (.aload_n 0, 1) := by decide +kernel
theorem dX6_init_16 : decode cX6_init 16 = .ok (.new 16, 3) := by decide +kernel
theorem dX6_init_19 : decode cX6_init 19 = .ok (.dup, 1) := by decide +kernel
theorem dX6_init_20 : decode cX6_init 20 = .ok (.invokespecial 18, 3) := by decide +kernel
theorem dX6_init_23 : decode cX6_init 23 = .ok (.putfield 19, 3) := by decide +kernel
theorem dX6_init_26 : decode cX6_init 26 = .ok (.aload_n 0, 1) := by decide +kernel
theorem dX6_init_27 : decode cX6_init 27 = .ok (.new 16, 3) := by decide +kernel
theorem dX6_init_30 : decode cX6_init 30 = .ok (.dup, 1) := by decide +kernel
theorem dX6_init_31 : decode cX6_init 31 = .ok (.invokespecial 18, 3) := by decide +kernel
theorem dX6_init_34 : decode cX6_init 34 = .ok (.putfield 23, 3) := by decide +kernel
theorem dX6_init_37 : decode cX6_init 37 = .ok (.aload_n 0, 1) := by decide +kernel
theorem dX6_init_38 : decode cX6_init 38 = .ok (.new 26, 3) := by decide +kernel
theorem dX6_init_41 : decode cX6_init 41 = .ok (.dup, 1) := by decide +kernel
theorem dX6_init_42 : decode cX6_init 42 = .ok (.invokespecial 28, 3) := by decide +kernel
theorem dX6_init_45 : decode cX6_init 45 = .ok (.putfield 29, 3) := by decide +kernel
theorem dX6_init_48 : decode cX6_init 48 = .ok (.aload_n 0, 1) := by decide +kernel
theorem dX6_init_49 : decode cX6_init 49 = .ok (.new 33, 3) := by decide +kernel
theorem dX6_init_52 : decode cX6_init 52 = .ok (.dup, 1) := by decide +kernel
theorem dX6_init_53 : decode cX6_init 53 = .ok (.invokespecial 35, 3) := by decide +kernel
theorem dX6_init_56 : decode cX6_init 56 = .ok (.putfield 36, 3) := by decide +kernel
theorem dX6_init_59 : decode cX6_init 59 = .ok (.aload_n 0, 1) := by decide +kernel
theorem dX6_init_60 : decode cX6_init 60 = .ok (.new 40, 3) := by decide +kernel
theorem dX6_init_63 : decode cX6_init 63 = .ok (.dup, 1) := by decide +kernel
theorem dX6_init_64 : decode cX6_init 64 = .ok (.aload_n 0, 1) := by decide +kernel
theorem dX6_init_65 : decode cX6_init 65 = .ok (.getfield 36, 3) := by decide +kernel
theorem dX6_init_68 : decode cX6_init 68 = .ok (.aload_n 0, 1) := by decide +kernel
theorem dX6_init_69 : decode cX6_init 69 = .ok (.getfield 10, 3) := by decide +kernel
theorem dX6_init_72 : decode cX6_init 72 = .ok (.aload_n 0, 1) := by decide +kernel
theorem dX6_init_73 : decode cX6_init 73 = .ok (.getfield 23, 3) := by decide +kernel
theorem dX6_init_76 : decode cX6_init 76 = .ok (.invokespecial 42, 3) := by decide +kernel
theorem dX6_init_79 : decode cX6_init 79 = .ok (.putfield 45, 3) := by decide +kernel
theorem dX6_init_82 : decode cX6_init 82 = .ok (.aload_n 0, 1) := by decide +kernel
theorem dX6_init_83 : decode cX6_init 83 = .ok (.new 49, 3) := by decide +kernel
theorem dX6_init_86 : decode cX6_init 86 = .ok (.dup, 1) := by decide +kernel
theorem dX6_init_87 : decode cX6_init 87 = .ok (.aload_n 0, 1) := by decide +kernel
theorem dX6_init_88 : decode cX6_init 88 = .ok (.getfield 10, 3) := by decide +kernel
theorem dX6_init_91 : decode cX6_init 91 = .ok (.invokespecial 51, 3) := by decide +kernel
theorem dX6_init_94 : decode cX6_init 94 = .ok (.putfield 54, 3) := by decide +kernel
theorem dX6_init_97 : decode cX6_init 97 = .ok (.aload_n 0, 1) := by decide +kernel
theorem dX6_init_98 : decode cX6_init 98 = .ok (.iconst 3, 1) := by decide +kernel
theorem dX6_init_99 : decode cX6_init 99 = .ok (.newarray .int, 2) := by decide +kernel
theorem dX6_init_101 : decode cX6_init 101 = .ok (.putfield 58, 3) := by decide +kernel
theorem dX6_init_104 : decode cX6_init 104 = .ok (.aload_n 0, 1) := by decide +kernel
theorem dX6_init_105 : decode cX6_init 105 = .ok (.iconst (-1), 1) := by decide +kernel
theorem dX6_init_106 : decode cX6_init 106 = .ok (.putfield 62, 3) := by decide +kernel
theorem dX6_init_109 : decode cX6_init 109 = .ok (.return_, 1) := by decide +kernel
theorem dX6_feed_0 : decode cX6_feed 0 = .ok (.aload_n 0, 1) := by decide +kernel
theorem dX6_feed_1 : decode cX6_feed 1 = .ok (.getfield 36, 3) := by decide +kernel
theorem dX6_feed_4 : decode cX6_feed 4 = .ok (.getfield 66, 3) := by decide +kernel
theorem dX6_feed_7 : decode cX6_feed 7 = .ok (.bipush 20, 2) := by decide +kernel
theorem dX6_feed_9 : decode cX6_feed 9 = .ok (.iadd, 1) := by decide +kernel
theorem dX6_feed_10 : decode cX6_feed 10 = .ok (.sipush 300, 3) := by decide +kernel
theorem dX6_feed_13 : decode cX6_feed 13 = .ok (.if_icmp .le 5, 3) := by decide +kernel
theorem dX6_feed_16 : decode cX6_feed 16 = .ok (.iconst (-1), 1) := by decide +kernel
theorem dX6_feed_17 : decode cX6_feed 17 = .ok (.ireturn, 1) := by decide +kernel
theorem dX6_feed_18 : decode cX6_feed 18 = .ok (.aload_n 0, 1) := by decide +kernel
theorem dX6_feed_19 : decode cX6_feed 19 = .ok (.getfield 36, 3) := by decide +kernel
theorem dX6_feed_22 : decode cX6_feed 22 = .ok (.iload_n 1, 1) := by decide +kernel
theorem dX6_feed_23 : decode cX6_feed 23 = .ok (.invokevirtual 69, 3) := by decide +kernel
theorem dX6_feed_26 : decode cX6_feed 26 = .ok (.aload_n 0, 1) := by decide +kernel
theorem dX6_feed_27 : decode cX6_feed 27 = .ok (.getfield 36, 3) := by decide +kernel
theorem dX6_feed_30 : decode cX6_feed 30 = .ok (.iload_n 2, 1) := by decide +kernel
theorem dX6_feed_31 : decode cX6_feed 31 = .ok (.invokevirtual 69, 3) := by decide +kernel
theorem dX6_feed_34 : decode cX6_feed 34 = .ok (.aload_n 0, 1) := by decide +kernel
theorem dX6_feed_35 : decode cX6_feed 35 = .ok (.getfield 36, 3) := by decide +kernel
theorem dX6_feed_38 : decode cX6_feed 38 = .ok (.iload_n 3, 1) := by decide +kernel
theorem dX6_feed_39 : decode cX6_feed 39 = .ok (.invokevirtual 69, 3) := by decide +kernel
theorem dX6_feed_42 : decode cX6_feed 42 = .ok (.aload_n 0, 1) := by decide +kernel
theorem dX6_feed_43 : decode cX6_feed 43 = .ok (.getfield 36, 3) := by decide +kernel
theorem dX6_feed_46 : decode cX6_feed 46 = .ok (.iload 4, 2) := by decide +kernel
theorem dX6_feed_48 : decode cX6_feed 48 = .ok (.invokevirtual 69, 3) := by decide +kernel
theorem dX6_feed_51 : decode cX6_feed 51 = .ok (.aload_n 0, 1) := by decide +kernel
theorem dX6_feed_52 : decode cX6_feed 52 = .ok (.getfield 36, 3) := by decide +kernel
theorem dX6_feed_55 : decode cX6_feed 55 = .ok (.iload 5, 2) := by decide +kernel
theorem dX6_feed_57 : decode cX6_feed 57 = .ok (.invokevirtual 69, 3) := by decide +kernel
theorem dX6_feed_60 : decode cX6_feed 60 = .ok (.aload_n 0, 1) := by decide +kernel
theorem dX6_feed_61 : decode cX6_feed 61 = .ok (.getfield 36, 3) := by decide +kernel
theorem dX6_feed_64 : decode cX6_feed 64 = .ok (.getfield 66, 3) := by decide +kernel
theorem dX6_feed_67 : decode cX6_feed 67 = .ok (.ireturn, 1) := by decide +kernel
theorem dX6_text_0 : decode cX6_text 0 = .ok (.aload_n 0, 1) := by decide +kernel
theorem dX6_text_1 : decode cX6_text 1 = .ok (.iload_n 1, 1) := by decide +kernel
theorem dX6_text_2 : decode cX6_text 2 = .ok (.iconst 0, 1) := by decide +kernel
theorem dX6_text_3 : decode cX6_text 3 = .ok (.aload_n 0, 1) := by decide +kernel
theorem dX6_text_4 : decode cX6_text 4 = .ok (.getfield 36, 3) := by decide +kernel
theorem dX6_text_7 : decode cX6_text 7 = .ok (.getfield 66, 3) := by decide +kernel
theorem dX6_text_10 : decode cX6_text 10 = .ok (.invokevirtual 73, 3) := by decide +kernel
theorem dX6_text_13 : decode cX6_text 13 = .ok (.aload_n 0, 1) := by decide +kernel
theorem dX6_text_14 : decode cX6_text 14 = .ok (.getfield 36, 3) := by decide +kernel
theorem dX6_text_17 : decode cX6_text 17 = .ok (.iload_n 1, 1) := by decide +kernel
theorem dX6_text_18 : decode cX6_text 18 = .ok (.invokevirtual 77, 3) := by decide +kernel
theorem dX6_text_21 : decode cX6_text 21 = .ok (.aload_n 0, 1) := by decide +kernel
theorem dX6_text_22 : decode cX6_text 22 = .ok (.getfield 45, 3) := by decide +kernel
theorem dX6_text_25 : decode cX6_text 25 = .ok (.invokevirtual 80, 3) := by decide +kernel
theorem dX6_text_28 : decode cX6_text 28 = .ok (.istore_n 2, 1) := by decide +kernel
theorem dX6_text_29 : decode cX6_text 29 = .ok (.aload_n 0, 1) := by decide +kernel
theorem dX6_text_30 : decode cX6_text 30 = .ok (.getfield 36, 3) := by decide +kernel
theorem dX6_text_33 : decode cX6_text 33 = .ok (.iconst 0, 1) := by decide +kernel
theorem dX6_text_34 : decode cX6_text 34 = .ok (.putfield 66, 3) := by decide +kernel
theorem dX6_text_37 : decode cX6_text 37 = .ok (.aload_n 0, 1) := by decide +kernel
theorem dX6_text_38 : decode cX6_text 38 = .ok (.aload_n 0, 1) := by decide +kernel
theorem dX6_text_39 : decode cX6_text 39 = .ok (.getfield 45, 3) := by decide +kernel
theorem dX6_text_42 : decode cX6_text 42 = .ok (.getfield 84, 3) := by decide +kernel
theorem dX6_text_45 : decode cX6_text 45 = .ok (.putfield 62, 3) := by decide +kernel
theorem dX6_text_48 : decode cX6_text 48 = .ok (.iload_n 2, 1) := by decide +kernel
theorem dX6_text_49 : decode cX6_text 49 = .ok (.ifCond .ne 35, 3) := by decide +kernel
theorem dX6_text_52 : decode cX6_text 52 = .ok (.aload_n 0, 1) := by decide +kernel
theorem dX6_text_53 : decode cX6_text 53 = .ok (.getfield 10, 3) := by decide +kernel
theorem dX6_text_56 : decode cX6_text 56 = .ok (.aload_n 0, 1) := by decide +kernel
theorem dX6_text_57 : decode cX6_text 57 = .ok (.getfield 19, 3) := by decide +kernel
theorem dX6_text_60 : decode cX6_text 60 = .ok (.getfield 85, 3) := by decide +kernel
theorem dX6_text_63 : decode cX6_text 63 = .ok (.aload_n 0, 1) := by decide +kernel
theorem dX6_text_64 : decode cX6_text 64 = .ok (.getfield 19, 3) := by decide +kernel
theorem dX6_text_67 : decode cX6_text 67 = .ok (.getfield 88, 3) := by decide +kernel
theorem dX6_text_70 : decode cX6_text 70 = .ok (.invokevirtual 91, 3) := by decide +kernel
theorem dX6_text_73 : decode cX6_text 73 = .ok (.aload_n 0, 1) := by decide +kernel
theorem dX6_text_74 : decode cX6_text 74 = .ok (.getfield 45, 3) := by decide +kernel
theorem dX6_text_77 : decode cX6_text 77 = .ok (.getfield 95, 3) := by decide +kernel
theorem dX6_text_80 : decode cX6_text 80 = .ok (.bipush 10, 2) := by decide +kernel
theorem dX6_text_82 : decode cX6_text 82 = .ok (.isub, 1) := by decide +kernel
theorem dX6_text_83 : decode cX6_text 83 = .ok (.ireturn, 1) := by decide +kernel
theorem dX6_text_84 : decode cX6_text 84 = .ok (.aload_n 0, 1) := by decide +kernel
theorem dX6_text_85 : decode cX6_text 85 = .ok (.getfield 29, 3) := by decide +kernel
theorem dX6_text_88 : decode cX6_text 88 = .ok (.aload_n 0, 1) := by decide +kernel
theorem dX6_text_89 : decode cX6_text 89 = .ok (.getfield 19, 3) := by decide +kernel
theorem dX6_text_92 : decode cX6_text 92 = .ok (.invokevirtual 98, 3) := by decide +kernel
theorem dX6_text_95 : decode cX6_text 95 = .ok (.aload_n 0, 1) := by decide +kernel
theorem dX6_text_96 : decode cX6_text 96 = .ok (.getfield 19, 3) := by decide +kernel
theorem dX6_text_99 : decode cX6_text 99 = .ok (.aload_n 0, 1) := by decide +kernel
theorem dX6_text_100 : decode cX6_text 100 = .ok (.getfield 23, 3) := by decide +kernel
theorem dX6_text_103 : decode cX6_text 103 = .ok (.invokevirtual 102, 3) := by decide +kernel
theorem dX6_text_106 : decode cX6_text 106 = .ok (.aload_n 0, 1) := by decide +kernel
theorem dX6_text_107 : decode cX6_text 107 = .ok (.getfield 19, 3) := by decide +kernel
theorem dX6_text_110 : decode cX6_text 110 = .ok (.getfield 105, 3) := by decide +kernel
theorem dX6_text_113 : decode cX6_text 113 = .ok (.ireturn, 1) := by decide +kernel
theorem dX6_fault_0 : decode cX6_fault 0 = .ok (.aload_n 0, 1) := by decide +kernel
theorem dX6_fault_1 : decode cX6_fault 1 = .ok (.getfield 62, 3) := by decide +kernel
theorem dX6_fault_4 : decode cX6_fault 4 = .ok (.ireturn, 1) := by decide +kernel
theorem dX6_value_0 : decode cX6_value 0 = .ok (.aload_n 0, 1) := by decide +kernel
theorem dX6_value_1 : decode cX6_value 1 = .ok (.iload_n 1, 1) := by decide +kernel
theorem dX6_value_2 : decode cX6_value 2 = .ok (.invokevirtual 108, 3) := by decide +kernel
theorem dX6_value_5 : decode cX6_value 5 = .ok (.aload_n 0, 1) := by decide +kernel
theorem dX6_value_6 : decode cX6_value 6 = .ok (.iload_n 2, 1) := by decide +kernel
theorem dX6_value_7 : decode cX6_value 7 = .ok (.invokevirtual 111, 3) := by decide +kernel
theorem dX6_value_10 : decode cX6_value 10 = .ok (.aload_n 0, 1) := by decide +kernel
theorem dX6_value_11 : decode cX6_value 11 = .ok (.iload_n 3, 1) := by decide +kernel
theorem dX6_value_12 : decode cX6_value 12 = .ok (.invokevirtual 111, 3) := by decide +kernel
theorem dX6_value_15 : decode cX6_value 15 = .ok (.aload_n 0, 1) := by decide +kernel
theorem dX6_value_16 : decode cX6_value 16 = .ok (.getfield 29, 3) := by decide +kernel
theorem dX6_value_19 : decode cX6_value 19 = .ok (.aload_n 0, 1) := by decide +kernel
theorem dX6_value_20 : decode cX6_value 20 = .ok (.getfield 19, 3) := by decide +kernel
theorem dX6_value_23 : decode cX6_value 23 = .ok (.invokevirtual 98, 3) := by decide +kernel
theorem dX6_value_26 : decode cX6_value 26 = .ok (.aload_n 0, 1) := by decide +kernel
theorem dX6_value_27 : decode cX6_value 27 = .ok (.getfield 19, 3) := by decide +kernel
theorem dX6_value_30 : decode cX6_value 30 = .ok (.getfield 114, 3) := by decide +kernel
theorem dX6_value_33 : decode cX6_value 33 = .ok (.iload_n 1, 1) := by decide +kernel
theorem dX6_value_34 : decode cX6_value 34 = .ok (.aaload, 1) := by decide +kernel
theorem dX6_value_35 : decode cX6_value 35 = .ok (.iload_n 2, 1) := by decide +kernel
theorem dX6_value_36 : decode cX6_value 36 = .ok (.iaload, 1) := by decide +kernel
theorem dX6_value_37 : decode cX6_value 37 = .ok (.istore 4, 2) := by decide +kernel
theorem dX6_value_39 : decode cX6_value 39 = .ok (.aload_n 0, 1) := by decide +kernel
theorem dX6_value_40 : decode cX6_value 40 = .ok (.getfield 19, 3) := by decide +kernel
theorem dX6_value_43 : decode cX6_value 43 = .ok (.getfield 114, 3) := by decide +kernel
theorem dX6_value_46 : decode cX6_value 46 = .ok (.iload_n 1, 1) := by decide +kernel
theorem dX6_value_47 : decode cX6_value 47 = .ok (.aaload, 1) := by decide +kernel
theorem dX6_value_48 : decode cX6_value 48 = .ok (.iload_n 2, 1) := by decide +kernel
theorem dX6_value_49 : decode cX6_value 49 = .ok (.iload_n 3, 1) := by decide +kernel
theorem dX6_value_50 : decode cX6_value 50 = .ok (.iastore, 1) := by decide +kernel
theorem dX6_value_51 : decode cX6_value 51 = .ok (.iload 4, 2) := by decide +kernel
theorem dX6_value_53 : decode cX6_value 53 = .ok (.ireturn, 1) := by decide +kernel
theorem dX6_after_0 : decode cX6_after 0 = .ok (.aload_n 0, 1) := by decide +kernel
theorem dX6_after_1 : decode cX6_after 1 = .ok (.iload_n 1, 1) := by decide +kernel
theorem dX6_after_2 : decode cX6_after 2 = .ok (.invokevirtual 108, 3) := by decide +kernel
theorem dX6_after_5 : decode cX6_after 5 = .ok (.aload_n 0, 1) := by decide +kernel
theorem dX6_after_6 : decode cX6_after 6 = .ok (.iload_n 2, 1) := by decide +kernel
theorem dX6_after_7 : decode cX6_after 7 = .ok (.invokevirtual 108, 3) := by decide +kernel
theorem dX6_after_10 : decode cX6_after 10 = .ok (.aload_n 0, 1) := by decide +kernel
theorem dX6_after_11 : decode cX6_after 11 = .ok (.invokevirtual 118, 3) := by decide +kernel
theorem dX6_after_14 : decode cX6_after 14 = .ok (.aload_n 0, 1) := by decide +kernel
theorem dX6_after_15 : decode cX6_after 15 = .ok (.getfield 29, 3) := by decide +kernel
theorem dX6_after_18 : decode cX6_after 18 = .ok (.aload_n 0, 1) := by decide +kernel
theorem dX6_after_19 : decode cX6_after 19 = .ok (.getfield 19, 3) := by decide +kernel
theorem dX6_after_22 : decode cX6_after 22 = .ok (.invokevirtual 98, 3) := by decide +kernel
theorem dX6_after_25 : decode cX6_after 25 = .ok (.aload_n 0, 1) := by decide +kernel
theorem dX6_after_26 : decode cX6_after 26 = .ok (.getfield 54, 3) := by decide +kernel
theorem dX6_after_29 : decode cX6_after 29 = .ok (.aload_n 0, 1) := by decide +kernel
theorem dX6_after_30 : decode cX6_after 30 = .ok (.getfield 19, 3) := by decide +kernel
theorem dX6_after_33 : decode cX6_after 33 = .ok (.getfield 114, 3) := by decide +kernel
theorem dX6_after_36 : decode cX6_after 36 = .ok (.iload_n 1, 1) := by decide +kernel
theorem dX6_after_37 : decode cX6_after 37 = .ok (.aaload, 1) := by decide +kernel
theorem dX6_after_38 : decode cX6_after 38 = .ok (.aload_n 0, 1) := by decide +kernel
theorem dX6_after_39 : decode cX6_after 39 = .ok (.getfield 19, 3) := by decide +kernel
theorem dX6_after_42 : decode cX6_after 42 = .ok (.getfield 114, 3) := by decide +kernel
theorem dX6_after_45 : decode cX6_after 45 = .ok (.iload_n 2, 1) := by decide +kernel
theorem dX6_after_46 : decode cX6_after 46 = .ok (.aaload, 1) := by decide +kernel
theorem dX6_after_47 : decode cX6_after 47 = .ok (.aload_n 0, 1) := by decide +kernel
theorem dX6_after_48 : decode cX6_after 48 = .ok (.getfield 19, 3) := by decide +kernel
theorem dX6_after_51 : decode cX6_after 51 = .ok (.getfield 114, 3) := by decide +kernel
theorem dX6_after_54 : decode cX6_after 54 = .ok (.aload_n 0, 1) := by decide +kernel
theorem dX6_after_55 : decode cX6_after 55 = .ok (.getfield 19, 3) := by decide +kernel
theorem dX6_after_58 : decode cX6_after 58 = .ok (.getfield 105, 3) := by decide +kernel
theorem dX6_after_61 : decode cX6_after 61 = .ok (.aaload, 1) := by decide +kernel
theorem dX6_after_62 : decode cX6_after 62 = .ok (.invokevirtual 121, 3) := by decide +kernel
theorem dX6_after_65 : decode cX6_after 65 = .ok (.aload_n 0, 1) := by decide +kernel
theorem dX6_after_66 : decode cX6_after 66 = .ok (.getfield 19, 3) := by decide +kernel
theorem dX6_after_69 : decode cX6_after 69 = .ok (.dup, 1) := by decide +kernel
theorem dX6_after_70 : decode cX6_after 70 = .ok (.getfield 105, 3) := by decide +kernel
theorem dX6_after_73 : decode cX6_after 73 = .ok (.iconst 1, 1) := by decide +kernel
theorem dX6_after_74 : decode cX6_after 74 = .ok (.iadd, 1) := by decide +kernel
theorem dX6_after_75 : decode cX6_after 75 = .ok (.putfield 105, 3) := by decide +kernel
theorem dX6_after_78 : decode cX6_after 78 = .ok (.aload_n 0, 1) := by decide +kernel
theorem dX6_after_79 : decode cX6_after 79 = .ok (.getfield 19, 3) := by decide +kernel
theorem dX6_after_82 : decode cX6_after 82 = .ok (.getfield 105, 3) := by decide +kernel
theorem dX6_after_85 : decode cX6_after 85 = .ok (.iconst 1, 1) := by decide +kernel
theorem dX6_after_86 : decode cX6_after 86 = .ok (.isub, 1) := by decide +kernel
theorem dX6_after_87 : decode cX6_after 87 = .ok (.ireturn, 1) := by decide +kernel
theorem dX6_again_0 : decode cX6_again 0 = .ok (.aload_n 0, 1) := by decide +kernel
theorem dX6_again_1 : decode cX6_again 1 = .ok (.iload_n 1, 1) := by decide +kernel
theorem dX6_again_2 : decode cX6_again 2 = .ok (.invokevirtual 108, 3) := by decide +kernel
theorem dX6_again_5 : decode cX6_again 5 = .ok (.aload_n 0, 1) := by decide +kernel
theorem dX6_again_6 : decode cX6_again 6 = .ok (.iload_n 2, 1) := by decide +kernel
theorem dX6_again_7 : decode cX6_again 7 = .ok (.iconst 0, 1) := by decide +kernel
theorem dX6_again_8 : decode cX6_again 8 = .ok (.ldc 125, 2) := by decide +kernel
theorem dX6_again_10 : decode cX6_again 10 = .ok (.invokevirtual 73, 3) := by decide +kernel
theorem dX6_again_13 : decode cX6_again 13 = .ok (.aload_n 0, 1) := by decide +kernel
theorem dX6_again_14 : decode cX6_again 14 = .ok (.invokevirtual 118, 3) := by decide +kernel
theorem dX6_again_17 : decode cX6_again 17 = .ok (.aload_n 0, 1) := by decide +kernel
theorem dX6_again_18 : decode cX6_again 18 = .ok (.getfield 29, 3) := by decide +kernel
theorem dX6_again_21 : decode cX6_again 21 = .ok (.aload_n 0, 1) := by decide +kernel
theorem dX6_again_22 : decode cX6_again 22 = .ok (.getfield 19, 3) := by decide +kernel
theorem dX6_again_25 : decode cX6_again 25 = .ok (.invokevirtual 98, 3) := by decide +kernel
theorem dX6_again_28 : decode cX6_again 28 = .ok (.aload_n 0, 1) := by decide +kernel
theorem dX6_again_29 : decode cX6_again 29 = .ok (.getfield 54, 3) := by decide +kernel
theorem dX6_again_32 : decode cX6_again 32 = .ok (.aload_n 0, 1) := by decide +kernel
theorem dX6_again_33 : decode cX6_again 33 = .ok (.getfield 19, 3) := by decide +kernel
theorem dX6_again_36 : decode cX6_again 36 = .ok (.getfield 114, 3) := by decide +kernel
theorem dX6_again_39 : decode cX6_again 39 = .ok (.iload_n 1, 1) := by decide +kernel
theorem dX6_again_40 : decode cX6_again 40 = .ok (.aaload, 1) := by decide +kernel
theorem dX6_again_41 : decode cX6_again 41 = .ok (.iload_n 2, 1) := by decide +kernel
theorem dX6_again_42 : decode cX6_again 42 = .ok (.aload_n 0, 1) := by decide +kernel
theorem dX6_again_43 : decode cX6_again 43 = .ok (.getfield 19, 3) := by decide +kernel
theorem dX6_again_46 : decode cX6_again 46 = .ok (.getfield 114, 3) := by decide +kernel
theorem dX6_again_49 : decode cX6_again 49 = .ok (.aload_n 0, 1) := by decide +kernel
theorem dX6_again_50 : decode cX6_again 50 = .ok (.getfield 19, 3) := by decide +kernel
theorem dX6_again_53 : decode cX6_again 53 = .ok (.getfield 105, 3) := by decide +kernel
theorem dX6_again_56 : decode cX6_again 56 = .ok (.aaload, 1) := by decide +kernel
theorem dX6_again_57 : decode cX6_again 57 = .ok (.invokevirtual 126, 3) := by decide +kernel
theorem dX6_again_60 : decode cX6_again 60 = .ok (.aload_n 0, 1) := by decide +kernel
theorem dX6_again_61 : decode cX6_again 61 = .ok (.getfield 19, 3) := by decide +kernel
theorem dX6_again_64 : decode cX6_again 64 = .ok (.dup, 1) := by decide +kernel
theorem dX6_again_65 : decode cX6_again 65 = .ok (.getfield 105, 3) := by decide +kernel
theorem dX6_again_68 : decode cX6_again 68 = .ok (.iconst 1, 1) := by decide +kernel
theorem dX6_again_69 : decode cX6_again 69 = .ok (.iadd, 1) := by decide +kernel
theorem dX6_again_70 : decode cX6_again 70 = .ok (.putfield 105, 3) := by decide +kernel
theorem dX6_again_73 : decode cX6_again 73 = .ok (.aload_n 0, 1) := by decide +kernel
theorem dX6_again_74 : decode cX6_again 74 = .ok (.getfield 19, 3) := by decide +kernel
theorem dX6_again_77 : decode cX6_again 77 = .ok (.getfield 105, 3) := by decide +kernel
theorem dX6_again_80 : decode cX6_again 80 = .ok (.iconst 1, 1) := by decide +kernel
theorem dX6_again_81 : decode cX6_again 81 = .ok (.isub, 1) := by decide +kernel
theorem dX6_again_82 : decode cX6_again 82 = .ok (.ireturn, 1) := by decide +kernel
theorem dX6_back_0 : decode cX6_back 0 = .ok (.aload_n 0, 1) := by decide +kernel
theorem dX6_back_1 : decode cX6_back 1 = .ok (.iload_n 1, 1) := by decide +kernel
theorem dX6_back_2 : decode cX6_back 2 = .ok (.invokevirtual 108, 3) := by decide +kernel
theorem dX6_back_5 : decode cX6_back 5 = .ok (.aload_n 0, 1) := by decide +kernel
theorem dX6_back_6 : decode cX6_back 6 = .ok (.invokevirtual 118, 3) := by decide +kernel
theorem dX6_back_9 : decode cX6_back 9 = .ok (.aload_n 0, 1) := by decide +kernel
theorem dX6_back_10 : decode cX6_back 10 = .ok (.iload_n 1, 1) := by decide +kernel
theorem dX6_back_11 : decode cX6_back 11 = .ok (.invokevirtual 130, 3) := by decide +kernel
theorem dX6_back_14 : decode cX6_back 14 = .ok (.aload_n 0, 1) := by decide +kernel
theorem dX6_back_15 : decode cX6_back 15 = .ok (.getfield 29, 3) := by decide +kernel
theorem dX6_back_18 : decode cX6_back 18 = .ok (.aload_n 0, 1) := by decide +kernel
theorem dX6_back_19 : decode cX6_back 19 = .ok (.getfield 19, 3) := by decide +kernel
theorem dX6_back_22 : decode cX6_back 22 = .ok (.invokevirtual 98, 3) := by decide +kernel
theorem dX6_back_25 : decode cX6_back 25 = .ok (.aload_n 0, 1) := by decide +kernel
theorem dX6_back_26 : decode cX6_back 26 = .ok (.getfield 54, 3) := by decide +kernel
theorem dX6_back_29 : decode cX6_back 29 = .ok (.aload_n 0, 1) := by decide +kernel
theorem dX6_back_30 : decode cX6_back 30 = .ok (.getfield 19, 3) := by decide +kernel
theorem dX6_back_33 : decode cX6_back 33 = .ok (.getfield 114, 3) := by decide +kernel
theorem dX6_back_36 : decode cX6_back 36 = .ok (.iload_n 1, 1) := by decide +kernel
theorem dX6_back_37 : decode cX6_back 37 = .ok (.aaload, 1) := by decide +kernel
theorem dX6_back_38 : decode cX6_back 38 = .ok (.aload_n 0, 1) := by decide +kernel
theorem dX6_back_39 : decode cX6_back 39 = .ok (.getfield 19, 3) := by decide +kernel
theorem dX6_back_42 : decode cX6_back 42 = .ok (.getfield 114, 3) := by decide +kernel
theorem dX6_back_45 : decode cX6_back 45 = .ok (.aload_n 0, 1) := by decide +kernel
theorem dX6_back_46 : decode cX6_back 46 = .ok (.getfield 19, 3) := by decide +kernel
theorem dX6_back_49 : decode cX6_back 49 = .ok (.getfield 105, 3) := by decide +kernel
theorem dX6_back_52 : decode cX6_back 52 = .ok (.aaload, 1) := by decide +kernel
theorem dX6_back_53 : decode cX6_back 53 = .ok (.invokevirtual 133, 3) := by decide +kernel
theorem dX6_back_56 : decode cX6_back 56 = .ok (.aload_n 0, 1) := by decide +kernel
theorem dX6_back_57 : decode cX6_back 57 = .ok (.getfield 19, 3) := by decide +kernel
theorem dX6_back_60 : decode cX6_back 60 = .ok (.dup, 1) := by decide +kernel
theorem dX6_back_61 : decode cX6_back 61 = .ok (.getfield 105, 3) := by decide +kernel
theorem dX6_back_64 : decode cX6_back 64 = .ok (.iconst 1, 1) := by decide +kernel
theorem dX6_back_65 : decode cX6_back 65 = .ok (.iadd, 1) := by decide +kernel
theorem dX6_back_66 : decode cX6_back 66 = .ok (.putfield 105, 3) := by decide +kernel
theorem dX6_back_69 : decode cX6_back 69 = .ok (.aload_n 0, 1) := by decide +kernel
theorem dX6_back_70 : decode cX6_back 70 = .ok (.getfield 19, 3) := by decide +kernel
theorem dX6_back_73 : decode cX6_back 73 = .ok (.getfield 105, 3) := by decide +kernel
theorem dX6_back_76 : decode cX6_back 76 = .ok (.iconst 1, 1) := by decide +kernel
theorem dX6_back_77 : decode cX6_back 77 = .ok (.isub, 1) := by decide +kernel
theorem dX6_back_78 : decode cX6_back 78 = .ok (.ireturn, 1) := by decide +kernel
theorem dX6_drop_0 : decode cX6_drop 0 = .ok (.aload_n 0, 1) := by decide +kernel
theorem dX6_drop_1 : decode cX6_drop 1 = .ok (.iload_n 1, 1) := by decide +kernel
theorem dX6_drop_2 : decode cX6_drop 2 = .ok (.invokevirtual 108, 3) := by decide +kernel
theorem dX6_drop_5 : decode cX6_drop 5 = .ok (.aload_n 0, 1) := by decide +kernel
theorem dX6_drop_6 : decode cX6_drop 6 = .ok (.getfield 29, 3) := by decide +kernel
theorem dX6_drop_9 : decode cX6_drop 9 = .ok (.aload_n 0, 1) := by decide +kernel
theorem dX6_drop_10 : decode cX6_drop 10 = .ok (.getfield 19, 3) := by decide +kernel
theorem dX6_drop_13 : decode cX6_drop 13 = .ok (.invokevirtual 98, 3) := by decide +kernel
theorem dX6_drop_16 : decode cX6_drop 16 = .ok (.aload_n 0, 1) := by decide +kernel
theorem dX6_drop_17 : decode cX6_drop 17 = .ok (.getfield 19, 3) := by decide +kernel
theorem dX6_drop_20 : decode cX6_drop 20 = .ok (.iload_n 1, 1) := by decide +kernel
theorem dX6_drop_21 : decode cX6_drop 21 = .ok (.invokevirtual 137, 3) := by decide +kernel
theorem dX6_drop_24 : decode cX6_drop 24 = .ok (.aload_n 0, 1) := by decide +kernel
theorem dX6_drop_25 : decode cX6_drop 25 = .ok (.getfield 19, 3) := by decide +kernel
theorem dX6_drop_28 : decode cX6_drop 28 = .ok (.getfield 105, 3) := by decide +kernel
theorem dX6_drop_31 : decode cX6_drop 31 = .ok (.ireturn, 1) := by decide +kernel
theorem dX6_undo_0 : decode cX6_undo 0 = .ok (.aload_n 0, 1) := by decide +kernel
theorem dX6_undo_1 : decode cX6_undo 1 = .ok (.getfield 29, 3) := by decide +kernel
theorem dX6_undo_4 : decode cX6_undo 4 = .ok (.invokevirtual 140, 3) := by decide +kernel
theorem dX6_undo_7 : decode cX6_undo 7 = .ok (.astore_n 1, 1) := by decide +kernel
theorem dX6_undo_8 : decode cX6_undo 8 = .ok (.aload_n 1, 1) := by decide +kernel
theorem dX6_undo_9 : decode cX6_undo 9 = .ok (.ifnonnull 5, 3) := by decide +kernel
theorem dX6_undo_12 : decode cX6_undo 12 = .ok (.iconst (-1), 1) := by decide +kernel
theorem dX6_undo_13 : decode cX6_undo 13 = .ok (.ireturn, 1) := by decide +kernel
theorem dX6_undo_14 : decode cX6_undo 14 = .ok (.aload_n 0, 1) := by decide +kernel
theorem dX6_undo_15 : decode cX6_undo 15 = .ok (.getfield 19, 3) := by decide +kernel
theorem dX6_undo_18 : decode cX6_undo 18 = .ok (.aload_n 1, 1) := by decide +kernel
theorem dX6_undo_19 : decode cX6_undo 19 = .ok (.invokevirtual 102, 3) := by decide +kernel
theorem dX6_undo_22 : decode cX6_undo 22 = .ok (.aload_n 0, 1) := by decide +kernel
theorem dX6_undo_23 : decode cX6_undo 23 = .ok (.getfield 10, 3) := by decide +kernel
theorem dX6_undo_26 : decode cX6_undo 26 = .ok (.aload_n 0, 1) := by decide +kernel
theorem dX6_undo_27 : decode cX6_undo 27 = .ok (.getfield 19, 3) := by decide +kernel
theorem dX6_undo_30 : decode cX6_undo 30 = .ok (.getfield 85, 3) := by decide +kernel
theorem dX6_undo_33 : decode cX6_undo 33 = .ok (.aload_n 0, 1) := by decide +kernel
theorem dX6_undo_34 : decode cX6_undo 34 = .ok (.getfield 19, 3) := by decide +kernel
theorem dX6_undo_37 : decode cX6_undo 37 = .ok (.getfield 88, 3) := by decide +kernel
theorem dX6_undo_40 : decode cX6_undo 40 = .ok (.invokevirtual 91, 3) := by decide +kernel
theorem dX6_undo_43 : decode cX6_undo 43 = .ok (.aload_n 0, 1) := by decide +kernel
theorem dX6_undo_44 : decode cX6_undo 44 = .ok (.getfield 29, 3) := by decide +kernel
theorem dX6_undo_47 : decode cX6_undo 47 = .ok (.getfield 144, 3) := by decide +kernel
theorem dX6_undo_50 : decode cX6_undo 50 = .ok (.ireturn, 1) := by decide +kernel
theorem dX6_told_0 : decode cX6_told 0 = .ok (.aload_n 0, 1) := by decide +kernel
theorem dX6_told_1 : decode cX6_told 1 = .ok (.iload_n 1, 1) := by decide +kernel
theorem dX6_told_2 : decode cX6_told 2 = .ok (.iconst 0, 1) := by decide +kernel
theorem dX6_told_3 : decode cX6_told 3 = .ok (.bipush 6, 2) := by decide +kernel
theorem dX6_told_5 : decode cX6_told 5 = .ok (.invokevirtual 73, 3) := by decide +kernel
theorem dX6_told_8 : decode cX6_told 8 = .ok (.iload_n 1, 1) := by decide +kernel
theorem dX6_told_9 : decode cX6_told 9 = .ok (.tableswitch 87 0 5 #[39, 47, 55, 63, 71, 79], 39) := by decide +kernel
theorem dX6_told_48 : decode cX6_told 48 = .ok (.aload_n 0, 1) := by decide +kernel
theorem dX6_told_49 : decode cX6_told 49 = .ok (.getfield 10, 3) := by decide +kernel
theorem dX6_told_52 : decode cX6_told 52 = .ok (.getfield 147, 3) := by decide +kernel
theorem dX6_told_55 : decode cX6_told 55 = .ok (.ireturn, 1) := by decide +kernel
theorem dX6_told_56 : decode cX6_told 56 = .ok (.aload_n 0, 1) := by decide +kernel
theorem dX6_told_57 : decode cX6_told 57 = .ok (.getfield 10, 3) := by decide +kernel
theorem dX6_told_60 : decode cX6_told 60 = .ok (.getfield 148, 3) := by decide +kernel
theorem dX6_told_63 : decode cX6_told 63 = .ok (.ireturn, 1) := by decide +kernel
theorem dX6_told_64 : decode cX6_told 64 = .ok (.aload_n 0, 1) := by decide +kernel
theorem dX6_told_65 : decode cX6_told 65 = .ok (.getfield 10, 3) := by decide +kernel
theorem dX6_told_68 : decode cX6_told 68 = .ok (.getfield 149, 3) := by decide +kernel
theorem dX6_told_71 : decode cX6_told 71 = .ok (.ireturn, 1) := by decide +kernel
theorem dX6_told_72 : decode cX6_told 72 = .ok (.aload_n 0, 1) := by decide +kernel
theorem dX6_told_73 : decode cX6_told 73 = .ok (.getfield 10, 3) := by decide +kernel
theorem dX6_told_76 : decode cX6_told 76 = .ok (.getfield 150, 3) := by decide +kernel
theorem dX6_told_79 : decode cX6_told 79 = .ok (.ireturn, 1) := by decide +kernel
theorem dX6_told_80 : decode cX6_told 80 = .ok (.aload_n 0, 1) := by decide +kernel
theorem dX6_told_81 : decode cX6_told 81 = .ok (.getfield 19, 3) := by decide +kernel
theorem dX6_told_84 : decode cX6_told 84 = .ok (.getfield 105, 3) := by decide +kernel
theorem dX6_told_87 : decode cX6_told 87 = .ok (.ireturn, 1) := by decide +kernel
theorem dX6_told_88 : decode cX6_told 88 = .ok (.aload_n 0, 1) := by decide +kernel
theorem dX6_told_89 : decode cX6_told 89 = .ok (.getfield 36, 3) := by decide +kernel
theorem dX6_told_92 : decode cX6_told 92 = .ok (.getfield 66, 3) := by decide +kernel
theorem dX6_told_95 : decode cX6_told 95 = .ok (.ireturn, 1) := by decide +kernel
theorem dX6_told_96 : decode cX6_told 96 = .ok (.aload_n 0, 1) := by decide +kernel
theorem dX6_told_97 : decode cX6_told 97 = .ok (.getfield 29, 3) := by decide +kernel
theorem dX6_told_100 : decode cX6_told 100 = .ok (.getfield 144, 3) := by decide +kernel
theorem dX6_told_103 : decode cX6_told 103 = .ok (.ireturn, 1) := by decide +kernel
theorem dX6_points_0 : decode cX6_points 0 = .ok (.aload_n 0, 1) := by decide +kernel
theorem dX6_points_1 : decode cX6_points 1 = .ok (.iload_n 1, 1) := by decide +kernel
theorem dX6_points_2 : decode cX6_points 2 = .ok (.invokevirtual 111, 3) := by decide +kernel
theorem dX6_points_5 : decode cX6_points 5 = .ok (.aload_n 0, 1) := by decide +kernel
theorem dX6_points_6 : decode cX6_points 6 = .ok (.iload_n 2, 1) := by decide +kernel
theorem dX6_points_7 : decode cX6_points 7 = .ok (.invokevirtual 111, 3) := by decide +kernel
theorem dX6_points_10 : decode cX6_points 10 = .ok (.aload_n 0, 1) := by decide +kernel
theorem dX6_points_11 : decode cX6_points 11 = .ok (.iload_n 3, 1) := by decide +kernel
theorem dX6_points_12 : decode cX6_points 12 = .ok (.iconst 0, 1) := by decide +kernel
theorem dX6_points_13 : decode cX6_points 13 = .ok (.iconst 3, 1) := by decide +kernel
theorem dX6_points_14 : decode cX6_points 14 = .ok (.invokevirtual 73, 3) := by decide +kernel
theorem dX6_points_17 : decode cX6_points 17 = .ok (.iload_n 3, 1) := by decide +kernel
theorem dX6_points_18 : decode cX6_points 18 = .ok (.tableswitch 56 0 2 #[26, 36, 46], 26) := by decide +kernel
theorem dX6_points_44 : decode cX6_points 44 = .ok (.aload_n 0, 1) := by decide +kernel
theorem dX6_points_45 : decode cX6_points 45 = .ok (.getfield 10, 3) := by decide +kernel
theorem dX6_points_48 : decode cX6_points 48 = .ok (.iload_n 1, 1) := by decide +kernel
theorem dX6_points_49 : decode cX6_points 49 = .ok (.iload_n 2, 1) := by decide +kernel
theorem dX6_points_50 : decode cX6_points 50 = .ok (.invokevirtual 153, 3) := by decide +kernel
theorem dX6_points_53 : decode cX6_points 53 = .ok (.ireturn, 1) := by decide +kernel
theorem dX6_points_54 : decode cX6_points 54 = .ok (.aload_n 0, 1) := by decide +kernel
theorem dX6_points_55 : decode cX6_points 55 = .ok (.getfield 10, 3) := by decide +kernel
theorem dX6_points_58 : decode cX6_points 58 = .ok (.iload_n 1, 1) := by decide +kernel
theorem dX6_points_59 : decode cX6_points 59 = .ok (.iload_n 2, 1) := by decide +kernel
theorem dX6_points_60 : decode cX6_points 60 = .ok (.invokevirtual 157, 3) := by decide +kernel
theorem dX6_points_63 : decode cX6_points 63 = .ok (.ireturn, 1) := by decide +kernel
theorem dX6_points_64 : decode cX6_points 64 = .ok (.aload_n 0, 1) := by decide +kernel
theorem dX6_points_65 : decode cX6_points 65 = .ok (.getfield 10, 3) := by decide +kernel
theorem dX6_points_68 : decode cX6_points 68 = .ok (.iload_n 1, 1) := by decide +kernel
theorem dX6_points_69 : decode cX6_points 69 = .ok (.iload_n 2, 1) := by decide +kernel
theorem dX6_points_70 : decode cX6_points 70 = .ok (.invokevirtual 160, 3) := by decide +kernel
theorem dX6_points_73 : decode cX6_points 73 = .ok (.ireturn, 1) := by decide +kernel
theorem dX6_points_74 : decode cX6_points 74 = .ok (.iload_n 2, 1) := by decide +kernel
theorem dX6_points_75 : decode cX6_points 75 = .ok (.ifCond .ne 7, 3) := by decide +kernel
theorem dX6_points_78 : decode cX6_points 78 = .ok (.iconst (-1), 1) := by decide +kernel
theorem dX6_points_79 : decode cX6_points 79 = .ok (.goto 20, 3) := by decide +kernel
theorem dX6_points_82 : decode cX6_points 82 = .ok (.aload_n 0, 1) := by decide +kernel
theorem dX6_points_83 : decode cX6_points 83 = .ok (.getfield 10, 3) := by decide +kernel
theorem dX6_points_86 : decode cX6_points 86 = .ok (.iload_n 1, 1) := by decide +kernel
theorem dX6_points_87 : decode cX6_points 87 = .ok (.aload_n 0, 1) := by decide +kernel
theorem dX6_points_88 : decode cX6_points 88 = .ok (.getfield 10, 3) := by decide +kernel
theorem dX6_points_91 : decode cX6_points 91 = .ok (.getfield 163, 3) := by decide +kernel
theorem dX6_points_94 : decode cX6_points 94 = .ok (.iload_n 2, 1) := by decide +kernel
theorem dX6_points_95 : decode cX6_points 95 = .ok (.iaload, 1) := by decide +kernel
theorem dX6_points_96 : decode cX6_points 96 = .ok (.invokevirtual 160, 3) := by decide +kernel
theorem dX6_points_99 : decode cX6_points 99 = .ok (.ireturn, 1) := by decide +kernel
theorem dX6_at_0 : decode cX6_at 0 = .ok (.aload_n 0, 1) := by decide +kernel
theorem dX6_at_1 : decode cX6_at 1 = .ok (.iload_n 1, 1) := by decide +kernel
theorem dX6_at_2 : decode cX6_at 2 = .ok (.invokevirtual 108, 3) := by decide +kernel
theorem dX6_at_5 : decode cX6_at 5 = .ok (.aload_n 0, 1) := by decide +kernel
theorem dX6_at_6 : decode cX6_at 6 = .ok (.iload_n 2, 1) := by decide +kernel
theorem dX6_at_7 : decode cX6_at 7 = .ok (.invokevirtual 111, 3) := by decide +kernel
theorem dX6_at_10 : decode cX6_at 10 = .ok (.aload_n 0, 1) := by decide +kernel
theorem dX6_at_11 : decode cX6_at 11 = .ok (.getfield 19, 3) := by decide +kernel
theorem dX6_at_14 : decode cX6_at 14 = .ok (.getfield 114, 3) := by decide +kernel
theorem dX6_at_17 : decode cX6_at 17 = .ok (.iload_n 1, 1) := by decide +kernel
theorem dX6_at_18 : decode cX6_at 18 = .ok (.aaload, 1) := by decide +kernel
theorem dX6_at_19 : decode cX6_at 19 = .ok (.iload_n 2, 1) := by decide +kernel
theorem dX6_at_20 : decode cX6_at 20 = .ok (.iaload, 1) := by decide +kernel
theorem dX6_at_21 : decode cX6_at 21 = .ok (.ireturn, 1) := by decide +kernel
theorem dX6_coefficient_0 : decode cX6_coefficient 0 = .ok (.aload_n 0, 1) := by decide +kernel
theorem dX6_coefficient_1 : decode cX6_coefficient 1 = .ok (.iload_n 1, 1) := by decide +kernel
theorem dX6_coefficient_2 : decode cX6_coefficient 2 = .ok (.invokevirtual 108, 3) := by decide +kernel
theorem dX6_coefficient_5 : decode cX6_coefficient 5 = .ok (.aload_n 0, 1) := by decide +kernel
theorem dX6_coefficient_6 : decode cX6_coefficient 6 = .ok (.iload_n 2, 1) := by decide +kernel
theorem dX6_coefficient_7 : decode cX6_coefficient 7 = .ok (.iconst 0, 1) := by decide +kernel
theorem dX6_coefficient_8 : decode cX6_coefficient 8 = .ok (.aload_n 0, 1) := by decide +kernel
theorem dX6_coefficient_9 : decode cX6_coefficient 9 = .ok (.getfield 10, 3) := by decide +kernel
theorem dX6_coefficient_12 : decode cX6_coefficient 12 = .ok (.getfield 147, 3) := by decide +kernel
theorem dX6_coefficient_15 : decode cX6_coefficient 15 = .ok (.iconst 1, 1) := by decide +kernel
theorem dX6_coefficient_16 : decode cX6_coefficient 16 = .ok (.isub, 1) := by decide +kernel
theorem dX6_coefficient_17 : decode cX6_coefficient 17 = .ok (.invokevirtual 73, 3) := by decide +kernel
theorem dX6_coefficient_20 : decode cX6_coefficient 20 = .ok (.aload_n 0, 1) := by decide +kernel
theorem dX6_coefficient_21 : decode cX6_coefficient 21 = .ok (.getfield 54, 3) := by decide +kernel
theorem dX6_coefficient_24 : decode cX6_coefficient 24 = .ok (.aload_n 0, 1) := by decide +kernel
theorem dX6_coefficient_25 : decode cX6_coefficient 25 = .ok (.getfield 19, 3) := by decide +kernel
theorem dX6_coefficient_28 : decode cX6_coefficient 28 = .ok (.getfield 114, 3) := by decide +kernel
theorem dX6_coefficient_31 : decode cX6_coefficient 31 = .ok (.iload_n 1, 1) := by decide +kernel
theorem dX6_coefficient_32 : decode cX6_coefficient 32 = .ok (.aaload, 1) := by decide +kernel
theorem dX6_coefficient_33 : decode cX6_coefficient 33 = .ok (.iload_n 2, 1) := by decide +kernel
theorem dX6_coefficient_34 : decode cX6_coefficient 34 = .ok (.invokevirtual 166, 3) := by decide +kernel
theorem dX6_coefficient_37 : decode cX6_coefficient 37 = .ok (.ireturn, 1) := by decide +kernel
theorem dX6_degree_0 : decode cX6_degree 0 = .ok (.aload_n 0, 1) := by decide +kernel
theorem dX6_degree_1 : decode cX6_degree 1 = .ok (.iload_n 1, 1) := by decide +kernel
theorem dX6_degree_2 : decode cX6_degree 2 = .ok (.invokevirtual 108, 3) := by decide +kernel
theorem dX6_degree_5 : decode cX6_degree 5 = .ok (.aload_n 0, 1) := by decide +kernel
theorem dX6_degree_6 : decode cX6_degree 6 = .ok (.getfield 54, 3) := by decide +kernel
theorem dX6_degree_9 : decode cX6_degree 9 = .ok (.aload_n 0, 1) := by decide +kernel
theorem dX6_degree_10 : decode cX6_degree 10 = .ok (.getfield 19, 3) := by decide +kernel
theorem dX6_degree_13 : decode cX6_degree 13 = .ok (.getfield 114, 3) := by decide +kernel
theorem dX6_degree_16 : decode cX6_degree 16 = .ok (.iload_n 1, 1) := by decide +kernel
theorem dX6_degree_17 : decode cX6_degree 17 = .ok (.aaload, 1) := by decide +kernel
theorem dX6_degree_18 : decode cX6_degree 18 = .ok (.invokevirtual 170, 3) := by decide +kernel
theorem dX6_degree_21 : decode cX6_degree 21 = .ok (.ireturn, 1) := by decide +kernel
theorem dX6_taken_0 : decode cX6_taken 0 = .ok (.aload_n 0, 1) := by decide +kernel
theorem dX6_taken_1 : decode cX6_taken 1 = .ok (.iload_n 1, 1) := by decide +kernel
theorem dX6_taken_2 : decode cX6_taken 2 = .ok (.invokevirtual 108, 3) := by decide +kernel
theorem dX6_taken_5 : decode cX6_taken 5 = .ok (.aload_n 0, 1) := by decide +kernel
theorem dX6_taken_6 : decode cX6_taken 6 = .ok (.iload_n 2, 1) := by decide +kernel
theorem dX6_taken_7 : decode cX6_taken 7 = .ok (.invokevirtual 111, 3) := by decide +kernel
theorem dX6_taken_10 : decode cX6_taken 10 = .ok (.aload_n 0, 1) := by decide +kernel
theorem dX6_taken_11 : decode cX6_taken 11 = .ok (.getfield 54, 3) := by decide +kernel
theorem dX6_taken_14 : decode cX6_taken 14 = .ok (.aload_n 0, 1) := by decide +kernel
theorem dX6_taken_15 : decode cX6_taken 15 = .ok (.getfield 19, 3) := by decide +kernel
theorem dX6_taken_18 : decode cX6_taken 18 = .ok (.getfield 114, 3) := by decide +kernel
theorem dX6_taken_21 : decode cX6_taken 21 = .ok (.iload_n 1, 1) := by decide +kernel
theorem dX6_taken_22 : decode cX6_taken 22 = .ok (.aaload, 1) := by decide +kernel
theorem dX6_taken_23 : decode cX6_taken 23 = .ok (.iload_n 2, 1) := by decide +kernel
theorem dX6_taken_24 : decode cX6_taken 24 = .ok (.invokevirtual 174, 3) := by decide +kernel
theorem dX6_taken_27 : decode cX6_taken 27 = .ok (.ireturn, 1) := by decide +kernel
theorem dX6_image_0 : decode cX6_image 0 = .ok (.aload_n 0, 1) := by decide +kernel
theorem dX6_image_1 : decode cX6_image 1 = .ok (.iload_n 1, 1) := by decide +kernel
theorem dX6_image_2 : decode cX6_image 2 = .ok (.invokevirtual 108, 3) := by decide +kernel
theorem dX6_image_5 : decode cX6_image 5 = .ok (.aload_n 0, 1) := by decide +kernel
theorem dX6_image_6 : decode cX6_image 6 = .ok (.getfield 54, 3) := by decide +kernel
theorem dX6_image_9 : decode cX6_image 9 = .ok (.aload_n 0, 1) := by decide +kernel
theorem dX6_image_10 : decode cX6_image 10 = .ok (.getfield 19, 3) := by decide +kernel
theorem dX6_image_13 : decode cX6_image 13 = .ok (.getfield 114, 3) := by decide +kernel
theorem dX6_image_16 : decode cX6_image 16 = .ok (.iload_n 1, 1) := by decide +kernel
theorem dX6_image_17 : decode cX6_image 17 = .ok (.aaload, 1) := by decide +kernel
theorem dX6_image_18 : decode cX6_image 18 = .ok (.invokevirtual 177, 3) := by decide +kernel
theorem dX6_image_21 : decode cX6_image 21 = .ok (.ireturn, 1) := by decide +kernel
theorem dX6_permutes_0 : decode cX6_permutes 0 = .ok (.aload_n 0, 1) := by decide +kernel
theorem dX6_permutes_1 : decode cX6_permutes 1 = .ok (.iload_n 1, 1) := by decide +kernel
theorem dX6_permutes_2 : decode cX6_permutes 2 = .ok (.invokevirtual 108, 3) := by decide +kernel
theorem dX6_permutes_5 : decode cX6_permutes 5 = .ok (.aload_n 0, 1) := by decide +kernel
theorem dX6_permutes_6 : decode cX6_permutes 6 = .ok (.getfield 54, 3) := by decide +kernel
theorem dX6_permutes_9 : decode cX6_permutes 9 = .ok (.aload_n 0, 1) := by decide +kernel
theorem dX6_permutes_10 : decode cX6_permutes 10 = .ok (.getfield 19, 3) := by decide +kernel
theorem dX6_permutes_13 : decode cX6_permutes 13 = .ok (.getfield 114, 3) := by decide +kernel
theorem dX6_permutes_16 : decode cX6_permutes 16 = .ok (.iload_n 1, 1) := by decide +kernel
theorem dX6_permutes_17 : decode cX6_permutes 17 = .ok (.aaload, 1) := by decide +kernel
theorem dX6_permutes_18 : decode cX6_permutes 18 = .ok (.invokevirtual 180, 3) := by decide +kernel
theorem dX6_permutes_21 : decode cX6_permutes 21 = .ok (.ifCond .eq 7, 3) := by decide +kernel
theorem dX6_permutes_24 : decode cX6_permutes 24 = .ok (.iconst 1, 1) := by decide +kernel
theorem dX6_permutes_25 : decode cX6_permutes 25 = .ok (.goto 4, 3) := by decide +kernel
theorem dX6_permutes_28 : decode cX6_permutes 28 = .ok (.iconst 0, 1) := by decide +kernel
theorem dX6_permutes_29 : decode cX6_permutes 29 = .ok (.ireturn, 1) := by decide +kernel
theorem dX6_powers_0 : decode cX6_powers 0 = .ok (.aload_n 0, 1) := by decide +kernel
theorem dX6_powers_1 : decode cX6_powers 1 = .ok (.iload_n 1, 1) := by decide +kernel
theorem dX6_powers_2 : decode cX6_powers 2 = .ok (.invokevirtual 108, 3) := by decide +kernel
theorem dX6_powers_5 : decode cX6_powers 5 = .ok (.aload_n 0, 1) := by decide +kernel
theorem dX6_powers_6 : decode cX6_powers 6 = .ok (.getfield 54, 3) := by decide +kernel
theorem dX6_powers_9 : decode cX6_powers 9 = .ok (.aload_n 0, 1) := by decide +kernel
theorem dX6_powers_10 : decode cX6_powers 10 = .ok (.getfield 19, 3) := by decide +kernel
theorem dX6_powers_13 : decode cX6_powers 13 = .ok (.getfield 114, 3) := by decide +kernel
theorem dX6_powers_16 : decode cX6_powers 16 = .ok (.iload_n 1, 1) := by decide +kernel
theorem dX6_powers_17 : decode cX6_powers 17 = .ok (.aaload, 1) := by decide +kernel
theorem dX6_powers_18 : decode cX6_powers 18 = .ok (.invokevirtual 184, 3) := by decide +kernel
theorem dX6_powers_21 : decode cX6_powers 21 = .ok (.ireturn, 1) := by decide +kernel
theorem dX6_cycles_0 : decode cX6_cycles 0 = .ok (.aload_n 0, 1) := by decide +kernel
theorem dX6_cycles_1 : decode cX6_cycles 1 = .ok (.iload_n 1, 1) := by decide +kernel
theorem dX6_cycles_2 : decode cX6_cycles 2 = .ok (.invokevirtual 108, 3) := by decide +kernel
theorem dX6_cycles_5 : decode cX6_cycles 5 = .ok (.aload_n 0, 1) := by decide +kernel
theorem dX6_cycles_6 : decode cX6_cycles 6 = .ok (.iload_n 2, 1) := by decide +kernel
theorem dX6_cycles_7 : decode cX6_cycles 7 = .ok (.iconst 0, 1) := by decide +kernel
theorem dX6_cycles_8 : decode cX6_cycles 8 = .ok (.bipush 64, 2) := by decide +kernel
theorem dX6_cycles_10 : decode cX6_cycles 10 = .ok (.invokevirtual 73, 3) := by decide +kernel
theorem dX6_cycles_13 : decode cX6_cycles 13 = .ok (.aload_n 0, 1) := by decide +kernel
theorem dX6_cycles_14 : decode cX6_cycles 14 = .ok (.iload_n 1, 1) := by decide +kernel
theorem dX6_cycles_15 : decode cX6_cycles 15 = .ok (.invokevirtual 130, 3) := by decide +kernel
theorem dX6_cycles_18 : decode cX6_cycles 18 = .ok (.aload_n 0, 1) := by decide +kernel
theorem dX6_cycles_19 : decode cX6_cycles 19 = .ok (.getfield 54, 3) := by decide +kernel
theorem dX6_cycles_22 : decode cX6_cycles 22 = .ok (.aload_n 0, 1) := by decide +kernel
theorem dX6_cycles_23 : decode cX6_cycles 23 = .ok (.getfield 19, 3) := by decide +kernel
theorem dX6_cycles_26 : decode cX6_cycles 26 = .ok (.getfield 114, 3) := by decide +kernel
theorem dX6_cycles_29 : decode cX6_cycles 29 = .ok (.iload_n 1, 1) := by decide +kernel
theorem dX6_cycles_30 : decode cX6_cycles 30 = .ok (.aaload, 1) := by decide +kernel
theorem dX6_cycles_31 : decode cX6_cycles 31 = .ok (.invokevirtual 187, 3) := by decide +kernel
theorem dX6_cycles_34 : decode cX6_cycles 34 = .ok (.iload_n 2, 1) := by decide +kernel
theorem dX6_cycles_35 : decode cX6_cycles 35 = .ok (.ifCond .ne 13, 3) := by decide +kernel
theorem dX6_cycles_38 : decode cX6_cycles 38 = .ok (.aload_n 0, 1) := by decide +kernel
theorem dX6_cycles_39 : decode cX6_cycles 39 = .ok (.getfield 54, 3) := by decide +kernel
theorem dX6_cycles_42 : decode cX6_cycles 42 = .ok (.getfield 191, 3) := by decide +kernel
theorem dX6_cycles_45 : decode cX6_cycles 45 = .ok (.goto 12, 3) := by decide +kernel
theorem dX6_cycles_48 : decode cX6_cycles 48 = .ok (.aload_n 0, 1) := by decide +kernel
theorem dX6_cycles_49 : decode cX6_cycles 49 = .ok (.getfield 54, 3) := by decide +kernel
theorem dX6_cycles_52 : decode cX6_cycles 52 = .ok (.getfield 194, 3) := by decide +kernel
theorem dX6_cycles_55 : decode cX6_cycles 55 = .ok (.iload_n 2, 1) := by decide +kernel
theorem dX6_cycles_56 : decode cX6_cycles 56 = .ok (.iaload, 1) := by decide +kernel
theorem dX6_cycles_57 : decode cX6_cycles 57 = .ok (.ireturn, 1) := by decide +kernel
theorem dX6_order_0 : decode cX6_order 0 = .ok (.aload_n 0, 1) := by decide +kernel
theorem dX6_order_1 : decode cX6_order 1 = .ok (.iload_n 1, 1) := by decide +kernel
theorem dX6_order_2 : decode cX6_order 2 = .ok (.invokevirtual 108, 3) := by decide +kernel
theorem dX6_order_5 : decode cX6_order 5 = .ok (.aload_n 0, 1) := by decide +kernel
theorem dX6_order_6 : decode cX6_order 6 = .ok (.iload_n 1, 1) := by decide +kernel
theorem dX6_order_7 : decode cX6_order 7 = .ok (.invokevirtual 130, 3) := by decide +kernel
theorem dX6_order_10 : decode cX6_order 10 = .ok (.aload_n 0, 1) := by decide +kernel
theorem dX6_order_11 : decode cX6_order 11 = .ok (.getfield 54, 3) := by decide +kernel
theorem dX6_order_14 : decode cX6_order 14 = .ok (.aload_n 0, 1) := by decide +kernel
theorem dX6_order_15 : decode cX6_order 15 = .ok (.getfield 19, 3) := by decide +kernel
theorem dX6_order_18 : decode cX6_order 18 = .ok (.getfield 114, 3) := by decide +kernel
theorem dX6_order_21 : decode cX6_order 21 = .ok (.iload_n 1, 1) := by decide +kernel
theorem dX6_order_22 : decode cX6_order 22 = .ok (.aaload, 1) := by decide +kernel
theorem dX6_order_23 : decode cX6_order 23 = .ok (.invokevirtual 187, 3) := by decide +kernel
theorem dX6_order_26 : decode cX6_order 26 = .ok (.aload_n 0, 1) := by decide +kernel
theorem dX6_order_27 : decode cX6_order 27 = .ok (.getfield 54, 3) := by decide +kernel
theorem dX6_order_30 : decode cX6_order 30 = .ok (.invokevirtual 197, 3) := by decide +kernel
theorem dX6_order_33 : decode cX6_order 33 = .ok (.ireturn, 1) := by decide +kernel
theorem dX6_even_0 : decode cX6_even 0 = .ok (.aload_n 0, 1) := by decide +kernel
theorem dX6_even_1 : decode cX6_even 1 = .ok (.iload_n 1, 1) := by decide +kernel
theorem dX6_even_2 : decode cX6_even 2 = .ok (.invokevirtual 108, 3) := by decide +kernel
theorem dX6_even_5 : decode cX6_even 5 = .ok (.aload_n 0, 1) := by decide +kernel
theorem dX6_even_6 : decode cX6_even 6 = .ok (.iload_n 1, 1) := by decide +kernel
theorem dX6_even_7 : decode cX6_even 7 = .ok (.invokevirtual 130, 3) := by decide +kernel
theorem dX6_even_10 : decode cX6_even 10 = .ok (.aload_n 0, 1) := by decide +kernel
theorem dX6_even_11 : decode cX6_even 11 = .ok (.getfield 54, 3) := by decide +kernel
theorem dX6_even_14 : decode cX6_even 14 = .ok (.aload_n 0, 1) := by decide +kernel
theorem dX6_even_15 : decode cX6_even 15 = .ok (.getfield 19, 3) := by decide +kernel
theorem dX6_even_18 : decode cX6_even 18 = .ok (.getfield 114, 3) := by decide +kernel
theorem dX6_even_21 : decode cX6_even 21 = .ok (.iload_n 1, 1) := by decide +kernel
theorem dX6_even_22 : decode cX6_even 22 = .ok (.aaload, 1) := by decide +kernel
theorem dX6_even_23 : decode cX6_even 23 = .ok (.invokevirtual 187, 3) := by decide +kernel
theorem dX6_even_26 : decode cX6_even 26 = .ok (.aload_n 0, 1) := by decide +kernel
theorem dX6_even_27 : decode cX6_even 27 = .ok (.getfield 10, 3) := by decide +kernel
theorem dX6_even_30 : decode cX6_even 30 = .ok (.getfield 147, 3) := by decide +kernel
theorem dX6_even_33 : decode cX6_even 33 = .ok (.aload_n 0, 1) := by decide +kernel
theorem dX6_even_34 : decode cX6_even 34 = .ok (.getfield 54, 3) := by decide +kernel
theorem dX6_even_37 : decode cX6_even 37 = .ok (.getfield 191, 3) := by decide +kernel
theorem dX6_even_40 : decode cX6_even 40 = .ok (.isub, 1) := by decide +kernel
theorem dX6_even_41 : decode cX6_even 41 = .ok (.iconst 2, 1) := by decide +kernel
theorem dX6_even_42 : decode cX6_even 42 = .ok (.irem, 1) := by decide +kernel
theorem dX6_even_43 : decode cX6_even 43 = .ok (.ifCond .ne 7, 3) := by decide +kernel
theorem dX6_even_46 : decode cX6_even 46 = .ok (.iconst 1, 1) := by decide +kernel
theorem dX6_even_47 : decode cX6_even 47 = .ok (.goto 4, 3) := by decide +kernel
theorem dX6_even_50 : decode cX6_even 50 = .ok (.iconst 0, 1) := by decide +kernel
theorem dX6_even_51 : decode cX6_even 51 = .ok (.ireturn, 1) := by decide +kernel
theorem dX6_orbit_0 : decode cX6_orbit 0 = .ok (.aload_n 0, 1) := by decide +kernel
theorem dX6_orbit_1 : decode cX6_orbit 1 = .ok (.iload_n 1, 1) := by decide +kernel
theorem dX6_orbit_2 : decode cX6_orbit 2 = .ok (.invokevirtual 111, 3) := by decide +kernel
theorem dX6_orbit_5 : decode cX6_orbit 5 = .ok (.aload_n 0, 1) := by decide +kernel
theorem dX6_orbit_6 : decode cX6_orbit 6 = .ok (.getfield 54, 3) := by decide +kernel
theorem dX6_orbit_9 : decode cX6_orbit 9 = .ok (.iload_n 1, 1) := by decide +kernel
theorem dX6_orbit_10 : decode cX6_orbit 10 = .ok (.aload_n 0, 1) := by decide +kernel
theorem dX6_orbit_11 : decode cX6_orbit 11 = .ok (.getfield 19, 3) := by decide +kernel
theorem dX6_orbit_14 : decode cX6_orbit 14 = .ok (.invokevirtual 201, 3) := by decide +kernel
theorem dX6_orbit_17 : decode cX6_orbit 17 = .ok (.invokestatic 205, 3) := by decide +kernel
theorem dX6_orbit_20 : decode cX6_orbit 20 = .ok (.ireturn, 1) := by decide +kernel
theorem dX6_orbits_0 : decode cX6_orbits 0 = .ok (.lconst 0, 1) := by decide +kernel
theorem dX6_orbits_1 : decode cX6_orbits 1 = .ok (.lstore_n 1, 1) := by decide +kernel
theorem dX6_orbits_2 : decode cX6_orbits 2 = .ok (.iconst 0, 1) := by decide +kernel
theorem dX6_orbits_3 : decode cX6_orbits 3 = .ok (.istore_n 3, 1) := by decide +kernel
theorem dX6_orbits_4 : decode cX6_orbits 4 = .ok (.iconst 0, 1) := by decide +kernel
theorem dX6_orbits_5 : decode cX6_orbits 5 = .ok (.istore 4, 2) := by decide +kernel
theorem dX6_orbits_7 : decode cX6_orbits 7 = .ok (.iload 4, 2) := by decide +kernel
theorem dX6_orbits_9 : decode cX6_orbits 9 = .ok (.aload_n 0, 1) := by decide +kernel
theorem dX6_orbits_10 : decode cX6_orbits 10 = .ok (.getfield 10, 3) := by decide +kernel
theorem dX6_orbits_13 : decode cX6_orbits 13 = .ok (.getfield 147, 3) := by decide +kernel
theorem dX6_orbits_16 : decode cX6_orbits 16 = .ok (.if_icmp .ge 39, 3) := by decide +kernel
theorem dX6_orbits_19 : decode cX6_orbits 19 = .ok (.lload_n 1, 1) := by decide +kernel
theorem dX6_orbits_20 : decode cX6_orbits 20 = .ok (.iload 4, 2) := by decide +kernel
theorem dX6_orbits_22 : decode cX6_orbits 22 = .ok (.lushr, 1) := by decide +kernel
theorem dX6_orbits_23 : decode cX6_orbits 23 = .ok (.lconst 1, 1) := by decide +kernel
theorem dX6_orbits_24 : decode cX6_orbits 24 = .ok (.land, 1) := by decide +kernel
theorem dX6_orbits_25 : decode cX6_orbits 25 = .ok (.lconst 0, 1) := by decide +kernel
theorem dX6_orbits_26 : decode cX6_orbits 26 = .ok (.lcmp, 1) := by decide +kernel
theorem dX6_orbits_27 : decode cX6_orbits 27 = .ok (.ifCond .ne 22, 3) := by decide +kernel
theorem dX6_orbits_30 : decode cX6_orbits 30 = .ok (.lload_n 1, 1) := by decide +kernel
theorem dX6_orbits_31 : decode cX6_orbits 31 = .ok (.aload_n 0, 1) := by decide +kernel
theorem dX6_orbits_32 : decode cX6_orbits 32 = .ok (.getfield 54, 3) := by decide +kernel
theorem dX6_orbits_35 : decode cX6_orbits 35 = .ok (.iload 4, 2) := by decide +kernel
theorem dX6_orbits_37 : decode cX6_orbits 37 = .ok (.aload_n 0, 1) := by decide +kernel
theorem dX6_orbits_38 : decode cX6_orbits 38 = .ok (.getfield 19, 3) := by decide +kernel
theorem dX6_orbits_41 : decode cX6_orbits 41 = .ok (.invokevirtual 201, 3) := by decide +kernel
theorem dX6_orbits_44 : decode cX6_orbits 44 = .ok (.lor, 1) := by decide +kernel
theorem dX6_orbits_45 : decode cX6_orbits 45 = .ok (.lstore_n 1, 1) := by decide +kernel
theorem dX6_orbits_46 : decode cX6_orbits 46 = .ok (.iinc 3 1, 3) := by decide +kernel
theorem dX6_orbits_49 : decode cX6_orbits 49 = .ok (.iinc 4 1, 3) := by decide +kernel
theorem dX6_orbits_52 : decode cX6_orbits 52 = .ok (.goto (-45), 3) := by decide +kernel
theorem dX6_orbits_55 : decode cX6_orbits 55 = .ok (.iload_n 3, 1) := by decide +kernel
theorem dX6_orbits_56 : decode cX6_orbits 56 = .ok (.ireturn, 1) := by decide +kernel
theorem dX6_spread_0 : decode cX6_spread 0 = .ok (.aload_n 0, 1) := by decide +kernel
theorem dX6_spread_1 : decode cX6_spread 1 = .ok (.iload_n 1, 1) := by decide +kernel
theorem dX6_spread_2 : decode cX6_spread 2 = .ok (.invokevirtual 108, 3) := by decide +kernel
theorem dX6_spread_5 : decode cX6_spread 5 = .ok (.aload_n 0, 1) := by decide +kernel
theorem dX6_spread_6 : decode cX6_spread 6 = .ok (.getfield 54, 3) := by decide +kernel
theorem dX6_spread_9 : decode cX6_spread 9 = .ok (.aload_n 0, 1) := by decide +kernel
theorem dX6_spread_10 : decode cX6_spread 10 = .ok (.getfield 19, 3) := by decide +kernel
theorem dX6_spread_13 : decode cX6_spread 13 = .ok (.getfield 114, 3) := by decide +kernel
theorem dX6_spread_16 : decode cX6_spread 16 = .ok (.iload_n 1, 1) := by decide +kernel
theorem dX6_spread_17 : decode cX6_spread 17 = .ok (.aaload, 1) := by decide +kernel
theorem dX6_spread_18 : decode cX6_spread 18 = .ok (.invokevirtual 211, 3) := by decide +kernel
theorem dX6_spread_21 : decode cX6_spread 21 = .ok (.ireturn, 1) := by decide +kernel
theorem dX6_monomials_0 : decode cX6_monomials 0 = .ok (.aload_n 0, 1) := by decide +kernel
theorem dX6_monomials_1 : decode cX6_monomials 1 = .ok (.getfield 54, 3) := by decide +kernel
theorem dX6_monomials_4 : decode cX6_monomials 4 = .ok (.invokevirtual 214, 3) := by decide +kernel
theorem dX6_monomials_7 : decode cX6_monomials 7 = .ok (.lreturn, 1) := by decide +kernel
theorem dX6_dicksons_0 : decode cX6_dicksons 0 = .ok (.aload_n 0, 1) := by decide +kernel
theorem dX6_dicksons_1 : decode cX6_dicksons 1 = .ok (.iload_n 1, 1) := by decide +kernel
theorem dX6_dicksons_2 : decode cX6_dicksons 2 = .ok (.invokevirtual 111, 3) := by decide +kernel
theorem dX6_dicksons_5 : decode cX6_dicksons 5 = .ok (.aload_n 0, 1) := by decide +kernel
theorem dX6_dicksons_6 : decode cX6_dicksons 6 = .ok (.getfield 54, 3) := by decide +kernel
theorem dX6_dicksons_9 : decode cX6_dicksons 9 = .ok (.iload_n 1, 1) := by decide +kernel
theorem dX6_dicksons_10 : decode cX6_dicksons 10 = .ok (.invokevirtual 218, 3) := by decide +kernel
theorem dX6_dicksons_13 : decode cX6_dicksons 13 = .ok (.lreturn, 1) := by decide +kernel
theorem dX6_binomials_0 : decode cX6_binomials 0 = .ok (.aload_n 0, 1) := by decide +kernel
theorem dX6_binomials_1 : decode cX6_binomials 1 = .ok (.iload_n 1, 1) := by decide +kernel
theorem dX6_binomials_2 : decode cX6_binomials 2 = .ok (.iconst 2, 1) := by decide +kernel
theorem dX6_binomials_3 : decode cX6_binomials 3 = .ok (.bipush 63, 2) := by decide +kernel
theorem dX6_binomials_5 : decode cX6_binomials 5 = .ok (.invokevirtual 73, 3) := by decide +kernel
theorem dX6_binomials_8 : decode cX6_binomials 8 = .ok (.aload_n 0, 1) := by decide +kernel
theorem dX6_binomials_9 : decode cX6_binomials 9 = .ok (.getfield 54, 3) := by decide +kernel
theorem dX6_binomials_12 : decode cX6_binomials 12 = .ok (.iload_n 1, 1) := by decide +kernel
theorem dX6_binomials_13 : decode cX6_binomials 13 = .ok (.invokevirtual 222, 3) := by decide +kernel
theorem dX6_binomials_16 : decode cX6_binomials 16 = .ok (.ireturn, 1) := by decide +kernel
theorem dX6_print_0 : decode cX6_print 0 = .ok (.lconst 0, 1) := by decide +kernel
theorem dX6_print_1 : decode cX6_print 1 = .ok (.lstore_n 1, 1) := by decide +kernel
theorem dX6_print_2 : decode cX6_print 2 = .ok (.iconst 0, 1) := by decide +kernel
theorem dX6_print_3 : decode cX6_print 3 = .ok (.istore_n 3, 1) := by decide +kernel
theorem dX6_print_4 : decode cX6_print 4 = .ok (.iload_n 3, 1) := by decide +kernel
theorem dX6_print_5 : decode cX6_print 5 = .ok (.aload_n 0, 1) := by decide +kernel
theorem dX6_print_6 : decode cX6_print 6 = .ok (.getfield 19, 3) := by decide +kernel
theorem dX6_print_9 : decode cX6_print 9 = .ok (.getfield 105, 3) := by decide +kernel
theorem dX6_print_12 : decode cX6_print 12 = .ok (.if_icmp .ge 54, 3) := by decide +kernel
theorem dX6_print_15 : decode cX6_print 15 = .ok (.aload_n 0, 1) := by decide +kernel
theorem dX6_print_16 : decode cX6_print 16 = .ok (.getfield 19, 3) := by decide +kernel
theorem dX6_print_19 : decode cX6_print 19 = .ok (.getfield 114, 3) := by decide +kernel
theorem dX6_print_22 : decode cX6_print 22 = .ok (.iload_n 3, 1) := by decide +kernel
theorem dX6_print_23 : decode cX6_print 23 = .ok (.aaload, 1) := by decide +kernel
theorem dX6_print_24 : decode cX6_print 24 = .ok (.astore 4, 2) := by decide +kernel
theorem dX6_print_26 : decode cX6_print 26 = .ok (.iconst 0, 1) := by decide +kernel
theorem dX6_print_27 : decode cX6_print 27 = .ok (.istore 5, 2) := by decide +kernel
theorem dX6_print_29 : decode cX6_print 29 = .ok (.iload 5, 2) := by decide +kernel
theorem dX6_print_31 : decode cX6_print 31 = .ok (.aload_n 0, 1) := by decide +kernel
theorem dX6_print_32 : decode cX6_print 32 = .ok (.getfield 10, 3) := by decide +kernel
theorem dX6_print_35 : decode cX6_print 35 = .ok (.getfield 147, 3) := by decide +kernel
theorem dX6_print_38 : decode cX6_print 38 = .ok (.if_icmp .ge 22, 3) := by decide +kernel
theorem dX6_print_41 : decode cX6_print 41 = .ok (.ldc2_w 226, 3) := by decide +kernel
theorem dX6_print_44 : decode cX6_print 44 = .ok (.lload_n 1, 1) := by decide +kernel
theorem dX6_print_45 : decode cX6_print 45 = .ok (.lmul, 1) := by decide +kernel
theorem dX6_print_46 : decode cX6_print 46 = .ok (.aload 4, 2) := by decide +kernel
theorem dX6_print_48 : decode cX6_print 48 = .ok (.iload 5, 2) := by decide +kernel
theorem dX6_print_50 : decode cX6_print 50 = .ok (.iaload, 1) := by decide +kernel
theorem dX6_print_51 : decode cX6_print 51 = .ok (.i2l, 1) := by decide +kernel
theorem dX6_print_52 : decode cX6_print 52 = .ok (.ladd, 1) := by decide +kernel
theorem dX6_print_53 : decode cX6_print 53 = .ok (.lstore_n 1, 1) := by decide +kernel
theorem dX6_print_54 : decode cX6_print 54 = .ok (.iinc 5 1, 3) := by decide +kernel
theorem dX6_print_57 : decode cX6_print 57 = .ok (.goto (-28), 3) := by decide +kernel
theorem dX6_print_60 : decode cX6_print 60 = .ok (.iinc 3 1, 3) := by decide +kernel
theorem dX6_print_63 : decode cX6_print 63 = .ok (.goto (-59), 3) := by decide +kernel
theorem dX6_print_66 : decode cX6_print 66 = .ok (.lload_n 1, 1) := by decide +kernel
theorem dX6_print_67 : decode cX6_print 67 = .ok (.lreturn, 1) := by decide +kernel
theorem dX6_status_0 : decode cX6_status 0 = .ok (.iload_n 1, 1) := by decide +kernel
theorem dX6_status_1 : decode cX6_status 1 = .ok (.ifCond .lt 12, 3) := by decide +kernel
theorem dX6_status_4 : decode cX6_status 4 = .ok (.iload_n 1, 1) := by decide +kernel
theorem dX6_status_5 : decode cX6_status 5 = .ok (.aload_n 0, 1) := by decide +kernel
theorem dX6_status_6 : decode cX6_status 6 = .ok (.getfield 58, 3) := by decide +kernel
theorem dX6_status_9 : decode cX6_status 9 = .ok (.arraylength, 1) := by decide +kernel
theorem dX6_status_10 : decode cX6_status 10 = .ok (.if_icmp .lt 7, 3) := by decide +kernel
theorem dX6_status_13 : decode cX6_status 13 = .ok (.iconst (-1), 1) := by decide +kernel
theorem dX6_status_14 : decode cX6_status 14 = .ok (.goto 9, 3) := by decide +kernel
theorem dX6_status_17 : decode cX6_status 17 = .ok (.aload_n 0, 1) := by decide +kernel
theorem dX6_status_18 : decode cX6_status 18 = .ok (.getfield 58, 3) := by decide +kernel
theorem dX6_status_21 : decode cX6_status 21 = .ok (.iload_n 1, 1) := by decide +kernel
theorem dX6_status_22 : decode cX6_status 22 = .ok (.iaload, 1) := by decide +kernel
theorem dX6_status_23 : decode cX6_status 23 = .ok (.ireturn, 1) := by decide +kernel
theorem dX6_needPoly_0 : decode cX6_needPoly 0 = .ok (.iload_n 1, 1) := by decide +kernel
theorem dX6_needPoly_1 : decode cX6_needPoly 1 = .ok (.ifCond .lt 14, 3) := by decide +kernel
theorem dX6_needPoly_4 : decode cX6_needPoly 4 = .ok (.iload_n 1, 1) := by decide +kernel
theorem dX6_needPoly_5 : decode cX6_needPoly 5 = .ok (.aload_n 0, 1) := by decide +kernel
theorem dX6_needPoly_6 : decode cX6_needPoly 6 = .ok (.getfield 19, 3) := by decide +kernel
theorem dX6_needPoly_9 : decode cX6_needPoly 9 = .ok (.getfield 105, 3) := by decide +kernel
theorem dX6_needPoly_12 : decode cX6_needPoly 12 = .ok (.if_icmp .lt 23, 3) := by decide +kernel
theorem dX6_needPoly_15 : decode cX6_needPoly 15 = .ok (.aload_n 0, 1) := by decide +kernel
theorem dX6_needPoly_16 : decode cX6_needPoly 16 = .ok (.getfield 58, 3) := by decide +kernel
theorem dX6_needPoly_19 : decode cX6_needPoly 19 = .ok (.iconst 0, 1) := by decide +kernel
theorem dX6_needPoly_20 : decode cX6_needPoly 20 = .ok (.dup2, 1) := by decide +kernel
theorem dX6_needPoly_21 : decode cX6_needPoly 21 = .ok (.iaload, 1) := by decide +kernel
theorem dX6_needPoly_22 : decode cX6_needPoly 22 = .ok (.iconst 1, 1) := by decide +kernel
theorem dX6_needPoly_23 : decode cX6_needPoly 23 = .ok (.iadd, 1) := by decide +kernel
theorem dX6_needPoly_24 : decode cX6_needPoly 24 = .ok (.iastore, 1) := by decide +kernel
theorem dX6_needPoly_25 : decode cX6_needPoly 25 = .ok (.new 228, 3) := by decide +kernel
theorem dX6_needPoly_28 : decode cX6_needPoly 28 = .ok (.dup, 1) := by decide +kernel
theorem dX6_needPoly_29 : decode cX6_needPoly 29 = .ok (.ldc 230, 2) := by decide +kernel
theorem dX6_needPoly_31 : decode cX6_needPoly 31 = .ok (.invokespecial 232, 3) := by decide +kernel
theorem dX6_needPoly_34 : decode cX6_needPoly 34 = .ok (.athrow, 1) := by decide +kernel
theorem dX6_needPoly_35 : decode cX6_needPoly 35 = .ok (.return_, 1) := by decide +kernel
theorem dX6_needPoint_0 : decode cX6_needPoint 0 = .ok (.iload_n 1, 1) := by decide +kernel
theorem dX6_needPoint_1 : decode cX6_needPoint 1 = .ok (.ifCond .lt 14, 3) := by decide +kernel
theorem dX6_needPoint_4 : decode cX6_needPoint 4 = .ok (.iload_n 1, 1) := by decide +kernel
theorem dX6_needPoint_5 : decode cX6_needPoint 5 = .ok (.aload_n 0, 1) := by decide +kernel
theorem dX6_needPoint_6 : decode cX6_needPoint 6 = .ok (.getfield 10, 3) := by decide +kernel
theorem dX6_needPoint_9 : decode cX6_needPoint 9 = .ok (.getfield 147, 3) := by decide +kernel
theorem dX6_needPoint_12 : decode cX6_needPoint 12 = .ok (.if_icmp .lt 23, 3) := by decide +kernel
theorem dX6_needPoint_15 : decode cX6_needPoint 15 = .ok (.aload_n 0, 1) := by decide +kernel
theorem dX6_needPoint_16 : decode cX6_needPoint 16 = .ok (.getfield 58, 3) := by decide +kernel
theorem dX6_needPoint_19 : decode cX6_needPoint 19 = .ok (.iconst 0, 1) := by decide +kernel
theorem dX6_needPoint_20 : decode cX6_needPoint 20 = .ok (.dup2, 1) := by decide +kernel
theorem dX6_needPoint_21 : decode cX6_needPoint 21 = .ok (.iaload, 1) := by decide +kernel
theorem dX6_needPoint_22 : decode cX6_needPoint 22 = .ok (.iconst 1, 1) := by decide +kernel
theorem dX6_needPoint_23 : decode cX6_needPoint 23 = .ok (.iadd, 1) := by decide +kernel
theorem dX6_needPoint_24 : decode cX6_needPoint 24 = .ok (.iastore, 1) := by decide +kernel
theorem dX6_needPoint_25 : decode cX6_needPoint 25 = .ok (.new 228, 3) := by decide +kernel
theorem dX6_needPoint_28 : decode cX6_needPoint 28 = .ok (.dup, 1) := by decide +kernel
theorem dX6_needPoint_29 : decode cX6_needPoint 29 = .ok (.ldc 235, 2) := by decide +kernel
theorem dX6_needPoint_31 : decode cX6_needPoint 31 = .ok (.invokespecial 232, 3) := by decide +kernel
theorem dX6_needPoint_34 : decode cX6_needPoint 34 = .ok (.athrow, 1) := by decide +kernel
theorem dX6_needPoint_35 : decode cX6_needPoint 35 = .ok (.return_, 1) := by decide +kernel
theorem dX6_needNumber_0 : decode cX6_needNumber 0 = .ok (.iload_n 1, 1) := by decide +kernel
theorem dX6_needNumber_1 : decode cX6_needNumber 1 = .ok (.iload_n 2, 1) := by decide +kernel
theorem dX6_needNumber_2 : decode cX6_needNumber 2 = .ok (.if_icmp .lt 8, 3) := by decide +kernel
theorem dX6_needNumber_5 : decode cX6_needNumber 5 = .ok (.iload_n 1, 1) := by decide +kernel
theorem dX6_needNumber_6 : decode cX6_needNumber 6 = .ok (.iload_n 3, 1) := by decide +kernel
theorem dX6_needNumber_7 : decode cX6_needNumber 7 = .ok (.if_icmp .le 23, 3) := by decide +kernel
theorem dX6_needNumber_10 : decode cX6_needNumber 10 = .ok (.aload_n 0, 1) := by decide +kernel
theorem dX6_needNumber_11 : decode cX6_needNumber 11 = .ok (.getfield 58, 3) := by decide +kernel
theorem dX6_needNumber_14 : decode cX6_needNumber 14 = .ok (.iconst 1, 1) := by decide +kernel
theorem dX6_needNumber_15 : decode cX6_needNumber 15 = .ok (.dup2, 1) := by decide +kernel
theorem dX6_needNumber_16 : decode cX6_needNumber 16 = .ok (.iaload, 1) := by decide +kernel
theorem dX6_needNumber_17 : decode cX6_needNumber 17 = .ok (.iconst 1, 1) := by decide +kernel
theorem dX6_needNumber_18 : decode cX6_needNumber 18 = .ok (.iadd, 1) := by decide +kernel
theorem dX6_needNumber_19 : decode cX6_needNumber 19 = .ok (.iastore, 1) := by decide +kernel
theorem dX6_needNumber_20 : decode cX6_needNumber 20 = .ok (.new 237, 3) := by decide +kernel
theorem dX6_needNumber_23 : decode cX6_needNumber 23 = .ok (.dup, 1) := by decide +kernel
theorem dX6_needNumber_24 : decode cX6_needNumber 24 = .ok (.ldc 239, 2) := by decide +kernel
theorem dX6_needNumber_26 : decode cX6_needNumber 26 = .ok (.invokespecial 241, 3) := by decide +kernel
theorem dX6_needNumber_29 : decode cX6_needNumber 29 = .ok (.athrow, 1) := by decide +kernel
theorem dX6_needNumber_30 : decode cX6_needNumber 30 = .ok (.return_, 1) := by decide +kernel
theorem dX6_needRoom_0 : decode cX6_needRoom 0 = .ok (.aload_n 0, 1) := by decide +kernel
theorem dX6_needRoom_1 : decode cX6_needRoom 1 = .ok (.getfield 19, 3) := by decide +kernel
theorem dX6_needRoom_4 : decode cX6_needRoom 4 = .ok (.getfield 105, 3) := by decide +kernel
theorem dX6_needRoom_7 : decode cX6_needRoom 7 = .ok (.bipush 6, 2) := by decide +kernel
theorem dX6_needRoom_9 : decode cX6_needRoom 9 = .ok (.if_icmp .lt 23, 3) := by decide +kernel
theorem dX6_needRoom_12 : decode cX6_needRoom 12 = .ok (.aload_n 0, 1) := by decide +kernel
theorem dX6_needRoom_13 : decode cX6_needRoom 13 = .ok (.getfield 58, 3) := by decide +kernel
theorem dX6_needRoom_16 : decode cX6_needRoom 16 = .ok (.iconst 2, 1) := by decide +kernel
theorem dX6_needRoom_17 : decode cX6_needRoom 17 = .ok (.dup2, 1) := by decide +kernel
theorem dX6_needRoom_18 : decode cX6_needRoom 18 = .ok (.iaload, 1) := by decide +kernel
theorem dX6_needRoom_19 : decode cX6_needRoom 19 = .ok (.iconst 1, 1) := by decide +kernel
theorem dX6_needRoom_20 : decode cX6_needRoom 20 = .ok (.iadd, 1) := by decide +kernel
theorem dX6_needRoom_21 : decode cX6_needRoom 21 = .ok (.iastore, 1) := by decide +kernel
theorem dX6_needRoom_22 : decode cX6_needRoom 22 = .ok (.new 242, 3) := by decide +kernel
theorem dX6_needRoom_25 : decode cX6_needRoom 25 = .ok (.dup, 1) := by decide +kernel
theorem dX6_needRoom_26 : decode cX6_needRoom 26 = .ok (.ldc 244, 2) := by decide +kernel
theorem dX6_needRoom_28 : decode cX6_needRoom 28 = .ok (.invokespecial 246, 3) := by decide +kernel
theorem dX6_needRoom_31 : decode cX6_needRoom 31 = .ok (.athrow, 1) := by decide +kernel
theorem dX6_needRoom_32 : decode cX6_needRoom 32 = .ok (.return_, 1) := by decide +kernel
theorem dX6_needPermuting_0 : decode cX6_needPermuting 0 = .ok (.aload_n 0, 1) := by decide +kernel
theorem dX6_needPermuting_1 : decode cX6_needPermuting 1 = .ok (.getfield 54, 3) := by decide +kernel
theorem dX6_needPermuting_4 : decode cX6_needPermuting 4 = .ok (.aload_n 0, 1) := by decide +kernel
theorem dX6_needPermuting_5 : decode cX6_needPermuting 5 = .ok (.getfield 19, 3) := by decide +kernel
theorem dX6_needPermuting_8 : decode cX6_needPermuting 8 = .ok (.getfield 114, 3) := by decide +kernel
theorem dX6_needPermuting_11 : decode cX6_needPermuting 11 = .ok (.iload_n 1, 1) := by decide +kernel
theorem dX6_needPermuting_12 : decode cX6_needPermuting 12 = .ok (.aaload, 1) := by decide +kernel
theorem dX6_needPermuting_13 : decode cX6_needPermuting 13 = .ok (.invokevirtual 180, 3) := by decide +kernel
theorem dX6_needPermuting_16 : decode cX6_needPermuting 16 = .ok (.ifCond .ne 23, 3) := by decide +kernel
theorem dX6_needPermuting_19 : decode cX6_needPermuting 19 = .ok (.aload_n 0, 1) := by decide +kernel
theorem dX6_needPermuting_20 : decode cX6_needPermuting 20 = .ok (.getfield 58, 3) := by decide +kernel
theorem dX6_needPermuting_23 : decode cX6_needPermuting 23 = .ok (.iconst 2, 1) := by decide +kernel
theorem dX6_needPermuting_24 : decode cX6_needPermuting 24 = .ok (.dup2, 1) := by decide +kernel
theorem dX6_needPermuting_25 : decode cX6_needPermuting 25 = .ok (.iaload, 1) := by decide +kernel
theorem dX6_needPermuting_26 : decode cX6_needPermuting 26 = .ok (.iconst 1, 1) := by decide +kernel
theorem dX6_needPermuting_27 : decode cX6_needPermuting 27 = .ok (.iadd, 1) := by decide +kernel
theorem dX6_needPermuting_28 : decode cX6_needPermuting 28 = .ok (.iastore, 1) := by decide +kernel
theorem dX6_needPermuting_29 : decode cX6_needPermuting 29 = .ok (.new 242, 3) := by decide +kernel
theorem dX6_needPermuting_32 : decode cX6_needPermuting 32 = .ok (.dup, 1) := by decide +kernel
theorem dX6_needPermuting_33 : decode cX6_needPermuting 33 = .ok (.ldc 247, 2) := by decide +kernel
theorem dX6_needPermuting_35 : decode cX6_needPermuting 35 = .ok (.invokespecial 246, 3) := by decide +kernel
theorem dX6_needPermuting_38 : decode cX6_needPermuting 38 = .ok (.athrow, 1) := by decide +kernel
theorem dX6_needPermuting_39 : decode cX6_needPermuting 39 = .ok (.return_, 1) := by decide +kernel
