theorem dX7_takesValues_17 : decode cX7_takesValues 17 = .ok (.iload_n 2, 1) := by decide +kernel
theorem dX7_takesValues_18 : decode cX7_takesValues 18 = .ok (.invokevirtual 237, 3) := by decide +kernel
theorem dX7_takesValues_21 : decode cX7_takesValues 21 = .ok (.iastore, 1) := by decide +kernel
theorem dX7_takesValues_22 : decode cX7_takesValues 22 = .ok (.iinc 2 1, 3) := by decide +kernel
theorem dX7_takesValues_25 : decode cX7_takesValues 25 = .ok (.goto (-23), 3) := by decide +kernel
theorem dX7_takesValues_28 : decode cX7_takesValues 28 = .ok (.return_, 1) := by decide +kernel
theorem dX7_comes_0 : decode cX7_comes 0 = .ok (.aload_n 0, 1) := by decide +kernel
theorem dX7_comes_1 : decode cX7_comes 1 = .ok (.invokevirtual 227, 3) := by decide +kernel
theorem dX7_comes_4 : decode cX7_comes 4 = .ok (.iconst 0, 1) := by decide +kernel
theorem dX7_comes_5 : decode cX7_comes 5 = .ok (.istore_n 1, 1) := by decide +kernel
theorem dX7_comes_6 : decode cX7_comes 6 = .ok (.iload_n 1, 1) := by decide +kernel
theorem dX7_comes_7 : decode cX7_comes 7 = .ok (.aload_n 0, 1) := by decide +kernel
theorem dX7_comes_8 : decode cX7_comes 8 = .ok (.getfield 92, 3) := by decide +kernel
theorem dX7_comes_11 : decode cX7_comes 11 = .ok (.if_icmp .ge 33, 3) := by decide +kernel
theorem dX7_comes_14 : decode cX7_comes 14 = .ok (.aload_n 0, 1) := by decide +kernel
theorem dX7_comes_15 : decode cX7_comes 15 = .ok (.getfield 20, 3) := by decide +kernel
theorem dX7_comes_18 : decode cX7_comes 18 = .ok (.iconst 3, 1) := by decide +kernel
theorem dX7_comes_19 : decode cX7_comes 19 = .ok (.bipush 64, 2) := by decide +kernel
theorem dX7_comes_21 : decode cX7_comes 21 = .ok (.aload_n 0, 1) := by decide +kernel
theorem dX7_comes_22 : decode cX7_comes 22 = .ok (.getfield 20, 3) := by decide +kernel
theorem dX7_comes_25 : decode cX7_comes 25 = .ok (.iconst 2, 1) := by decide +kernel
theorem dX7_comes_26 : decode cX7_comes 26 = .ok (.iaload, 1) := by decide +kernel
theorem dX7_comes_27 : decode cX7_comes 27 = .ok (.imul, 1) := by decide +kernel
theorem dX7_comes_28 : decode cX7_comes 28 = .ok (.iadd, 1) := by decide +kernel
theorem dX7_comes_29 : decode cX7_comes 29 = .ok (.iload_n 1, 1) := by decide +kernel
theorem dX7_comes_30 : decode cX7_comes 30 = .ok (.iadd, 1) := by decide +kernel
theorem dX7_comes_31 : decode cX7_comes 31 = .ok (.aload_n 0, 1) := by decide +kernel
theorem dX7_comes_32 : decode cX7_comes 32 = .ok (.getfield 46, 3) := by decide +kernel
theorem dX7_comes_35 : decode cX7_comes 35 = .ok (.iload_n 1, 1) := by decide +kernel
theorem dX7_comes_36 : decode cX7_comes 36 = .ok (.iaload, 1) := by decide +kernel
theorem dX7_comes_37 : decode cX7_comes 37 = .ok (.iastore, 1) := by decide +kernel
theorem dX7_comes_38 : decode cX7_comes 38 = .ok (.iinc 1 1, 3) := by decide +kernel
theorem dX7_comes_41 : decode cX7_comes 41 = .ok (.goto (-35), 3) := by decide +kernel
theorem dX7_comes_44 : decode cX7_comes 44 = .ok (.aload_n 0, 1) := by decide +kernel
theorem dX7_comes_45 : decode cX7_comes 45 = .ok (.getfield 20, 3) := by decide +kernel
theorem dX7_comes_48 : decode cX7_comes 48 = .ok (.iconst 2, 1) := by decide +kernel
theorem dX7_comes_49 : decode cX7_comes 49 = .ok (.dup2, 1) := by decide +kernel
theorem dX7_comes_50 : decode cX7_comes 50 = .ok (.iaload, 1) := by decide +kernel
theorem dX7_comes_51 : decode cX7_comes 51 = .ok (.iconst 1, 1) := by decide +kernel
theorem dX7_comes_52 : decode cX7_comes 52 = .ok (.iadd, 1) := by decide +kernel
theorem dX7_comes_53 : decode cX7_comes 53 = .ok (.iastore, 1) := by decide +kernel
theorem dX7_comes_54 : decode cX7_comes 54 = .ok (.aload_n 0, 1) := by decide +kernel
theorem dX7_comes_55 : decode cX7_comes 55 = .ok (.getfield 20, 3) := by decide +kernel
theorem dX7_comes_58 : decode cX7_comes 58 = .ok (.iconst 2, 1) := by decide +kernel
theorem dX7_comes_59 : decode cX7_comes 59 = .ok (.iaload, 1) := by decide +kernel
theorem dX7_comes_60 : decode cX7_comes 60 = .ok (.iconst 1, 1) := by decide +kernel
theorem dX7_comes_61 : decode cX7_comes 61 = .ok (.isub, 1) := by decide +kernel
theorem dX7_comes_62 : decode cX7_comes 62 = .ok (.ireturn, 1) := by decide +kernel
theorem dX7_isFull_0 : decode cX7_isFull 0 = .ok (.aload_n 0, 1) := by decide +kernel
theorem dX7_isFull_1 : decode cX7_isFull 1 = .ok (.getfield 20, 3) := by decide +kernel
theorem dX7_isFull_4 : decode cX7_isFull 4 = .ok (.iconst 2, 1) := by decide +kernel
theorem dX7_isFull_5 : decode cX7_isFull 5 = .ok (.iaload, 1) := by decide +kernel
theorem dX7_isFull_6 : decode cX7_isFull 6 = .ok (.bipush 6, 2) := by decide +kernel
theorem dX7_isFull_8 : decode cX7_isFull 8 = .ok (.if_icmp .ne 7, 3) := by decide +kernel
theorem dX7_isFull_11 : decode cX7_isFull 11 = .ok (.iconst 1, 1) := by decide +kernel
theorem dX7_isFull_12 : decode cX7_isFull 12 = .ok (.goto 4, 3) := by decide +kernel
theorem dX7_isFull_15 : decode cX7_isFull 15 = .ok (.iconst 0, 1) := by decide +kernel
theorem dX7_isFull_16 : decode cX7_isFull 16 = .ok (.ireturn, 1) := by decide +kernel
theorem dX7_value_0 : decode cX7_value 0 = .ok (.aload_n 0, 1) := by decide +kernel
theorem dX7_value_1 : decode cX7_value 1 = .ok (.invokevirtual 240, 3) := by decide +kernel
theorem dX7_value_4 : decode cX7_value 4 = .ok (.aload_n 0, 1) := by decide +kernel
theorem dX7_value_5 : decode cX7_value 5 = .ok (.aload_n 0, 1) := by decide +kernel
theorem dX7_value_6 : decode cX7_value 6 = .ok (.iload_n 1, 1) := by decide +kernel
theorem dX7_value_7 : decode cX7_value 7 = .ok (.invokevirtual 243, 3) := by decide +kernel
theorem dX7_value_10 : decode cX7_value 10 = .ok (.ifCond .eq 19, 3) := by decide +kernel
theorem dX7_value_13 : decode cX7_value 13 = .ok (.aload_n 0, 1) := by decide +kernel
theorem dX7_value_14 : decode cX7_value 14 = .ok (.iload_n 2, 1) := by decide +kernel
theorem dX7_value_15 : decode cX7_value 15 = .ok (.invokevirtual 246, 3) := by decide +kernel
theorem dX7_value_18 : decode cX7_value 18 = .ok (.ifCond .eq 11, 3) := by decide +kernel
theorem dX7_value_21 : decode cX7_value 21 = .ok (.aload_n 0, 1) := by decide +kernel
theorem dX7_value_22 : decode cX7_value 22 = .ok (.iload_n 3, 1) := by decide +kernel
theorem dX7_value_23 : decode cX7_value 23 = .ok (.invokevirtual 246, 3) := by decide +kernel
theorem dX7_value_26 : decode cX7_value 26 = .ok (.ifCond .ne 7, 3) := by decide +kernel
theorem dX7_value_29 : decode cX7_value 29 = .ok (.iconst 1, 1) := by decide +kernel
theorem dX7_value_30 : decode cX7_value 30 = .ok (.goto 4, 3) := by decide +kernel
theorem dX7_value_33 : decode cX7_value 33 = .ok (.iconst 0, 1) := by decide +kernel
theorem dX7_value_34 : decode cX7_value 34 = .ok (.iconst 1, 1) := by decide +kernel
theorem dX7_value_35 : decode cX7_value 35 = .ok (.iconst 0, 1) := by decide +kernel
theorem dX7_value_36 : decode cX7_value 36 = .ok (.invokevirtual 215, 3) := by decide +kernel
theorem dX7_value_39 : decode cX7_value 39 = .ok (.ifCond .eq 5, 3) := by decide +kernel
theorem dX7_value_42 : decode cX7_value 42 = .ok (.iconst 0, 1) := by decide +kernel
theorem dX7_value_43 : decode cX7_value 43 = .ok (.ireturn, 1) := by decide +kernel
theorem dX7_value_44 : decode cX7_value 44 = .ok (.aload_n 0, 1) := by decide +kernel
theorem dX7_value_45 : decode cX7_value 45 = .ok (.invokevirtual 227, 3) := by decide +kernel
theorem dX7_value_48 : decode cX7_value 48 = .ok (.aload_n 0, 1) := by decide +kernel
theorem dX7_value_49 : decode cX7_value 49 = .ok (.iload_n 1, 1) := by decide +kernel
theorem dX7_value_50 : decode cX7_value 50 = .ok (.iload_n 2, 1) := by decide +kernel
theorem dX7_value_51 : decode cX7_value 51 = .ok (.invokevirtual 237, 3) := by decide +kernel
theorem dX7_value_54 : decode cX7_value 54 = .ok (.istore 4, 2) := by decide +kernel
theorem dX7_value_56 : decode cX7_value 56 = .ok (.aload_n 0, 1) := by decide +kernel
theorem dX7_value_57 : decode cX7_value 57 = .ok (.getfield 20, 3) := by decide +kernel
theorem dX7_value_60 : decode cX7_value 60 = .ok (.iconst 3, 1) := by decide +kernel
theorem dX7_value_61 : decode cX7_value 61 = .ok (.bipush 64, 2) := by decide +kernel
theorem dX7_value_63 : decode cX7_value 63 = .ok (.iload_n 1, 1) := by decide +kernel
theorem dX7_value_64 : decode cX7_value 64 = .ok (.imul, 1) := by decide +kernel
theorem dX7_value_65 : decode cX7_value 65 = .ok (.iadd, 1) := by decide +kernel
theorem dX7_value_66 : decode cX7_value 66 = .ok (.iload_n 2, 1) := by decide +kernel
theorem dX7_value_67 : decode cX7_value 67 = .ok (.iadd, 1) := by decide +kernel
theorem dX7_value_68 : decode cX7_value 68 = .ok (.iload_n 3, 1) := by decide +kernel
theorem dX7_value_69 : decode cX7_value 69 = .ok (.iastore, 1) := by decide +kernel
theorem dX7_value_70 : decode cX7_value 70 = .ok (.iload 4, 2) := by decide +kernel
theorem dX7_value_72 : decode cX7_value 72 = .ok (.ireturn, 1) := by decide +kernel
theorem dX7_after_0 : decode cX7_after 0 = .ok (.aload_n 0, 1) := by decide +kernel
theorem dX7_after_1 : decode cX7_after 1 = .ok (.invokevirtual 240, 3) := by decide +kernel
theorem dX7_after_4 : decode cX7_after 4 = .ok (.aload_n 0, 1) := by decide +kernel
theorem dX7_after_5 : decode cX7_after 5 = .ok (.aload_n 0, 1) := by decide +kernel
theorem dX7_after_6 : decode cX7_after 6 = .ok (.iload_n 1, 1) := by decide +kernel
theorem dX7_after_7 : decode cX7_after 7 = .ok (.invokevirtual 243, 3) := by decide +kernel
theorem dX7_after_10 : decode cX7_after 10 = .ok (.ifCond .eq 11, 3) := by decide +kernel
theorem dX7_after_13 : decode cX7_after 13 = .ok (.aload_n 0, 1) := by decide +kernel
theorem dX7_after_14 : decode cX7_after 14 = .ok (.iload_n 2, 1) := by decide +kernel
theorem dX7_after_15 : decode cX7_after 15 = .ok (.invokevirtual 243, 3) := by decide +kernel
theorem dX7_after_18 : decode cX7_after 18 = .ok (.ifCond .ne 7, 3) := by decide +kernel
theorem dX7_after_21 : decode cX7_after 21 = .ok (.iconst 1, 1) := by decide +kernel
theorem dX7_after_22 : decode cX7_after 22 = .ok (.goto 4, 3) := by decide +kernel
theorem dX7_after_25 : decode cX7_after 25 = .ok (.iconst 0, 1) := by decide +kernel
theorem dX7_after_26 : decode cX7_after 26 = .ok (.iconst 1, 1) := by decide +kernel
theorem dX7_after_27 : decode cX7_after 27 = .ok (.iconst 0, 1) := by decide +kernel
theorem dX7_after_28 : decode cX7_after 28 = .ok (.invokevirtual 215, 3) := by decide +kernel
theorem dX7_after_31 : decode cX7_after 31 = .ok (.ifCond .ne 16, 3) := by decide +kernel
theorem dX7_after_34 : decode cX7_after 34 = .ok (.aload_n 0, 1) := by decide +kernel
theorem dX7_after_35 : decode cX7_after 35 = .ok (.aload_n 0, 1) := by decide +kernel
theorem dX7_after_36 : decode cX7_after 36 = .ok (.invokevirtual 249, 3) := by decide +kernel
theorem dX7_after_39 : decode cX7_after 39 = .ok (.iconst 2, 1) := by decide +kernel
theorem dX7_after_40 : decode cX7_after 40 = .ok (.iconst 2, 1) := by decide +kernel
theorem dX7_after_41 : decode cX7_after 41 = .ok (.invokevirtual 215, 3) := by decide +kernel
theorem dX7_after_44 : decode cX7_after 44 = .ok (.ifCond .eq 5, 3) := by decide +kernel
theorem dX7_after_47 : decode cX7_after 47 = .ok (.iconst 0, 1) := by decide +kernel
theorem dX7_after_48 : decode cX7_after 48 = .ok (.ireturn, 1) := by decide +kernel
theorem dX7_after_49 : decode cX7_after 49 = .ok (.iconst 0, 1) := by decide +kernel
theorem dX7_after_50 : decode cX7_after 50 = .ok (.istore_n 3, 1) := by decide +kernel
theorem dX7_after_51 : decode cX7_after 51 = .ok (.iload_n 3, 1) := by decide +kernel
theorem dX7_after_52 : decode cX7_after 52 = .ok (.aload_n 0, 1) := by decide +kernel
theorem dX7_after_53 : decode cX7_after 53 = .ok (.getfield 92, 3) := by decide +kernel
theorem dX7_after_56 : decode cX7_after 56 = .ok (.if_icmp .ge 26, 3) := by decide +kernel
theorem dX7_after_59 : decode cX7_after 59 = .ok (.aload_n 0, 1) := by decide +kernel
theorem dX7_after_60 : decode cX7_after 60 = .ok (.getfield 46, 3) := by decide +kernel
theorem dX7_after_63 : decode cX7_after 63 = .ok (.iload_n 3, 1) := by decide +kernel
theorem dX7_after_64 : decode cX7_after 64 = .ok (.aload_n 0, 1) := by decide +kernel
theorem dX7_after_65 : decode cX7_after 65 = .ok (.iload_n 1, 1) := by decide +kernel
theorem dX7_after_66 : decode cX7_after 66 = .ok (.aload_n 0, 1) := by decide +kernel
theorem dX7_after_67 : decode cX7_after 67 = .ok (.iload_n 2, 1) := by decide +kernel
theorem dX7_after_68 : decode cX7_after 68 = .ok (.iload_n 3, 1) := by decide +kernel
theorem dX7_after_69 : decode cX7_after 69 = .ok (.invokevirtual 237, 3) := by decide +kernel
theorem dX7_after_72 : decode cX7_after 72 = .ok (.invokevirtual 237, 3) := by decide +kernel
theorem dX7_after_75 : decode cX7_after 75 = .ok (.iastore, 1) := by decide +kernel
theorem dX7_after_76 : decode cX7_after 76 = .ok (.iinc 3 1, 3) := by decide +kernel
theorem dX7_after_79 : decode cX7_after 79 = .ok (.goto (-28), 3) := by decide +kernel
theorem dX7_after_82 : decode cX7_after 82 = .ok (.aload_n 0, 1) := by decide +kernel
theorem dX7_after_83 : decode cX7_after 83 = .ok (.invokevirtual 252, 3) := by decide +kernel
theorem dX7_after_86 : decode cX7_after 86 = .ok (.ireturn, 1) := by decide +kernel
theorem dX7_putsBehind_0 : decode cX7_putsBehind 0 = .ok (.iconst 0, 1) := by decide +kernel
theorem dX7_putsBehind_1 : decode cX7_putsBehind 1 = .ok (.istore_n 3, 1) := by decide +kernel
theorem dX7_putsBehind_2 : decode cX7_putsBehind 2 = .ok (.iload_n 3, 1) := by decide +kernel
theorem dX7_putsBehind_3 : decode cX7_putsBehind 3 = .ok (.aload_n 0, 1) := by decide +kernel
theorem dX7_putsBehind_4 : decode cX7_putsBehind 4 = .ok (.getfield 92, 3) := by decide +kernel
theorem dX7_putsBehind_7 : decode cX7_putsBehind 7 = .ok (.if_icmp .ge 20, 3) := by decide +kernel
theorem dX7_putsBehind_10 : decode cX7_putsBehind 10 = .ok (.aload_n 0, 1) := by decide +kernel
theorem dX7_putsBehind_11 : decode cX7_putsBehind 11 = .ok (.getfield 52, 3) := by decide +kernel
theorem dX7_putsBehind_14 : decode cX7_putsBehind 14 = .ok (.iload_n 3, 1) := by decide +kernel
theorem dX7_putsBehind_15 : decode cX7_putsBehind 15 = .ok (.aload_n 2, 1) := by decide +kernel
theorem dX7_putsBehind_16 : decode cX7_putsBehind 16 = .ok (.aload_n 1, 1) := by decide +kernel
theorem dX7_putsBehind_17 : decode cX7_putsBehind 17 = .ok (.iload_n 3, 1) := by decide +kernel
theorem dX7_putsBehind_18 : decode cX7_putsBehind 18 = .ok (.iaload, 1) := by decide +kernel
theorem dX7_putsBehind_19 : decode cX7_putsBehind 19 = .ok (.iaload, 1) := by decide +kernel
theorem dX7_putsBehind_20 : decode cX7_putsBehind 20 = .ok (.iastore, 1) := by decide +kernel
theorem dX7_putsBehind_21 : decode cX7_putsBehind 21 = .ok (.iinc 3 1, 3) := by decide +kernel
theorem dX7_putsBehind_24 : decode cX7_putsBehind 24 = .ok (.goto (-22), 3) := by decide +kernel
theorem dX7_putsBehind_27 : decode cX7_putsBehind 27 = .ok (.iconst 0, 1) := by decide +kernel
theorem dX7_putsBehind_28 : decode cX7_putsBehind 28 = .ok (.istore_n 3, 1) := by decide +kernel
theorem dX7_putsBehind_29 : decode cX7_putsBehind 29 = .ok (.iload_n 3, 1) := by decide +kernel
theorem dX7_putsBehind_30 : decode cX7_putsBehind 30 = .ok (.aload_n 0, 1) := by decide +kernel
theorem dX7_putsBehind_31 : decode cX7_putsBehind 31 = .ok (.getfield 92, 3) := by decide +kernel
theorem dX7_putsBehind_34 : decode cX7_putsBehind 34 = .ok (.if_icmp .ge 18, 3) := by decide +kernel
theorem dX7_putsBehind_37 : decode cX7_putsBehind 37 = .ok (.aload_n 1, 1) := by decide +kernel
theorem dX7_putsBehind_38 : decode cX7_putsBehind 38 = .ok (.iload_n 3, 1) := by decide +kernel
theorem dX7_putsBehind_39 : decode cX7_putsBehind 39 = .ok (.aload_n 0, 1) := by decide +kernel
theorem dX7_putsBehind_40 : decode cX7_putsBehind 40 = .ok (.getfield 52, 3) := by decide +kernel
theorem dX7_putsBehind_43 : decode cX7_putsBehind 43 = .ok (.iload_n 3, 1) := by decide +kernel
theorem dX7_putsBehind_44 : decode cX7_putsBehind 44 = .ok (.iaload, 1) := by decide +kernel
theorem dX7_putsBehind_45 : decode cX7_putsBehind 45 = .ok (.iastore, 1) := by decide +kernel
theorem dX7_putsBehind_46 : decode cX7_putsBehind 46 = .ok (.iinc 3 1, 3) := by decide +kernel
theorem dX7_putsBehind_49 : decode cX7_putsBehind 49 = .ok (.goto (-20), 3) := by decide +kernel
theorem dX7_putsBehind_52 : decode cX7_putsBehind 52 = .ok (.return_, 1) := by decide +kernel
theorem dX7_again_0 : decode cX7_again 0 = .ok (.aload_n 0, 1) := by decide +kernel
theorem dX7_again_1 : decode cX7_again 1 = .ok (.invokevirtual 240, 3) := by decide +kernel
theorem dX7_again_4 : decode cX7_again 4 = .ok (.aload_n 0, 1) := by decide +kernel
theorem dX7_again_5 : decode cX7_again 5 = .ok (.aload_n 0, 1) := by decide +kernel
theorem dX7_again_6 : decode cX7_again 6 = .ok (.iload_n 1, 1) := by decide +kernel
theorem dX7_again_7 : decode cX7_again 7 = .ok (.invokevirtual 243, 3) := by decide +kernel
theorem dX7_again_10 : decode cX7_again 10 = .ok (.ifCond .ne 7, 3) := by decide +kernel
theorem dX7_again_13 : decode cX7_again 13 = .ok (.iconst 1, 1) := by decide +kernel
theorem dX7_again_14 : decode cX7_again 14 = .ok (.goto 4, 3) := by decide +kernel
theorem dX7_again_17 : decode cX7_again 17 = .ok (.iconst 0, 1) := by decide +kernel
theorem dX7_again_18 : decode cX7_again 18 = .ok (.iconst 1, 1) := by decide +kernel
theorem dX7_again_19 : decode cX7_again 19 = .ok (.iconst 0, 1) := by decide +kernel
theorem dX7_again_20 : decode cX7_again 20 = .ok (.invokevirtual 215, 3) := by decide +kernel
theorem dX7_again_23 : decode cX7_again 23 = .ok (.ifCond .ne 42, 3) := by decide +kernel
theorem dX7_again_26 : decode cX7_again 26 = .ok (.aload_n 0, 1) := by decide +kernel
theorem dX7_again_27 : decode cX7_again 27 = .ok (.iload_n 2, 1) := by decide +kernel
theorem dX7_again_28 : decode cX7_again 28 = .ok (.i2l, 1) := by decide +kernel
theorem dX7_again_29 : decode cX7_again 29 = .ok (.lconst 0, 1) := by decide +kernel
theorem dX7_again_30 : decode cX7_again 30 = .ok (.ldc2_w 255, 3) := by decide +kernel
theorem dX7_again_33 : decode cX7_again 33 = .ok (.invokestatic 154, 3) := by decide +kernel
theorem dX7_again_36 : decode cX7_again 36 = .ok (.ifCond .ne 7, 3) := by decide +kernel
theorem dX7_again_39 : decode cX7_again 39 = .ok (.iconst 1, 1) := by decide +kernel
theorem dX7_again_40 : decode cX7_again 40 = .ok (.goto 4, 3) := by decide +kernel
theorem dX7_again_43 : decode cX7_again 43 = .ok (.iconst 0, 1) := by decide +kernel
theorem dX7_again_44 : decode cX7_again 44 = .ok (.iconst 2, 1) := by decide +kernel
theorem dX7_again_45 : decode cX7_again 45 = .ok (.iconst 1, 1) := by decide +kernel
theorem dX7_again_46 : decode cX7_again 46 = .ok (.invokevirtual 215, 3) := by decide +kernel
theorem dX7_again_49 : decode cX7_again 49 = .ok (.ifCond .ne 16, 3) := by decide +kernel
theorem dX7_again_52 : decode cX7_again 52 = .ok (.aload_n 0, 1) := by decide +kernel
theorem dX7_again_53 : decode cX7_again 53 = .ok (.aload_n 0, 1) := by decide +kernel
theorem dX7_again_54 : decode cX7_again 54 = .ok (.invokevirtual 249, 3) := by decide +kernel
theorem dX7_again_57 : decode cX7_again 57 = .ok (.iconst 3, 1) := by decide +kernel
theorem dX7_again_58 : decode cX7_again 58 = .ok (.iconst 2, 1) := by decide +kernel
theorem dX7_again_59 : decode cX7_again 59 = .ok (.invokevirtual 215, 3) := by decide +kernel
theorem dX7_again_62 : decode cX7_again 62 = .ok (.ifCond .eq 5, 3) := by decide +kernel
theorem dX7_again_65 : decode cX7_again 65 = .ok (.iconst 0, 1) := by decide +kernel
theorem dX7_again_66 : decode cX7_again 66 = .ok (.ireturn, 1) := by decide +kernel
theorem dX7_again_67 : decode cX7_again 67 = .ok (.iconst 0, 1) := by decide +kernel
theorem dX7_again_68 : decode cX7_again 68 = .ok (.istore_n 3, 1) := by decide +kernel
theorem dX7_again_69 : decode cX7_again 69 = .ok (.iload_n 3, 1) := by decide +kernel
theorem dX7_again_70 : decode cX7_again 70 = .ok (.aload_n 0, 1) := by decide +kernel
theorem dX7_again_71 : decode cX7_again 71 = .ok (.getfield 92, 3) := by decide +kernel
theorem dX7_again_74 : decode cX7_again 74 = .ok (.if_icmp .ge 28, 3) := by decide +kernel
theorem dX7_again_77 : decode cX7_again 77 = .ok (.aload_n 0, 1) := by decide +kernel
theorem dX7_again_78 : decode cX7_again 78 = .ok (.getfield 46, 3) := by decide +kernel
theorem dX7_again_81 : decode cX7_again 81 = .ok (.iload_n 3, 1) := by decide +kernel
theorem dX7_again_82 : decode cX7_again 82 = .ok (.iload_n 3, 1) := by decide +kernel
theorem dX7_again_83 : decode cX7_again 83 = .ok (.iastore, 1) := by decide +kernel
theorem dX7_again_84 : decode cX7_again 84 = .ok (.aload_n 0, 1) := by decide +kernel
theorem dX7_again_85 : decode cX7_again 85 = .ok (.getfield 49, 3) := by decide +kernel
theorem dX7_again_88 : decode cX7_again 88 = .ok (.iload_n 3, 1) := by decide +kernel
theorem dX7_again_89 : decode cX7_again 89 = .ok (.aload_n 0, 1) := by decide +kernel
theorem dX7_again_90 : decode cX7_again 90 = .ok (.iload_n 1, 1) := by decide +kernel
theorem dX7_again_91 : decode cX7_again 91 = .ok (.iload_n 3, 1) := by decide +kernel
theorem dX7_again_92 : decode cX7_again 92 = .ok (.invokevirtual 237, 3) := by decide +kernel
theorem dX7_again_95 : decode cX7_again 95 = .ok (.iastore, 1) := by decide +kernel
theorem dX7_again_96 : decode cX7_again 96 = .ok (.iinc 3 1, 3) := by decide +kernel
theorem dX7_again_99 : decode cX7_again 99 = .ok (.goto (-30), 3) := by decide +kernel
theorem dX7_again_102 : decode cX7_again 102 = .ok (.iload_n 2, 1) := by decide +kernel
theorem dX7_again_103 : decode cX7_again 103 = .ok (.istore_n 3, 1) := by decide +kernel
theorem dX7_again_104 : decode cX7_again 104 = .ok (.iload_n 3, 1) := by decide +kernel
theorem dX7_again_105 : decode cX7_again 105 = .ok (.ifCond .le 41, 3) := by decide +kernel
theorem dX7_again_108 : decode cX7_again 108 = .ok (.iload_n 3, 1) := by decide +kernel
theorem dX7_again_109 : decode cX7_again 109 = .ok (.iconst 2, 1) := by decide +kernel
theorem dX7_again_110 : decode cX7_again 110 = .ok (.irem, 1) := by decide +kernel
theorem dX7_again_111 : decode cX7_again 111 = .ok (.iconst 1, 1) := by decide +kernel
theorem dX7_again_112 : decode cX7_again 112 = .ok (.if_icmp .ne 15, 3) := by decide +kernel
theorem dX7_again_115 : decode cX7_again 115 = .ok (.aload_n 0, 1) := by decide +kernel
theorem dX7_again_116 : decode cX7_again 116 = .ok (.aload_n 0, 1) := by decide +kernel
theorem dX7_again_117 : decode cX7_again 117 = .ok (.getfield 46, 3) := by decide +kernel
theorem dX7_again_120 : decode cX7_again 120 = .ok (.aload_n 0, 1) := by decide +kernel
theorem dX7_again_121 : decode cX7_again 121 = .ok (.getfield 49, 3) := by decide +kernel
theorem dX7_again_124 : decode cX7_again 124 = .ok (.invokevirtual 257, 3) := by decide +kernel
theorem dX7_again_127 : decode cX7_again 127 = .ok (.aload_n 0, 1) := by decide +kernel
theorem dX7_again_128 : decode cX7_again 128 = .ok (.aload_n 0, 1) := by decide +kernel
theorem dX7_again_129 : decode cX7_again 129 = .ok (.getfield 49, 3) := by decide +kernel
theorem dX7_again_132 : decode cX7_again 132 = .ok (.aload_n 0, 1) := by decide +kernel
theorem dX7_again_133 : decode cX7_again 133 = .ok (.getfield 49, 3) := by decide +kernel
theorem dX7_again_136 : decode cX7_again 136 = .ok (.invokevirtual 257, 3) := by decide +kernel
theorem dX7_again_139 : decode cX7_again 139 = .ok (.iload_n 3, 1) := by decide +kernel
theorem dX7_again_140 : decode cX7_again 140 = .ok (.iconst 2, 1) := by decide +kernel
theorem dX7_again_141 : decode cX7_again 141 = .ok (.idiv, 1) := by decide +kernel
theorem dX7_again_142 : decode cX7_again 142 = .ok (.istore_n 3, 1) := by decide +kernel
theorem dX7_again_143 : decode cX7_again 143 = .ok (.goto (-39), 3) := by decide +kernel
theorem dX7_again_146 : decode cX7_again 146 = .ok (.aload_n 0, 1) := by decide +kernel
theorem dX7_again_147 : decode cX7_again 147 = .ok (.invokevirtual 252, 3) := by decide +kernel
theorem dX7_again_150 : decode cX7_again 150 = .ok (.ireturn, 1) := by decide +kernel
theorem dX7_imageOf_0 : decode cX7_imageOf 0 = .ok (.iconst 0, 1) := by decide +kernel
theorem dX7_imageOf_1 : decode cX7_imageOf 1 = .ok (.istore_n 2, 1) := by decide +kernel
theorem dX7_imageOf_2 : decode cX7_imageOf 2 = .ok (.iconst 0, 1) := by decide +kernel
theorem dX7_imageOf_3 : decode cX7_imageOf 3 = .ok (.istore_n 3, 1) := by decide +kernel
theorem dX7_imageOf_4 : decode cX7_imageOf 4 = .ok (.iload_n 3, 1) := by decide +kernel
theorem dX7_imageOf_5 : decode cX7_imageOf 5 = .ok (.aload_n 0, 1) := by decide +kernel
theorem dX7_imageOf_6 : decode cX7_imageOf 6 = .ok (.getfield 92, 3) := by decide +kernel
theorem dX7_imageOf_9 : decode cX7_imageOf 9 = .ok (.if_icmp .ge 26, 3) := by decide +kernel
theorem dX7_imageOf_12 : decode cX7_imageOf 12 = .ok (.iload_n 2, 1) := by decide +kernel
theorem dX7_imageOf_13 : decode cX7_imageOf 13 = .ok (.aload_n 0, 1) := by decide +kernel
theorem dX7_imageOf_14 : decode cX7_imageOf 14 = .ok (.iload_n 1, 1) := by decide +kernel
theorem dX7_imageOf_15 : decode cX7_imageOf 15 = .ok (.iload_n 3, 1) := by decide +kernel
theorem dX7_imageOf_16 : decode cX7_imageOf 16 = .ok (.invokevirtual 260, 3) := by decide +kernel
theorem dX7_imageOf_19 : decode cX7_imageOf 19 = .ok (.ifCond .le 7, 3) := by decide +kernel
theorem dX7_imageOf_22 : decode cX7_imageOf 22 = .ok (.iconst 1, 1) := by decide +kernel
theorem dX7_imageOf_23 : decode cX7_imageOf 23 = .ok (.goto 4, 3) := by decide +kernel
theorem dX7_imageOf_26 : decode cX7_imageOf 26 = .ok (.iconst 0, 1) := by decide +kernel
theorem dX7_imageOf_27 : decode cX7_imageOf 27 = .ok (.iadd, 1) := by decide +kernel
theorem dX7_imageOf_28 : decode cX7_imageOf 28 = .ok (.istore_n 2, 1) := by decide +kernel
theorem dX7_imageOf_29 : decode cX7_imageOf 29 = .ok (.iinc 3 1, 3) := by decide +kernel
theorem dX7_imageOf_32 : decode cX7_imageOf 32 = .ok (.goto (-28), 3) := by decide +kernel
theorem dX7_imageOf_35 : decode cX7_imageOf 35 = .ok (.iload_n 2, 1) := by decide +kernel
theorem dX7_imageOf_36 : decode cX7_imageOf 36 = .ok (.ireturn, 1) := by decide +kernel
theorem dX7_takenBy_0 : decode cX7_takenBy 0 = .ok (.iconst 0, 1) := by decide +kernel
theorem dX7_takenBy_1 : decode cX7_takenBy 1 = .ok (.istore_n 3, 1) := by decide +kernel
theorem dX7_takenBy_2 : decode cX7_takenBy 2 = .ok (.iconst 0, 1) := by decide +kernel
theorem dX7_takenBy_3 : decode cX7_takenBy 3 = .ok (.istore 4, 2) := by decide +kernel
theorem dX7_takenBy_5 : decode cX7_takenBy 5 = .ok (.iload 4, 2) := by decide +kernel
theorem dX7_takenBy_7 : decode cX7_takenBy 7 = .ok (.aload_n 0, 1) := by decide +kernel
theorem dX7_takenBy_8 : decode cX7_takenBy 8 = .ok (.getfield 92, 3) := by decide +kernel
theorem dX7_takenBy_11 : decode cX7_takenBy 11 = .ok (.if_icmp .ge 28, 3) := by decide +kernel
theorem dX7_takenBy_14 : decode cX7_takenBy 14 = .ok (.iload_n 3, 1) := by decide +kernel
theorem dX7_takenBy_15 : decode cX7_takenBy 15 = .ok (.aload_n 0, 1) := by decide +kernel
theorem dX7_takenBy_16 : decode cX7_takenBy 16 = .ok (.iload_n 1, 1) := by decide +kernel
theorem dX7_takenBy_17 : decode cX7_takenBy 17 = .ok (.iload 4, 2) := by decide +kernel
theorem dX7_takenBy_19 : decode cX7_takenBy 19 = .ok (.invokevirtual 237, 3) := by decide +kernel
theorem dX7_takenBy_22 : decode cX7_takenBy 22 = .ok (.iload_n 2, 1) := by decide +kernel
theorem dX7_takenBy_23 : decode cX7_takenBy 23 = .ok (.if_icmp .ne 7, 3) := by decide +kernel
theorem dX7_takenBy_26 : decode cX7_takenBy 26 = .ok (.iconst 1, 1) := by decide +kernel
theorem dX7_takenBy_27 : decode cX7_takenBy 27 = .ok (.goto 4, 3) := by decide +kernel
theorem dX7_takenBy_30 : decode cX7_takenBy 30 = .ok (.iconst 0, 1) := by decide +kernel
theorem dX7_takenBy_31 : decode cX7_takenBy 31 = .ok (.iadd, 1) := by decide +kernel
theorem dX7_takenBy_32 : decode cX7_takenBy 32 = .ok (.istore_n 3, 1) := by decide +kernel
theorem dX7_takenBy_33 : decode cX7_takenBy 33 = .ok (.iinc 4 1, 3) := by decide +kernel
theorem dX7_takenBy_36 : decode cX7_takenBy 36 = .ok (.goto (-31), 3) := by decide +kernel
theorem dX7_takenBy_39 : decode cX7_takenBy 39 = .ok (.iload_n 3, 1) := by decide +kernel
theorem dX7_takenBy_40 : decode cX7_takenBy 40 = .ok (.ireturn, 1) := by decide +kernel
theorem dX7_isPermuting_0 : decode cX7_isPermuting 0 = .ok (.aload_n 0, 1) := by decide +kernel
theorem dX7_isPermuting_1 : decode cX7_isPermuting 1 = .ok (.iload_n 1, 1) := by decide +kernel
theorem dX7_isPermuting_2 : decode cX7_isPermuting 2 = .ok (.invokevirtual 263, 3) := by decide +kernel
theorem dX7_isPermuting_5 : decode cX7_isPermuting 5 = .ok (.aload_n 0, 1) := by decide +kernel
theorem dX7_isPermuting_6 : decode cX7_isPermuting 6 = .ok (.getfield 92, 3) := by decide +kernel
theorem dX7_isPermuting_9 : decode cX7_isPermuting 9 = .ok (.if_icmp .ne 7, 3) := by decide +kernel
theorem dX7_isPermuting_12 : decode cX7_isPermuting 12 = .ok (.iconst 1, 1) := by decide +kernel
theorem dX7_isPermuting_13 : decode cX7_isPermuting 13 = .ok (.goto 4, 3) := by decide +kernel
theorem dX7_isPermuting_16 : decode cX7_isPermuting 16 = .ok (.iconst 0, 1) := by decide +kernel
theorem dX7_isPermuting_17 : decode cX7_isPermuting 17 = .ok (.ireturn, 1) := by decide +kernel
theorem dX7_back_0 : decode cX7_back 0 = .ok (.aload_n 0, 1) := by decide +kernel
theorem dX7_back_1 : decode cX7_back 1 = .ok (.invokevirtual 240, 3) := by decide +kernel
theorem dX7_back_4 : decode cX7_back 4 = .ok (.aload_n 0, 1) := by decide +kernel
theorem dX7_back_5 : decode cX7_back 5 = .ok (.aload_n 0, 1) := by decide +kernel
theorem dX7_back_6 : decode cX7_back 6 = .ok (.iload_n 1, 1) := by decide +kernel
theorem dX7_back_7 : decode cX7_back 7 = .ok (.invokevirtual 243, 3) := by decide +kernel
theorem dX7_back_10 : decode cX7_back 10 = .ok (.ifCond .ne 7, 3) := by decide +kernel
theorem dX7_back_13 : decode cX7_back 13 = .ok (.iconst 1, 1) := by decide +kernel
theorem dX7_back_14 : decode cX7_back 14 = .ok (.goto 4, 3) := by decide +kernel
theorem dX7_back_17 : decode cX7_back 17 = .ok (.iconst 0, 1) := by decide +kernel
theorem dX7_back_18 : decode cX7_back 18 = .ok (.iconst 1, 1) := by decide +kernel
theorem dX7_back_19 : decode cX7_back 19 = .ok (.iconst 0, 1) := by decide +kernel
theorem dX7_back_20 : decode cX7_back 20 = .ok (.invokevirtual 215, 3) := by decide +kernel
theorem dX7_back_23 : decode cX7_back 23 = .ok (.ifCond .ne 32, 3) := by decide +kernel
theorem dX7_back_26 : decode cX7_back 26 = .ok (.aload_n 0, 1) := by decide +kernel
theorem dX7_back_27 : decode cX7_back 27 = .ok (.aload_n 0, 1) := by decide +kernel
theorem dX7_back_28 : decode cX7_back 28 = .ok (.invokevirtual 249, 3) := by decide +kernel
theorem dX7_back_31 : decode cX7_back 31 = .ok (.ifCond .ne 11, 3) := by decide +kernel
theorem dX7_back_34 : decode cX7_back 34 = .ok (.aload_n 0, 1) := by decide +kernel
theorem dX7_back_35 : decode cX7_back 35 = .ok (.iload_n 1, 1) := by decide +kernel
theorem dX7_back_36 : decode cX7_back 36 = .ok (.invokevirtual 266, 3) := by decide +kernel
theorem dX7_back_39 : decode cX7_back 39 = .ok (.ifCond .ne 7, 3) := by decide +kernel
theorem dX7_back_42 : decode cX7_back 42 = .ok (.iconst 1, 1) := by decide +kernel
theorem dX7_back_43 : decode cX7_back 43 = .ok (.goto 4, 3) := by decide +kernel
theorem dX7_back_46 : decode cX7_back 46 = .ok (.iconst 0, 1) := by decide +kernel
theorem dX7_back_47 : decode cX7_back 47 = .ok (.iconst 2, 1) := by decide +kernel
theorem dX7_back_48 : decode cX7_back 48 = .ok (.iconst 2, 1) := by decide +kernel
theorem dX7_back_49 : decode cX7_back 49 = .ok (.invokevirtual 215, 3) := by decide +kernel
theorem dX7_back_52 : decode cX7_back 52 = .ok (.ifCond .eq 5, 3) := by decide +kernel
theorem dX7_back_55 : decode cX7_back 55 = .ok (.iconst 0, 1) := by decide +kernel
theorem dX7_back_56 : decode cX7_back 56 = .ok (.ireturn, 1) := by decide +kernel
theorem dX7_back_57 : decode cX7_back 57 = .ok (.iconst 0, 1) := by decide +kernel
theorem dX7_back_58 : decode cX7_back 58 = .ok (.istore_n 2, 1) := by decide +kernel
theorem dX7_back_59 : decode cX7_back 59 = .ok (.iload_n 2, 1) := by decide +kernel
theorem dX7_back_60 : decode cX7_back 60 = .ok (.aload_n 0, 1) := by decide +kernel
theorem dX7_back_61 : decode cX7_back 61 = .ok (.getfield 92, 3) := by decide +kernel
theorem dX7_back_64 : decode cX7_back 64 = .ok (.if_icmp .ge 21, 3) := by decide +kernel
theorem dX7_back_67 : decode cX7_back 67 = .ok (.aload_n 0, 1) := by decide +kernel
theorem dX7_back_68 : decode cX7_back 68 = .ok (.getfield 46, 3) := by decide +kernel
theorem dX7_back_71 : decode cX7_back 71 = .ok (.aload_n 0, 1) := by decide +kernel
theorem dX7_back_72 : decode cX7_back 72 = .ok (.iload_n 1, 1) := by decide +kernel
theorem dX7_back_73 : decode cX7_back 73 = .ok (.iload_n 2, 1) := by decide +kernel
theorem dX7_back_74 : decode cX7_back 74 = .ok (.invokevirtual 237, 3) := by decide +kernel
theorem dX7_back_77 : decode cX7_back 77 = .ok (.iload_n 2, 1) := by decide +kernel
theorem dX7_back_78 : decode cX7_back 78 = .ok (.iastore, 1) := by decide +kernel
theorem dX7_back_79 : decode cX7_back 79 = .ok (.iinc 2 1, 3) := by decide +kernel
theorem dX7_back_82 : decode cX7_back 82 = .ok (.goto (-23), 3) := by decide +kernel
theorem dX7_back_85 : decode cX7_back 85 = .ok (.aload_n 0, 1) := by decide +kernel
theorem dX7_back_86 : decode cX7_back 86 = .ok (.invokevirtual 252, 3) := by decide +kernel
theorem dX7_back_89 : decode cX7_back 89 = .ok (.ireturn, 1) := by decide +kernel
theorem dX7_drop_0 : decode cX7_drop 0 = .ok (.aload_n 0, 1) := by decide +kernel
theorem dX7_drop_1 : decode cX7_drop 1 = .ok (.invokevirtual 240, 3) := by decide +kernel
theorem dX7_drop_4 : decode cX7_drop 4 = .ok (.aload_n 0, 1) := by decide +kernel
theorem dX7_drop_5 : decode cX7_drop 5 = .ok (.aload_n 0, 1) := by decide +kernel
theorem dX7_drop_6 : decode cX7_drop 6 = .ok (.iload_n 1, 1) := by decide +kernel
theorem dX7_drop_7 : decode cX7_drop 7 = .ok (.invokevirtual 243, 3) := by decide +kernel
theorem dX7_drop_10 : decode cX7_drop 10 = .ok (.ifCond .ne 7, 3) := by decide +kernel
theorem dX7_drop_13 : decode cX7_drop 13 = .ok (.iconst 1, 1) := by decide +kernel
theorem dX7_drop_14 : decode cX7_drop 14 = .ok (.goto 4, 3) := by decide +kernel
theorem dX7_drop_17 : decode cX7_drop 17 = .ok (.iconst 0, 1) := by decide +kernel
theorem dX7_drop_18 : decode cX7_drop 18 = .ok (.iconst 1, 1) := by decide +kernel
theorem dX7_drop_19 : decode cX7_drop 19 = .ok (.iconst 0, 1) := by decide +kernel
theorem dX7_drop_20 : decode cX7_drop 20 = .ok (.invokevirtual 215, 3) := by decide +kernel
theorem dX7_drop_23 : decode cX7_drop 23 = .ok (.ifCond .eq 5, 3) := by decide +kernel
theorem dX7_drop_26 : decode cX7_drop 26 = .ok (.iconst 0, 1) := by decide +kernel
theorem dX7_drop_27 : decode cX7_drop 27 = .ok (.ireturn, 1) := by decide +kernel
theorem dX7_drop_28 : decode cX7_drop 28 = .ok (.aload_n 0, 1) := by decide +kernel
theorem dX7_drop_29 : decode cX7_drop 29 = .ok (.invokevirtual 227, 3) := by decide +kernel
theorem dX7_drop_32 : decode cX7_drop 32 = .ok (.aload_n 0, 1) := by decide +kernel
theorem dX7_drop_33 : decode cX7_drop 33 = .ok (.getfield 20, 3) := by decide +kernel
theorem dX7_drop_36 : decode cX7_drop 36 = .ok (.iconst 2, 1) := by decide +kernel
theorem dX7_drop_37 : decode cX7_drop 37 = .ok (.dup2, 1) := by decide +kernel
theorem dX7_drop_38 : decode cX7_drop 38 = .ok (.iaload, 1) := by decide +kernel
theorem dX7_drop_39 : decode cX7_drop 39 = .ok (.iconst 1, 1) := by decide +kernel
theorem dX7_drop_40 : decode cX7_drop 40 = .ok (.isub, 1) := by decide +kernel
theorem dX7_drop_41 : decode cX7_drop 41 = .ok (.iastore, 1) := by decide +kernel
theorem dX7_drop_42 : decode cX7_drop 42 = .ok (.iload_n 1, 1) := by decide +kernel
theorem dX7_drop_43 : decode cX7_drop 43 = .ok (.istore_n 2, 1) := by decide +kernel
theorem dX7_drop_44 : decode cX7_drop 44 = .ok (.iload_n 2, 1) := by decide +kernel
theorem dX7_drop_45 : decode cX7_drop 45 = .ok (.aload_n 0, 1) := by decide +kernel
theorem dX7_drop_46 : decode cX7_drop 46 = .ok (.getfield 20, 3) := by decide +kernel
theorem dX7_drop_49 : decode cX7_drop 49 = .ok (.iconst 2, 1) := by decide +kernel
theorem dX7_drop_50 : decode cX7_drop 50 = .ok (.iaload, 1) := by decide +kernel
theorem dX7_drop_51 : decode cX7_drop 51 = .ok (.if_icmp .ge 46, 3) := by decide +kernel
theorem dX7_drop_54 : decode cX7_drop 54 = .ok (.iconst 0, 1) := by decide +kernel
theorem dX7_drop_55 : decode cX7_drop 55 = .ok (.istore_n 3, 1) := by decide +kernel
theorem dX7_drop_56 : decode cX7_drop 56 = .ok (.iload_n 3, 1) := by decide +kernel
theorem dX7_drop_57 : decode cX7_drop 57 = .ok (.aload_n 0, 1) := by decide +kernel
theorem dX7_drop_58 : decode cX7_drop 58 = .ok (.getfield 92, 3) := by decide +kernel
theorem dX7_drop_61 : decode cX7_drop 61 = .ok (.if_icmp .ge 30, 3) := by decide +kernel
theorem dX7_drop_64 : decode cX7_drop 64 = .ok (.aload_n 0, 1) := by decide +kernel
theorem dX7_drop_65 : decode cX7_drop 65 = .ok (.getfield 20, 3) := by decide +kernel
theorem dX7_drop_68 : decode cX7_drop 68 = .ok (.iconst 3, 1) := by decide +kernel
theorem dX7_drop_69 : decode cX7_drop 69 = .ok (.bipush 64, 2) := by decide +kernel
theorem dX7_drop_71 : decode cX7_drop 71 = .ok (.iload_n 2, 1) := by decide +kernel
theorem dX7_drop_72 : decode cX7_drop 72 = .ok (.imul, 1) := by decide +kernel
theorem dX7_drop_73 : decode cX7_drop 73 = .ok (.iadd, 1) := by decide +kernel
theorem dX7_drop_74 : decode cX7_drop 74 = .ok (.iload_n 3, 1) := by decide +kernel
theorem dX7_drop_75 : decode cX7_drop 75 = .ok (.iadd, 1) := by decide +kernel
theorem dX7_drop_76 : decode cX7_drop 76 = .ok (.aload_n 0, 1) := by decide +kernel
theorem dX7_drop_77 : decode cX7_drop 77 = .ok (.iload_n 2, 1) := by decide +kernel
theorem dX7_drop_78 : decode cX7_drop 78 = .ok (.iconst 1, 1) := by decide +kernel
theorem dX7_drop_79 : decode cX7_drop 79 = .ok (.iadd, 1) := by decide +kernel
theorem dX7_drop_80 : decode cX7_drop 80 = .ok (.iload_n 3, 1) := by decide +kernel
theorem dX7_drop_81 : decode cX7_drop 81 = .ok (.invokevirtual 237, 3) := by decide +kernel
theorem dX7_drop_84 : decode cX7_drop 84 = .ok (.iastore, 1) := by decide +kernel
theorem dX7_drop_85 : decode cX7_drop 85 = .ok (.iinc 3 1, 3) := by decide +kernel
theorem dX7_drop_88 : decode cX7_drop 88 = .ok (.goto (-32), 3) := by decide +kernel
theorem dX7_drop_91 : decode cX7_drop 91 = .ok (.iinc 2 1, 3) := by decide +kernel
theorem dX7_drop_94 : decode cX7_drop 94 = .ok (.goto (-50), 3) := by decide +kernel
theorem dX7_drop_97 : decode cX7_drop 97 = .ok (.aload_n 0, 1) := by decide +kernel
theorem dX7_drop_98 : decode cX7_drop 98 = .ok (.getfield 20, 3) := by decide +kernel
theorem dX7_drop_101 : decode cX7_drop 101 = .ok (.iconst 2, 1) := by decide +kernel
theorem dX7_drop_102 : decode cX7_drop 102 = .ok (.iaload, 1) := by decide +kernel
theorem dX7_drop_103 : decode cX7_drop 103 = .ok (.ireturn, 1) := by decide +kernel
theorem dX7_told_0 : decode cX7_told 0 = .ok (.aload_n 0, 1) := by decide +kernel
theorem dX7_told_1 : decode cX7_told 1 = .ok (.invokevirtual 240, 3) := by decide +kernel
theorem dX7_told_4 : decode cX7_told 4 = .ok (.aload_n 0, 1) := by decide +kernel
theorem dX7_told_5 : decode cX7_told 5 = .ok (.iload_n 1, 1) := by decide +kernel
theorem dX7_told_6 : decode cX7_told 6 = .ok (.i2l, 1) := by decide +kernel
theorem dX7_told_7 : decode cX7_told 7 = .ok (.lconst 0, 1) := by decide +kernel
theorem dX7_told_8 : decode cX7_told 8 = .ok (.ldc2_w 269, 3) := by decide +kernel
theorem dX7_told_11 : decode cX7_told 11 = .ok (.invokestatic 154, 3) := by decide +kernel
theorem dX7_told_14 : decode cX7_told 14 = .ok (.ifCond .ne 7, 3) := by decide +kernel
theorem dX7_told_17 : decode cX7_told 17 = .ok (.iconst 1, 1) := by decide +kernel
theorem dX7_told_18 : decode cX7_told 18 = .ok (.goto 4, 3) := by decide +kernel
theorem dX7_told_21 : decode cX7_told 21 = .ok (.iconst 0, 1) := by decide +kernel
theorem dX7_told_22 : decode cX7_told 22 = .ok (.iconst 1, 1) := by decide +kernel
theorem dX7_told_23 : decode cX7_told 23 = .ok (.iconst 1, 1) := by decide +kernel
theorem dX7_told_24 : decode cX7_told 24 = .ok (.invokevirtual 215, 3) := by decide +kernel
theorem dX7_told_27 : decode cX7_told 27 = .ok (.ifCond .eq 5, 3) := by decide +kernel
theorem dX7_told_30 : decode cX7_told 30 = .ok (.iconst 0, 1) := by decide +kernel
theorem dX7_told_31 : decode cX7_told 31 = .ok (.ireturn, 1) := by decide +kernel
theorem dX7_told_32 : decode cX7_told 32 = .ok (.iload_n 1, 1) := by decide +kernel
theorem dX7_told_33 : decode cX7_told 33 = .ok (.tableswitch 71 0 5 #[39, 44, 49, 54, 59, 66], 39) := by decide +kernel
theorem dX7_told_72 : decode cX7_told 72 = .ok (.aload_n 0, 1) := by decide +kernel
theorem dX7_told_73 : decode cX7_told 73 = .ok (.getfield 92, 3) := by decide +kernel
theorem dX7_told_76 : decode cX7_told 76 = .ok (.ireturn, 1) := by decide +kernel
theorem dX7_told_77 : decode cX7_told 77 = .ok (.aload_n 0, 1) := by decide +kernel
theorem dX7_told_78 : decode cX7_told 78 = .ok (.getfield 68, 3) := by decide +kernel
theorem dX7_told_81 : decode cX7_told 81 = .ok (.ireturn, 1) := by decide +kernel
theorem dX7_told_82 : decode cX7_told 82 = .ok (.aload_n 0, 1) := by decide +kernel
theorem dX7_told_83 : decode cX7_told 83 = .ok (.getfield 75, 3) := by decide +kernel
theorem dX7_told_86 : decode cX7_told 86 = .ok (.ireturn, 1) := by decide +kernel
theorem dX7_told_87 : decode cX7_told 87 = .ok (.aload_n 0, 1) := by decide +kernel
theorem dX7_told_88 : decode cX7_told 88 = .ok (.getfield 89, 3) := by decide +kernel
theorem dX7_told_91 : decode cX7_told 91 = .ok (.ireturn, 1) := by decide +kernel
theorem dX7_told_92 : decode cX7_told 92 = .ok (.aload_n 0, 1) := by decide +kernel
theorem dX7_told_93 : decode cX7_told 93 = .ok (.getfield 20, 3) := by decide +kernel
theorem dX7_told_96 : decode cX7_told 96 = .ok (.iconst 2, 1) := by decide +kernel
theorem dX7_told_97 : decode cX7_told 97 = .ok (.iaload, 1) := by decide +kernel
theorem dX7_told_98 : decode cX7_told 98 = .ok (.ireturn, 1) := by decide +kernel
theorem dX7_told_99 : decode cX7_told 99 = .ok (.aload_n 0, 1) := by decide +kernel
theorem dX7_told_100 : decode cX7_told 100 = .ok (.getfield 61, 3) := by decide +kernel
theorem dX7_told_103 : decode cX7_told 103 = .ok (.ireturn, 1) := by decide +kernel
theorem dX7_told_104 : decode cX7_told 104 = .ok (.aload_n 0, 1) := by decide +kernel
theorem dX7_told_105 : decode cX7_told 105 = .ok (.getfield 234, 3) := by decide +kernel
theorem dX7_told_108 : decode cX7_told 108 = .ok (.ireturn, 1) := by decide +kernel
theorem dX7_points_0 : decode cX7_points 0 = .ok (.aload_n 0, 1) := by decide +kernel
theorem dX7_points_1 : decode cX7_points 1 = .ok (.invokevirtual 240, 3) := by decide +kernel
theorem dX7_points_4 : decode cX7_points 4 = .ok (.aload_n 0, 1) := by decide +kernel
theorem dX7_points_5 : decode cX7_points 5 = .ok (.aload_n 0, 1) := by decide +kernel
theorem dX7_points_6 : decode cX7_points 6 = .ok (.iload_n 1, 1) := by decide +kernel
theorem dX7_points_7 : decode cX7_points 7 = .ok (.invokevirtual 246, 3) := by decide +kernel
theorem dX7_points_10 : decode cX7_points 10 = .ok (.ifCond .eq 11, 3) := by decide +kernel
theorem dX7_points_13 : decode cX7_points 13 = .ok (.aload_n 0, 1) := by decide +kernel
theorem dX7_points_14 : decode cX7_points 14 = .ok (.iload_n 2, 1) := by decide +kernel
theorem dX7_points_15 : decode cX7_points 15 = .ok (.invokevirtual 246, 3) := by decide +kernel
theorem dX7_points_18 : decode cX7_points 18 = .ok (.ifCond .ne 7, 3) := by decide +kernel
theorem dX7_points_21 : decode cX7_points 21 = .ok (.iconst 1, 1) := by decide +kernel
theorem dX7_points_22 : decode cX7_points 22 = .ok (.goto 4, 3) := by decide +kernel
theorem dX7_points_25 : decode cX7_points 25 = .ok (.iconst 0, 1) := by decide +kernel
theorem dX7_points_26 : decode cX7_points 26 = .ok (.iconst 1, 1) := by decide +kernel
theorem dX7_points_27 : decode cX7_points 27 = .ok (.iconst 0, 1) := by decide +kernel
theorem dX7_points_28 : decode cX7_points 28 = .ok (.invokevirtual 215, 3) := by decide +kernel
theorem dX7_points_31 : decode cX7_points 31 = .ok (.ifCond .ne 29, 3) := by decide +kernel
theorem dX7_points_34 : decode cX7_points 34 = .ok (.aload_n 0, 1) := by decide +kernel
theorem dX7_points_35 : decode cX7_points 35 = .ok (.iload_n 3, 1) := by decide +kernel
theorem dX7_points_36 : decode cX7_points 36 = .ok (.i2l, 1) := by decide +kernel
theorem dX7_points_37 : decode cX7_points 37 = .ok (.lconst 0, 1) := by decide +kernel
theorem dX7_points_38 : decode cX7_points 38 = .ok (.ldc2_w 271, 3) := by decide +kernel
theorem dX7_points_41 : decode cX7_points 41 = .ok (.invokestatic 154, 3) := by decide +kernel
theorem dX7_points_44 : decode cX7_points 44 = .ok (.ifCond .ne 7, 3) := by decide +kernel
theorem dX7_points_47 : decode cX7_points 47 = .ok (.iconst 1, 1) := by decide +kernel
theorem dX7_points_48 : decode cX7_points 48 = .ok (.goto 4, 3) := by decide +kernel
theorem dX7_points_51 : decode cX7_points 51 = .ok (.iconst 0, 1) := by decide +kernel
theorem dX7_points_52 : decode cX7_points 52 = .ok (.iconst 2, 1) := by decide +kernel
theorem dX7_points_53 : decode cX7_points 53 = .ok (.iconst 1, 1) := by decide +kernel
theorem dX7_points_54 : decode cX7_points 54 = .ok (.invokevirtual 215, 3) := by decide +kernel
theorem dX7_points_57 : decode cX7_points 57 = .ok (.ifCond .eq 5, 3) := by decide +kernel
theorem dX7_points_60 : decode cX7_points 60 = .ok (.iconst 0, 1) := by decide +kernel
theorem dX7_points_61 : decode cX7_points 61 = .ok (.ireturn, 1) := by decide +kernel
theorem dX7_points_62 : decode cX7_points 62 = .ok (.iload_n 3, 1) := by decide +kernel
theorem dX7_points_63 : decode cX7_points 63 = .ok (.ifCond .ne 14, 3) := by decide +kernel
theorem dX7_points_66 : decode cX7_points 66 = .ok (.aload_n 0, 1) := by decide +kernel
theorem dX7_points_67 : decode cX7_points 67 = .ok (.getfield 31, 3) := by decide +kernel
theorem dX7_points_70 : decode cX7_points 70 = .ok (.iload_n 1, 1) := by decide +kernel
theorem dX7_points_71 : decode cX7_points 71 = .ok (.aaload, 1) := by decide +kernel
theorem dX7_points_72 : decode cX7_points 72 = .ok (.iload_n 2, 1) := by decide +kernel
theorem dX7_points_73 : decode cX7_points 73 = .ok (.iaload, 1) := by decide +kernel
theorem dX7_points_74 : decode cX7_points 74 = .ok (.goto 54, 3) := by decide +kernel
theorem dX7_points_77 : decode cX7_points 77 = .ok (.iload_n 3, 1) := by decide +kernel
theorem dX7_points_78 : decode cX7_points 78 = .ok (.iconst 1, 1) := by decide +kernel
theorem dX7_points_79 : decode cX7_points 79 = .ok (.if_icmp .ne 12, 3) := by decide +kernel
theorem dX7_points_82 : decode cX7_points 82 = .ok (.aload_n 0, 1) := by decide +kernel
theorem dX7_points_83 : decode cX7_points 83 = .ok (.iload_n 1, 1) := by decide +kernel
theorem dX7_points_84 : decode cX7_points 84 = .ok (.iload_n 2, 1) := by decide +kernel
theorem dX7_points_85 : decode cX7_points 85 = .ok (.invokevirtual 105, 3) := by decide +kernel
theorem dX7_points_88 : decode cX7_points 88 = .ok (.goto 40, 3) := by decide +kernel
theorem dX7_points_91 : decode cX7_points 91 = .ok (.iload_n 3, 1) := by decide +kernel
theorem dX7_points_92 : decode cX7_points 92 = .ok (.iconst 2, 1) := by decide +kernel
theorem dX7_points_93 : decode cX7_points 93 = .ok (.if_icmp .ne 14, 3) := by decide +kernel
theorem dX7_points_96 : decode cX7_points 96 = .ok (.aload_n 0, 1) := by decide +kernel
theorem dX7_points_97 : decode cX7_points 97 = .ok (.getfield 34, 3) := by decide +kernel
theorem dX7_points_100 : decode cX7_points 100 = .ok (.iload_n 1, 1) := by decide +kernel
theorem dX7_points_101 : decode cX7_points 101 = .ok (.aaload, 1) := by decide +kernel
theorem dX7_points_102 : decode cX7_points 102 = .ok (.iload_n 2, 1) := by decide +kernel
theorem dX7_points_103 : decode cX7_points 103 = .ok (.iaload, 1) := by decide +kernel
theorem dX7_points_104 : decode cX7_points 104 = .ok (.goto 24, 3) := by decide +kernel
theorem dX7_points_107 : decode cX7_points 107 = .ok (.iload_n 2, 1) := by decide +kernel
theorem dX7_points_108 : decode cX7_points 108 = .ok (.ifCond .ne 7, 3) := by decide +kernel
theorem dX7_points_111 : decode cX7_points 111 = .ok (.iconst (-1), 1) := by decide +kernel
theorem dX7_points_112 : decode cX7_points 112 = .ok (.goto 16, 3) := by decide +kernel
theorem dX7_points_115 : decode cX7_points 115 = .ok (.aload_n 0, 1) := by decide +kernel
theorem dX7_points_116 : decode cX7_points 116 = .ok (.getfield 34, 3) := by decide +kernel
theorem dX7_points_119 : decode cX7_points 119 = .ok (.iload_n 1, 1) := by decide +kernel
theorem dX7_points_120 : decode cX7_points 120 = .ok (.aaload, 1) := by decide +kernel
theorem dX7_points_121 : decode cX7_points 121 = .ok (.aload_n 0, 1) := by decide +kernel
theorem dX7_points_122 : decode cX7_points 122 = .ok (.getfield 40, 3) := by decide +kernel
theorem dX7_points_125 : decode cX7_points 125 = .ok (.iload_n 2, 1) := by decide +kernel
theorem dX7_points_126 : decode cX7_points 126 = .ok (.iaload, 1) := by decide +kernel
theorem dX7_points_127 : decode cX7_points 127 = .ok (.iaload, 1) := by decide +kernel
theorem dX7_points_128 : decode cX7_points 128 = .ok (.ireturn, 1) := by decide +kernel
theorem dX7_at_0 : decode cX7_at 0 = .ok (.aload_n 0, 1) := by decide +kernel
theorem dX7_at_1 : decode cX7_at 1 = .ok (.invokevirtual 240, 3) := by decide +kernel
theorem dX7_at_4 : decode cX7_at 4 = .ok (.aload_n 0, 1) := by decide +kernel
theorem dX7_at_5 : decode cX7_at 5 = .ok (.aload_n 0, 1) := by decide +kernel
theorem dX7_at_6 : decode cX7_at 6 = .ok (.iload_n 1, 1) := by decide +kernel
theorem dX7_at_7 : decode cX7_at 7 = .ok (.invokevirtual 243, 3) := by decide +kernel
theorem dX7_at_10 : decode cX7_at 10 = .ok (.ifCond .eq 11, 3) := by decide +kernel
theorem dX7_at_13 : decode cX7_at 13 = .ok (.aload_n 0, 1) := by decide +kernel
theorem dX7_at_14 : decode cX7_at 14 = .ok (.iload_n 2, 1) := by decide +kernel
theorem dX7_at_15 : decode cX7_at 15 = .ok (.invokevirtual 246, 3) := by decide +kernel
theorem dX7_at_18 : decode cX7_at 18 = .ok (.ifCond .ne 7, 3) := by decide +kernel
theorem dX7_at_21 : decode cX7_at 21 = .ok (.iconst 1, 1) := by decide +kernel
theorem dX7_at_22 : decode cX7_at 22 = .ok (.goto 4, 3) := by decide +kernel
theorem dX7_at_25 : decode cX7_at 25 = .ok (.iconst 0, 1) := by decide +kernel
theorem dX7_at_26 : decode cX7_at 26 = .ok (.iconst 1, 1) := by decide +kernel
theorem dX7_at_27 : decode cX7_at 27 = .ok (.iconst 0, 1) := by decide +kernel
theorem dX7_at_28 : decode cX7_at 28 = .ok (.invokevirtual 215, 3) := by decide +kernel
theorem dX7_at_31 : decode cX7_at 31 = .ok (.ifCond .eq 7, 3) := by decide +kernel
theorem dX7_at_34 : decode cX7_at 34 = .ok (.iconst 0, 1) := by decide +kernel
theorem dX7_at_35 : decode cX7_at 35 = .ok (.goto 9, 3) := by decide +kernel
theorem dX7_at_38 : decode cX7_at 38 = .ok (.aload_n 0, 1) := by decide +kernel
theorem dX7_at_39 : decode cX7_at 39 = .ok (.iload_n 1, 1) := by decide +kernel
theorem dX7_at_40 : decode cX7_at 40 = .ok (.iload_n 2, 1) := by decide +kernel
theorem dX7_at_41 : decode cX7_at 41 = .ok (.invokevirtual 237, 3) := by decide +kernel
theorem dX7_at_44 : decode cX7_at 44 = .ok (.ireturn, 1) := by decide +kernel
theorem dX7_coefficientOf_0 : decode cX7_coefficientOf 0 = .ok (.iload_n 1, 1) := by decide +kernel
theorem dX7_coefficientOf_1 : decode cX7_coefficientOf 1 = .ok (.ifCond .ne 10, 3) := by decide +kernel
theorem dX7_coefficientOf_4 : decode cX7_coefficientOf 4 = .ok (.aload_n 0, 1) := by decide +kernel
theorem dX7_coefficientOf_5 : decode cX7_coefficientOf 5 = .ok (.getfield 46, 3) := by decide +kernel
theorem dX7_coefficientOf_8 : decode cX7_coefficientOf 8 = .ok (.iconst 0, 1) := by decide +kernel
theorem dX7_coefficientOf_9 : decode cX7_coefficientOf 9 = .ok (.iaload, 1) := by decide +kernel
theorem dX7_coefficientOf_10 : decode cX7_coefficientOf 10 = .ok (.ireturn, 1) := by decide +kernel
theorem dX7_coefficientOf_11 : decode cX7_coefficientOf 11 = .ok (.iconst 0, 1) := by decide +kernel
theorem dX7_coefficientOf_12 : decode cX7_coefficientOf 12 = .ok (.istore_n 2, 1) := by decide +kernel
theorem dX7_coefficientOf_13 : decode cX7_coefficientOf 13 = .ok (.iconst 0, 1) := by decide +kernel
theorem dX7_coefficientOf_14 : decode cX7_coefficientOf 14 = .ok (.istore_n 3, 1) := by decide +kernel
theorem dX7_coefficientOf_15 : decode cX7_coefficientOf 15 = .ok (.iload_n 3, 1) := by decide +kernel
theorem dX7_coefficientOf_16 : decode cX7_coefficientOf 16 = .ok (.aload_n 0, 1) := by decide +kernel
theorem dX7_coefficientOf_17 : decode cX7_coefficientOf 17 = .ok (.getfield 92, 3) := by decide +kernel
theorem dX7_coefficientOf_20 : decode cX7_coefficientOf 20 = .ok (.if_icmp .ge 42, 3) := by decide +kernel
theorem dX7_coefficientOf_23 : decode cX7_coefficientOf 23 = .ok (.aload_n 0, 1) := by decide +kernel
theorem dX7_coefficientOf_24 : decode cX7_coefficientOf 24 = .ok (.getfield 31, 3) := by decide +kernel
theorem dX7_coefficientOf_27 : decode cX7_coefficientOf 27 = .ok (.iload_n 2, 1) := by decide +kernel
theorem dX7_coefficientOf_28 : decode cX7_coefficientOf 28 = .ok (.aaload, 1) := by decide +kernel
theorem dX7_coefficientOf_29 : decode cX7_coefficientOf 29 = .ok (.aload_n 0, 1) := by decide +kernel
theorem dX7_coefficientOf_30 : decode cX7_coefficientOf 30 = .ok (.getfield 34, 3) := by decide +kernel
theorem dX7_coefficientOf_33 : decode cX7_coefficientOf 33 = .ok (.aload_n 0, 1) := by decide +kernel
theorem dX7_coefficientOf_34 : decode cX7_coefficientOf 34 = .ok (.getfield 46, 3) := by decide +kernel
theorem dX7_coefficientOf_37 : decode cX7_coefficientOf 37 = .ok (.iload_n 3, 1) := by decide +kernel
theorem dX7_coefficientOf_38 : decode cX7_coefficientOf 38 = .ok (.iaload, 1) := by decide +kernel
theorem dX7_coefficientOf_39 : decode cX7_coefficientOf 39 = .ok (.aaload, 1) := by decide +kernel
theorem dX7_coefficientOf_40 : decode cX7_coefficientOf 40 = .ok (.aload_n 0, 1) := by decide +kernel
theorem dX7_coefficientOf_41 : decode cX7_coefficientOf 41 = .ok (.iload_n 3, 1) := by decide +kernel
theorem dX7_coefficientOf_42 : decode cX7_coefficientOf 42 = .ok (.aload_n 0, 1) := by decide +kernel
theorem dX7_coefficientOf_43 : decode cX7_coefficientOf 43 = .ok (.getfield 92, 3) := by decide +kernel
theorem dX7_coefficientOf_46 : decode cX7_coefficientOf 46 = .ok (.iconst 1, 1) := by decide +kernel
theorem dX7_coefficientOf_47 : decode cX7_coefficientOf 47 = .ok (.isub, 1) := by decide +kernel
theorem dX7_coefficientOf_48 : decode cX7_coefficientOf 48 = .ok (.iload_n 1, 1) := by decide +kernel
theorem dX7_coefficientOf_49 : decode cX7_coefficientOf 49 = .ok (.isub, 1) := by decide +kernel
theorem dX7_coefficientOf_50 : decode cX7_coefficientOf 50 = .ok (.invokevirtual 197, 3) := by decide +kernel
theorem dX7_coefficientOf_53 : decode cX7_coefficientOf 53 = .ok (.iaload, 1) := by decide +kernel
theorem dX7_coefficientOf_54 : decode cX7_coefficientOf 54 = .ok (.iaload, 1) := by decide +kernel
theorem dX7_coefficientOf_55 : decode cX7_coefficientOf 55 = .ok (.istore_n 2, 1) := by decide +kernel
theorem dX7_coefficientOf_56 : decode cX7_coefficientOf 56 = .ok (.iinc 3 1, 3) := by decide +kernel
theorem dX7_coefficientOf_59 : decode cX7_coefficientOf 59 = .ok (.goto (-44), 3) := by decide +kernel
theorem dX7_coefficientOf_62 : decode cX7_coefficientOf 62 = .ok (.aload_n 0, 1) := by decide +kernel
theorem dX7_coefficientOf_63 : decode cX7_coefficientOf 63 = .ok (.getfield 37, 3) := by decide +kernel
theorem dX7_coefficientOf_66 : decode cX7_coefficientOf 66 = .ok (.iload_n 2, 1) := by decide +kernel
theorem dX7_coefficientOf_67 : decode cX7_coefficientOf 67 = .ok (.iaload, 1) := by decide +kernel
theorem dX7_coefficientOf_68 : decode cX7_coefficientOf 68 = .ok (.ireturn, 1) := by decide +kernel
theorem dX7_coefficient_0 : decode cX7_coefficient 0 = .ok (.aload_n 0, 1) := by decide +kernel
theorem dX7_coefficient_1 : decode cX7_coefficient 1 = .ok (.invokevirtual 240, 3) := by decide +kernel
theorem dX7_coefficient_4 : decode cX7_coefficient 4 = .ok (.aload_n 0, 1) := by decide +kernel
theorem dX7_coefficient_5 : decode cX7_coefficient 5 = .ok (.aload_n 0, 1) := by decide +kernel
theorem dX7_coefficient_6 : decode cX7_coefficient 6 = .ok (.iload_n 1, 1) := by decide +kernel
theorem dX7_coefficient_7 : decode cX7_coefficient 7 = .ok (.invokevirtual 243, 3) := by decide +kernel
theorem dX7_coefficient_10 : decode cX7_coefficient 10 = .ok (.ifCond .ne 7, 3) := by decide +kernel
theorem dX7_coefficient_13 : decode cX7_coefficient 13 = .ok (.iconst 1, 1) := by decide +kernel
theorem dX7_coefficient_14 : decode cX7_coefficient 14 = .ok (.goto 4, 3) := by decide +kernel
theorem dX7_coefficient_17 : decode cX7_coefficient 17 = .ok (.iconst 0, 1) := by decide +kernel
theorem dX7_coefficient_18 : decode cX7_coefficient 18 = .ok (.iconst 1, 1) := by decide +kernel
theorem dX7_coefficient_19 : decode cX7_coefficient 19 = .ok (.iconst 0, 1) := by decide +kernel
theorem dX7_coefficient_20 : decode cX7_coefficient 20 = .ok (.invokevirtual 215, 3) := by decide +kernel
theorem dX7_coefficient_23 : decode cX7_coefficient 23 = .ok (.ifCond .ne 33, 3) := by decide +kernel
theorem dX7_coefficient_26 : decode cX7_coefficient 26 = .ok (.aload_n 0, 1) := by decide +kernel
theorem dX7_coefficient_27 : decode cX7_coefficient 27 = .ok (.iload_n 2, 1) := by decide +kernel
theorem dX7_coefficient_28 : decode cX7_coefficient 28 = .ok (.i2l, 1) := by decide +kernel
theorem dX7_coefficient_29 : decode cX7_coefficient 29 = .ok (.lconst 0, 1) := by decide +kernel
theorem dX7_coefficient_30 : decode cX7_coefficient 30 = .ok (.aload_n 0, 1) := by decide +kernel
theorem dX7_coefficient_31 : decode cX7_coefficient 31 = .ok (.getfield 92, 3) := by decide +kernel
theorem dX7_coefficient_34 : decode cX7_coefficient 34 = .ok (.iconst 1, 1) := by decide +kernel
theorem dX7_coefficient_35 : decode cX7_coefficient 35 = .ok (.isub, 1) := by decide +kernel
theorem dX7_coefficient_36 : decode cX7_coefficient 36 = .ok (.i2l, 1) := by decide +kernel
theorem dX7_coefficient_37 : decode cX7_coefficient 37 = .ok (.invokestatic 154, 3) := by decide +kernel
theorem dX7_coefficient_40 : decode cX7_coefficient 40 = .ok (.ifCond .ne 7, 3) := by decide +kernel
theorem dX7_coefficient_43 : decode cX7_coefficient 43 = .ok (.iconst 1, 1) := by decide +kernel
theorem dX7_coefficient_44 : decode cX7_coefficient 44 = .ok (.goto 4, 3) := by decide +kernel
theorem dX7_coefficient_47 : decode cX7_coefficient 47 = .ok (.iconst 0, 1) := by decide +kernel
theorem dX7_coefficient_48 : decode cX7_coefficient 48 = .ok (.iconst 2, 1) := by decide +kernel
theorem dX7_coefficient_49 : decode cX7_coefficient 49 = .ok (.iconst 1, 1) := by decide +kernel
theorem dX7_coefficient_50 : decode cX7_coefficient 50 = .ok (.invokevirtual 215, 3) := by decide +kernel
theorem dX7_coefficient_53 : decode cX7_coefficient 53 = .ok (.ifCond .eq 5, 3) := by decide +kernel
theorem dX7_coefficient_56 : decode cX7_coefficient 56 = .ok (.iconst 0, 1) := by decide +kernel
theorem dX7_coefficient_57 : decode cX7_coefficient 57 = .ok (.ireturn, 1) := by decide +kernel
theorem dX7_coefficient_58 : decode cX7_coefficient 58 = .ok (.aload_n 0, 1) := by decide +kernel
theorem dX7_coefficient_59 : decode cX7_coefficient 59 = .ok (.iload_n 1, 1) := by decide +kernel
theorem dX7_coefficient_60 : decode cX7_coefficient 60 = .ok (.invokevirtual 273, 3) := by decide +kernel
theorem dX7_coefficient_63 : decode cX7_coefficient 63 = .ok (.aload_n 0, 1) := by decide +kernel
theorem dX7_coefficient_64 : decode cX7_coefficient 64 = .ok (.iload_n 2, 1) := by decide +kernel
theorem dX7_coefficient_65 : decode cX7_coefficient 65 = .ok (.invokevirtual 276, 3) := by decide +kernel
theorem dX7_coefficient_68 : decode cX7_coefficient 68 = .ok (.ireturn, 1) := by decide +kernel
theorem dX7_degree_0 : decode cX7_degree 0 = .ok (.aload_n 0, 1) := by decide +kernel
theorem dX7_degree_1 : decode cX7_degree 1 = .ok (.invokevirtual 240, 3) := by decide +kernel
theorem dX7_degree_4 : decode cX7_degree 4 = .ok (.aload_n 0, 1) := by decide +kernel
theorem dX7_degree_5 : decode cX7_degree 5 = .ok (.aload_n 0, 1) := by decide +kernel
theorem dX7_degree_6 : decode cX7_degree 6 = .ok (.iload_n 1, 1) := by decide +kernel
theorem dX7_degree_7 : decode cX7_degree 7 = .ok (.invokevirtual 243, 3) := by decide +kernel
theorem dX7_degree_10 : decode cX7_degree 10 = .ok (.ifCond .ne 7, 3) := by decide +kernel
theorem dX7_degree_13 : decode cX7_degree 13 = .ok (.iconst 1, 1) := by decide +kernel
theorem dX7_degree_14 : decode cX7_degree 14 = .ok (.goto 4, 3) := by decide +kernel
theorem dX7_degree_17 : decode cX7_degree 17 = .ok (.iconst 0, 1) := by decide +kernel
theorem dX7_degree_18 : decode cX7_degree 18 = .ok (.iconst 1, 1) := by decide +kernel
theorem dX7_degree_19 : decode cX7_degree 19 = .ok (.iconst 0, 1) := by decide +kernel
theorem dX7_degree_20 : decode cX7_degree 20 = .ok (.invokevirtual 215, 3) := by decide +kernel
theorem dX7_degree_23 : decode cX7_degree 23 = .ok (.ifCond .eq 5, 3) := by decide +kernel
theorem dX7_degree_26 : decode cX7_degree 26 = .ok (.iconst 0, 1) := by decide +kernel
theorem dX7_degree_27 : decode cX7_degree 27 = .ok (.ireturn, 1) := by decide +kernel
theorem dX7_degree_28 : decode cX7_degree 28 = .ok (.aload_n 0, 1) := by decide +kernel
theorem dX7_degree_29 : decode cX7_degree 29 = .ok (.iload_n 1, 1) := by decide +kernel
theorem dX7_degree_30 : decode cX7_degree 30 = .ok (.invokevirtual 273, 3) := by decide +kernel
theorem dX7_degree_33 : decode cX7_degree 33 = .ok (.aload_n 0, 1) := by decide +kernel
theorem dX7_degree_34 : decode cX7_degree 34 = .ok (.getfield 92, 3) := by decide +kernel
theorem dX7_degree_37 : decode cX7_degree 37 = .ok (.iconst 1, 1) := by decide +kernel
theorem dX7_degree_38 : decode cX7_degree 38 = .ok (.isub, 1) := by decide +kernel
theorem dX7_degree_39 : decode cX7_degree 39 = .ok (.istore_n 2, 1) := by decide +kernel
theorem dX7_degree_40 : decode cX7_degree 40 = .ok (.iload_n 2, 1) := by decide +kernel
theorem dX7_degree_41 : decode cX7_degree 41 = .ok (.ifCond .lt 17, 3) := by decide +kernel
theorem dX7_degree_44 : decode cX7_degree 44 = .ok (.aload_n 0, 1) := by decide +kernel
theorem dX7_degree_45 : decode cX7_degree 45 = .ok (.iload_n 2, 1) := by decide +kernel
theorem dX7_degree_46 : decode cX7_degree 46 = .ok (.invokevirtual 276, 3) := by decide +kernel
theorem dX7_degree_49 : decode cX7_degree 49 = .ok (.ifCond .ne 9, 3) := by decide +kernel
theorem dX7_degree_52 : decode cX7_degree 52 = .ok (.iinc 2 (-1), 3) := by decide +kernel
theorem dX7_degree_55 : decode cX7_degree 55 = .ok (.goto (-15), 3) := by decide +kernel
theorem dX7_degree_58 : decode cX7_degree 58 = .ok (.iload_n 2, 1) := by decide +kernel
theorem dX7_degree_59 : decode cX7_degree 59 = .ok (.ireturn, 1) := by decide +kernel
theorem dX7_taken_0 : decode cX7_taken 0 = .ok (.aload_n 0, 1) := by decide +kernel
theorem dX7_taken_1 : decode cX7_taken 1 = .ok (.invokevirtual 240, 3) := by decide +kernel
theorem dX7_taken_4 : decode cX7_taken 4 = .ok (.aload_n 0, 1) := by decide +kernel
theorem dX7_taken_5 : decode cX7_taken 5 = .ok (.aload_n 0, 1) := by decide +kernel
theorem dX7_taken_6 : decode cX7_taken 6 = .ok (.iload_n 1, 1) := by decide +kernel
theorem dX7_taken_7 : decode cX7_taken 7 = .ok (.invokevirtual 243, 3) := by decide +kernel
theorem dX7_taken_10 : decode cX7_taken 10 = .ok (.ifCond .eq 11, 3) := by decide +kernel
theorem dX7_taken_13 : decode cX7_taken 13 = .ok (.aload_n 0, 1) := by decide +kernel
theorem dX7_taken_14 : decode cX7_taken 14 = .ok (.iload_n 2, 1) := by decide +kernel
theorem dX7_taken_15 : decode cX7_taken 15 = .ok (.invokevirtual 246, 3) := by decide +kernel
theorem dX7_taken_18 : decode cX7_taken 18 = .ok (.ifCond .ne 7, 3) := by decide +kernel
theorem dX7_taken_21 : decode cX7_taken 21 = .ok (.iconst 1, 1) := by decide +kernel
theorem dX7_taken_22 : decode cX7_taken 22 = .ok (.goto 4, 3) := by decide +kernel
theorem dX7_taken_25 : decode cX7_taken 25 = .ok (.iconst 0, 1) := by decide +kernel
theorem dX7_taken_26 : decode cX7_taken 26 = .ok (.iconst 1, 1) := by decide +kernel
theorem dX7_taken_27 : decode cX7_taken 27 = .ok (.iconst 0, 1) := by decide +kernel
theorem dX7_taken_28 : decode cX7_taken 28 = .ok (.invokevirtual 215, 3) := by decide +kernel
theorem dX7_taken_31 : decode cX7_taken 31 = .ok (.ifCond .eq 7, 3) := by decide +kernel
theorem dX7_taken_34 : decode cX7_taken 34 = .ok (.iconst 0, 1) := by decide +kernel
theorem dX7_taken_35 : decode cX7_taken 35 = .ok (.goto 9, 3) := by decide +kernel
theorem dX7_taken_38 : decode cX7_taken 38 = .ok (.aload_n 0, 1) := by decide +kernel
theorem dX7_taken_39 : decode cX7_taken 39 = .ok (.iload_n 1, 1) := by decide +kernel
theorem dX7_taken_40 : decode cX7_taken 40 = .ok (.iload_n 2, 1) := by decide +kernel
theorem dX7_taken_41 : decode cX7_taken 41 = .ok (.invokevirtual 260, 3) := by decide +kernel
theorem dX7_taken_44 : decode cX7_taken 44 = .ok (.ireturn, 1) := by decide +kernel
theorem dX7_image_0 : decode cX7_image 0 = .ok (.aload_n 0, 1) := by decide +kernel
theorem dX7_image_1 : decode cX7_image 1 = .ok (.invokevirtual 240, 3) := by decide +kernel
theorem dX7_image_4 : decode cX7_image 4 = .ok (.aload_n 0, 1) := by decide +kernel
theorem dX7_image_5 : decode cX7_image 5 = .ok (.aload_n 0, 1) := by decide +kernel
theorem dX7_image_6 : decode cX7_image 6 = .ok (.iload_n 1, 1) := by decide +kernel
theorem dX7_image_7 : decode cX7_image 7 = .ok (.invokevirtual 243, 3) := by decide +kernel
theorem dX7_image_10 : decode cX7_image 10 = .ok (.ifCond .ne 7, 3) := by decide +kernel
theorem dX7_image_13 : decode cX7_image 13 = .ok (.iconst 1, 1) := by decide +kernel
theorem dX7_image_14 : decode cX7_image 14 = .ok (.goto 4, 3) := by decide +kernel
theorem dX7_image_17 : decode cX7_image 17 = .ok (.iconst 0, 1) := by decide +kernel
theorem dX7_image_18 : decode cX7_image 18 = .ok (.iconst 1, 1) := by decide +kernel
theorem dX7_image_19 : decode cX7_image 19 = .ok (.iconst 0, 1) := by decide +kernel
theorem dX7_image_20 : decode cX7_image 20 = .ok (.invokevirtual 215, 3) := by decide +kernel
theorem dX7_image_23 : decode cX7_image 23 = .ok (.ifCond .eq 7, 3) := by decide +kernel
theorem dX7_image_26 : decode cX7_image 26 = .ok (.iconst 0, 1) := by decide +kernel
theorem dX7_image_27 : decode cX7_image 27 = .ok (.goto 8, 3) := by decide +kernel
theorem dX7_image_30 : decode cX7_image 30 = .ok (.aload_n 0, 1) := by decide +kernel
theorem dX7_image_31 : decode cX7_image 31 = .ok (.iload_n 1, 1) := by decide +kernel
theorem dX7_image_32 : decode cX7_image 32 = .ok (.invokevirtual 263, 3) := by decide +kernel
theorem dX7_image_35 : decode cX7_image 35 = .ok (.ireturn, 1) := by decide +kernel
theorem dX7_permutes_0 : decode cX7_permutes 0 = .ok (.aload_n 0, 1) := by decide +kernel
theorem dX7_permutes_1 : decode cX7_permutes 1 = .ok (.invokevirtual 240, 3) := by decide +kernel
theorem dX7_permutes_4 : decode cX7_permutes 4 = .ok (.aload_n 0, 1) := by decide +kernel
theorem dX7_permutes_5 : decode cX7_permutes 5 = .ok (.aload_n 0, 1) := by decide +kernel
theorem dX7_permutes_6 : decode cX7_permutes 6 = .ok (.iload_n 1, 1) := by decide +kernel
theorem dX7_permutes_7 : decode cX7_permutes 7 = .ok (.invokevirtual 243, 3) := by decide +kernel
theorem dX7_permutes_10 : decode cX7_permutes 10 = .ok (.ifCond .ne 7, 3) := by decide +kernel
theorem dX7_permutes_13 : decode cX7_permutes 13 = .ok (.iconst 1, 1) := by decide +kernel
theorem dX7_permutes_14 : decode cX7_permutes 14 = .ok (.goto 4, 3) := by decide +kernel
theorem dX7_permutes_17 : decode cX7_permutes 17 = .ok (.iconst 0, 1) := by decide +kernel
theorem dX7_permutes_18 : decode cX7_permutes 18 = .ok (.iconst 1, 1) := by decide +kernel
theorem dX7_permutes_19 : decode cX7_permutes 19 = .ok (.iconst 0, 1) := by decide +kernel
theorem dX7_permutes_20 : decode cX7_permutes 20 = .ok (.invokevirtual 215, 3) := by decide +kernel
theorem dX7_permutes_23 : decode cX7_permutes 23 = .ok (.ifCond .eq 7, 3) := by decide +kernel
theorem dX7_permutes_26 : decode cX7_permutes 26 = .ok (.iconst 0, 1) := by decide +kernel
theorem dX7_permutes_27 : decode cX7_permutes 27 = .ok (.goto 16, 3) := by decide +kernel
theorem dX7_permutes_30 : decode cX7_permutes 30 = .ok (.aload_n 0, 1) := by decide +kernel
theorem dX7_permutes_31 : decode cX7_permutes 31 = .ok (.iload_n 1, 1) := by decide +kernel
theorem dX7_permutes_32 : decode cX7_permutes 32 = .ok (.invokevirtual 266, 3) := by decide +kernel
theorem dX7_permutes_35 : decode cX7_permutes 35 = .ok (.ifCond .eq 7, 3) := by decide +kernel
theorem dX7_permutes_38 : decode cX7_permutes 38 = .ok (.iconst 1, 1) := by decide +kernel
theorem dX7_permutes_39 : decode cX7_permutes 39 = .ok (.goto 4, 3) := by decide +kernel
theorem dX7_permutes_42 : decode cX7_permutes 42 = .ok (.iconst 0, 1) := by decide +kernel
theorem dX7_permutes_43 : decode cX7_permutes 43 = .ok (.ireturn, 1) := by decide +kernel
theorem dX7_powers_0 : decode cX7_powers 0 = .ok (.aload_n 0, 1) := by decide +kernel
theorem dX7_powers_1 : decode cX7_powers 1 = .ok (.invokevirtual 240, 3) := by decide +kernel
theorem dX7_powers_4 : decode cX7_powers 4 = .ok (.aload_n 0, 1) := by decide +kernel
theorem dX7_powers_5 : decode cX7_powers 5 = .ok (.aload_n 0, 1) := by decide +kernel
theorem dX7_powers_6 : decode cX7_powers 6 = .ok (.iload_n 1, 1) := by decide +kernel
theorem dX7_powers_7 : decode cX7_powers 7 = .ok (.invokevirtual 243, 3) := by decide +kernel
theorem dX7_powers_10 : decode cX7_powers 10 = .ok (.ifCond .ne 7, 3) := by decide +kernel
theorem dX7_powers_13 : decode cX7_powers 13 = .ok (.iconst 1, 1) := by decide +kernel
theorem dX7_powers_14 : decode cX7_powers 14 = .ok (.goto 4, 3) := by decide +kernel
theorem dX7_powers_17 : decode cX7_powers 17 = .ok (.iconst 0, 1) := by decide +kernel
theorem dX7_powers_18 : decode cX7_powers 18 = .ok (.iconst 1, 1) := by decide +kernel
theorem dX7_powers_19 : decode cX7_powers 19 = .ok (.iconst 0, 1) := by decide +kernel
theorem dX7_powers_20 : decode cX7_powers 20 = .ok (.invokevirtual 215, 3) := by decide +kernel
theorem dX7_powers_23 : decode cX7_powers 23 = .ok (.ifCond .eq 5, 3) := by decide +kernel
theorem dX7_powers_26 : decode cX7_powers 26 = .ok (.iconst 0, 1) := by decide +kernel
theorem dX7_powers_27 : decode cX7_powers 27 = .ok (.ireturn, 1) := by decide +kernel
theorem dX7_powers_28 : decode cX7_powers 28 = .ok (.aload_n 0, 1) := by decide +kernel
theorem dX7_powers_29 : decode cX7_powers 29 = .ok (.iload_n 1, 1) := by decide +kernel
theorem dX7_powers_30 : decode cX7_powers 30 = .ok (.iconst 0, 1) := by decide +kernel
theorem dX7_powers_31 : decode cX7_powers 31 = .ok (.invokevirtual 260, 3) := by decide +kernel
theorem dX7_powers_34 : decode cX7_powers 34 = .ok (.iconst 1, 1) := by decide +kernel
theorem dX7_powers_35 : decode cX7_powers 35 = .ok (.if_icmp .eq 5, 3) := by decide +kernel
theorem dX7_powers_38 : decode cX7_powers 38 = .ok (.iconst 0, 1) := by decide +kernel
theorem dX7_powers_39 : decode cX7_powers 39 = .ok (.ireturn, 1) := by decide +kernel
theorem dX7_powers_40 : decode cX7_powers 40 = .ok (.iconst 1, 1) := by decide +kernel
theorem dX7_powers_41 : decode cX7_powers 41 = .ok (.istore_n 2, 1) := by decide +kernel
theorem dX7_powers_42 : decode cX7_powers 42 = .ok (.iload_n 2, 1) := by decide +kernel
theorem dX7_powers_43 : decode cX7_powers 43 = .ok (.aload_n 0, 1) := by decide +kernel
theorem dX7_powers_44 : decode cX7_powers 44 = .ok (.getfield 92, 3) := by decide +kernel
theorem dX7_powers_47 : decode cX7_powers 47 = .ok (.iconst 1, 1) := by decide +kernel
theorem dX7_powers_48 : decode cX7_powers 48 = .ok (.isub, 1) := by decide +kernel
theorem dX7_powers_49 : decode cX7_powers 49 = .ok (.if_icmp .ge 69, 3) := by decide +kernel
theorem dX7_powers_52 : decode cX7_powers 52 = .ok (.iload_n 2, 1) := by decide +kernel
theorem dX7_powers_53 : decode cX7_powers 53 = .ok (.aload_n 0, 1) := by decide +kernel
theorem dX7_powers_54 : decode cX7_powers 54 = .ok (.getfield 68, 3) := by decide +kernel
theorem dX7_powers_57 : decode cX7_powers 57 = .ok (.irem, 1) := by decide +kernel
theorem dX7_powers_58 : decode cX7_powers 58 = .ok (.ifCond .ne 6, 3) := by decide +kernel
theorem dX7_powers_61 : decode cX7_powers 61 = .ok (.goto 51, 3) := by decide +kernel
theorem dX7_powers_64 : decode cX7_powers 64 = .ok (.iconst 0, 1) := by decide +kernel
theorem dX7_powers_65 : decode cX7_powers 65 = .ok (.istore_n 3, 1) := by decide +kernel
theorem dX7_powers_66 : decode cX7_powers 66 = .ok (.iload_n 3, 1) := by decide +kernel
theorem dX7_powers_67 : decode cX7_powers 67 = .ok (.aload_n 0, 1) := by decide +kernel
theorem dX7_powers_68 : decode cX7_powers 68 = .ok (.getfield 92, 3) := by decide +kernel
theorem dX7_powers_71 : decode cX7_powers 71 = .ok (.if_icmp .ge 26, 3) := by decide +kernel
theorem dX7_powers_74 : decode cX7_powers 74 = .ok (.aload_n 0, 1) := by decide +kernel
theorem dX7_powers_75 : decode cX7_powers 75 = .ok (.getfield 46, 3) := by decide +kernel
theorem dX7_powers_78 : decode cX7_powers 78 = .ok (.iload_n 3, 1) := by decide +kernel
theorem dX7_powers_79 : decode cX7_powers 79 = .ok (.aload_n 0, 1) := by decide +kernel
theorem dX7_powers_80 : decode cX7_powers 80 = .ok (.aload_n 0, 1) := by decide +kernel
theorem dX7_powers_81 : decode cX7_powers 81 = .ok (.iload_n 1, 1) := by decide +kernel
theorem dX7_powers_82 : decode cX7_powers 82 = .ok (.iload_n 3, 1) := by decide +kernel
theorem dX7_powers_83 : decode cX7_powers 83 = .ok (.invokevirtual 237, 3) := by decide +kernel
theorem dX7_powers_86 : decode cX7_powers 86 = .ok (.iload_n 2, 1) := by decide +kernel
theorem dX7_powers_87 : decode cX7_powers 87 = .ok (.invokevirtual 197, 3) := by decide +kernel
theorem dX7_powers_90 : decode cX7_powers 90 = .ok (.iastore, 1) := by decide +kernel
theorem dX7_powers_91 : decode cX7_powers 91 = .ok (.iinc 3 1, 3) := by decide +kernel
theorem dX7_powers_94 : decode cX7_powers 94 = .ok (.goto (-28), 3) := by decide +kernel
theorem dX7_powers_97 : decode cX7_powers 97 = .ok (.aload_n 0, 1) := by decide +kernel
theorem dX7_powers_98 : decode cX7_powers 98 = .ok (.aload_n 0, 1) := by decide +kernel
theorem dX7_powers_99 : decode cX7_powers 99 = .ok (.getfield 92, 3) := by decide +kernel
theorem dX7_powers_102 : decode cX7_powers 102 = .ok (.iconst 1, 1) := by decide +kernel
theorem dX7_powers_103 : decode cX7_powers 103 = .ok (.isub, 1) := by decide +kernel
theorem dX7_powers_104 : decode cX7_powers 104 = .ok (.invokevirtual 276, 3) := by decide +kernel
theorem dX7_powers_107 : decode cX7_powers 107 = .ok (.ifCond .eq 5, 3) := by decide +kernel
theorem dX7_powers_110 : decode cX7_powers 110 = .ok (.iload_n 2, 1) := by decide +kernel
theorem dX7_powers_111 : decode cX7_powers 111 = .ok (.ireturn, 1) := by decide +kernel
theorem dX7_powers_112 : decode cX7_powers 112 = .ok (.iinc 2 1, 3) := by decide +kernel
theorem dX7_powers_115 : decode cX7_powers 115 = .ok (.goto (-73), 3) := by decide +kernel
theorem dX7_powers_118 : decode cX7_powers 118 = .ok (.iconst (-1), 1) := by decide +kernel
theorem dX7_powers_119 : decode cX7_powers 119 = .ok (.ireturn, 1) := by decide +kernel
theorem dX7_cycleOf_0 : decode cX7_cycleOf 0 = .ok (.iconst 1, 1) := by decide +kernel
theorem dX7_cycleOf_1 : decode cX7_cycleOf 1 = .ok (.istore_n 3, 1) := by decide +kernel
theorem dX7_cycleOf_2 : decode cX7_cycleOf 2 = .ok (.aload_n 0, 1) := by decide +kernel
theorem dX7_cycleOf_3 : decode cX7_cycleOf 3 = .ok (.iload_n 1, 1) := by decide +kernel
theorem dX7_cycleOf_4 : decode cX7_cycleOf 4 = .ok (.iload_n 2, 1) := by decide +kernel
theorem dX7_cycleOf_5 : decode cX7_cycleOf 5 = .ok (.invokevirtual 237, 3) := by decide +kernel
theorem dX7_cycleOf_8 : decode cX7_cycleOf 8 = .ok (.istore 4, 2) := by decide +kernel
theorem dX7_cycleOf_10 : decode cX7_cycleOf 10 = .ok (.iload 4, 2) := by decide +kernel
theorem dX7_cycleOf_12 : decode cX7_cycleOf 12 = .ok (.iload_n 2, 1) := by decide +kernel
theorem dX7_cycleOf_13 : decode cX7_cycleOf 13 = .ok (.if_icmp .eq 26, 3) := by decide +kernel
theorem dX7_cycleOf_16 : decode cX7_cycleOf 16 = .ok (.iload 4, 2) := by decide +kernel
theorem dX7_cycleOf_18 : decode cX7_cycleOf 18 = .ok (.iload_n 2, 1) := by decide +kernel
theorem dX7_cycleOf_19 : decode cX7_cycleOf 19 = .ok (.if_icmp .ge 5, 3) := by decide +kernel
theorem dX7_cycleOf_22 : decode cX7_cycleOf 22 = .ok (.iconst 0, 1) := by decide +kernel
theorem dX7_cycleOf_23 : decode cX7_cycleOf 23 = .ok (.ireturn, 1) := by decide +kernel
theorem dX7_cycleOf_24 : decode cX7_cycleOf 24 = .ok (.aload_n 0, 1) := by decide +kernel
theorem dX7_cycleOf_25 : decode cX7_cycleOf 25 = .ok (.iload_n 1, 1) := by decide +kernel
theorem dX7_cycleOf_26 : decode cX7_cycleOf 26 = .ok (.iload 4, 2) := by decide +kernel
theorem dX7_cycleOf_28 : decode cX7_cycleOf 28 = .ok (.invokevirtual 237, 3) := by decide +kernel
theorem dX7_cycleOf_31 : decode cX7_cycleOf 31 = .ok (.istore 4, 2) := by decide +kernel
theorem dX7_cycleOf_33 : decode cX7_cycleOf 33 = .ok (.iinc 3 1, 3) := by decide +kernel
theorem dX7_cycleOf_36 : decode cX7_cycleOf 36 = .ok (.goto (-26), 3) := by decide +kernel
theorem dX7_cycleOf_39 : decode cX7_cycleOf 39 = .ok (.iload_n 3, 1) := by decide +kernel
theorem dX7_cycleOf_40 : decode cX7_cycleOf 40 = .ok (.ireturn, 1) := by decide +kernel
theorem dX7_badPerm_0 : decode cX7_badPerm 0 = .ok (.aload_n 0, 1) := by decide +kernel
theorem dX7_badPerm_1 : decode cX7_badPerm 1 = .ok (.aload_n 0, 1) := by decide +kernel
theorem dX7_badPerm_2 : decode cX7_badPerm 2 = .ok (.iload_n 1, 1) := by decide +kernel
theorem dX7_badPerm_3 : decode cX7_badPerm 3 = .ok (.invokevirtual 243, 3) := by decide +kernel
theorem dX7_badPerm_6 : decode cX7_badPerm 6 = .ok (.ifCond .ne 7, 3) := by decide +kernel
theorem dX7_badPerm_9 : decode cX7_badPerm 9 = .ok (.iconst 1, 1) := by decide +kernel
theorem dX7_badPerm_10 : decode cX7_badPerm 10 = .ok (.goto 4, 3) := by decide +kernel
theorem dX7_badPerm_13 : decode cX7_badPerm 13 = .ok (.iconst 0, 1) := by decide +kernel
theorem dX7_badPerm_14 : decode cX7_badPerm 14 = .ok (.iconst 1, 1) := by decide +kernel
theorem dX7_badPerm_15 : decode cX7_badPerm 15 = .ok (.iconst 0, 1) := by decide +kernel
theorem dX7_badPerm_16 : decode cX7_badPerm 16 = .ok (.invokevirtual 215, 3) := by decide +kernel
theorem dX7_badPerm_19 : decode cX7_badPerm 19 = .ok (.ifCond .ne 43, 3) := by decide +kernel
theorem dX7_badPerm_22 : decode cX7_badPerm 22 = .ok (.aload_n 0, 1) := by decide +kernel
theorem dX7_badPerm_23 : decode cX7_badPerm 23 = .ok (.iload_n 2, 1) := by decide +kernel
theorem dX7_badPerm_24 : decode cX7_badPerm 24 = .ok (.ifCond .ne 7, 3) := by decide +kernel
theorem dX7_badPerm_27 : decode cX7_badPerm 27 = .ok (.iconst 1, 1) := by decide +kernel
theorem dX7_badPerm_28 : decode cX7_badPerm 28 = .ok (.goto 4, 3) := by decide +kernel
theorem dX7_badPerm_31 : decode cX7_badPerm 31 = .ok (.iconst 0, 1) := by decide +kernel
theorem dX7_badPerm_32 : decode cX7_badPerm 32 = .ok (.iconst 2, 1) := by decide +kernel
theorem dX7_badPerm_33 : decode cX7_badPerm 33 = .ok (.iconst 1, 1) := by decide +kernel
theorem dX7_badPerm_34 : decode cX7_badPerm 34 = .ok (.invokevirtual 215, 3) := by decide +kernel
theorem dX7_badPerm_37 : decode cX7_badPerm 37 = .ok (.ifCond .ne 25, 3) := by decide +kernel
theorem dX7_badPerm_40 : decode cX7_badPerm 40 = .ok (.aload_n 0, 1) := by decide +kernel
theorem dX7_badPerm_41 : decode cX7_badPerm 41 = .ok (.aload_n 0, 1) := by decide +kernel
theorem dX7_badPerm_42 : decode cX7_badPerm 42 = .ok (.iload_n 1, 1) := by decide +kernel
theorem dX7_badPerm_43 : decode cX7_badPerm 43 = .ok (.invokevirtual 266, 3) := by decide +kernel
theorem dX7_badPerm_46 : decode cX7_badPerm 46 = .ok (.ifCond .ne 7, 3) := by decide +kernel
theorem dX7_badPerm_49 : decode cX7_badPerm 49 = .ok (.iconst 1, 1) := by decide +kernel
theorem dX7_badPerm_50 : decode cX7_badPerm 50 = .ok (.goto 4, 3) := by decide +kernel
theorem dX7_badPerm_53 : decode cX7_badPerm 53 = .ok (.iconst 0, 1) := by decide +kernel
theorem dX7_badPerm_54 : decode cX7_badPerm 54 = .ok (.iload_n 3, 1) := by decide +kernel
theorem dX7_badPerm_55 : decode cX7_badPerm 55 = .ok (.iconst 2, 1) := by decide +kernel
theorem dX7_badPerm_56 : decode cX7_badPerm 56 = .ok (.invokevirtual 215, 3) := by decide +kernel
theorem dX7_badPerm_59 : decode cX7_badPerm 59 = .ok (.ifCond .eq 7, 3) := by decide +kernel
theorem dX7_badPerm_62 : decode cX7_badPerm 62 = .ok (.iconst 1, 1) := by decide +kernel
theorem dX7_badPerm_63 : decode cX7_badPerm 63 = .ok (.goto 4, 3) := by decide +kernel
theorem dX7_badPerm_66 : decode cX7_badPerm 66 = .ok (.iconst 0, 1) := by decide +kernel
theorem dX7_badPerm_67 : decode cX7_badPerm 67 = .ok (.ireturn, 1) := by decide +kernel
theorem dX7_cyclesOf_0 : decode cX7_cyclesOf 0 = .ok (.iconst 0, 1) := by decide +kernel
theorem dX7_cyclesOf_1 : decode cX7_cyclesOf 1 = .ok (.istore_n 3, 1) := by decide +kernel
theorem dX7_cyclesOf_2 : decode cX7_cyclesOf 2 = .ok (.iconst 0, 1) := by decide +kernel
theorem dX7_cyclesOf_3 : decode cX7_cyclesOf 3 = .ok (.istore 4, 2) := by decide +kernel
theorem dX7_cyclesOf_5 : decode cX7_cyclesOf 5 = .ok (.iload 4, 2) := by decide +kernel
theorem dX7_cyclesOf_7 : decode cX7_cyclesOf 7 = .ok (.aload_n 0, 1) := by decide +kernel
theorem dX7_cyclesOf_8 : decode cX7_cyclesOf 8 = .ok (.getfield 92, 3) := by decide +kernel
theorem dX7_cyclesOf_11 : decode cX7_cyclesOf 11 = .ok (.if_icmp .ge 50, 3) := by decide +kernel
theorem dX7_cyclesOf_14 : decode cX7_cyclesOf 14 = .ok (.iload_n 3, 1) := by decide +kernel
theorem dX7_cyclesOf_15 : decode cX7_cyclesOf 15 = .ok (.iload_n 2, 1) := by decide +kernel
theorem dX7_cyclesOf_16 : decode cX7_cyclesOf 16 = .ok (.ifCond .ne 21, 3) := by decide +kernel
theorem dX7_cyclesOf_19 : decode cX7_cyclesOf 19 = .ok (.aload_n 0, 1) := by decide +kernel
theorem dX7_cyclesOf_20 : decode cX7_cyclesOf 20 = .ok (.iload_n 1, 1) := by decide +kernel
theorem dX7_cyclesOf_21 : decode cX7_cyclesOf 21 = .ok (.iload 4, 2) := by decide +kernel
theorem dX7_cyclesOf_23 : decode cX7_cyclesOf 23 = .ok (.invokevirtual 279, 3) := by decide +kernel
theorem dX7_cyclesOf_26 : decode cX7_cyclesOf 26 = .ok (.ifCond .le 7, 3) := by decide +kernel
theorem dX7_cyclesOf_29 : decode cX7_cyclesOf 29 = .ok (.iconst 1, 1) := by decide +kernel
theorem dX7_cyclesOf_30 : decode cX7_cyclesOf 30 = .ok (.goto 23, 3) := by decide +kernel
theorem dX7_cyclesOf_33 : decode cX7_cyclesOf 33 = .ok (.iconst 0, 1) := by decide +kernel
theorem dX7_cyclesOf_34 : decode cX7_cyclesOf 34 = .ok (.goto 19, 3) := by decide +kernel
theorem dX7_cyclesOf_37 : decode cX7_cyclesOf 37 = .ok (.aload_n 0, 1) := by decide +kernel
theorem dX7_cyclesOf_38 : decode cX7_cyclesOf 38 = .ok (.iload_n 1, 1) := by decide +kernel
theorem dX7_cyclesOf_39 : decode cX7_cyclesOf 39 = .ok (.iload 4, 2) := by decide +kernel
theorem dX7_cyclesOf_41 : decode cX7_cyclesOf 41 = .ok (.invokevirtual 279, 3) := by decide +kernel
theorem dX7_cyclesOf_44 : decode cX7_cyclesOf 44 = .ok (.iload_n 2, 1) := by decide +kernel
theorem dX7_cyclesOf_45 : decode cX7_cyclesOf 45 = .ok (.if_icmp .ne 7, 3) := by decide +kernel
theorem dX7_cyclesOf_48 : decode cX7_cyclesOf 48 = .ok (.iconst 1, 1) := by decide +kernel
theorem dX7_cyclesOf_49 : decode cX7_cyclesOf 49 = .ok (.goto 4, 3) := by decide +kernel
theorem dX7_cyclesOf_52 : decode cX7_cyclesOf 52 = .ok (.iconst 0, 1) := by decide +kernel
theorem dX7_cyclesOf_53 : decode cX7_cyclesOf 53 = .ok (.iadd, 1) := by decide +kernel
theorem dX7_cyclesOf_54 : decode cX7_cyclesOf 54 = .ok (.istore_n 3, 1) := by decide +kernel
theorem dX7_cyclesOf_55 : decode cX7_cyclesOf 55 = .ok (.iinc 4 1, 3) := by decide +kernel
theorem dX7_cyclesOf_58 : decode cX7_cyclesOf 58 = .ok (.goto (-53), 3) := by decide +kernel
theorem dX7_cyclesOf_61 : decode cX7_cyclesOf 61 = .ok (.iload_n 3, 1) := by decide +kernel
theorem dX7_cyclesOf_62 : decode cX7_cyclesOf 62 = .ok (.ireturn, 1) := by decide +kernel
theorem dX7_cycles_0 : decode cX7_cycles 0 = .ok (.aload_n 0, 1) := by decide +kernel
theorem dX7_cycles_1 : decode cX7_cycles 1 = .ok (.invokevirtual 240, 3) := by decide +kernel
theorem dX7_cycles_4 : decode cX7_cycles 4 = .ok (.aload_n 0, 1) := by decide +kernel
theorem dX7_cycles_5 : decode cX7_cycles 5 = .ok (.iload_n 1, 1) := by decide +kernel
theorem dX7_cycles_6 : decode cX7_cycles 6 = .ok (.iload_n 2, 1) := by decide +kernel
theorem dX7_cycles_7 : decode cX7_cycles 7 = .ok (.i2l, 1) := by decide +kernel
theorem dX7_cycles_8 : decode cX7_cycles 8 = .ok (.lconst 0, 1) := by decide +kernel
theorem dX7_cycles_9 : decode cX7_cycles 9 = .ok (.ldc2_w 282, 3) := by decide +kernel
theorem dX7_cycles_12 : decode cX7_cycles 12 = .ok (.invokestatic 154, 3) := by decide +kernel
theorem dX7_cycles_15 : decode cX7_cycles 15 = .ok (.iconst 3, 1) := by decide +kernel
theorem dX7_cycles_16 : decode cX7_cycles 16 = .ok (.invokevirtual 284, 3) := by decide +kernel
theorem dX7_cycles_19 : decode cX7_cycles 19 = .ok (.ifCond .eq 7, 3) := by decide +kernel
theorem dX7_cycles_22 : decode cX7_cycles 22 = .ok (.iconst 0, 1) := by decide +kernel
theorem dX7_cycles_23 : decode cX7_cycles 23 = .ok (.goto 9, 3) := by decide +kernel
theorem dX7_cycles_26 : decode cX7_cycles 26 = .ok (.aload_n 0, 1) := by decide +kernel
theorem dX7_cycles_27 : decode cX7_cycles 27 = .ok (.iload_n 1, 1) := by decide +kernel
theorem dX7_cycles_28 : decode cX7_cycles 28 = .ok (.iload_n 2, 1) := by decide +kernel
theorem dX7_cycles_29 : decode cX7_cycles 29 = .ok (.invokevirtual 288, 3) := by decide +kernel
theorem dX7_cycles_32 : decode cX7_cycles 32 = .ok (.ireturn, 1) := by decide +kernel
theorem dX7_common_0 : decode cX7_common 0 = .ok (.iload_n 0, 1) := by decide +kernel
theorem dX7_common_1 : decode cX7_common 1 = .ok (.istore_n 2, 1) := by decide +kernel
theorem dX7_common_2 : decode cX7_common 2 = .ok (.iload_n 1, 1) := by decide +kernel
theorem dX7_common_3 : decode cX7_common 3 = .ok (.istore_n 3, 1) := by decide +kernel
theorem dX7_common_4 : decode cX7_common 4 = .ok (.iload_n 3, 1) := by decide +kernel
theorem dX7_common_5 : decode cX7_common 5 = .ok (.ifCond .eq 16, 3) := by decide +kernel
theorem dX7_common_8 : decode cX7_common 8 = .ok (.iload_n 2, 1) := by decide +kernel
theorem dX7_common_9 : decode cX7_common 9 = .ok (.iload_n 3, 1) := by decide +kernel
theorem dX7_common_10 : decode cX7_common 10 = .ok (.irem, 1) := by decide +kernel
theorem dX7_common_11 : decode cX7_common 11 = .ok (.istore 4, 2) := by decide +kernel
theorem dX7_common_13 : decode cX7_common 13 = .ok (.iload_n 3, 1) := by decide +kernel
theorem dX7_common_14 : decode cX7_common 14 = .ok (.istore_n 2, 1) := by decide +kernel
theorem dX7_common_15 : decode cX7_common 15 = .ok (.iload 4, 2) := by decide +kernel
theorem dX7_common_17 : decode cX7_common 17 = .ok (.istore_n 3, 1) := by decide +kernel
theorem dX7_common_18 : decode cX7_common 18 = .ok (.goto (-14), 3) := by decide +kernel
theorem dX7_common_21 : decode cX7_common 21 = .ok (.iload_n 2, 1) := by decide +kernel
theorem dX7_common_22 : decode cX7_common 22 = .ok (.ireturn, 1) := by decide +kernel
theorem dX7_order_0 : decode cX7_order 0 = .ok (.aload_n 0, 1) := by decide +kernel
theorem dX7_order_1 : decode cX7_order 1 = .ok (.invokevirtual 240, 3) := by decide +kernel
theorem dX7_order_4 : decode cX7_order 4 = .ok (.aload_n 0, 1) := by decide +kernel
theorem dX7_order_5 : decode cX7_order 5 = .ok (.iload_n 1, 1) := by decide +kernel
theorem dX7_order_6 : decode cX7_order 6 = .ok (.iconst 1, 1) := by decide +kernel
theorem dX7_order_7 : decode cX7_order 7 = .ok (.iconst 2, 1) := by decide +kernel
theorem dX7_order_8 : decode cX7_order 8 = .ok (.invokevirtual 284, 3) := by decide +kernel
theorem dX7_order_11 : decode cX7_order 11 = .ok (.ifCond .eq 5, 3) := by decide +kernel
theorem dX7_order_14 : decode cX7_order 14 = .ok (.iconst 0, 1) := by decide +kernel
theorem dX7_order_15 : decode cX7_order 15 = .ok (.ireturn, 1) := by decide +kernel
theorem dX7_order_16 : decode cX7_order 16 = .ok (.iconst 1, 1) := by decide +kernel
theorem dX7_order_17 : decode cX7_order 17 = .ok (.istore_n 2, 1) := by decide +kernel
theorem dX7_order_18 : decode cX7_order 18 = .ok (.iconst 0, 1) := by decide +kernel
theorem dX7_order_19 : decode cX7_order 19 = .ok (.istore_n 3, 1) := by decide +kernel
theorem dX7_order_20 : decode cX7_order 20 = .ok (.iload_n 3, 1) := by decide +kernel
theorem dX7_order_21 : decode cX7_order 21 = .ok (.aload_n 0, 1) := by decide +kernel
theorem dX7_order_22 : decode cX7_order 22 = .ok (.getfield 92, 3) := by decide +kernel
theorem dX7_order_25 : decode cX7_order 25 = .ok (.if_icmp .ge 34, 3) := by decide +kernel
theorem dX7_order_28 : decode cX7_order 28 = .ok (.aload_n 0, 1) := by decide +kernel
theorem dX7_order_29 : decode cX7_order 29 = .ok (.iload_n 1, 1) := by decide +kernel
theorem dX7_order_30 : decode cX7_order 30 = .ok (.iload_n 3, 1) := by decide +kernel
theorem dX7_order_31 : decode cX7_order 31 = .ok (.invokevirtual 279, 3) := by decide +kernel
theorem dX7_order_34 : decode cX7_order 34 = .ok (.istore 4, 2) := by decide +kernel
theorem dX7_order_36 : decode cX7_order 36 = .ok (.iload 4, 2) := by decide +kernel
theorem dX7_order_38 : decode cX7_order 38 = .ok (.ifCond .le 15, 3) := by decide +kernel
theorem dX7_order_41 : decode cX7_order 41 = .ok (.iload_n 2, 1) := by decide +kernel
theorem dX7_order_42 : decode cX7_order 42 = .ok (.iload_n 2, 1) := by decide +kernel
theorem dX7_order_43 : decode cX7_order 43 = .ok (.iload 4, 2) := by decide +kernel
theorem dX7_order_45 : decode cX7_order 45 = .ok (.invokestatic 291, 3) := by decide +kernel
theorem dX7_order_48 : decode cX7_order 48 = .ok (.idiv, 1) := by decide +kernel
theorem dX7_order_49 : decode cX7_order 49 = .ok (.iload 4, 2) := by decide +kernel
theorem dX7_order_51 : decode cX7_order 51 = .ok (.imul, 1) := by decide +kernel
theorem dX7_order_52 : decode cX7_order 52 = .ok (.istore_n 2, 1) := by decide +kernel
theorem dX7_order_53 : decode cX7_order 53 = .ok (.iinc 3 1, 3) := by decide +kernel
theorem dX7_order_56 : decode cX7_order 56 = .ok (.goto (-36), 3) := by decide +kernel
theorem dX7_order_59 : decode cX7_order 59 = .ok (.iload_n 2, 1) := by decide +kernel
theorem dX7_order_60 : decode cX7_order 60 = .ok (.ireturn, 1) := by decide +kernel
theorem dX7_even_0 : decode cX7_even 0 = .ok (.aload_n 0, 1) := by decide +kernel
theorem dX7_even_1 : decode cX7_even 1 = .ok (.invokevirtual 240, 3) := by decide +kernel
theorem dX7_even_4 : decode cX7_even 4 = .ok (.aload_n 0, 1) := by decide +kernel
theorem dX7_even_5 : decode cX7_even 5 = .ok (.iload_n 1, 1) := by decide +kernel
theorem dX7_even_6 : decode cX7_even 6 = .ok (.iconst 1, 1) := by decide +kernel
theorem dX7_even_7 : decode cX7_even 7 = .ok (.iconst 2, 1) := by decide +kernel
theorem dX7_even_8 : decode cX7_even 8 = .ok (.invokevirtual 284, 3) := by decide +kernel
theorem dX7_even_11 : decode cX7_even 11 = .ok (.ifCond .eq 7, 3) := by decide +kernel
theorem dX7_even_14 : decode cX7_even 14 = .ok (.iconst 0, 1) := by decide +kernel
theorem dX7_even_15 : decode cX7_even 15 = .ok (.goto 24, 3) := by decide +kernel
theorem dX7_even_18 : decode cX7_even 18 = .ok (.aload_n 0, 1) := by decide +kernel
theorem dX7_even_19 : decode cX7_even 19 = .ok (.getfield 92, 3) := by decide +kernel
theorem dX7_even_22 : decode cX7_even 22 = .ok (.aload_n 0, 1) := by decide +kernel
theorem dX7_even_23 : decode cX7_even 23 = .ok (.iload_n 1, 1) := by decide +kernel
theorem dX7_even_24 : decode cX7_even 24 = .ok (.iconst 0, 1) := by decide +kernel
theorem dX7_even_25 : decode cX7_even 25 = .ok (.invokevirtual 288, 3) := by decide +kernel
theorem dX7_even_28 : decode cX7_even 28 = .ok (.isub, 1) := by decide +kernel
theorem dX7_even_29 : decode cX7_even 29 = .ok (.iconst 2, 1) := by decide +kernel
theorem dX7_even_30 : decode cX7_even 30 = .ok (.irem, 1) := by decide +kernel
theorem dX7_even_31 : decode cX7_even 31 = .ok (.ifCond .ne 7, 3) := by decide +kernel
theorem dX7_even_34 : decode cX7_even 34 = .ok (.iconst 1, 1) := by decide +kernel
theorem dX7_even_35 : decode cX7_even 35 = .ok (.goto 4, 3) := by decide +kernel
theorem dX7_even_38 : decode cX7_even 38 = .ok (.iconst 0, 1) := by decide +kernel
theorem dX7_even_39 : decode cX7_even 39 = .ok (.ireturn, 1) := by decide +kernel
theorem dX7_laysOrbits_0 : decode cX7_laysOrbits 0 = .ok (.iconst 0, 1) := by decide +kernel
theorem dX7_laysOrbits_1 : decode cX7_laysOrbits 1 = .ok (.istore_n 1, 1) := by decide +kernel
theorem dX7_laysOrbits_2 : decode cX7_laysOrbits 2 = .ok (.iload_n 1, 1) := by decide +kernel
theorem dX7_laysOrbits_3 : decode cX7_laysOrbits 3 = .ok (.aload_n 0, 1) := by decide +kernel
theorem dX7_laysOrbits_4 : decode cX7_laysOrbits 4 = .ok (.getfield 92, 3) := by decide +kernel
theorem dX7_laysOrbits_7 : decode cX7_laysOrbits 7 = .ok (.if_icmp .ge 16, 3) := by decide +kernel
theorem dX7_laysOrbits_10 : decode cX7_laysOrbits 10 = .ok (.aload_n 0, 1) := by decide +kernel
theorem dX7_laysOrbits_11 : decode cX7_laysOrbits 11 = .ok (.getfield 55, 3) := by decide +kernel
theorem dX7_laysOrbits_14 : decode cX7_laysOrbits 14 = .ok (.iload_n 1, 1) := by decide +kernel
theorem dX7_laysOrbits_15 : decode cX7_laysOrbits 15 = .ok (.iload_n 1, 1) := by decide +kernel
theorem dX7_laysOrbits_16 : decode cX7_laysOrbits 16 = .ok (.iastore, 1) := by decide +kernel
theorem dX7_laysOrbits_17 : decode cX7_laysOrbits 17 = .ok (.iinc 1 1, 3) := by decide +kernel
theorem dX7_laysOrbits_20 : decode cX7_laysOrbits 20 = .ok (.goto (-18), 3) := by decide +kernel
theorem dX7_laysOrbits_23 : decode cX7_laysOrbits 23 = .ok (.iconst 1, 1) := by decide +kernel
theorem dX7_laysOrbits_24 : decode cX7_laysOrbits 24 = .ok (.istore_n 1, 1) := by decide +kernel
theorem dX7_laysOrbits_25 : decode cX7_laysOrbits 25 = .ok (.iload_n 1, 1) := by decide +kernel
theorem dX7_laysOrbits_26 : decode cX7_laysOrbits 26 = .ok (.ifCond .eq 122, 3) := by decide +kernel
theorem dX7_laysOrbits_29 : decode cX7_laysOrbits 29 = .ok (.iconst 0, 1) := by decide +kernel
theorem dX7_laysOrbits_30 : decode cX7_laysOrbits 30 = .ok (.istore_n 1, 1) := by decide +kernel
theorem dX7_laysOrbits_31 : decode cX7_laysOrbits 31 = .ok (.iconst 0, 1) := by decide +kernel
theorem dX7_laysOrbits_32 : decode cX7_laysOrbits 32 = .ok (.istore_n 2, 1) := by decide +kernel
theorem dX7_laysOrbits_33 : decode cX7_laysOrbits 33 = .ok (.iload_n 2, 1) := by decide +kernel
theorem dX7_laysOrbits_34 : decode cX7_laysOrbits 34 = .ok (.aload_n 0, 1) := by decide +kernel
theorem dX7_laysOrbits_35 : decode cX7_laysOrbits 35 = .ok (.getfield 20, 3) := by decide +kernel
theorem dX7_laysOrbits_38 : decode cX7_laysOrbits 38 = .ok (.iconst 2, 1) := by decide +kernel
theorem dX7_laysOrbits_39 : decode cX7_laysOrbits 39 = .ok (.iaload, 1) := by decide +kernel
theorem dX7_laysOrbits_40 : decode cX7_laysOrbits 40 = .ok (.if_icmp .ge 105, 3) := by decide +kernel
theorem dX7_laysOrbits_43 : decode cX7_laysOrbits 43 = .ok (.aload_n 0, 1) := by decide +kernel
theorem dX7_laysOrbits_44 : decode cX7_laysOrbits 44 = .ok (.iload_n 2, 1) := by decide +kernel
theorem dX7_laysOrbits_45 : decode cX7_laysOrbits 45 = .ok (.invokevirtual 266, 3) := by decide +kernel
theorem dX7_laysOrbits_48 : decode cX7_laysOrbits 48 = .ok (.ifCond .ne 6, 3) := by decide +kernel
theorem dX7_laysOrbits_51 : decode cX7_laysOrbits 51 = .ok (.goto 88, 3) := by decide +kernel
theorem dX7_laysOrbits_54 : decode cX7_laysOrbits 54 = .ok (.iconst 0, 1) := by decide +kernel
theorem dX7_laysOrbits_55 : decode cX7_laysOrbits 55 = .ok (.istore_n 3, 1) := by decide +kernel
theorem dX7_laysOrbits_56 : decode cX7_laysOrbits 56 = .ok (.iload_n 3, 1) := by decide +kernel
theorem dX7_laysOrbits_57 : decode cX7_laysOrbits 57 = .ok (.aload_n 0, 1) := by decide +kernel
theorem dX7_laysOrbits_58 : decode cX7_laysOrbits 58 = .ok (.getfield 92, 3) := by decide +kernel
theorem dX7_laysOrbits_61 : decode cX7_laysOrbits 61 = .ok (.if_icmp .ge 78, 3) := by decide +kernel
theorem dX7_laysOrbits_64 : decode cX7_laysOrbits 64 = .ok (.aload_n 0, 1) := by decide +kernel
theorem dX7_laysOrbits_65 : decode cX7_laysOrbits 65 = .ok (.iload_n 2, 1) := by decide +kernel
theorem dX7_laysOrbits_66 : decode cX7_laysOrbits 66 = .ok (.iload_n 3, 1) := by decide +kernel
theorem dX7_laysOrbits_67 : decode cX7_laysOrbits 67 = .ok (.invokevirtual 237, 3) := by decide +kernel
theorem dX7_laysOrbits_70 : decode cX7_laysOrbits 70 = .ok (.istore 4, 2) := by decide +kernel
theorem dX7_laysOrbits_72 : decode cX7_laysOrbits 72 = .ok (.aload_n 0, 1) := by decide +kernel
theorem dX7_laysOrbits_73 : decode cX7_laysOrbits 73 = .ok (.getfield 55, 3) := by decide +kernel
theorem dX7_laysOrbits_76 : decode cX7_laysOrbits 76 = .ok (.iload_n 3, 1) := by decide +kernel
theorem dX7_laysOrbits_77 : decode cX7_laysOrbits 77 = .ok (.iaload, 1) := by decide +kernel
theorem dX7_laysOrbits_78 : decode cX7_laysOrbits 78 = .ok (.aload_n 0, 1) := by decide +kernel
theorem dX7_laysOrbits_79 : decode cX7_laysOrbits 79 = .ok (.getfield 55, 3) := by decide +kernel
theorem dX7_laysOrbits_82 : decode cX7_laysOrbits 82 = .ok (.iload 4, 2) := by decide +kernel
theorem dX7_laysOrbits_84 : decode cX7_laysOrbits 84 = .ok (.iaload, 1) := by decide +kernel
theorem dX7_laysOrbits_85 : decode cX7_laysOrbits 85 = .ok (.invokestatic 64, 3) := by decide +kernel
theorem dX7_laysOrbits_88 : decode cX7_laysOrbits 88 = .ok (.istore 5, 2) := by decide +kernel
theorem dX7_laysOrbits_90 : decode cX7_laysOrbits 90 = .ok (.iload_n 1, 1) := by decide +kernel
theorem dX7_laysOrbits_91 : decode cX7_laysOrbits 91 = .ok (.ifCond .ne 19, 3) := by decide +kernel
theorem dX7_laysOrbits_94 : decode cX7_laysOrbits 94 = .ok (.aload_n 0, 1) := by decide +kernel
theorem dX7_laysOrbits_95 : decode cX7_laysOrbits 95 = .ok (.getfield 55, 3) := by decide +kernel
theorem dX7_laysOrbits_98 : decode cX7_laysOrbits 98 = .ok (.iload_n 3, 1) := by decide +kernel
theorem dX7_laysOrbits_99 : decode cX7_laysOrbits 99 = .ok (.iaload, 1) := by decide +kernel
theorem dX7_laysOrbits_100 : decode cX7_laysOrbits 100 = .ok (.aload_n 0, 1) := by decide +kernel
theorem dX7_laysOrbits_101 : decode cX7_laysOrbits 101 = .ok (.getfield 55, 3) := by decide +kernel
theorem dX7_laysOrbits_104 : decode cX7_laysOrbits 104 = .ok (.iload 4, 2) := by decide +kernel
theorem dX7_laysOrbits_106 : decode cX7_laysOrbits 106 = .ok (.iaload, 1) := by decide +kernel
theorem dX7_laysOrbits_107 : decode cX7_laysOrbits 107 = .ok (.if_icmp .eq 7, 3) := by decide +kernel
theorem dX7_laysOrbits_110 : decode cX7_laysOrbits 110 = .ok (.iconst 1, 1) := by decide +kernel
theorem dX7_laysOrbits_111 : decode cX7_laysOrbits 111 = .ok (.goto 4, 3) := by decide +kernel
theorem dX7_laysOrbits_114 : decode cX7_laysOrbits 114 = .ok (.iconst 0, 1) := by decide +kernel
theorem dX7_laysOrbits_115 : decode cX7_laysOrbits 115 = .ok (.istore_n 1, 1) := by decide +kernel
theorem dX7_laysOrbits_116 : decode cX7_laysOrbits 116 = .ok (.aload_n 0, 1) := by decide +kernel
theorem dX7_laysOrbits_117 : decode cX7_laysOrbits 117 = .ok (.getfield 55, 3) := by decide +kernel
theorem dX7_laysOrbits_120 : decode cX7_laysOrbits 120 = .ok (.iload_n 3, 1) := by decide +kernel
theorem dX7_laysOrbits_121 : decode cX7_laysOrbits 121 = .ok (.iload 5, 2) := by decide +kernel
theorem dX7_laysOrbits_123 : decode cX7_laysOrbits 123 = .ok (.iastore, 1) := by decide +kernel
theorem dX7_laysOrbits_124 : decode cX7_laysOrbits 124 = .ok (.aload_n 0, 1) := by decide +kernel
theorem dX7_laysOrbits_125 : decode cX7_laysOrbits 125 = .ok (.getfield 55, 3) := by decide +kernel
theorem dX7_laysOrbits_128 : decode cX7_laysOrbits 128 = .ok (.iload 4, 2) := by decide +kernel
theorem dX7_laysOrbits_130 : decode cX7_laysOrbits 130 = .ok (.iload 5, 2) := by decide +kernel
theorem dX7_laysOrbits_132 : decode cX7_laysOrbits 132 = .ok (.iastore, 1) := by decide +kernel
theorem dX7_laysOrbits_133 : decode cX7_laysOrbits 133 = .ok (.iinc 3 1, 3) := by decide +kernel
theorem dX7_laysOrbits_136 : decode cX7_laysOrbits 136 = .ok (.goto (-80), 3) := by decide +kernel
theorem dX7_laysOrbits_139 : decode cX7_laysOrbits 139 = .ok (.iinc 2 1, 3) := by decide +kernel
theorem dX7_laysOrbits_142 : decode cX7_laysOrbits 142 = .ok (.goto (-109), 3) := by decide +kernel
theorem dX7_laysOrbits_145 : decode cX7_laysOrbits 145 = .ok (.goto (-120), 3) := by decide +kernel
theorem dX7_laysOrbits_148 : decode cX7_laysOrbits 148 = .ok (.return_, 1) := by decide +kernel
theorem dX7_orbit_0 : decode cX7_orbit 0 = .ok (.aload_n 0, 1) := by decide +kernel
theorem dX7_orbit_1 : decode cX7_orbit 1 = .ok (.invokevirtual 240, 3) := by decide +kernel
theorem dX7_orbit_4 : decode cX7_orbit 4 = .ok (.aload_n 0, 1) := by decide +kernel
theorem dX7_orbit_5 : decode cX7_orbit 5 = .ok (.aload_n 0, 1) := by decide +kernel
theorem dX7_orbit_6 : decode cX7_orbit 6 = .ok (.iload_n 1, 1) := by decide +kernel
theorem dX7_orbit_7 : decode cX7_orbit 7 = .ok (.invokevirtual 246, 3) := by decide +kernel
theorem dX7_orbit_10 : decode cX7_orbit 10 = .ok (.ifCond .ne 7, 3) := by decide +kernel
theorem dX7_orbit_13 : decode cX7_orbit 13 = .ok (.iconst 1, 1) := by decide +kernel
theorem dX7_orbit_14 : decode cX7_orbit 14 = .ok (.goto 4, 3) := by decide +kernel
theorem dX7_orbit_17 : decode cX7_orbit 17 = .ok (.iconst 0, 1) := by decide +kernel
theorem dX7_orbit_18 : decode cX7_orbit 18 = .ok (.iconst 1, 1) := by decide +kernel
theorem dX7_orbit_19 : decode cX7_orbit 19 = .ok (.iconst 0, 1) := by decide +kernel
theorem dX7_orbit_20 : decode cX7_orbit 20 = .ok (.invokevirtual 215, 3) := by decide +kernel
theorem dX7_orbit_23 : decode cX7_orbit 23 = .ok (.ifCond .eq 5, 3) := by decide +kernel
theorem dX7_orbit_26 : decode cX7_orbit 26 = .ok (.iconst 0, 1) := by decide +kernel
theorem dX7_orbit_27 : decode cX7_orbit 27 = .ok (.ireturn, 1) := by decide +kernel
theorem dX7_orbit_28 : decode cX7_orbit 28 = .ok (.aload_n 0, 1) := by decide +kernel
theorem dX7_orbit_29 : decode cX7_orbit 29 = .ok (.invokevirtual 294, 3) := by decide +kernel
theorem dX7_orbit_32 : decode cX7_orbit 32 = .ok (.iconst 0, 1) := by decide +kernel
theorem dX7_orbit_33 : decode cX7_orbit 33 = .ok (.istore_n 2, 1) := by decide +kernel
theorem dX7_orbit_34 : decode cX7_orbit 34 = .ok (.iconst 0, 1) := by decide +kernel
theorem dX7_orbit_35 : decode cX7_orbit 35 = .ok (.istore_n 3, 1) := by decide +kernel
theorem dX7_orbit_36 : decode cX7_orbit 36 = .ok (.iload_n 3, 1) := by decide +kernel
theorem dX7_orbit_37 : decode cX7_orbit 37 = .ok (.aload_n 0, 1) := by decide +kernel
theorem dX7_orbit_38 : decode cX7_orbit 38 = .ok (.getfield 92, 3) := by decide +kernel
theorem dX7_orbit_41 : decode cX7_orbit 41 = .ok (.if_icmp .ge 32, 3) := by decide +kernel
theorem dX7_orbit_44 : decode cX7_orbit 44 = .ok (.iload_n 2, 1) := by decide +kernel
theorem dX7_orbit_45 : decode cX7_orbit 45 = .ok (.aload_n 0, 1) := by decide +kernel
theorem dX7_orbit_46 : decode cX7_orbit 46 = .ok (.getfield 55, 3) := by decide +kernel
theorem dX7_orbit_49 : decode cX7_orbit 49 = .ok (.iload_n 3, 1) := by decide +kernel
theorem dX7_orbit_50 : decode cX7_orbit 50 = .ok (.iaload, 1) := by decide +kernel
theorem dX7_orbit_51 : decode cX7_orbit 51 = .ok (.aload_n 0, 1) := by decide +kernel
theorem dX7_orbit_52 : decode cX7_orbit 52 = .ok (.getfield 55, 3) := by decide +kernel
theorem dX7_orbit_55 : decode cX7_orbit 55 = .ok (.iload_n 1, 1) := by decide +kernel
theorem dX7_orbit_56 : decode cX7_orbit 56 = .ok (.iaload, 1) := by decide +kernel
theorem dX7_orbit_57 : decode cX7_orbit 57 = .ok (.if_icmp .ne 7, 3) := by decide +kernel
theorem dX7_orbit_60 : decode cX7_orbit 60 = .ok (.iconst 1, 1) := by decide +kernel
theorem dX7_orbit_61 : decode cX7_orbit 61 = .ok (.goto 4, 3) := by decide +kernel
theorem dX7_orbit_64 : decode cX7_orbit 64 = .ok (.iconst 0, 1) := by decide +kernel
theorem dX7_orbit_65 : decode cX7_orbit 65 = .ok (.iadd, 1) := by decide +kernel
theorem dX7_orbit_66 : decode cX7_orbit 66 = .ok (.istore_n 2, 1) := by decide +kernel
theorem dX7_orbit_67 : decode cX7_orbit 67 = .ok (.iinc 3 1, 3) := by decide +kernel
theorem dX7_orbit_70 : decode cX7_orbit 70 = .ok (.goto (-34), 3) := by decide +kernel
theorem dX7_orbit_73 : decode cX7_orbit 73 = .ok (.iload_n 2, 1) := by decide +kernel
theorem dX7_orbit_74 : decode cX7_orbit 74 = .ok (.ireturn, 1) := by decide +kernel
theorem dX7_orbits_0 : decode cX7_orbits 0 = .ok (.aload_n 0, 1) := by decide +kernel
theorem dX7_orbits_1 : decode cX7_orbits 1 = .ok (.invokevirtual 240, 3) := by decide +kernel
theorem dX7_orbits_4 : decode cX7_orbits 4 = .ok (.aload_n 0, 1) := by decide +kernel
theorem dX7_orbits_5 : decode cX7_orbits 5 = .ok (.invokevirtual 294, 3) := by decide +kernel
theorem dX7_orbits_8 : decode cX7_orbits 8 = .ok (.iconst 0, 1) := by decide +kernel
theorem dX7_orbits_9 : decode cX7_orbits 9 = .ok (.istore_n 1, 1) := by decide +kernel
theorem dX7_orbits_10 : decode cX7_orbits 10 = .ok (.iconst 0, 1) := by decide +kernel
theorem dX7_orbits_11 : decode cX7_orbits 11 = .ok (.istore_n 2, 1) := by decide +kernel
theorem dX7_orbits_12 : decode cX7_orbits 12 = .ok (.iload_n 2, 1) := by decide +kernel
theorem dX7_orbits_13 : decode cX7_orbits 13 = .ok (.aload_n 0, 1) := by decide +kernel
theorem dX7_orbits_14 : decode cX7_orbits 14 = .ok (.getfield 92, 3) := by decide +kernel
theorem dX7_orbits_17 : decode cX7_orbits 17 = .ok (.if_icmp .ge 27, 3) := by decide +kernel
theorem dX7_orbits_20 : decode cX7_orbits 20 = .ok (.iload_n 1, 1) := by decide +kernel
theorem dX7_orbits_21 : decode cX7_orbits 21 = .ok (.aload_n 0, 1) := by decide +kernel
theorem dX7_orbits_22 : decode cX7_orbits 22 = .ok (.getfield 55, 3) := by decide +kernel
theorem dX7_orbits_25 : decode cX7_orbits 25 = .ok (.iload_n 2, 1) := by decide +kernel
theorem dX7_orbits_26 : decode cX7_orbits 26 = .ok (.iaload, 1) := by decide +kernel
theorem dX7_orbits_27 : decode cX7_orbits 27 = .ok (.iload_n 2, 1) := by decide +kernel
theorem dX7_orbits_28 : decode cX7_orbits 28 = .ok (.if_icmp .ne 7, 3) := by decide +kernel
theorem dX7_orbits_31 : decode cX7_orbits 31 = .ok (.iconst 1, 1) := by decide +kernel
theorem dX7_orbits_32 : decode cX7_orbits 32 = .ok (.goto 4, 3) := by decide +kernel
theorem dX7_orbits_35 : decode cX7_orbits 35 = .ok (.iconst 0, 1) := by decide +kernel
theorem dX7_orbits_36 : decode cX7_orbits 36 = .ok (.iadd, 1) := by decide +kernel
theorem dX7_orbits_37 : decode cX7_orbits 37 = .ok (.istore_n 1, 1) := by decide +kernel
theorem dX7_orbits_38 : decode cX7_orbits 38 = .ok (.iinc 2 1, 3) := by decide +kernel
theorem dX7_orbits_41 : decode cX7_orbits 41 = .ok (.goto (-29), 3) := by decide +kernel
theorem dX7_orbits_44 : decode cX7_orbits 44 = .ok (.iload_n 1, 1) := by decide +kernel
theorem dX7_orbits_45 : decode cX7_orbits 45 = .ok (.ireturn, 1) := by decide +kernel
theorem dX7_spread_0 : decode cX7_spread 0 = .ok (.aload_n 0, 1) := by decide +kernel
theorem dX7_spread_1 : decode cX7_spread 1 = .ok (.invokevirtual 240, 3) := by decide +kernel
theorem dX7_spread_4 : decode cX7_spread 4 = .ok (.aload_n 0, 1) := by decide +kernel
theorem dX7_spread_5 : decode cX7_spread 5 = .ok (.aload_n 0, 1) := by decide +kernel
theorem dX7_spread_6 : decode cX7_spread 6 = .ok (.iload_n 1, 1) := by decide +kernel
theorem dX7_spread_7 : decode cX7_spread 7 = .ok (.invokevirtual 243, 3) := by decide +kernel
theorem dX7_spread_10 : decode cX7_spread 10 = .ok (.ifCond .ne 7, 3) := by decide +kernel
theorem dX7_spread_13 : decode cX7_spread 13 = .ok (.iconst 1, 1) := by decide +kernel
theorem dX7_spread_14 : decode cX7_spread 14 = .ok (.goto 4, 3) := by decide +kernel
theorem dX7_spread_17 : decode cX7_spread 17 = .ok (.iconst 0, 1) := by decide +kernel
theorem dX7_spread_18 : decode cX7_spread 18 = .ok (.iconst 1, 1) := by decide +kernel
theorem dX7_spread_19 : decode cX7_spread 19 = .ok (.iconst 0, 1) := by decide +kernel
theorem dX7_spread_20 : decode cX7_spread 20 = .ok (.invokevirtual 215, 3) := by decide +kernel
theorem dX7_spread_23 : decode cX7_spread 23 = .ok (.ifCond .eq 5, 3) := by decide +kernel
theorem dX7_spread_26 : decode cX7_spread 26 = .ok (.iconst 0, 1) := by decide +kernel
theorem dX7_spread_27 : decode cX7_spread 27 = .ok (.ireturn, 1) := by decide +kernel
theorem dX7_spread_28 : decode cX7_spread 28 = .ok (.iconst 0, 1) := by decide +kernel
theorem dX7_spread_29 : decode cX7_spread 29 = .ok (.istore_n 2, 1) := by decide +kernel
theorem dX7_spread_30 : decode cX7_spread 30 = .ok (.iconst 1, 1) := by decide +kernel
theorem dX7_spread_31 : decode cX7_spread 31 = .ok (.istore_n 3, 1) := by decide +kernel
theorem dX7_spread_32 : decode cX7_spread 32 = .ok (.iload_n 3, 1) := by decide +kernel
theorem dX7_spread_33 : decode cX7_spread 33 = .ok (.aload_n 0, 1) := by decide +kernel
theorem dX7_spread_34 : decode cX7_spread 34 = .ok (.getfield 92, 3) := by decide +kernel
theorem dX7_spread_37 : decode cX7_spread 37 = .ok (.if_icmp .ge 101, 3) := by decide +kernel
theorem dX7_spread_40 : decode cX7_spread 40 = .ok (.iconst 0, 1) := by decide +kernel
theorem dX7_spread_41 : decode cX7_spread 41 = .ok (.istore 4, 2) := by decide +kernel
theorem dX7_spread_43 : decode cX7_spread 43 = .ok (.iload 4, 2) := by decide +kernel
theorem dX7_spread_45 : decode cX7_spread 45 = .ok (.aload_n 0, 1) := by decide +kernel
theorem dX7_spread_46 : decode cX7_spread 46 = .ok (.getfield 92, 3) := by decide +kernel
theorem dX7_spread_49 : decode cX7_spread 49 = .ok (.if_icmp .ge 83, 3) := by decide +kernel
theorem dX7_spread_52 : decode cX7_spread 52 = .ok (.iconst 0, 1) := by decide +kernel
theorem dX7_spread_53 : decode cX7_spread 53 = .ok (.istore 5, 2) := by decide +kernel
theorem dX7_spread_55 : decode cX7_spread 55 = .ok (.iconst 0, 1) := by decide +kernel
theorem dX7_spread_56 : decode cX7_spread 56 = .ok (.istore 6, 2) := by decide +kernel
theorem dX7_spread_58 : decode cX7_spread 58 = .ok (.iload 6, 2) := by decide +kernel
theorem dX7_spread_60 : decode cX7_spread 60 = .ok (.aload_n 0, 1) := by decide +kernel
theorem dX7_spread_61 : decode cX7_spread 61 = .ok (.getfield 92, 3) := by decide +kernel
theorem dX7_spread_64 : decode cX7_spread 64 = .ok (.if_icmp .ge 49, 3) := by decide +kernel
theorem dX7_spread_67 : decode cX7_spread 67 = .ok (.iload 5, 2) := by decide +kernel
theorem dX7_spread_69 : decode cX7_spread 69 = .ok (.aload_n 0, 1) := by decide +kernel
theorem dX7_spread_70 : decode cX7_spread 70 = .ok (.aload_n 0, 1) := by decide +kernel
theorem dX7_spread_71 : decode cX7_spread 71 = .ok (.iload_n 1, 1) := by decide +kernel
theorem dX7_spread_72 : decode cX7_spread 72 = .ok (.aload_n 0, 1) := by decide +kernel
theorem dX7_spread_73 : decode cX7_spread 73 = .ok (.getfield 31, 3) := by decide +kernel
theorem dX7_spread_76 : decode cX7_spread 76 = .ok (.iload 6, 2) := by decide +kernel
theorem dX7_spread_78 : decode cX7_spread 78 = .ok (.aaload, 1) := by decide +kernel
theorem dX7_spread_79 : decode cX7_spread 79 = .ok (.iload_n 3, 1) := by decide +kernel
theorem dX7_spread_80 : decode cX7_spread 80 = .ok (.iaload, 1) := by decide +kernel
theorem dX7_spread_81 : decode cX7_spread 81 = .ok (.invokevirtual 237, 3) := by decide +kernel
theorem dX7_spread_84 : decode cX7_spread 84 = .ok (.aload_n 0, 1) := by decide +kernel
theorem dX7_spread_85 : decode cX7_spread 85 = .ok (.iload_n 1, 1) := by decide +kernel
theorem dX7_spread_86 : decode cX7_spread 86 = .ok (.iload 6, 2) := by decide +kernel
theorem dX7_spread_88 : decode cX7_spread 88 = .ok (.invokevirtual 237, 3) := by decide +kernel
theorem dX7_spread_91 : decode cX7_spread 91 = .ok (.invokevirtual 105, 3) := by decide +kernel
theorem dX7_spread_94 : decode cX7_spread 94 = .ok (.iload 4, 2) := by decide +kernel
theorem dX7_spread_96 : decode cX7_spread 96 = .ok (.if_icmp .ne 7, 3) := by decide +kernel
theorem dX7_spread_99 : decode cX7_spread 99 = .ok (.iconst 1, 1) := by decide +kernel
theorem dX7_spread_100 : decode cX7_spread 100 = .ok (.goto 4, 3) := by decide +kernel
theorem dX7_spread_103 : decode cX7_spread 103 = .ok (.iconst 0, 1) := by decide +kernel
theorem dX7_spread_104 : decode cX7_spread 104 = .ok (.iadd, 1) := by decide +kernel
theorem dX7_spread_105 : decode cX7_spread 105 = .ok (.istore 5, 2) := by decide +kernel
theorem dX7_spread_107 : decode cX7_spread 107 = .ok (.iinc 6 1, 3) := by decide +kernel
theorem dX7_spread_110 : decode cX7_spread 110 = .ok (.goto (-52), 3) := by decide +kernel
theorem dX7_spread_113 : decode cX7_spread 113 = .ok (.iload 5, 2) := by decide +kernel
theorem dX7_spread_115 : decode cX7_spread 115 = .ok (.iload_n 2, 1) := by decide +kernel
theorem dX7_spread_116 : decode cX7_spread 116 = .ok (.if_icmp .le 8, 3) := by decide +kernel
theorem dX7_spread_119 : decode cX7_spread 119 = .ok (.iload 5, 2) := by decide +kernel
theorem dX7_spread_121 : decode cX7_spread 121 = .ok (.goto 4, 3) := by decide +kernel
theorem dX7_spread_124 : decode cX7_spread 124 = .ok (.iload_n 2, 1) := by decide +kernel
theorem dX7_spread_125 : decode cX7_spread 125 = .ok (.istore_n 2, 1) := by decide +kernel
theorem dX7_spread_126 : decode cX7_spread 126 = .ok (.iinc 4 1, 3) := by decide +kernel
theorem dX7_spread_129 : decode cX7_spread 129 = .ok (.goto (-86), 3) := by decide +kernel
theorem dX7_spread_132 : decode cX7_spread 132 = .ok (.iinc 3 1, 3) := by decide +kernel
theorem dX7_spread_135 : decode cX7_spread 135 = .ok (.goto (-103), 3) := by decide +kernel
theorem dX7_spread_138 : decode cX7_spread 138 = .ok (.iload_n 2, 1) := by decide +kernel
theorem dX7_spread_139 : decode cX7_spread 139 = .ok (.ireturn, 1) := by decide +kernel
theorem dX7_areAll_0 : decode cX7_areAll 0 = .ok (.lconst 0, 1) := by decide +kernel
theorem dX7_areAll_1 : decode cX7_areAll 1 = .ok (.lstore_n 1, 1) := by decide +kernel
theorem dX7_areAll_2 : decode cX7_areAll 2 = .ok (.iconst 0, 1) := by decide +kernel
theorem dX7_areAll_3 : decode cX7_areAll 3 = .ok (.istore_n 3, 1) := by decide +kernel
theorem dX7_areAll_4 : decode cX7_areAll 4 = .ok (.iload_n 3, 1) := by decide +kernel
theorem dX7_areAll_5 : decode cX7_areAll 5 = .ok (.aload_n 0, 1) := by decide +kernel
theorem dX7_areAll_6 : decode cX7_areAll 6 = .ok (.getfield 92, 3) := by decide +kernel
theorem dX7_areAll_9 : decode cX7_areAll 9 = .ok (.if_icmp .ge 20, 3) := by decide +kernel
theorem dX7_areAll_12 : decode cX7_areAll 12 = .ok (.lload_n 1, 1) := by decide +kernel
theorem dX7_areAll_13 : decode cX7_areAll 13 = .ok (.lconst 1, 1) := by decide +kernel
theorem dX7_areAll_14 : decode cX7_areAll 14 = .ok (.aload_n 0, 1) := by decide +kernel
theorem dX7_areAll_15 : decode cX7_areAll 15 = .ok (.getfield 46, 3) := by decide +kernel
theorem dX7_areAll_18 : decode cX7_areAll 18 = .ok (.iload_n 3, 1) := by decide +kernel
theorem dX7_areAll_19 : decode cX7_areAll 19 = .ok (.iaload, 1) := by decide +kernel
theorem dX7_areAll_20 : decode cX7_areAll 20 = .ok (.lshl, 1) := by decide +kernel
theorem dX7_areAll_21 : decode cX7_areAll 21 = .ok (.lor, 1) := by decide +kernel
theorem dX7_areAll_22 : decode cX7_areAll 22 = .ok (.lstore_n 1, 1) := by decide +kernel
theorem dX7_areAll_23 : decode cX7_areAll 23 = .ok (.iinc 3 1, 3) := by decide +kernel
theorem dX7_areAll_26 : decode cX7_areAll 26 = .ok (.goto (-22), 3) := by decide +kernel
theorem dX7_areAll_29 : decode cX7_areAll 29 = .ok (.iconst 0, 1) := by decide +kernel
theorem dX7_areAll_30 : decode cX7_areAll 30 = .ok (.istore_n 3, 1) := by decide +kernel
theorem dX7_areAll_31 : decode cX7_areAll 31 = .ok (.iconst 0, 1) := by decide +kernel
theorem dX7_areAll_32 : decode cX7_areAll 32 = .ok (.istore 4, 2) := by decide +kernel
theorem dX7_areAll_34 : decode cX7_areAll 34 = .ok (.iload 4, 2) := by decide +kernel
theorem dX7_areAll_36 : decode cX7_areAll 36 = .ok (.aload_n 0, 1) := by decide +kernel
theorem dX7_areAll_37 : decode cX7_areAll 37 = .ok (.getfield 92, 3) := by decide +kernel
theorem dX7_areAll_40 : decode cX7_areAll 40 = .ok (.if_icmp .ge 20, 3) := by decide +kernel
theorem dX7_areAll_43 : decode cX7_areAll 43 = .ok (.iload_n 3, 1) := by decide +kernel
theorem dX7_areAll_44 : decode cX7_areAll 44 = .ok (.i2l, 1) := by decide +kernel
theorem dX7_areAll_45 : decode cX7_areAll 45 = .ok (.lload_n 1, 1) := by decide +kernel
theorem dX7_areAll_46 : decode cX7_areAll 46 = .ok (.iload 4, 2) := by decide +kernel
theorem dX7_areAll_48 : decode cX7_areAll 48 = .ok (.lshr, 1) := by decide +kernel
theorem dX7_areAll_49 : decode cX7_areAll 49 = .ok (.lconst 1, 1) := by decide +kernel
theorem dX7_areAll_50 : decode cX7_areAll 50 = .ok (.land, 1) := by decide +kernel
theorem dX7_areAll_51 : decode cX7_areAll 51 = .ok (.ladd, 1) := by decide +kernel
theorem dX7_areAll_52 : decode cX7_areAll 52 = .ok (.l2i, 1) := by decide +kernel
theorem dX7_areAll_53 : decode cX7_areAll 53 = .ok (.istore_n 3, 1) := by decide +kernel
theorem dX7_areAll_54 : decode cX7_areAll 54 = .ok (.iinc 4 1, 3) := by decide +kernel
theorem dX7_areAll_57 : decode cX7_areAll 57 = .ok (.goto (-23), 3) := by decide +kernel
theorem dX7_areAll_60 : decode cX7_areAll 60 = .ok (.iload_n 3, 1) := by decide +kernel
theorem dX7_areAll_61 : decode cX7_areAll 61 = .ok (.aload_n 0, 1) := by decide +kernel
theorem dX7_areAll_62 : decode cX7_areAll 62 = .ok (.getfield 92, 3) := by decide +kernel
theorem dX7_areAll_65 : decode cX7_areAll 65 = .ok (.if_icmp .ne 7, 3) := by decide +kernel
theorem dX7_areAll_68 : decode cX7_areAll 68 = .ok (.iconst 1, 1) := by decide +kernel
theorem dX7_areAll_69 : decode cX7_areAll 69 = .ok (.goto 4, 3) := by decide +kernel
theorem dX7_areAll_72 : decode cX7_areAll 72 = .ok (.iconst 0, 1) := by decide +kernel
theorem dX7_areAll_73 : decode cX7_areAll 73 = .ok (.ireturn, 1) := by decide +kernel
theorem dX7_monomials_0 : decode cX7_monomials 0 = .ok (.aload_n 0, 1) := by decide +kernel
theorem dX7_monomials_1 : decode cX7_monomials 1 = .ok (.invokevirtual 240, 3) := by decide +kernel
theorem dX7_monomials_4 : decode cX7_monomials 4 = .ok (.lconst 0, 1) := by decide +kernel
theorem dX7_monomials_5 : decode cX7_monomials 5 = .ok (.lstore_n 1, 1) := by decide +kernel
theorem dX7_monomials_6 : decode cX7_monomials 6 = .ok (.iconst 1, 1) := by decide +kernel
theorem dX7_monomials_7 : decode cX7_monomials 7 = .ok (.istore_n 3, 1) := by decide +kernel
theorem dX7_monomials_8 : decode cX7_monomials 8 = .ok (.iload_n 3, 1) := by decide +kernel
theorem dX7_monomials_9 : decode cX7_monomials 9 = .ok (.aload_n 0, 1) := by decide +kernel
theorem dX7_monomials_10 : decode cX7_monomials 10 = .ok (.getfield 92, 3) := by decide +kernel
theorem dX7_monomials_13 : decode cX7_monomials 13 = .ok (.if_icmp .ge 54, 3) := by decide +kernel
theorem dX7_monomials_16 : decode cX7_monomials 16 = .ok (.iconst 0, 1) := by decide +kernel
theorem dX7_monomials_17 : decode cX7_monomials 17 = .ok (.istore 4, 2) := by decide +kernel
theorem dX7_monomials_19 : decode cX7_monomials 19 = .ok (.iload 4, 2) := by decide +kernel
theorem dX7_monomials_21 : decode cX7_monomials 21 = .ok (.aload_n 0, 1) := by decide +kernel
theorem dX7_monomials_22 : decode cX7_monomials 22 = .ok (.getfield 92, 3) := by decide +kernel
theorem dX7_monomials_25 : decode cX7_monomials 25 = .ok (.if_icmp .ge 23, 3) := by decide +kernel
theorem dX7_monomials_28 : decode cX7_monomials 28 = .ok (.aload_n 0, 1) := by decide +kernel
theorem dX7_monomials_29 : decode cX7_monomials 29 = .ok (.getfield 46, 3) := by decide +kernel
theorem dX7_monomials_32 : decode cX7_monomials 32 = .ok (.iload 4, 2) := by decide +kernel
theorem dX7_monomials_34 : decode cX7_monomials 34 = .ok (.aload_n 0, 1) := by decide +kernel
theorem dX7_monomials_35 : decode cX7_monomials 35 = .ok (.iload 4, 2) := by decide +kernel
theorem dX7_monomials_37 : decode cX7_monomials 37 = .ok (.iload_n 3, 1) := by decide +kernel
theorem dX7_monomials_38 : decode cX7_monomials 38 = .ok (.invokevirtual 197, 3) := by decide +kernel
theorem dX7_monomials_41 : decode cX7_monomials 41 = .ok (.iastore, 1) := by decide +kernel
theorem dX7_monomials_42 : decode cX7_monomials 42 = .ok (.iinc 4 1, 3) := by decide +kernel
theorem dX7_monomials_45 : decode cX7_monomials 45 = .ok (.goto (-26), 3) := by decide +kernel
theorem dX7_monomials_48 : decode cX7_monomials 48 = .ok (.aload_n 0, 1) := by decide +kernel
theorem dX7_monomials_49 : decode cX7_monomials 49 = .ok (.invokevirtual 297, 3) := by decide +kernel
theorem dX7_monomials_52 : decode cX7_monomials 52 = .ok (.ifCond .eq 9, 3) := by decide +kernel
theorem dX7_monomials_55 : decode cX7_monomials 55 = .ok (.lload_n 1, 1) := by decide +kernel
theorem dX7_monomials_56 : decode cX7_monomials 56 = .ok (.lconst 1, 1) := by decide +kernel
theorem dX7_monomials_57 : decode cX7_monomials 57 = .ok (.iload_n 3, 1) := by decide +kernel
theorem dX7_monomials_58 : decode cX7_monomials 58 = .ok (.lshl, 1) := by decide +kernel
theorem dX7_monomials_59 : decode cX7_monomials 59 = .ok (.lor, 1) := by decide +kernel
theorem dX7_monomials_60 : decode cX7_monomials 60 = .ok (.lstore_n 1, 1) := by decide +kernel
theorem dX7_monomials_61 : decode cX7_monomials 61 = .ok (.iinc 3 1, 3) := by decide +kernel
theorem dX7_monomials_64 : decode cX7_monomials 64 = .ok (.goto (-56), 3) := by decide +kernel
theorem dX7_monomials_67 : decode cX7_monomials 67 = .ok (.lload_n 1, 1) := by decide +kernel
theorem dX7_monomials_68 : decode cX7_monomials 68 = .ok (.lreturn, 1) := by decide +kernel
theorem dX7_dicksons_0 : decode cX7_dicksons 0 = .ok (.aload_n 0, 1) := by decide +kernel
theorem dX7_dicksons_1 : decode cX7_dicksons 1 = .ok (.invokevirtual 240, 3) := by decide +kernel
theorem dX7_dicksons_4 : decode cX7_dicksons 4 = .ok (.aload_n 0, 1) := by decide +kernel
theorem dX7_dicksons_5 : decode cX7_dicksons 5 = .ok (.aload_n 0, 1) := by decide +kernel
theorem dX7_dicksons_6 : decode cX7_dicksons 6 = .ok (.iload_n 1, 1) := by decide +kernel
theorem dX7_dicksons_7 : decode cX7_dicksons 7 = .ok (.invokevirtual 246, 3) := by decide +kernel
theorem dX7_dicksons_10 : decode cX7_dicksons 10 = .ok (.ifCond .ne 7, 3) := by decide +kernel
theorem dX7_dicksons_13 : decode cX7_dicksons 13 = .ok (.iconst 1, 1) := by decide +kernel
theorem dX7_dicksons_14 : decode cX7_dicksons 14 = .ok (.goto 4, 3) := by decide +kernel
theorem dX7_dicksons_17 : decode cX7_dicksons 17 = .ok (.iconst 0, 1) := by decide +kernel
theorem dX7_dicksons_18 : decode cX7_dicksons 18 = .ok (.iconst 1, 1) := by decide +kernel
theorem dX7_dicksons_19 : decode cX7_dicksons 19 = .ok (.iconst 0, 1) := by decide +kernel
theorem dX7_dicksons_20 : decode cX7_dicksons 20 = .ok (.invokevirtual 215, 3) := by decide +kernel
theorem dX7_dicksons_23 : decode cX7_dicksons 23 = .ok (.ifCond .eq 5, 3) := by decide +kernel
theorem dX7_dicksons_26 : decode cX7_dicksons 26 = .ok (.lconst 0, 1) := by decide +kernel
theorem dX7_dicksons_27 : decode cX7_dicksons 27 = .ok (.lreturn, 1) := by decide +kernel
theorem dX7_dicksons_28 : decode cX7_dicksons 28 = .ok (.lconst 0, 1) := by decide +kernel
theorem dX7_dicksons_29 : decode cX7_dicksons 29 = .ok (.lstore_n 2, 1) := by decide +kernel
theorem dX7_dicksons_30 : decode cX7_dicksons 30 = .ok (.iconst 1, 1) := by decide +kernel
theorem dX7_dicksons_31 : decode cX7_dicksons 31 = .ok (.istore 4, 2) := by decide +kernel
theorem dX7_dicksons_33 : decode cX7_dicksons 33 = .ok (.iload 4, 2) := by decide +kernel
theorem dX7_dicksons_35 : decode cX7_dicksons 35 = .ok (.bipush 64, 2) := by decide +kernel
theorem dX7_dicksons_37 : decode cX7_dicksons 37 = .ok (.if_icmp .ge 57, 3) := by decide +kernel
theorem dX7_dicksons_40 : decode cX7_dicksons 40 = .ok (.iconst 0, 1) := by decide +kernel
theorem dX7_dicksons_41 : decode cX7_dicksons 41 = .ok (.istore 5, 2) := by decide +kernel
theorem dX7_dicksons_43 : decode cX7_dicksons 43 = .ok (.iload 5, 2) := by decide +kernel
theorem dX7_dicksons_45 : decode cX7_dicksons 45 = .ok (.aload_n 0, 1) := by decide +kernel
theorem dX7_dicksons_46 : decode cX7_dicksons 46 = .ok (.getfield 92, 3) := by decide +kernel
theorem dX7_dicksons_49 : decode cX7_dicksons 49 = .ok (.if_icmp .ge 25, 3) := by decide +kernel
theorem dX7_dicksons_52 : decode cX7_dicksons 52 = .ok (.aload_n 0, 1) := by decide +kernel
theorem dX7_dicksons_53 : decode cX7_dicksons 53 = .ok (.getfield 46, 3) := by decide +kernel
theorem dX7_dicksons_56 : decode cX7_dicksons 56 = .ok (.iload 5, 2) := by decide +kernel
theorem dX7_dicksons_58 : decode cX7_dicksons 58 = .ok (.aload_n 0, 1) := by decide +kernel
theorem dX7_dicksons_59 : decode cX7_dicksons 59 = .ok (.iload 4, 2) := by decide +kernel
theorem dX7_dicksons_61 : decode cX7_dicksons 61 = .ok (.iload_n 1, 1) := by decide +kernel
theorem dX7_dicksons_62 : decode cX7_dicksons 62 = .ok (.iload 5, 2) := by decide +kernel
theorem dX7_dicksons_64 : decode cX7_dicksons 64 = .ok (.invokevirtual 192, 3) := by decide +kernel
theorem dX7_dicksons_67 : decode cX7_dicksons 67 = .ok (.iastore, 1) := by decide +kernel
theorem dX7_dicksons_68 : decode cX7_dicksons 68 = .ok (.iinc 5 1, 3) := by decide +kernel
theorem dX7_dicksons_71 : decode cX7_dicksons 71 = .ok (.goto (-28), 3) := by decide +kernel
theorem dX7_dicksons_74 : decode cX7_dicksons 74 = .ok (.aload_n 0, 1) := by decide +kernel
theorem dX7_dicksons_75 : decode cX7_dicksons 75 = .ok (.invokevirtual 297, 3) := by decide +kernel
theorem dX7_dicksons_78 : decode cX7_dicksons 78 = .ok (.ifCond .eq 10, 3) := by decide +kernel
theorem dX7_dicksons_81 : decode cX7_dicksons 81 = .ok (.lload_n 2, 1) := by decide +kernel
theorem dX7_dicksons_82 : decode cX7_dicksons 82 = .ok (.lconst 1, 1) := by decide +kernel
theorem dX7_dicksons_83 : decode cX7_dicksons 83 = .ok (.iload 4, 2) := by decide +kernel
theorem dX7_dicksons_85 : decode cX7_dicksons 85 = .ok (.lshl, 1) := by decide +kernel
theorem dX7_dicksons_86 : decode cX7_dicksons 86 = .ok (.lor, 1) := by decide +kernel
theorem dX7_dicksons_87 : decode cX7_dicksons 87 = .ok (.lstore_n 2, 1) := by decide +kernel
theorem dX7_dicksons_88 : decode cX7_dicksons 88 = .ok (.iinc 4 1, 3) := by decide +kernel
theorem dX7_dicksons_91 : decode cX7_dicksons 91 = .ok (.goto (-58), 3) := by decide +kernel
theorem dX7_dicksons_94 : decode cX7_dicksons 94 = .ok (.lload_n 2, 1) := by decide +kernel
theorem dX7_dicksons_95 : decode cX7_dicksons 95 = .ok (.lreturn, 1) := by decide +kernel
theorem dX7_binomials_0 : decode cX7_binomials 0 = .ok (.aload_n 0, 1) := by decide +kernel
theorem dX7_binomials_1 : decode cX7_binomials 1 = .ok (.invokevirtual 240, 3) := by decide +kernel
theorem dX7_binomials_4 : decode cX7_binomials 4 = .ok (.aload_n 0, 1) := by decide +kernel
theorem dX7_binomials_5 : decode cX7_binomials 5 = .ok (.iload_n 1, 1) := by decide +kernel
theorem dX7_binomials_6 : decode cX7_binomials 6 = .ok (.i2l, 1) := by decide +kernel
theorem dX7_binomials_7 : decode cX7_binomials 7 = .ok (.ldc2_w 300, 3) := by decide +kernel
theorem dX7_binomials_10 : decode cX7_binomials 10 = .ok (.ldc2_w 302, 3) := by decide +kernel
theorem dX7_binomials_13 : decode cX7_binomials 13 = .ok (.invokestatic 154, 3) := by decide +kernel
theorem dX7_binomials_16 : decode cX7_binomials 16 = .ok (.ifCond .ne 7, 3) := by decide +kernel
theorem dX7_binomials_19 : decode cX7_binomials 19 = .ok (.iconst 1, 1) := by decide +kernel
theorem dX7_binomials_20 : decode cX7_binomials 20 = .ok (.goto 4, 3) := by decide +kernel
theorem dX7_binomials_23 : decode cX7_binomials 23 = .ok (.iconst 0, 1) := by decide +kernel
theorem dX7_binomials_24 : decode cX7_binomials 24 = .ok (.iconst 1, 1) := by decide +kernel
theorem dX7_binomials_25 : decode cX7_binomials 25 = .ok (.iconst 1, 1) := by decide +kernel
theorem dX7_binomials_26 : decode cX7_binomials 26 = .ok (.invokevirtual 215, 3) := by decide +kernel
theorem dX7_binomials_29 : decode cX7_binomials 29 = .ok (.ifCond .eq 5, 3) := by decide +kernel
theorem dX7_binomials_32 : decode cX7_binomials 32 = .ok (.iconst 0, 1) := by decide +kernel
theorem dX7_binomials_33 : decode cX7_binomials 33 = .ok (.ireturn, 1) := by decide +kernel
theorem dX7_binomials_34 : decode cX7_binomials 34 = .ok (.iconst 0, 1) := by decide +kernel
theorem dX7_binomials_35 : decode cX7_binomials 35 = .ok (.istore_n 2, 1) := by decide +kernel
theorem dX7_binomials_36 : decode cX7_binomials 36 = .ok (.iconst 0, 1) := by decide +kernel
theorem dX7_binomials_37 : decode cX7_binomials 37 = .ok (.istore_n 3, 1) := by decide +kernel
theorem dX7_binomials_38 : decode cX7_binomials 38 = .ok (.iload_n 3, 1) := by decide +kernel
theorem dX7_binomials_39 : decode cX7_binomials 39 = .ok (.aload_n 0, 1) := by decide +kernel
theorem dX7_binomials_40 : decode cX7_binomials 40 = .ok (.getfield 92, 3) := by decide +kernel
theorem dX7_binomials_43 : decode cX7_binomials 43 = .ok (.if_icmp .ge 71, 3) := by decide +kernel
theorem dX7_binomials_46 : decode cX7_binomials 46 = .ok (.iconst 0, 1) := by decide +kernel
theorem dX7_binomials_47 : decode cX7_binomials 47 = .ok (.istore 4, 2) := by decide +kernel
theorem dX7_binomials_49 : decode cX7_binomials 49 = .ok (.iload 4, 2) := by decide +kernel
theorem dX7_binomials_51 : decode cX7_binomials 51 = .ok (.aload_n 0, 1) := by decide +kernel
theorem dX7_binomials_52 : decode cX7_binomials 52 = .ok (.getfield 92, 3) := by decide +kernel
theorem dX7_binomials_55 : decode cX7_binomials 55 = .ok (.if_icmp .ge 38, 3) := by decide +kernel
theorem dX7_binomials_58 : decode cX7_binomials 58 = .ok (.aload_n 0, 1) := by decide +kernel
theorem dX7_binomials_59 : decode cX7_binomials 59 = .ok (.getfield 46, 3) := by decide +kernel
theorem dX7_binomials_62 : decode cX7_binomials 62 = .ok (.iload 4, 2) := by decide +kernel
theorem dX7_binomials_64 : decode cX7_binomials 64 = .ok (.aload_n 0, 1) := by decide +kernel
theorem dX7_binomials_65 : decode cX7_binomials 65 = .ok (.getfield 31, 3) := by decide +kernel
theorem dX7_binomials_68 : decode cX7_binomials 68 = .ok (.aload_n 0, 1) := by decide +kernel
theorem dX7_binomials_69 : decode cX7_binomials 69 = .ok (.iload 4, 2) := by decide +kernel
theorem dX7_binomials_71 : decode cX7_binomials 71 = .ok (.iload_n 1, 1) := by decide +kernel
theorem dX7_binomials_72 : decode cX7_binomials 72 = .ok (.invokevirtual 197, 3) := by decide +kernel
theorem dX7_binomials_75 : decode cX7_binomials 75 = .ok (.aaload, 1) := by decide +kernel
theorem dX7_binomials_76 : decode cX7_binomials 76 = .ok (.aload_n 0, 1) := by decide +kernel
theorem dX7_binomials_77 : decode cX7_binomials 77 = .ok (.getfield 34, 3) := by decide +kernel
theorem dX7_binomials_80 : decode cX7_binomials 80 = .ok (.iload_n 3, 1) := by decide +kernel
theorem dX7_binomials_81 : decode cX7_binomials 81 = .ok (.aaload, 1) := by decide +kernel
theorem dX7_binomials_82 : decode cX7_binomials 82 = .ok (.iload 4, 2) := by decide +kernel
theorem dX7_binomials_84 : decode cX7_binomials 84 = .ok (.iaload, 1) := by decide +kernel
theorem dX7_binomials_85 : decode cX7_binomials 85 = .ok (.iaload, 1) := by decide +kernel
theorem dX7_binomials_86 : decode cX7_binomials 86 = .ok (.iastore, 1) := by decide +kernel
theorem dX7_binomials_87 : decode cX7_binomials 87 = .ok (.iinc 4 1, 3) := by decide +kernel
theorem dX7_binomials_90 : decode cX7_binomials 90 = .ok (.goto (-41), 3) := by decide +kernel
theorem dX7_binomials_93 : decode cX7_binomials 93 = .ok (.iload_n 2, 1) := by decide +kernel
theorem dX7_binomials_94 : decode cX7_binomials 94 = .ok (.aload_n 0, 1) := by decide +kernel
theorem dX7_binomials_95 : decode cX7_binomials 95 = .ok (.invokevirtual 297, 3) := by decide +kernel
theorem dX7_binomials_98 : decode cX7_binomials 98 = .ok (.ifCond .eq 7, 3) := by decide +kernel
theorem dX7_binomials_101 : decode cX7_binomials 101 = .ok (.iconst 1, 1) := by decide +kernel
theorem dX7_binomials_102 : decode cX7_binomials 102 = .ok (.goto 4, 3) := by decide +kernel
theorem dX7_binomials_105 : decode cX7_binomials 105 = .ok (.iconst 0, 1) := by decide +kernel
theorem dX7_binomials_106 : decode cX7_binomials 106 = .ok (.iadd, 1) := by decide +kernel
theorem dX7_binomials_107 : decode cX7_binomials 107 = .ok (.istore_n 2, 1) := by decide +kernel
theorem dX7_binomials_108 : decode cX7_binomials 108 = .ok (.iinc 3 1, 3) := by decide +kernel
theorem dX7_binomials_111 : decode cX7_binomials 111 = .ok (.goto (-73), 3) := by decide +kernel
theorem dX7_binomials_114 : decode cX7_binomials 114 = .ok (.iload_n 2, 1) := by decide +kernel
theorem dX7_binomials_115 : decode cX7_binomials 115 = .ok (.ireturn, 1) := by decide +kernel
theorem dX7_print_0 : decode cX7_print 0 = .ok (.aload_n 0, 1) := by decide +kernel
theorem dX7_print_1 : decode cX7_print 1 = .ok (.invokevirtual 240, 3) := by decide +kernel
theorem dX7_print_4 : decode cX7_print 4 = .ok (.lconst 0, 1) := by decide +kernel
theorem dX7_print_5 : decode cX7_print 5 = .ok (.lstore_n 1, 1) := by decide +kernel
theorem dX7_print_6 : decode cX7_print 6 = .ok (.iconst 0, 1) := by decide +kernel
theorem dX7_print_7 : decode cX7_print 7 = .ok (.istore_n 3, 1) := by decide +kernel
theorem dX7_print_8 : decode cX7_print 8 = .ok (.iload_n 3, 1) := by decide +kernel
theorem dX7_print_9 : decode cX7_print 9 = .ok (.aload_n 0, 1) := by decide +kernel
theorem dX7_print_10 : decode cX7_print 10 = .ok (.getfield 20, 3) := by decide +kernel
theorem dX7_print_13 : decode cX7_print 13 = .ok (.iconst 2, 1) := by decide +kernel
theorem dX7_print_14 : decode cX7_print 14 = .ok (.iaload, 1) := by decide +kernel
theorem dX7_print_15 : decode cX7_print 15 = .ok (.if_icmp .ge 42, 3) := by decide +kernel
theorem dX7_print_18 : decode cX7_print 18 = .ok (.iconst 0, 1) := by decide +kernel
theorem dX7_print_19 : decode cX7_print 19 = .ok (.istore 4, 2) := by decide +kernel
theorem dX7_print_21 : decode cX7_print 21 = .ok (.iload 4, 2) := by decide +kernel
theorem dX7_print_23 : decode cX7_print 23 = .ok (.aload_n 0, 1) := by decide +kernel
theorem dX7_print_24 : decode cX7_print 24 = .ok (.getfield 92, 3) := by decide +kernel
theorem dX7_print_27 : decode cX7_print 27 = .ok (.if_icmp .ge 24, 3) := by decide +kernel
theorem dX7_print_30 : decode cX7_print 30 = .ok (.ldc2_w 304, 3) := by decide +kernel
theorem dX7_print_33 : decode cX7_print 33 = .ok (.lload_n 1, 1) := by decide +kernel
theorem dX7_print_34 : decode cX7_print 34 = .ok (.lmul, 1) := by decide +kernel
theorem dX7_print_35 : decode cX7_print 35 = .ok (.aload_n 0, 1) := by decide +kernel
theorem dX7_print_36 : decode cX7_print 36 = .ok (.iload_n 3, 1) := by decide +kernel
theorem dX7_print_37 : decode cX7_print 37 = .ok (.iload 4, 2) := by decide +kernel
theorem dX7_print_39 : decode cX7_print 39 = .ok (.invokevirtual 237, 3) := by decide +kernel
theorem dX7_print_42 : decode cX7_print 42 = .ok (.i2l, 1) := by decide +kernel
theorem dX7_print_43 : decode cX7_print 43 = .ok (.ladd, 1) := by decide +kernel
theorem dX7_print_44 : decode cX7_print 44 = .ok (.lstore_n 1, 1) := by decide +kernel
theorem dX7_print_45 : decode cX7_print 45 = .ok (.iinc 4 1, 3) := by decide +kernel
theorem dX7_print_48 : decode cX7_print 48 = .ok (.goto (-27), 3) := by decide +kernel
theorem dX7_print_51 : decode cX7_print 51 = .ok (.iinc 3 1, 3) := by decide +kernel
theorem dX7_print_54 : decode cX7_print 54 = .ok (.goto (-46), 3) := by decide +kernel
theorem dX7_print_57 : decode cX7_print 57 = .ok (.lload_n 1, 1) := by decide +kernel
theorem dX7_print_58 : decode cX7_print 58 = .ok (.lreturn, 1) := by decide +kernel
theorem dX7_status_0 : decode cX7_status 0 = .ok (.aload_n 0, 1) := by decide +kernel
theorem dX7_status_1 : decode cX7_status 1 = .ok (.iconst 0, 1) := by decide +kernel
theorem dX7_status_2 : decode cX7_status 2 = .ok (.putfield 58, 3) := by decide +kernel
theorem dX7_status_5 : decode cX7_status 5 = .ok (.iload_n 1, 1) := by decide +kernel
theorem dX7_status_6 : decode cX7_status 6 = .ok (.i2l, 1) := by decide +kernel
theorem dX7_status_7 : decode cX7_status 7 = .ok (.lconst 0, 1) := by decide +kernel
theorem dX7_status_8 : decode cX7_status 8 = .ok (.ldc2_w 300, 3) := by decide +kernel
theorem dX7_status_11 : decode cX7_status 11 = .ok (.invokestatic 154, 3) := by decide +kernel
theorem dX7_status_14 : decode cX7_status 14 = .ok (.ifCond .eq 12, 3) := by decide +kernel
theorem dX7_status_17 : decode cX7_status 17 = .ok (.aload_n 0, 1) := by decide +kernel
theorem dX7_status_18 : decode cX7_status 18 = .ok (.getfield 9, 3) := by decide +kernel
theorem dX7_status_21 : decode cX7_status 21 = .ok (.iload_n 1, 1) := by decide +kernel
theorem dX7_status_22 : decode cX7_status 22 = .ok (.iaload, 1) := by decide +kernel
theorem dX7_status_23 : decode cX7_status 23 = .ok (.goto 4, 3) := by decide +kernel
theorem dX7_status_26 : decode cX7_status 26 = .ok (.iconst (-1), 1) := by decide +kernel
theorem dX7_status_27 : decode cX7_status 27 = .ok (.ireturn, 1) := by decide +kernel
