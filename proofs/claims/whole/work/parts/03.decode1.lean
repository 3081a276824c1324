theorem dX0_init_0 : decode cX0_init 0 = .ok (.aload_n 0, 1) := by decide +kernel
theorem dX0_init_1 : decode cX0_init 1 = .ok (.invokespecial 3, 3) := by decide +kernel
theorem dX0_init_4 : decode cX0_init 4 = .ok (.aload_n 0, 1) := by decide +kernel
theorem dX0_init_5 : decode cX0_init 5 = .ok (.new 9, 3) := by decide +kernel
theorem dX0_init_8 : decode cX0_init 8 = .ok (.dup, 1) := by decide +kernel
theorem dX0_init_9 : decode cX0_init 9 = .ok (.invokespecial 11, 3) := by decide +kernel
theorem dX0_init_12 : decode cX0_init 12 = .ok (.putfield 12, 3) := by decide +kernel
theorem dX0_init_15 : decode cX0_init 15 = .ok (.return_, 1) := by decide +kernel
theorem dX0_size_0 : decode cX0_size 0 = .ok (.aload_n 0, 1) := by decide +kernel
theorem dX0_size_1 : decode cX0_size 1 = .ok (.getfield 18, 3) := by decide +kernel
theorem dX0_size_4 : decode cX0_size 4 = .ok (.ireturn, 1) := by decide +kernel
theorem dX0_forget_0 : decode cX0_forget 0 = .ok (.aload_n 0, 1) := by decide +kernel
theorem dX0_forget_1 : decode cX0_forget 1 = .ok (.iconst 0, 1) := by decide +kernel
theorem dX0_forget_2 : decode cX0_forget 2 = .ok (.putfield 18, 3) := by decide +kernel
theorem dX0_forget_5 : decode cX0_forget 5 = .ok (.return_, 1) := by decide +kernel
theorem dX0_keep_0 : decode cX0_keep 0 = .ok (.aload_n 0, 1) := by decide +kernel
theorem dX0_keep_1 : decode cX0_keep 1 = .ok (.getfield 18, 3) := by decide +kernel
theorem dX0_keep_4 : decode cX0_keep 4 = .ok (.bipush 8, 2) := by decide +kernel
theorem dX0_keep_6 : decode cX0_keep 6 = .ok (.if_icmp .ne 26, 3) := by decide +kernel
theorem dX0_keep_9 : decode cX0_keep 9 = .ok (.aload_n 0, 1) := by decide +kernel
theorem dX0_keep_10 : decode cX0_keep 10 = .ok (.aload_n 0, 1) := by decide +kernel
theorem dX0_keep_11 : decode cX0_keep 11 = .ok (.getfield 22, 3) := by decide +kernel
theorem dX0_keep_14 : decode cX0_keep 14 = .ok (.iconst 1, 1) := by decide +kernel
theorem dX0_keep_15 : decode cX0_keep 15 = .ok (.iadd, 1) := by decide +kernel
theorem dX0_keep_16 : decode cX0_keep 16 = .ok (.bipush 8, 2) := by decide +kernel
theorem dX0_keep_18 : decode cX0_keep 18 = .ok (.irem, 1) := by decide +kernel
theorem dX0_keep_19 : decode cX0_keep 19 = .ok (.putfield 22, 3) := by decide +kernel
theorem dX0_keep_22 : decode cX0_keep 22 = .ok (.aload_n 0, 1) := by decide +kernel
theorem dX0_keep_23 : decode cX0_keep 23 = .ok (.dup, 1) := by decide +kernel
theorem dX0_keep_24 : decode cX0_keep 24 = .ok (.getfield 18, 3) := by decide +kernel
theorem dX0_keep_27 : decode cX0_keep 27 = .ok (.iconst 1, 1) := by decide +kernel
theorem dX0_keep_28 : decode cX0_keep 28 = .ok (.isub, 1) := by decide +kernel
theorem dX0_keep_29 : decode cX0_keep 29 = .ok (.putfield 18, 3) := by decide +kernel
theorem dX0_keep_32 : decode cX0_keep 32 = .ok (.aload_n 0, 1) := by decide +kernel
theorem dX0_keep_33 : decode cX0_keep 33 = .ok (.getfield 12, 3) := by decide +kernel
theorem dX0_keep_36 : decode cX0_keep 36 = .ok (.aload_n 0, 1) := by decide +kernel
theorem dX0_keep_37 : decode cX0_keep 37 = .ok (.getfield 22, 3) := by decide +kernel
theorem dX0_keep_40 : decode cX0_keep 40 = .ok (.aload_n 0, 1) := by decide +kernel
theorem dX0_keep_41 : decode cX0_keep 41 = .ok (.getfield 18, 3) := by decide +kernel
theorem dX0_keep_44 : decode cX0_keep 44 = .ok (.iadd, 1) := by decide +kernel
theorem dX0_keep_45 : decode cX0_keep 45 = .ok (.bipush 8, 2) := by decide +kernel
theorem dX0_keep_47 : decode cX0_keep 47 = .ok (.irem, 1) := by decide +kernel
theorem dX0_keep_48 : decode cX0_keep 48 = .ok (.aload_n 1, 1) := by decide +kernel
theorem dX0_keep_49 : decode cX0_keep 49 = .ok (.invokevirtual 25, 3) := by decide +kernel
theorem dX0_keep_52 : decode cX0_keep 52 = .ok (.aload_n 0, 1) := by decide +kernel
theorem dX0_keep_53 : decode cX0_keep 53 = .ok (.dup, 1) := by decide +kernel
theorem dX0_keep_54 : decode cX0_keep 54 = .ok (.getfield 18, 3) := by decide +kernel
theorem dX0_keep_57 : decode cX0_keep 57 = .ok (.iconst 1, 1) := by decide +kernel
theorem dX0_keep_58 : decode cX0_keep 58 = .ok (.iadd, 1) := by decide +kernel
theorem dX0_keep_59 : decode cX0_keep 59 = .ok (.putfield 18, 3) := by decide +kernel
theorem dX0_keep_62 : decode cX0_keep 62 = .ok (.return_, 1) := by decide +kernel
theorem dX0_takeBack_0 : decode cX0_takeBack 0 = .ok (.aload_n 0, 1) := by decide +kernel
theorem dX0_takeBack_1 : decode cX0_takeBack 1 = .ok (.getfield 18, 3) := by decide +kernel
theorem dX0_takeBack_4 : decode cX0_takeBack 4 = .ok (.ifCond .ne 5, 3) := by decide +kernel
theorem dX0_takeBack_7 : decode cX0_takeBack 7 = .ok (.iconst (-1), 1) := by decide +kernel
theorem dX0_takeBack_8 : decode cX0_takeBack 8 = .ok (.ireturn, 1) := by decide +kernel
theorem dX0_takeBack_9 : decode cX0_takeBack 9 = .ok (.aload_n 0, 1) := by decide +kernel
theorem dX0_takeBack_10 : decode cX0_takeBack 10 = .ok (.dup, 1) := by decide +kernel
theorem dX0_takeBack_11 : decode cX0_takeBack 11 = .ok (.getfield 18, 3) := by decide +kernel
theorem dX0_takeBack_14 : decode cX0_takeBack 14 = .ok (.iconst 1, 1) := by decide +kernel
theorem dX0_takeBack_15 : decode cX0_takeBack 15 = .ok (.isub, 1) := by decide +kernel
theorem dX0_takeBack_16 : decode cX0_takeBack 16 = .ok (.putfield 18, 3) := by decide +kernel
theorem dX0_takeBack_19 : decode cX0_takeBack 19 = .ok (.aload_n 0, 1) := by decide +kernel
theorem dX0_takeBack_20 : decode cX0_takeBack 20 = .ok (.getfield 12, 3) := by decide +kernel
theorem dX0_takeBack_23 : decode cX0_takeBack 23 = .ok (.aload_n 0, 1) := by decide +kernel
theorem dX0_takeBack_24 : decode cX0_takeBack 24 = .ok (.getfield 22, 3) := by decide +kernel
theorem dX0_takeBack_27 : decode cX0_takeBack 27 = .ok (.aload_n 0, 1) := by decide +kernel
theorem dX0_takeBack_28 : decode cX0_takeBack 28 = .ok (.getfield 18, 3) := by decide +kernel
theorem dX0_takeBack_31 : decode cX0_takeBack 31 = .ok (.iadd, 1) := by decide +kernel
theorem dX0_takeBack_32 : decode cX0_takeBack 32 = .ok (.bipush 8, 2) := by decide +kernel
theorem dX0_takeBack_34 : decode cX0_takeBack 34 = .ok (.irem, 1) := by decide +kernel
theorem dX0_takeBack_35 : decode cX0_takeBack 35 = .ok (.aload_n 1, 1) := by decide +kernel
theorem dX0_takeBack_36 : decode cX0_takeBack 36 = .ok (.invokevirtual 29, 3) := by decide +kernel
theorem dX0_takeBack_39 : decode cX0_takeBack 39 = .ok (.aload_n 0, 1) := by decide +kernel
theorem dX0_takeBack_40 : decode cX0_takeBack 40 = .ok (.getfield 18, 3) := by decide +kernel
theorem dX0_takeBack_43 : decode cX0_takeBack 43 = .ok (.ireturn, 1) := by decide +kernel
theorem dX1_init_0 : decode cX1_init 0 = .ok (.aload_n 0, 1) := by decide +kernel
theorem dX1_init_1 : decode cX1_init 1 = .ok (.invokespecial 3, 3) := by decide +kernel
theorem dX1_init_4 : decode cX1_init 4 = .ok (.aload_n 0, 1) := by decide +kernel
theorem dX1_init_5 : decode cX1_init 5 = .ok (.bipush 14, 2) := by decide +kernel
theorem dX1_init_7 : decode cX1_init 7 = .ok (.newarray .int, 2) := by decide +kernel
theorem dX1_init_9 : decode cX1_init 9 = .ok (.putfield 9, 3) := by decide +kernel
theorem dX1_init_12 : decode cX1_init 12 = .ok (.return_, 1) := by decide +kernel
theorem dX1_takeTied_0 : decode cX1_takeTied 0 = .ok (.aload_n 0, 1) := by decide +kernel
theorem dX1_takeTied_1 : decode cX1_takeTied 1 = .ok (.aload_n 1, 1) := by decide +kernel
theorem dX1_takeTied_2 : decode cX1_takeTied 2 = .ok (.invokevirtual 15, 3) := by decide +kernel
theorem dX1_takeTied_5 : decode cX1_takeTied 5 = .ok (.putfield 21, 3) := by decide +kernel
theorem dX1_takeTied_8 : decode cX1_takeTied 8 = .ok (.aload_n 0, 1) := by decide +kernel
theorem dX1_takeTied_9 : decode cX1_takeTied 9 = .ok (.aload_n 1, 1) := by decide +kernel
theorem dX1_takeTied_10 : decode cX1_takeTied 10 = .ok (.invokevirtual 25, 3) := by decide +kernel
theorem dX1_takeTied_13 : decode cX1_takeTied 13 = .ok (.putfield 28, 3) := by decide +kernel
theorem dX1_takeTied_16 : decode cX1_takeTied 16 = .ok (.iconst 0, 1) := by decide +kernel
theorem dX1_takeTied_17 : decode cX1_takeTied 17 = .ok (.istore_n 2, 1) := by decide +kernel
theorem dX1_takeTied_18 : decode cX1_takeTied 18 = .ok (.iload_n 2, 1) := by decide +kernel
theorem dX1_takeTied_19 : decode cX1_takeTied 19 = .ok (.aload_n 0, 1) := by decide +kernel
theorem dX1_takeTied_20 : decode cX1_takeTied 20 = .ok (.getfield 21, 3) := by decide +kernel
theorem dX1_takeTied_23 : decode cX1_takeTied 23 = .ok (.if_icmp .ge 22, 3) := by decide +kernel
theorem dX1_takeTied_26 : decode cX1_takeTied 26 = .ok (.aload_n 0, 1) := by decide +kernel
theorem dX1_takeTied_27 : decode cX1_takeTied 27 = .ok (.getfield 9, 3) := by decide +kernel
theorem dX1_takeTied_30 : decode cX1_takeTied 30 = .ok (.iload_n 2, 1) := by decide +kernel
theorem dX1_takeTied_31 : decode cX1_takeTied 31 = .ok (.aload_n 1, 1) := by decide +kernel
theorem dX1_takeTied_32 : decode cX1_takeTied 32 = .ok (.iload_n 2, 1) := by decide +kernel
theorem dX1_takeTied_33 : decode cX1_takeTied 33 = .ok (.invokevirtual 30, 3) := by decide +kernel
theorem dX1_takeTied_36 : decode cX1_takeTied 36 = .ok (.invokestatic 34, 3) := by decide +kernel
theorem dX1_takeTied_39 : decode cX1_takeTied 39 = .ok (.iinc 2 1, 3) := by decide +kernel
theorem dX1_takeTied_42 : decode cX1_takeTied 42 = .ok (.goto (-24), 3) := by decide +kernel
theorem dX1_takeTied_45 : decode cX1_takeTied 45 = .ok (.return_, 1) := by decide +kernel
theorem dX1_takeUntied_0 : decode cX1_takeUntied 0 = .ok (.aload_n 0, 1) := by decide +kernel
theorem dX1_takeUntied_1 : decode cX1_takeUntied 1 = .ok (.aload_n 1, 1) := by decide +kernel
theorem dX1_takeUntied_2 : decode cX1_takeUntied 2 = .ok (.invokevirtual 15, 3) := by decide +kernel
theorem dX1_takeUntied_5 : decode cX1_takeUntied 5 = .ok (.putfield 21, 3) := by decide +kernel
theorem dX1_takeUntied_8 : decode cX1_takeUntied 8 = .ok (.aload_n 0, 1) := by decide +kernel
theorem dX1_takeUntied_9 : decode cX1_takeUntied 9 = .ok (.aload_n 1, 1) := by decide +kernel
theorem dX1_takeUntied_10 : decode cX1_takeUntied 10 = .ok (.invokevirtual 25, 3) := by decide +kernel
theorem dX1_takeUntied_13 : decode cX1_takeUntied 13 = .ok (.putfield 28, 3) := by decide +kernel
theorem dX1_takeUntied_16 : decode cX1_takeUntied 16 = .ok (.iconst 0, 1) := by decide +kernel
theorem dX1_takeUntied_17 : decode cX1_takeUntied 17 = .ok (.istore_n 2, 1) := by decide +kernel
theorem dX1_takeUntied_18 : decode cX1_takeUntied 18 = .ok (.iload_n 2, 1) := by decide +kernel
theorem dX1_takeUntied_19 : decode cX1_takeUntied 19 = .ok (.aload_n 0, 1) := by decide +kernel
theorem dX1_takeUntied_20 : decode cX1_takeUntied 20 = .ok (.getfield 21, 3) := by decide +kernel
theorem dX1_takeUntied_23 : decode cX1_takeUntied 23 = .ok (.if_icmp .ge 35, 3) := by decide +kernel
theorem dX1_takeUntied_26 : decode cX1_takeUntied 26 = .ok (.aload_n 0, 1) := by decide +kernel
theorem dX1_takeUntied_27 : decode cX1_takeUntied 27 = .ok (.getfield 9, 3) := by decide +kernel
theorem dX1_takeUntied_30 : decode cX1_takeUntied 30 = .ok (.iload_n 2, 1) := by decide +kernel
theorem dX1_takeUntied_31 : decode cX1_takeUntied 31 = .ok (.aload_n 0, 1) := by decide +kernel
theorem dX1_takeUntied_32 : decode cX1_takeUntied 32 = .ok (.getfield 28, 3) := by decide +kernel
theorem dX1_takeUntied_35 : decode cX1_takeUntied 35 = .ok (.aload_n 1, 1) := by decide +kernel
theorem dX1_takeUntied_36 : decode cX1_takeUntied 36 = .ok (.iload_n 2, 1) := by decide +kernel
theorem dX1_takeUntied_37 : decode cX1_takeUntied 37 = .ok (.invokevirtual 30, 3) := by decide +kernel
theorem dX1_takeUntied_40 : decode cX1_takeUntied 40 = .ok (.iconst (-1), 1) := by decide +kernel
theorem dX1_takeUntied_41 : decode cX1_takeUntied 41 = .ok (.ixor, 1) := by decide +kernel
theorem dX1_takeUntied_42 : decode cX1_takeUntied 42 = .ok (.iand, 1) := by decide +kernel
theorem dX1_takeUntied_43 : decode cX1_takeUntied 43 = .ok (.iconst 1, 1) := by decide +kernel
theorem dX1_takeUntied_44 : decode cX1_takeUntied 44 = .ok (.iload_n 2, 1) := by decide +kernel
theorem dX1_takeUntied_45 : decode cX1_takeUntied 45 = .ok (.ishl, 1) := by decide +kernel
theorem dX1_takeUntied_46 : decode cX1_takeUntied 46 = .ok (.iconst (-1), 1) := by decide +kernel
theorem dX1_takeUntied_47 : decode cX1_takeUntied 47 = .ok (.ixor, 1) := by decide +kernel
theorem dX1_takeUntied_48 : decode cX1_takeUntied 48 = .ok (.iand, 1) := by decide +kernel
theorem dX1_takeUntied_49 : decode cX1_takeUntied 49 = .ok (.invokestatic 34, 3) := by decide +kernel
theorem dX1_takeUntied_52 : decode cX1_takeUntied 52 = .ok (.iinc 2 1, 3) := by decide +kernel
theorem dX1_takeUntied_55 : decode cX1_takeUntied 55 = .ok (.goto (-37), 3) := by decide +kernel
theorem dX1_takeUntied_58 : decode cX1_takeUntied 58 = .ok (.return_, 1) := by decide +kernel
theorem dX1_most_0 : decode cX1_most 0 = .ok (.aload_n 0, 1) := by decide +kernel
theorem dX1_most_1 : decode cX1_most 1 = .ok (.getfield 9, 3) := by decide +kernel
theorem dX1_most_4 : decode cX1_most 4 = .ok (.aload_n 0, 1) := by decide +kernel
theorem dX1_most_5 : decode cX1_most 5 = .ok (.getfield 28, 3) := by decide +kernel
theorem dX1_most_8 : decode cX1_most 8 = .ok (.iconst 0, 1) := by decide +kernel
theorem dX1_most_9 : decode cX1_most 9 = .ok (.invokestatic 38, 3) := by decide +kernel
theorem dX1_most_12 : decode cX1_most 12 = .ok (.ireturn, 1) := by decide +kernel
theorem dX1_leastSet_0 : decode cX1_leastSet 0 = .ok (.aload_n 0, 1) := by decide +kernel
theorem dX1_leastSet_1 : decode cX1_leastSet 1 = .ok (.getfield 28, 3) := by decide +kernel
theorem dX1_leastSet_4 : decode cX1_leastSet 4 = .ok (.istore_n 1, 1) := by decide +kernel
theorem dX1_leastSet_5 : decode cX1_leastSet 5 = .ok (.aload_n 0, 1) := by decide +kernel
theorem dX1_leastSet_6 : decode cX1_leastSet 6 = .ok (.invokevirtual 42, 3) := by decide +kernel
theorem dX1_leastSet_9 : decode cX1_leastSet 9 = .ok (.istore_n 2, 1) := by decide +kernel
theorem dX1_leastSet_10 : decode cX1_leastSet 10 = .ok (.iconst 0, 1) := by decide +kernel
theorem dX1_leastSet_11 : decode cX1_leastSet 11 = .ok (.istore_n 3, 1) := by decide +kernel
theorem dX1_leastSet_12 : decode cX1_leastSet 12 = .ok (.aload_n 0, 1) := by decide +kernel
theorem dX1_leastSet_13 : decode cX1_leastSet 13 = .ok (.getfield 21, 3) := by decide +kernel
theorem dX1_leastSet_16 : decode cX1_leastSet 16 = .ok (.iconst 1, 1) := by decide +kernel
theorem dX1_leastSet_17 : decode cX1_leastSet 17 = .ok (.isub, 1) := by decide +kernel
theorem dX1_leastSet_18 : decode cX1_leastSet 18 = .ok (.istore 4, 2) := by decide +kernel
theorem dX1_leastSet_20 : decode cX1_leastSet 20 = .ok (.iload 4, 2) := by decide +kernel
theorem dX1_leastSet_22 : decode cX1_leastSet 22 = .ok (.ifCond .lt 74, 3) := by decide +kernel
theorem dX1_leastSet_25 : decode cX1_leastSet 25 = .ok (.iload_n 1, 1) := by decide +kernel
theorem dX1_leastSet_26 : decode cX1_leastSet 26 = .ok (.iload 4, 2) := by decide +kernel
theorem dX1_leastSet_28 : decode cX1_leastSet 28 = .ok (.invokestatic 45, 3) := by decide +kernel
theorem dX1_leastSet_31 : decode cX1_leastSet 31 = .ok (.ifCond .ne 6, 3) := by decide +kernel
theorem dX1_leastSet_34 : decode cX1_leastSet 34 = .ok (.goto 56, 3) := by decide +kernel
theorem dX1_leastSet_37 : decode cX1_leastSet 37 = .ok (.iload_n 1, 1) := by decide +kernel
theorem dX1_leastSet_38 : decode cX1_leastSet 38 = .ok (.iconst 1, 1) := by decide +kernel
theorem dX1_leastSet_39 : decode cX1_leastSet 39 = .ok (.iload 4, 2) := by decide +kernel
theorem dX1_leastSet_41 : decode cX1_leastSet 41 = .ok (.ishl, 1) := by decide +kernel
theorem dX1_leastSet_42 : decode cX1_leastSet 42 = .ok (.iconst (-1), 1) := by decide +kernel
theorem dX1_leastSet_43 : decode cX1_leastSet 43 = .ok (.ixor, 1) := by decide +kernel
theorem dX1_leastSet_44 : decode cX1_leastSet 44 = .ok (.iand, 1) := by decide +kernel
theorem dX1_leastSet_45 : decode cX1_leastSet 45 = .ok (.istore 5, 2) := by decide +kernel
theorem dX1_leastSet_47 : decode cX1_leastSet 47 = .ok (.aload_n 0, 1) := by decide +kernel
theorem dX1_leastSet_48 : decode cX1_leastSet 48 = .ok (.getfield 9, 3) := by decide +kernel
theorem dX1_leastSet_51 : decode cX1_leastSet 51 = .ok (.iload 5, 2) := by decide +kernel
theorem dX1_leastSet_53 : decode cX1_leastSet 53 = .ok (.iconst 0, 1) := by decide +kernel
theorem dX1_leastSet_54 : decode cX1_leastSet 54 = .ok (.invokestatic 38, 3) := by decide +kernel
theorem dX1_leastSet_57 : decode cX1_leastSet 57 = .ok (.iload_n 2, 1) := by decide +kernel
theorem dX1_leastSet_58 : decode cX1_leastSet 58 = .ok (.if_icmp .lt 9, 3) := by decide +kernel
theorem dX1_leastSet_61 : decode cX1_leastSet 61 = .ok (.iload 5, 2) := by decide +kernel
theorem dX1_leastSet_63 : decode cX1_leastSet 63 = .ok (.istore_n 1, 1) := by decide +kernel
theorem dX1_leastSet_64 : decode cX1_leastSet 64 = .ok (.goto 26, 3) := by decide +kernel
theorem dX1_leastSet_67 : decode cX1_leastSet 67 = .ok (.iload_n 3, 1) := by decide +kernel
theorem dX1_leastSet_68 : decode cX1_leastSet 68 = .ok (.iconst 1, 1) := by decide +kernel
theorem dX1_leastSet_69 : decode cX1_leastSet 69 = .ok (.iload 4, 2) := by decide +kernel
theorem dX1_leastSet_71 : decode cX1_leastSet 71 = .ok (.ishl, 1) := by decide +kernel
theorem dX1_leastSet_72 : decode cX1_leastSet 72 = .ok (.ior, 1) := by decide +kernel
theorem dX1_leastSet_73 : decode cX1_leastSet 73 = .ok (.istore_n 3, 1) := by decide +kernel
theorem dX1_leastSet_74 : decode cX1_leastSet 74 = .ok (.iinc 2 (-1), 3) := by decide +kernel
theorem dX1_leastSet_77 : decode cX1_leastSet 77 = .ok (.iload 5, 2) := by decide +kernel
theorem dX1_leastSet_79 : decode cX1_leastSet 79 = .ok (.aload_n 0, 1) := by decide +kernel
theorem dX1_leastSet_80 : decode cX1_leastSet 80 = .ok (.getfield 9, 3) := by decide +kernel
theorem dX1_leastSet_83 : decode cX1_leastSet 83 = .ok (.iload 4, 2) := by decide +kernel
theorem dX1_leastSet_85 : decode cX1_leastSet 85 = .ok (.invokestatic 49, 3) := by decide +kernel
theorem dX1_leastSet_88 : decode cX1_leastSet 88 = .ok (.iand, 1) := by decide +kernel
theorem dX1_leastSet_89 : decode cX1_leastSet 89 = .ok (.istore_n 1, 1) := by decide +kernel
theorem dX1_leastSet_90 : decode cX1_leastSet 90 = .ok (.iinc 4 (-1), 3) := by decide +kernel
theorem dX1_leastSet_93 : decode cX1_leastSet 93 = .ok (.goto (-73), 3) := by decide +kernel
theorem dX1_leastSet_96 : decode cX1_leastSet 96 = .ok (.iload_n 3, 1) := by decide +kernel
theorem dX1_leastSet_97 : decode cX1_leastSet 97 = .ok (.ireturn, 1) := by decide +kernel
theorem dX1_mostOf_0 : decode cX1_mostOf 0 = .ok (.iload_n 1, 1) := by decide +kernel
theorem dX1_mostOf_1 : decode cX1_mostOf 1 = .ok (.ifCond .eq 9, 3) := by decide +kernel
theorem dX1_mostOf_4 : decode cX1_mostOf 4 = .ok (.iload_n 2, 1) := by decide +kernel
theorem dX1_mostOf_5 : decode cX1_mostOf 5 = .ok (.bipush 14, 2) := by decide +kernel
theorem dX1_mostOf_7 : decode cX1_mostOf 7 = .ok (.if_icmp .le 5, 3) := by decide +kernel
theorem dX1_mostOf_10 : decode cX1_mostOf 10 = .ok (.iconst 0, 1) := by decide +kernel
theorem dX1_mostOf_11 : decode cX1_mostOf 11 = .ok (.ireturn, 1) := by decide +kernel
theorem dX1_mostOf_12 : decode cX1_mostOf 12 = .ok (.iload_n 1, 1) := by decide +kernel
theorem dX1_mostOf_13 : decode cX1_mostOf 13 = .ok (.invokestatic 53, 3) := by decide +kernel
theorem dX1_mostOf_16 : decode cX1_mostOf 16 = .ok (.istore_n 3, 1) := by decide +kernel
theorem dX1_mostOf_17 : decode cX1_mostOf 17 = .ok (.iload_n 1, 1) := by decide +kernel
theorem dX1_mostOf_18 : decode cX1_mostOf 18 = .ok (.iconst 1, 1) := by decide +kernel
theorem dX1_mostOf_19 : decode cX1_mostOf 19 = .ok (.iload_n 3, 1) := by decide +kernel
theorem dX1_mostOf_20 : decode cX1_mostOf 20 = .ok (.ishl, 1) := by decide +kernel
theorem dX1_mostOf_21 : decode cX1_mostOf 21 = .ok (.iconst (-1), 1) := by decide +kernel
theorem dX1_mostOf_22 : decode cX1_mostOf 22 = .ok (.ixor, 1) := by decide +kernel
theorem dX1_mostOf_23 : decode cX1_mostOf 23 = .ok (.iand, 1) := by decide +kernel
theorem dX1_mostOf_24 : decode cX1_mostOf 24 = .ok (.istore 4, 2) := by decide +kernel
theorem dX1_mostOf_26 : decode cX1_mostOf 26 = .ok (.iconst 1, 1) := by decide +kernel
theorem dX1_mostOf_27 : decode cX1_mostOf 27 = .ok (.aload_n 0, 1) := by decide +kernel
theorem dX1_mostOf_28 : decode cX1_mostOf 28 = .ok (.iload 4, 2) := by decide +kernel
theorem dX1_mostOf_30 : decode cX1_mostOf 30 = .ok (.aload_n 0, 1) := by decide +kernel
theorem dX1_mostOf_31 : decode cX1_mostOf 31 = .ok (.iload_n 3, 1) := by decide +kernel
theorem dX1_mostOf_32 : decode cX1_mostOf 32 = .ok (.invokestatic 49, 3) := by decide +kernel
theorem dX1_mostOf_35 : decode cX1_mostOf 35 = .ok (.iand, 1) := by decide +kernel
theorem dX1_mostOf_36 : decode cX1_mostOf 36 = .ok (.iload_n 2, 1) := by decide +kernel
theorem dX1_mostOf_37 : decode cX1_mostOf 37 = .ok (.iconst 1, 1) := by decide +kernel
theorem dX1_mostOf_38 : decode cX1_mostOf 38 = .ok (.iadd, 1) := by decide +kernel
theorem dX1_mostOf_39 : decode cX1_mostOf 39 = .ok (.invokestatic 38, 3) := by decide +kernel
theorem dX1_mostOf_42 : decode cX1_mostOf 42 = .ok (.iadd, 1) := by decide +kernel
theorem dX1_mostOf_43 : decode cX1_mostOf 43 = .ok (.istore 5, 2) := by decide +kernel
theorem dX1_mostOf_45 : decode cX1_mostOf 45 = .ok (.iload 4, 2) := by decide +kernel
theorem dX1_mostOf_47 : decode cX1_mostOf 47 = .ok (.aload_n 0, 1) := by decide +kernel
theorem dX1_mostOf_48 : decode cX1_mostOf 48 = .ok (.iload_n 3, 1) := by decide +kernel
theorem dX1_mostOf_49 : decode cX1_mostOf 49 = .ok (.invokestatic 49, 3) := by decide +kernel
theorem dX1_mostOf_52 : decode cX1_mostOf 52 = .ok (.iconst (-1), 1) := by decide +kernel
theorem dX1_mostOf_53 : decode cX1_mostOf 53 = .ok (.ixor, 1) := by decide +kernel
theorem dX1_mostOf_54 : decode cX1_mostOf 54 = .ok (.iand, 1) := by decide +kernel
theorem dX1_mostOf_55 : decode cX1_mostOf 55 = .ok (.ifCond .ne 6, 3) := by decide +kernel
theorem dX1_mostOf_58 : decode cX1_mostOf 58 = .ok (.iload 5, 2) := by decide +kernel
theorem dX1_mostOf_60 : decode cX1_mostOf 60 = .ok (.ireturn, 1) := by decide +kernel
theorem dX1_mostOf_61 : decode cX1_mostOf 61 = .ok (.iload 5, 2) := by decide +kernel
theorem dX1_mostOf_63 : decode cX1_mostOf 63 = .ok (.aload_n 0, 1) := by decide +kernel
theorem dX1_mostOf_64 : decode cX1_mostOf 64 = .ok (.iload 4, 2) := by decide +kernel
theorem dX1_mostOf_66 : decode cX1_mostOf 66 = .ok (.iload_n 2, 1) := by decide +kernel
theorem dX1_mostOf_67 : decode cX1_mostOf 67 = .ok (.iconst 1, 1) := by decide +kernel
theorem dX1_mostOf_68 : decode cX1_mostOf 68 = .ok (.iadd, 1) := by decide +kernel
theorem dX1_mostOf_69 : decode cX1_mostOf 69 = .ok (.invokestatic 38, 3) := by decide +kernel
theorem dX1_mostOf_72 : decode cX1_mostOf 72 = .ok (.invokestatic 56, 3) := by decide +kernel
theorem dX1_mostOf_75 : decode cX1_mostOf 75 = .ok (.ireturn, 1) := by decide +kernel
theorem dX2_init_0 : decode cX2_init 0 = .ok (.aload_n 0, 1) := by decide +kernel
theorem dX2_init_1 : decode cX2_init 1 = .ok (.invokespecial 3, 3) := by decide +kernel
theorem dX2_init_4 : decode cX2_init 4 = .ok (.aload_n 0, 1) := by decide +kernel
theorem dX2_init_5 : decode cX2_init 5 = .ok (.bipush 14, 2) := by decide +kernel
theorem dX2_init_7 : decode cX2_init 7 = .ok (.newarray .int, 2) := by decide +kernel
theorem dX2_init_9 : decode cX2_init 9 = .ok (.putfield 9, 3) := by decide +kernel
theorem dX2_init_12 : decode cX2_init 12 = .ok (.aload_n 0, 1) := by decide +kernel
theorem dX2_init_13 : decode cX2_init 13 = .ok (.bipush 14, 2) := by decide +kernel
theorem dX2_init_15 : decode cX2_init 15 = .ok (.newarray .int, 2) := by decide +kernel
theorem dX2_init_17 : decode cX2_init 17 = .ok (.putfield 15, 3) := by decide +kernel
theorem dX2_init_20 : decode cX2_init 20 = .ok (.aload_n 0, 1) := by decide +kernel
theorem dX2_init_21 : decode cX2_init 21 = .ok (.bipush 14, 2) := by decide +kernel
theorem dX2_init_23 : decode cX2_init 23 = .ok (.newarray .int, 2) := by decide +kernel
theorem dX2_init_25 : decode cX2_init 25 = .ok (.putfield 18, 3) := by decide +kernel
theorem dX2_init_28 : decode cX2_init 28 = .ok (.aload_n 0, 1) := by decide +kernel
theorem dX2_init_29 : decode cX2_init 29 = .ok (.bipush 14, 2) := by decide +kernel
theorem dX2_init_31 : decode cX2_init 31 = .ok (.newarray .int, 2) := by decide +kernel
theorem dX2_init_33 : decode cX2_init 33 = .ok (.putfield 21, 3) := by decide +kernel
theorem dX2_init_36 : decode cX2_init 36 = .ok (.return_, 1) := by decide +kernel
theorem dX2_found_0 : decode cX2_found 0 = .ok (.aload_n 0, 1) := by decide +kernel
theorem dX2_found_1 : decode cX2_found 1 = .ok (.getfield 24, 3) := by decide +kernel
theorem dX2_found_4 : decode cX2_found 4 = .ok (.ireturn, 1) := by decide +kernel
theorem dX2_size_0 : decode cX2_size 0 = .ok (.aload_n 0, 1) := by decide +kernel
theorem dX2_size_1 : decode cX2_size 1 = .ok (.getfield 28, 3) := by decide +kernel
theorem dX2_size_4 : decode cX2_size 4 = .ok (.ireturn, 1) := by decide +kernel
theorem dX2_cliqueAt_0 : decode cX2_cliqueAt 0 = .ok (.aload_n 0, 1) := by decide +kernel
theorem dX2_cliqueAt_1 : decode cX2_cliqueAt 1 = .ok (.getfield 21, 3) := by decide +kernel
theorem dX2_cliqueAt_4 : decode cX2_cliqueAt 4 = .ok (.iload_n 1, 1) := by decide +kernel
theorem dX2_cliqueAt_5 : decode cX2_cliqueAt 5 = .ok (.invokestatic 31, 3) := by decide +kernel
theorem dX2_cliqueAt_8 : decode cX2_cliqueAt 8 = .ok (.ireturn, 1) := by decide +kernel
theorem dX2_look_0 : decode cX2_look 0 = .ok (.aload_n 0, 1) := by decide +kernel
theorem dX2_look_1 : decode cX2_look 1 = .ok (.aload_n 1, 1) := by decide +kernel
theorem dX2_look_2 : decode cX2_look 2 = .ok (.invokevirtual 35, 3) := by decide +kernel
theorem dX2_look_5 : decode cX2_look 5 = .ok (.putfield 40, 3) := by decide +kernel
theorem dX2_look_8 : decode cX2_look 8 = .ok (.aload_n 0, 1) := by decide +kernel
theorem dX2_look_9 : decode cX2_look 9 = .ok (.iconst 0, 1) := by decide +kernel
theorem dX2_look_10 : decode cX2_look 10 = .ok (.putfield 28, 3) := by decide +kernel
theorem dX2_look_13 : decode cX2_look 13 = .ok (.aload_n 0, 1) := by decide +kernel
theorem dX2_look_14 : decode cX2_look 14 = .ok (.iconst 0, 1) := by decide +kernel
theorem dX2_look_15 : decode cX2_look 15 = .ok (.putfield 24, 3) := by decide +kernel
theorem dX2_look_18 : decode cX2_look 18 = .ok (.iconst 0, 1) := by decide +kernel
theorem dX2_look_19 : decode cX2_look 19 = .ok (.istore_n 2, 1) := by decide +kernel
theorem dX2_look_20 : decode cX2_look 20 = .ok (.iload_n 2, 1) := by decide +kernel
theorem dX2_look_21 : decode cX2_look 21 = .ok (.aload_n 0, 1) := by decide +kernel
theorem dX2_look_22 : decode cX2_look 22 = .ok (.getfield 40, 3) := by decide +kernel
theorem dX2_look_25 : decode cX2_look 25 = .ok (.if_icmp .ge 31, 3) := by decide +kernel
theorem dX2_look_28 : decode cX2_look 28 = .ok (.aload_n 0, 1) := by decide +kernel
theorem dX2_look_29 : decode cX2_look 29 = .ok (.getfield 9, 3) := by decide +kernel
theorem dX2_look_32 : decode cX2_look 32 = .ok (.iload_n 2, 1) := by decide +kernel
theorem dX2_look_33 : decode cX2_look 33 = .ok (.aload_n 1, 1) := by decide +kernel
theorem dX2_look_34 : decode cX2_look 34 = .ok (.iload_n 2, 1) := by decide +kernel
theorem dX2_look_35 : decode cX2_look 35 = .ok (.invokevirtual 43, 3) := by decide +kernel
theorem dX2_look_38 : decode cX2_look 38 = .ok (.invokestatic 47, 3) := by decide +kernel
theorem dX2_look_41 : decode cX2_look 41 = .ok (.aload_n 0, 1) := by decide +kernel
theorem dX2_look_42 : decode cX2_look 42 = .ok (.getfield 15, 3) := by decide +kernel
theorem dX2_look_45 : decode cX2_look 45 = .ok (.iload_n 2, 1) := by decide +kernel
theorem dX2_look_46 : decode cX2_look 46 = .ok (.iconst 0, 1) := by decide +kernel
theorem dX2_look_47 : decode cX2_look 47 = .ok (.invokestatic 47, 3) := by decide +kernel
theorem dX2_look_50 : decode cX2_look 50 = .ok (.iinc 2 1, 3) := by decide +kernel
theorem dX2_look_53 : decode cX2_look 53 = .ok (.goto (-33), 3) := by decide +kernel
theorem dX2_look_56 : decode cX2_look 56 = .ok (.aload_n 0, 1) := by decide +kernel
theorem dX2_look_57 : decode cX2_look 57 = .ok (.iconst 0, 1) := by decide +kernel
theorem dX2_look_58 : decode cX2_look 58 = .ok (.invokestatic 51, 3) := by decide +kernel
theorem dX2_look_61 : decode cX2_look 61 = .ok (.return_, 1) := by decide +kernel
theorem dX2_seek_0 : decode cX2_seek 0 = .ok (.iload_n 1, 1) := by decide +kernel
theorem dX2_seek_1 : decode cX2_seek 1 = .ok (.bipush 14, 2) := by decide +kernel
theorem dX2_seek_3 : decode cX2_seek 3 = .ok (.if_icmp .gt 13, 3) := by decide +kernel
theorem dX2_seek_6 : decode cX2_seek 6 = .ok (.aload_n 0, 1) := by decide +kernel
theorem dX2_seek_7 : decode cX2_seek 7 = .ok (.getfield 24, 3) := by decide +kernel
theorem dX2_seek_10 : decode cX2_seek 10 = .ok (.sipush 999, 3) := by decide +kernel
theorem dX2_seek_13 : decode cX2_seek 13 = .ok (.if_icmp .lt 4, 3) := by decide +kernel
theorem dX2_seek_16 : decode cX2_seek 16 = .ok (.return_, 1) := by decide +kernel
theorem dX2_seek_17 : decode cX2_seek 17 = .ok (.aload_n 0, 1) := by decide +kernel
theorem dX2_seek_18 : decode cX2_seek 18 = .ok (.invokevirtual 55, 3) := by decide +kernel
theorem dX2_seek_21 : decode cX2_seek 21 = .ok (.istore_n 2, 1) := by decide +kernel
theorem dX2_seek_22 : decode cX2_seek 22 = .ok (.iload_n 2, 1) := by decide +kernel
theorem dX2_seek_23 : decode cX2_seek 23 = .ok (.iconst (-1), 1) := by decide +kernel
theorem dX2_seek_24 : decode cX2_seek 24 = .ok (.if_icmp .ne 9, 3) := by decide +kernel
theorem dX2_seek_27 : decode cX2_seek 27 = .ok (.aload_n 0, 1) := by decide +kernel
theorem dX2_seek_28 : decode cX2_seek 28 = .ok (.iload_n 1, 1) := by decide +kernel
theorem dX2_seek_29 : decode cX2_seek 29 = .ok (.invokevirtual 58, 3) := by decide +kernel
theorem dX2_seek_32 : decode cX2_seek 32 = .ok (.return_, 1) := by decide +kernel
theorem dX2_seek_33 : decode cX2_seek 33 = .ok (.aload_n 0, 1) := by decide +kernel
theorem dX2_seek_34 : decode cX2_seek 34 = .ok (.getfield 9, 3) := by decide +kernel
theorem dX2_seek_37 : decode cX2_seek 37 = .ok (.iload_n 2, 1) := by decide +kernel
theorem dX2_seek_38 : decode cX2_seek 38 = .ok (.invokestatic 31, 3) := by decide +kernel
theorem dX2_seek_41 : decode cX2_seek 41 = .ok (.istore_n 3, 1) := by decide +kernel
theorem dX2_seek_42 : decode cX2_seek 42 = .ok (.iload_n 3, 1) := by decide +kernel
theorem dX2_seek_43 : decode cX2_seek 43 = .ok (.aload_n 0, 1) := by decide +kernel
theorem dX2_seek_44 : decode cX2_seek 44 = .ok (.getfield 9, 3) := by decide +kernel
theorem dX2_seek_47 : decode cX2_seek 47 = .ok (.iload_n 3, 1) := by decide +kernel
theorem dX2_seek_48 : decode cX2_seek 48 = .ok (.invokestatic 62, 3) := by decide +kernel
theorem dX2_seek_51 : decode cX2_seek 51 = .ok (.invokestatic 31, 3) := by decide +kernel
theorem dX2_seek_54 : decode cX2_seek 54 = .ok (.iand, 1) := by decide +kernel
theorem dX2_seek_55 : decode cX2_seek 55 = .ok (.istore 4, 2) := by decide +kernel
theorem dX2_seek_57 : decode cX2_seek 57 = .ok (.iconst 1, 1) := by decide +kernel
theorem dX2_seek_58 : decode cX2_seek 58 = .ok (.iload_n 2, 1) := by decide +kernel
theorem dX2_seek_59 : decode cX2_seek 59 = .ok (.ishl, 1) := by decide +kernel
theorem dX2_seek_60 : decode cX2_seek 60 = .ok (.iload_n 3, 1) := by decide +kernel
theorem dX2_seek_61 : decode cX2_seek 61 = .ok (.iload_n 3, 1) := by decide +kernel
theorem dX2_seek_62 : decode cX2_seek 62 = .ok (.ineg, 1) := by decide +kernel
theorem dX2_seek_63 : decode cX2_seek 63 = .ok (.iand, 1) := by decide +kernel
theorem dX2_seek_64 : decode cX2_seek 64 = .ok (.ior, 1) := by decide +kernel
theorem dX2_seek_65 : decode cX2_seek 65 = .ok (.iload 4, 2) := by decide +kernel
theorem dX2_seek_67 : decode cX2_seek 67 = .ok (.ior, 1) := by decide +kernel
theorem dX2_seek_68 : decode cX2_seek 68 = .ok (.istore 5, 2) := by decide +kernel
theorem dX2_seek_70 : decode cX2_seek 70 = .ok (.aload_n 0, 1) := by decide +kernel
theorem dX2_seek_71 : decode cX2_seek 71 = .ok (.getfield 40, 3) := by decide +kernel
theorem dX2_seek_74 : decode cX2_seek 74 = .ok (.iconst 1, 1) := by decide +kernel
theorem dX2_seek_75 : decode cX2_seek 75 = .ok (.isub, 1) := by decide +kernel
theorem dX2_seek_76 : decode cX2_seek 76 = .ok (.istore 6, 2) := by decide +kernel
theorem dX2_seek_78 : decode cX2_seek 78 = .ok (.iload 6, 2) := by decide +kernel
theorem dX2_seek_80 : decode cX2_seek 80 = .ok (.iconst (-1), 1) := by decide +kernel
theorem dX2_seek_81 : decode cX2_seek 81 = .ok (.if_icmp .lt 90, 3) := by decide +kernel
theorem dX2_seek_84 : decode cX2_seek 84 = .ok (.iload 6, 2) := by decide +kernel
theorem dX2_seek_86 : decode cX2_seek 86 = .ok (.iconst (-1), 1) := by decide +kernel
theorem dX2_seek_87 : decode cX2_seek 87 = .ok (.if_icmp .eq 16, 3) := by decide +kernel
theorem dX2_seek_90 : decode cX2_seek 90 = .ok (.iload 4, 2) := by decide +kernel
theorem dX2_seek_92 : decode cX2_seek 92 = .ok (.iload 6, 2) := by decide +kernel
theorem dX2_seek_94 : decode cX2_seek 94 = .ok (.invokestatic 65, 3) := by decide +kernel
theorem dX2_seek_97 : decode cX2_seek 97 = .ok (.ifCond .ne 6, 3) := by decide +kernel
theorem dX2_seek_100 : decode cX2_seek 100 = .ok (.goto 65, 3) := by decide +kernel
theorem dX2_seek_103 : decode cX2_seek 103 = .ok (.iload 6, 2) := by decide +kernel
theorem dX2_seek_105 : decode cX2_seek 105 = .ok (.iconst (-1), 1) := by decide +kernel
theorem dX2_seek_106 : decode cX2_seek 106 = .ok (.if_icmp .ne 8, 3) := by decide +kernel
theorem dX2_seek_109 : decode cX2_seek 109 = .ok (.iload 5, 2) := by decide +kernel
theorem dX2_seek_111 : decode cX2_seek 111 = .ok (.goto 12, 3) := by decide +kernel
theorem dX2_seek_114 : decode cX2_seek 114 = .ok (.iload 5, 2) := by decide +kernel
theorem dX2_seek_116 : decode cX2_seek 116 = .ok (.iconst 1, 1) := by decide +kernel
theorem dX2_seek_117 : decode cX2_seek 117 = .ok (.iload 6, 2) := by decide +kernel
theorem dX2_seek_119 : decode cX2_seek 119 = .ok (.ishl, 1) := by decide +kernel
theorem dX2_seek_120 : decode cX2_seek 120 = .ok (.iconst (-1), 1) := by decide +kernel
theorem dX2_seek_121 : decode cX2_seek 121 = .ok (.ixor, 1) := by decide +kernel
theorem dX2_seek_122 : decode cX2_seek 122 = .ok (.iand, 1) := by decide +kernel
theorem dX2_seek_123 : decode cX2_seek 123 = .ok (.istore 7, 2) := by decide +kernel
theorem dX2_seek_125 : decode cX2_seek 125 = .ok (.aload_n 0, 1) := by decide +kernel
theorem dX2_seek_126 : decode cX2_seek 126 = .ok (.iload 7, 2) := by decide +kernel
theorem dX2_seek_128 : decode cX2_seek 128 = .ok (.invokevirtual 69, 3) := by decide +kernel
theorem dX2_seek_131 : decode cX2_seek 131 = .ok (.ifCond .eq 34, 3) := by decide +kernel
theorem dX2_seek_134 : decode cX2_seek 134 = .ok (.aload_n 0, 1) := by decide +kernel
theorem dX2_seek_135 : decode cX2_seek 135 = .ok (.getfield 18, 3) := by decide +kernel
theorem dX2_seek_138 : decode cX2_seek 138 = .ok (.iload_n 1, 1) := by decide +kernel
theorem dX2_seek_139 : decode cX2_seek 139 = .ok (.iload 7, 2) := by decide +kernel
theorem dX2_seek_141 : decode cX2_seek 141 = .ok (.invokestatic 47, 3) := by decide +kernel
theorem dX2_seek_144 : decode cX2_seek 144 = .ok (.aload_n 0, 1) := by decide +kernel
theorem dX2_seek_145 : decode cX2_seek 145 = .ok (.iload 7, 2) := by decide +kernel
theorem dX2_seek_147 : decode cX2_seek 147 = .ok (.iconst 1, 1) := by decide +kernel
theorem dX2_seek_148 : decode cX2_seek 148 = .ok (.invokevirtual 73, 3) := by decide +kernel
theorem dX2_seek_151 : decode cX2_seek 151 = .ok (.aload_n 0, 1) := by decide +kernel
theorem dX2_seek_152 : decode cX2_seek 152 = .ok (.iload_n 1, 1) := by decide +kernel
theorem dX2_seek_153 : decode cX2_seek 153 = .ok (.iconst 1, 1) := by decide +kernel
theorem dX2_seek_154 : decode cX2_seek 154 = .ok (.iadd, 1) := by decide +kernel
theorem dX2_seek_155 : decode cX2_seek 155 = .ok (.invokestatic 51, 3) := by decide +kernel
theorem dX2_seek_158 : decode cX2_seek 158 = .ok (.aload_n 0, 1) := by decide +kernel
theorem dX2_seek_159 : decode cX2_seek 159 = .ok (.iload 7, 2) := by decide +kernel
theorem dX2_seek_161 : decode cX2_seek 161 = .ok (.iconst (-1), 1) := by decide +kernel
theorem dX2_seek_162 : decode cX2_seek 162 = .ok (.invokevirtual 73, 3) := by decide +kernel
theorem dX2_seek_165 : decode cX2_seek 165 = .ok (.iinc 6 (-1), 3) := by decide +kernel
theorem dX2_seek_168 : decode cX2_seek 168 = .ok (.goto (-90), 3) := by decide +kernel
theorem dX2_seek_171 : decode cX2_seek 171 = .ok (.return_, 1) := by decide +kernel
theorem dX2_firstOpen_0 : decode cX2_firstOpen 0 = .ok (.iconst 0, 1) := by decide +kernel
theorem dX2_firstOpen_1 : decode cX2_firstOpen 1 = .ok (.istore_n 1, 1) := by decide +kernel
theorem dX2_firstOpen_2 : decode cX2_firstOpen 2 = .ok (.iload_n 1, 1) := by decide +kernel
theorem dX2_firstOpen_3 : decode cX2_firstOpen 3 = .ok (.aload_n 0, 1) := by decide +kernel
theorem dX2_firstOpen_4 : decode cX2_firstOpen 4 = .ok (.getfield 40, 3) := by decide +kernel
theorem dX2_firstOpen_7 : decode cX2_firstOpen 7 = .ok (.if_icmp .ge 22, 3) := by decide +kernel
theorem dX2_firstOpen_10 : decode cX2_firstOpen 10 = .ok (.aload_n 0, 1) := by decide +kernel
theorem dX2_firstOpen_11 : decode cX2_firstOpen 11 = .ok (.getfield 9, 3) := by decide +kernel
theorem dX2_firstOpen_14 : decode cX2_firstOpen 14 = .ok (.iload_n 1, 1) := by decide +kernel
theorem dX2_firstOpen_15 : decode cX2_firstOpen 15 = .ok (.invokestatic 31, 3) := by decide +kernel
theorem dX2_firstOpen_18 : decode cX2_firstOpen 18 = .ok (.ifCond .eq 5, 3) := by decide +kernel
theorem dX2_firstOpen_21 : decode cX2_firstOpen 21 = .ok (.iload_n 1, 1) := by decide +kernel
theorem dX2_firstOpen_22 : decode cX2_firstOpen 22 = .ok (.ireturn, 1) := by decide +kernel
theorem dX2_firstOpen_23 : decode cX2_firstOpen 23 = .ok (.iinc 1 1, 3) := by decide +kernel
theorem dX2_firstOpen_26 : decode cX2_firstOpen 26 = .ok (.goto (-24), 3) := by decide +kernel
theorem dX2_firstOpen_29 : decode cX2_firstOpen 29 = .ok (.iconst (-1), 1) := by decide +kernel
theorem dX2_firstOpen_30 : decode cX2_firstOpen 30 = .ok (.ireturn, 1) := by decide +kernel
theorem dX2_keepRow_0 : decode cX2_keepRow 0 = .ok (.aload_n 0, 1) := by decide +kernel
theorem dX2_keepRow_1 : decode cX2_keepRow 1 = .ok (.getfield 24, 3) := by decide +kernel
theorem dX2_keepRow_4 : decode cX2_keepRow 4 = .ok (.ifCond .ne 37, 3) := by decide +kernel
theorem dX2_keepRow_7 : decode cX2_keepRow 7 = .ok (.aload_n 0, 1) := by decide +kernel
theorem dX2_keepRow_8 : decode cX2_keepRow 8 = .ok (.iload_n 1, 1) := by decide +kernel
theorem dX2_keepRow_9 : decode cX2_keepRow 9 = .ok (.putfield 28, 3) := by decide +kernel
theorem dX2_keepRow_12 : decode cX2_keepRow 12 = .ok (.iconst 0, 1) := by decide +kernel
theorem dX2_keepRow_13 : decode cX2_keepRow 13 = .ok (.istore_n 2, 1) := by decide +kernel
theorem dX2_keepRow_14 : decode cX2_keepRow 14 = .ok (.iload_n 2, 1) := by decide +kernel
theorem dX2_keepRow_15 : decode cX2_keepRow 15 = .ok (.iload_n 1, 1) := by decide +kernel
theorem dX2_keepRow_16 : decode cX2_keepRow 16 = .ok (.if_icmp .ge 25, 3) := by decide +kernel
theorem dX2_keepRow_19 : decode cX2_keepRow 19 = .ok (.aload_n 0, 1) := by decide +kernel
theorem dX2_keepRow_20 : decode cX2_keepRow 20 = .ok (.getfield 21, 3) := by decide +kernel
theorem dX2_keepRow_23 : decode cX2_keepRow 23 = .ok (.iload_n 2, 1) := by decide +kernel
theorem dX2_keepRow_24 : decode cX2_keepRow 24 = .ok (.aload_n 0, 1) := by decide +kernel
theorem dX2_keepRow_25 : decode cX2_keepRow 25 = .ok (.getfield 18, 3) := by decide +kernel
theorem dX2_keepRow_28 : decode cX2_keepRow 28 = .ok (.iload_n 2, 1) := by decide +kernel
theorem dX2_keepRow_29 : decode cX2_keepRow 29 = .ok (.invokestatic 31, 3) := by decide +kernel
theorem dX2_keepRow_32 : decode cX2_keepRow 32 = .ok (.invokestatic 47, 3) := by decide +kernel
theorem dX2_keepRow_35 : decode cX2_keepRow 35 = .ok (.iinc 2 1, 3) := by decide +kernel
theorem dX2_keepRow_38 : decode cX2_keepRow 38 = .ok (.goto (-24), 3) := by decide +kernel
theorem dX2_keepRow_41 : decode cX2_keepRow 41 = .ok (.aload_n 0, 1) := by decide +kernel
theorem dX2_keepRow_42 : decode cX2_keepRow 42 = .ok (.dup, 1) := by decide +kernel
theorem dX2_keepRow_43 : decode cX2_keepRow 43 = .ok (.getfield 24, 3) := by decide +kernel
theorem dX2_keepRow_46 : decode cX2_keepRow 46 = .ok (.iconst 1, 1) := by decide +kernel
theorem dX2_keepRow_47 : decode cX2_keepRow 47 = .ok (.iadd, 1) := by decide +kernel
theorem dX2_keepRow_48 : decode cX2_keepRow 48 = .ok (.putfield 24, 3) := by decide +kernel
theorem dX2_keepRow_51 : decode cX2_keepRow 51 = .ok (.return_, 1) := by decide +kernel
theorem dX2_fits_0 : decode cX2_fits 0 = .ok (.iconst 0, 1) := by decide +kernel
theorem dX2_fits_1 : decode cX2_fits 1 = .ok (.istore_n 2, 1) := by decide +kernel
theorem dX2_fits_2 : decode cX2_fits 2 = .ok (.iload_n 2, 1) := by decide +kernel
theorem dX2_fits_3 : decode cX2_fits 3 = .ok (.aload_n 0, 1) := by decide +kernel
theorem dX2_fits_4 : decode cX2_fits 4 = .ok (.getfield 40, 3) := by decide +kernel
theorem dX2_fits_7 : decode cX2_fits 7 = .ok (.if_icmp .ge 94, 3) := by decide +kernel
theorem dX2_fits_10 : decode cX2_fits 10 = .ok (.iload_n 1, 1) := by decide +kernel
theorem dX2_fits_11 : decode cX2_fits 11 = .ok (.iload_n 2, 1) := by decide +kernel
theorem dX2_fits_12 : decode cX2_fits 12 = .ok (.invokestatic 65, 3) := by decide +kernel
theorem dX2_fits_15 : decode cX2_fits 15 = .ok (.ifCond .ne 6, 3) := by decide +kernel
theorem dX2_fits_18 : decode cX2_fits 18 = .ok (.goto 77, 3) := by decide +kernel
theorem dX2_fits_21 : decode cX2_fits 21 = .ok (.aload_n 0, 1) := by decide +kernel
theorem dX2_fits_22 : decode cX2_fits 22 = .ok (.getfield 15, 3) := by decide +kernel
theorem dX2_fits_25 : decode cX2_fits 25 = .ok (.iload_n 2, 1) := by decide +kernel
theorem dX2_fits_26 : decode cX2_fits 26 = .ok (.invokestatic 31, 3) := by decide +kernel
theorem dX2_fits_29 : decode cX2_fits 29 = .ok (.iconst 1, 1) := by decide +kernel
theorem dX2_fits_30 : decode cX2_fits 30 = .ok (.if_icmp .gt 21, 3) := by decide +kernel
theorem dX2_fits_33 : decode cX2_fits 33 = .ok (.iload_n 1, 1) := by decide +kernel
theorem dX2_fits_34 : decode cX2_fits 34 = .ok (.aload_n 0, 1) := by decide +kernel
theorem dX2_fits_35 : decode cX2_fits 35 = .ok (.getfield 9, 3) := by decide +kernel
theorem dX2_fits_38 : decode cX2_fits 38 = .ok (.iload_n 2, 1) := by decide +kernel
theorem dX2_fits_39 : decode cX2_fits 39 = .ok (.invokestatic 31, 3) := by decide +kernel
theorem dX2_fits_42 : decode cX2_fits 42 = .ok (.iconst (-1), 1) := by decide +kernel
theorem dX2_fits_43 : decode cX2_fits 43 = .ok (.ixor, 1) := by decide +kernel
theorem dX2_fits_44 : decode cX2_fits 44 = .ok (.iand, 1) := by decide +kernel
theorem dX2_fits_45 : decode cX2_fits 45 = .ok (.iconst 1, 1) := by decide +kernel
theorem dX2_fits_46 : decode cX2_fits 46 = .ok (.iload_n 2, 1) := by decide +kernel
theorem dX2_fits_47 : decode cX2_fits 47 = .ok (.ishl, 1) := by decide +kernel
theorem dX2_fits_48 : decode cX2_fits 48 = .ok (.if_icmp .eq 5, 3) := by decide +kernel
theorem dX2_fits_51 : decode cX2_fits 51 = .ok (.iconst 0, 1) := by decide +kernel
theorem dX2_fits_52 : decode cX2_fits 52 = .ok (.ireturn, 1) := by decide +kernel
theorem dX2_fits_53 : decode cX2_fits 53 = .ok (.aload_n 0, 1) := by decide +kernel
theorem dX2_fits_54 : decode cX2_fits 54 = .ok (.getfield 9, 3) := by decide +kernel
theorem dX2_fits_57 : decode cX2_fits 57 = .ok (.iload_n 2, 1) := by decide +kernel
theorem dX2_fits_58 : decode cX2_fits 58 = .ok (.invokestatic 31, 3) := by decide +kernel
theorem dX2_fits_61 : decode cX2_fits 61 = .ok (.iload_n 1, 1) := by decide +kernel
theorem dX2_fits_62 : decode cX2_fits 62 = .ok (.iconst (-1), 1) := by decide +kernel
theorem dX2_fits_63 : decode cX2_fits 63 = .ok (.ixor, 1) := by decide +kernel
theorem dX2_fits_64 : decode cX2_fits 64 = .ok (.iand, 1) := by decide +kernel
theorem dX2_fits_65 : decode cX2_fits 65 = .ok (.istore_n 3, 1) := by decide +kernel
theorem dX2_fits_66 : decode cX2_fits 66 = .ok (.iload_n 3, 1) := by decide +kernel
theorem dX2_fits_67 : decode cX2_fits 67 = .ok (.ifCond .eq 28, 3) := by decide +kernel
theorem dX2_fits_70 : decode cX2_fits 70 = .ok (.aload_n 0, 1) := by decide +kernel
theorem dX2_fits_71 : decode cX2_fits 71 = .ok (.getfield 15, 3) := by decide +kernel
theorem dX2_fits_74 : decode cX2_fits 74 = .ok (.iload_n 2, 1) := by decide +kernel
theorem dX2_fits_75 : decode cX2_fits 75 = .ok (.invokestatic 31, 3) := by decide +kernel
theorem dX2_fits_78 : decode cX2_fits 78 = .ok (.iconst 1, 1) := by decide +kernel
theorem dX2_fits_79 : decode cX2_fits 79 = .ok (.if_icmp .eq 14, 3) := by decide +kernel
theorem dX2_fits_82 : decode cX2_fits 82 = .ok (.aload_n 0, 1) := by decide +kernel
theorem dX2_fits_83 : decode cX2_fits 83 = .ok (.getfield 9, 3) := by decide +kernel
theorem dX2_fits_86 : decode cX2_fits 86 = .ok (.iload_n 3, 1) := by decide +kernel
theorem dX2_fits_87 : decode cX2_fits 87 = .ok (.invokestatic 77, 3) := by decide +kernel
theorem dX2_fits_90 : decode cX2_fits 90 = .ok (.ifCond .ne 5, 3) := by decide +kernel
theorem dX2_fits_93 : decode cX2_fits 93 = .ok (.iconst 0, 1) := by decide +kernel
theorem dX2_fits_94 : decode cX2_fits 94 = .ok (.ireturn, 1) := by decide +kernel
theorem dX2_fits_95 : decode cX2_fits 95 = .ok (.iinc 2 1, 3) := by decide +kernel
theorem dX2_fits_98 : decode cX2_fits 98 = .ok (.goto (-96), 3) := by decide +kernel
theorem dX2_fits_101 : decode cX2_fits 101 = .ok (.iconst 1, 1) := by decide +kernel
theorem dX2_fits_102 : decode cX2_fits 102 = .ok (.ireturn, 1) := by decide +kernel
theorem dX2_seat_0 : decode cX2_seat 0 = .ok (.iconst 0, 1) := by decide +kernel
theorem dX2_seat_1 : decode cX2_seat 1 = .ok (.istore_n 3, 1) := by decide +kernel
theorem dX2_seat_2 : decode cX2_seat 2 = .ok (.iload_n 3, 1) := by decide +kernel
theorem dX2_seat_3 : decode cX2_seat 3 = .ok (.aload_n 0, 1) := by decide +kernel
theorem dX2_seat_4 : decode cX2_seat 4 = .ok (.getfield 40, 3) := by decide +kernel
theorem dX2_seat_7 : decode cX2_seat 7 = .ok (.if_icmp .ge 57, 3) := by decide +kernel
theorem dX2_seat_10 : decode cX2_seat 10 = .ok (.iload_n 1, 1) := by decide +kernel
theorem dX2_seat_11 : decode cX2_seat 11 = .ok (.iload_n 3, 1) := by decide +kernel
theorem dX2_seat_12 : decode cX2_seat 12 = .ok (.invokestatic 65, 3) := by decide +kernel
theorem dX2_seat_15 : decode cX2_seat 15 = .ok (.ifCond .eq 43, 3) := by decide +kernel
theorem dX2_seat_18 : decode cX2_seat 18 = .ok (.aload_n 0, 1) := by decide +kernel
theorem dX2_seat_19 : decode cX2_seat 19 = .ok (.getfield 15, 3) := by decide +kernel
theorem dX2_seat_22 : decode cX2_seat 22 = .ok (.iload_n 3, 1) := by decide +kernel
theorem dX2_seat_23 : decode cX2_seat 23 = .ok (.aload_n 0, 1) := by decide +kernel
theorem dX2_seat_24 : decode cX2_seat 24 = .ok (.getfield 15, 3) := by decide +kernel
theorem dX2_seat_27 : decode cX2_seat 27 = .ok (.iload_n 3, 1) := by decide +kernel
theorem dX2_seat_28 : decode cX2_seat 28 = .ok (.invokestatic 31, 3) := by decide +kernel
theorem dX2_seat_31 : decode cX2_seat 31 = .ok (.iload_n 2, 1) := by decide +kernel
theorem dX2_seat_32 : decode cX2_seat 32 = .ok (.iadd, 1) := by decide +kernel
theorem dX2_seat_33 : decode cX2_seat 33 = .ok (.invokestatic 47, 3) := by decide +kernel
theorem dX2_seat_36 : decode cX2_seat 36 = .ok (.aload_n 0, 1) := by decide +kernel
theorem dX2_seat_37 : decode cX2_seat 37 = .ok (.getfield 9, 3) := by decide +kernel
theorem dX2_seat_40 : decode cX2_seat 40 = .ok (.iload_n 3, 1) := by decide +kernel
theorem dX2_seat_41 : decode cX2_seat 41 = .ok (.aload_n 0, 1) := by decide +kernel
theorem dX2_seat_42 : decode cX2_seat 42 = .ok (.getfield 9, 3) := by decide +kernel
theorem dX2_seat_45 : decode cX2_seat 45 = .ok (.iload_n 3, 1) := by decide +kernel
theorem dX2_seat_46 : decode cX2_seat 46 = .ok (.invokestatic 31, 3) := by decide +kernel
theorem dX2_seat_49 : decode cX2_seat 49 = .ok (.iload_n 1, 1) := by decide +kernel
theorem dX2_seat_50 : decode cX2_seat 50 = .ok (.ixor, 1) := by decide +kernel
theorem dX2_seat_51 : decode cX2_seat 51 = .ok (.iconst 1, 1) := by decide +kernel
theorem dX2_seat_52 : decode cX2_seat 52 = .ok (.iload_n 3, 1) := by decide +kernel
theorem dX2_seat_53 : decode cX2_seat 53 = .ok (.ishl, 1) := by decide +kernel
theorem dX2_seat_54 : decode cX2_seat 54 = .ok (.ixor, 1) := by decide +kernel
theorem dX2_seat_55 : decode cX2_seat 55 = .ok (.invokestatic 47, 3) := by decide +kernel
theorem dX2_seat_58 : decode cX2_seat 58 = .ok (.iinc 3 1, 3) := by decide +kernel
theorem dX2_seat_61 : decode cX2_seat 61 = .ok (.goto (-59), 3) := by decide +kernel
theorem dX2_seat_64 : decode cX2_seat 64 = .ok (.return_, 1) := by decide +kernel
theorem dX2_leadsBack_0 : decode cX2_leadsBack 0 = .ok (.aload_n 0, 1) := by decide +kernel
theorem dX2_leadsBack_1 : decode cX2_leadsBack 1 = .ok (.getfield 24, 3) := by decide +kernel
theorem dX2_leadsBack_4 : decode cX2_leadsBack 4 = .ok (.ifCond .le 16, 3) := by decide +kernel
theorem dX2_leadsBack_7 : decode cX2_leadsBack 7 = .ok (.aload_n 0, 1) := by decide +kernel
theorem dX2_leadsBack_8 : decode cX2_leadsBack 8 = .ok (.invokevirtual 81, 3) := by decide +kernel
theorem dX2_leadsBack_11 : decode cX2_leadsBack 11 = .ok (.bipush 14, 2) := by decide +kernel
theorem dX2_leadsBack_13 : decode cX2_leadsBack 13 = .ok (.if_icmp .gt 7, 3) := by decide +kernel
theorem dX2_leadsBack_16 : decode cX2_leadsBack 16 = .ok (.iconst 1, 1) := by decide +kernel
theorem dX2_leadsBack_17 : decode cX2_leadsBack 17 = .ok (.goto 4, 3) := by decide +kernel
theorem dX2_leadsBack_20 : decode cX2_leadsBack 20 = .ok (.iconst 0, 1) := by decide +kernel
theorem dX2_leadsBack_21 : decode cX2_leadsBack 21 = .ok (.ireturn, 1) := by decide +kernel
theorem dX2_rootPoints_0 : decode cX2_rootPoints 0 = .ok (.aload_n 0, 1) := by decide +kernel
theorem dX2_rootPoints_1 : decode cX2_rootPoints 1 = .ok (.aload_n 0, 1) := by decide +kernel
theorem dX2_rootPoints_2 : decode cX2_rootPoints 2 = .ok (.getfield 40, 3) := by decide +kernel
theorem dX2_rootPoints_5 : decode cX2_rootPoints 5 = .ok (.invokevirtual 84, 3) := by decide +kernel
theorem dX2_rootPoints_8 : decode cX2_rootPoints 8 = .ok (.ireturn, 1) := by decide +kernel
theorem dX2_rootMostLines_0 : decode cX2_rootMostLines 0 = .ok (.aload_n 0, 1) := by decide +kernel
theorem dX2_rootMostLines_1 : decode cX2_rootMostLines 1 = .ok (.invokevirtual 81, 3) := by decide +kernel
theorem dX2_rootMostLines_4 : decode cX2_rootMostLines 4 = .ok (.aload_n 0, 1) := by decide +kernel
theorem dX2_rootMostLines_5 : decode cX2_rootMostLines 5 = .ok (.getfield 28, 3) := by decide +kernel
theorem dX2_rootMostLines_8 : decode cX2_rootMostLines 8 = .ok (.if_icmp .le 7, 3) := by decide +kernel
theorem dX2_rootMostLines_11 : decode cX2_rootMostLines 11 = .ok (.iconst 1, 1) := by decide +kernel
theorem dX2_rootMostLines_12 : decode cX2_rootMostLines 12 = .ok (.goto 4, 3) := by decide +kernel
theorem dX2_rootMostLines_15 : decode cX2_rootMostLines 15 = .ok (.iconst 0, 1) := by decide +kernel
theorem dX2_rootMostLines_16 : decode cX2_rootMostLines 16 = .ok (.istore_n 1, 1) := by decide +kernel
theorem dX2_rootMostLines_17 : decode cX2_rootMostLines 17 = .ok (.iconst 0, 1) := by decide +kernel
theorem dX2_rootMostLines_18 : decode cX2_rootMostLines 18 = .ok (.istore_n 2, 1) := by decide +kernel
theorem dX2_rootMostLines_19 : decode cX2_rootMostLines 19 = .ok (.iload_n 2, 1) := by decide +kernel
theorem dX2_rootMostLines_20 : decode cX2_rootMostLines 20 = .ok (.aload_n 0, 1) := by decide +kernel
theorem dX2_rootMostLines_21 : decode cX2_rootMostLines 21 = .ok (.getfield 28, 3) := by decide +kernel
theorem dX2_rootMostLines_24 : decode cX2_rootMostLines 24 = .ok (.if_icmp .ge 25, 3) := by decide +kernel
theorem dX2_rootMostLines_27 : decode cX2_rootMostLines 27 = .ok (.iload_n 1, 1) := by decide +kernel
theorem dX2_rootMostLines_28 : decode cX2_rootMostLines 28 = .ok (.aload_n 0, 1) := by decide +kernel
theorem dX2_rootMostLines_29 : decode cX2_rootMostLines 29 = .ok (.getfield 21, 3) := by decide +kernel
theorem dX2_rootMostLines_32 : decode cX2_rootMostLines 32 = .ok (.iload_n 2, 1) := by decide +kernel
theorem dX2_rootMostLines_33 : decode cX2_rootMostLines 33 = .ok (.invokestatic 31, 3) := by decide +kernel
theorem dX2_rootMostLines_36 : decode cX2_rootMostLines 36 = .ok (.invokestatic 87, 3) := by decide +kernel
theorem dX2_rootMostLines_39 : decode cX2_rootMostLines 39 = .ok (.invokestatic 92, 3) := by decide +kernel
theorem dX2_rootMostLines_42 : decode cX2_rootMostLines 42 = .ok (.istore_n 1, 1) := by decide +kernel
theorem dX2_rootMostLines_43 : decode cX2_rootMostLines 43 = .ok (.iinc 2 1, 3) := by decide +kernel
theorem dX2_rootMostLines_46 : decode cX2_rootMostLines 46 = .ok (.goto (-27), 3) := by decide +kernel
theorem dX2_rootMostLines_49 : decode cX2_rootMostLines 49 = .ok (.iload_n 1, 1) := by decide +kernel
theorem dX2_rootMostLines_50 : decode cX2_rootMostLines 50 = .ok (.ireturn, 1) := by decide +kernel
theorem dX2_rootEnd_0 : decode cX2_rootEnd 0 = .ok (.iload_n 2, 1) := by decide +kernel
theorem dX2_rootEnd_1 : decode cX2_rootEnd 1 = .ok (.istore_n 3, 1) := by decide +kernel
theorem dX2_rootEnd_2 : decode cX2_rootEnd 2 = .ok (.iconst 0, 1) := by decide +kernel
theorem dX2_rootEnd_3 : decode cX2_rootEnd 3 = .ok (.istore 4, 2) := by decide +kernel
theorem dX2_rootEnd_5 : decode cX2_rootEnd 5 = .ok (.iload 4, 2) := by decide +kernel
theorem dX2_rootEnd_7 : decode cX2_rootEnd 7 = .ok (.aload_n 0, 1) := by decide +kernel
theorem dX2_rootEnd_8 : decode cX2_rootEnd 8 = .ok (.getfield 28, 3) := by decide +kernel
theorem dX2_rootEnd_11 : decode cX2_rootEnd 11 = .ok (.if_icmp .ge 35, 3) := by decide +kernel
theorem dX2_rootEnd_14 : decode cX2_rootEnd 14 = .ok (.aload_n 0, 1) := by decide +kernel
theorem dX2_rootEnd_15 : decode cX2_rootEnd 15 = .ok (.getfield 21, 3) := by decide +kernel
theorem dX2_rootEnd_18 : decode cX2_rootEnd 18 = .ok (.iload 4, 2) := by decide +kernel
theorem dX2_rootEnd_20 : decode cX2_rootEnd 20 = .ok (.invokestatic 31, 3) := by decide +kernel
theorem dX2_rootEnd_23 : decode cX2_rootEnd 23 = .ok (.iload_n 1, 1) := by decide +kernel
theorem dX2_rootEnd_24 : decode cX2_rootEnd 24 = .ok (.invokestatic 65, 3) := by decide +kernel
theorem dX2_rootEnd_27 : decode cX2_rootEnd 27 = .ok (.ifCond .eq 13, 3) := by decide +kernel
theorem dX2_rootEnd_30 : decode cX2_rootEnd 30 = .ok (.iload_n 3, 1) := by decide +kernel
theorem dX2_rootEnd_31 : decode cX2_rootEnd 31 = .ok (.ifCond .ne 6, 3) := by decide +kernel
theorem dX2_rootEnd_34 : decode cX2_rootEnd 34 = .ok (.iload 4, 2) := by decide +kernel
theorem dX2_rootEnd_36 : decode cX2_rootEnd 36 = .ok (.ireturn, 1) := by decide +kernel
theorem dX2_rootEnd_37 : decode cX2_rootEnd 37 = .ok (.iinc 3 (-1), 3) := by decide +kernel
theorem dX2_rootEnd_40 : decode cX2_rootEnd 40 = .ok (.iinc 4 1, 3) := by decide +kernel
theorem dX2_rootEnd_43 : decode cX2_rootEnd 43 = .ok (.goto (-38), 3) := by decide +kernel
theorem dX2_rootEnd_46 : decode cX2_rootEnd 46 = .ok (.aload_n 0, 1) := by decide +kernel
theorem dX2_rootEnd_47 : decode cX2_rootEnd 47 = .ok (.iload_n 1, 1) := by decide +kernel
theorem dX2_rootEnd_48 : decode cX2_rootEnd 48 = .ok (.invokevirtual 84, 3) := by decide +kernel
theorem dX2_rootEnd_51 : decode cX2_rootEnd 51 = .ok (.iload_n 3, 1) := by decide +kernel
theorem dX2_rootEnd_52 : decode cX2_rootEnd 52 = .ok (.iadd, 1) := by decide +kernel
theorem dX2_rootEnd_53 : decode cX2_rootEnd 53 = .ok (.ireturn, 1) := by decide +kernel
theorem dX2_writeRoot_0 : decode cX2_writeRoot 0 = .ok (.aload_n 0, 1) := by decide +kernel
theorem dX2_writeRoot_1 : decode cX2_writeRoot 1 = .ok (.getfield 40, 3) := by decide +kernel
theorem dX2_writeRoot_4 : decode cX2_writeRoot 4 = .ok (.istore_n 2, 1) := by decide +kernel
theorem dX2_writeRoot_5 : decode cX2_writeRoot 5 = .ok (.aload_n 1, 1) := by decide +kernel
theorem dX2_writeRoot_6 : decode cX2_writeRoot 6 = .ok (.aload_n 0, 1) := by decide +kernel
theorem dX2_writeRoot_7 : decode cX2_writeRoot 7 = .ok (.invokevirtual 81, 3) := by decide +kernel
theorem dX2_writeRoot_10 : decode cX2_writeRoot 10 = .ok (.invokevirtual 98, 3) := by decide +kernel
theorem dX2_writeRoot_13 : decode cX2_writeRoot 13 = .ok (.iconst 0, 1) := by decide +kernel
theorem dX2_writeRoot_14 : decode cX2_writeRoot 14 = .ok (.istore_n 3, 1) := by decide +kernel
theorem dX2_writeRoot_15 : decode cX2_writeRoot 15 = .ok (.iload_n 3, 1) := by decide +kernel
theorem dX2_writeRoot_16 : decode cX2_writeRoot 16 = .ok (.iload_n 2, 1) := by decide +kernel
theorem dX2_writeRoot_17 : decode cX2_writeRoot 17 = .ok (.if_icmp .ge 25, 3) := by decide +kernel
theorem dX2_writeRoot_20 : decode cX2_writeRoot 20 = .ok (.aload_n 1, 1) := by decide +kernel
theorem dX2_writeRoot_21 : decode cX2_writeRoot 21 = .ok (.aload_n 0, 1) := by decide +kernel
theorem dX2_writeRoot_22 : decode cX2_writeRoot 22 = .ok (.iload_n 3, 1) := by decide +kernel
theorem dX2_writeRoot_23 : decode cX2_writeRoot 23 = .ok (.iconst 0, 1) := by decide +kernel
theorem dX2_writeRoot_24 : decode cX2_writeRoot 24 = .ok (.invokevirtual 101, 3) := by decide +kernel
theorem dX2_writeRoot_27 : decode cX2_writeRoot 27 = .ok (.aload_n 0, 1) := by decide +kernel
theorem dX2_writeRoot_28 : decode cX2_writeRoot 28 = .ok (.iload_n 3, 1) := by decide +kernel
theorem dX2_writeRoot_29 : decode cX2_writeRoot 29 = .ok (.iconst 1, 1) := by decide +kernel
theorem dX2_writeRoot_30 : decode cX2_writeRoot 30 = .ok (.invokevirtual 101, 3) := by decide +kernel
theorem dX2_writeRoot_33 : decode cX2_writeRoot 33 = .ok (.invokevirtual 104, 3) := by decide +kernel
theorem dX2_writeRoot_36 : decode cX2_writeRoot 36 = .ok (.iinc 3 1, 3) := by decide +kernel
theorem dX2_writeRoot_39 : decode cX2_writeRoot 39 = .ok (.goto (-24), 3) := by decide +kernel
theorem dX2_writeRoot_42 : decode cX2_writeRoot 42 = .ok (.return_, 1) := by decide +kernel
theorem dX2_cliquesOf_0 : decode cX2_cliquesOf 0 = .ok (.iconst 0, 1) := by decide +kernel
theorem dX2_cliquesOf_1 : decode cX2_cliquesOf 1 = .ok (.istore_n 2, 1) := by decide +kernel
theorem dX2_cliquesOf_2 : decode cX2_cliquesOf 2 = .ok (.iconst 0, 1) := by decide +kernel
theorem dX2_cliquesOf_3 : decode cX2_cliquesOf 3 = .ok (.istore_n 3, 1) := by decide +kernel
theorem dX2_cliquesOf_4 : decode cX2_cliquesOf 4 = .ok (.iload_n 3, 1) := by decide +kernel
theorem dX2_cliquesOf_5 : decode cX2_cliquesOf 5 = .ok (.aload_n 0, 1) := by decide +kernel
theorem dX2_cliquesOf_6 : decode cX2_cliquesOf 6 = .ok (.getfield 28, 3) := by decide +kernel
theorem dX2_cliquesOf_9 : decode cX2_cliquesOf 9 = .ok (.if_icmp .ge 27, 3) := by decide +kernel
theorem dX2_cliquesOf_12 : decode cX2_cliquesOf 12 = .ok (.aload_n 0, 1) := by decide +kernel
theorem dX2_cliquesOf_13 : decode cX2_cliquesOf 13 = .ok (.getfield 21, 3) := by decide +kernel
theorem dX2_cliquesOf_16 : decode cX2_cliquesOf 16 = .ok (.iload_n 3, 1) := by decide +kernel
theorem dX2_cliquesOf_17 : decode cX2_cliquesOf 17 = .ok (.invokestatic 31, 3) := by decide +kernel
theorem dX2_cliquesOf_20 : decode cX2_cliquesOf 20 = .ok (.iload_n 1, 1) := by decide +kernel
theorem dX2_cliquesOf_21 : decode cX2_cliquesOf 21 = .ok (.invokestatic 65, 3) := by decide +kernel
theorem dX2_cliquesOf_24 : decode cX2_cliquesOf 24 = .ok (.ifCond .eq 6, 3) := by decide +kernel
theorem dX2_cliquesOf_27 : decode cX2_cliquesOf 27 = .ok (.iinc 2 1, 3) := by decide +kernel
theorem dX2_cliquesOf_30 : decode cX2_cliquesOf 30 = .ok (.iinc 3 1, 3) := by decide +kernel
theorem dX2_cliquesOf_33 : decode cX2_cliquesOf 33 = .ok (.goto (-29), 3) := by decide +kernel
theorem dX2_cliquesOf_36 : decode cX2_cliquesOf 36 = .ok (.iload_n 2, 1) := by decide +kernel
theorem dX2_cliquesOf_37 : decode cX2_cliquesOf 37 = .ok (.ireturn, 1) := by decide +kernel
theorem dX2_numberAhead_0 : decode cX2_numberAhead 0 = .ok (.aload_n 0, 1) := by decide +kernel
theorem dX2_numberAhead_1 : decode cX2_numberAhead 1 = .ok (.getfield 28, 3) := by decide +kernel
theorem dX2_numberAhead_4 : decode cX2_numberAhead 4 = .ok (.istore_n 2, 1) := by decide +kernel
theorem dX2_numberAhead_5 : decode cX2_numberAhead 5 = .ok (.iconst 0, 1) := by decide +kernel
theorem dX2_numberAhead_6 : decode cX2_numberAhead 6 = .ok (.istore_n 3, 1) := by decide +kernel
theorem dX2_numberAhead_7 : decode cX2_numberAhead 7 = .ok (.iload_n 3, 1) := by decide +kernel
theorem dX2_numberAhead_8 : decode cX2_numberAhead 8 = .ok (.iload_n 1, 1) := by decide +kernel
theorem dX2_numberAhead_9 : decode cX2_numberAhead 9 = .ok (.if_icmp .ge 19, 3) := by decide +kernel
theorem dX2_numberAhead_12 : decode cX2_numberAhead 12 = .ok (.iload_n 2, 1) := by decide +kernel
theorem dX2_numberAhead_13 : decode cX2_numberAhead 13 = .ok (.iconst 2, 1) := by decide +kernel
theorem dX2_numberAhead_14 : decode cX2_numberAhead 14 = .ok (.aload_n 0, 1) := by decide +kernel
theorem dX2_numberAhead_15 : decode cX2_numberAhead 15 = .ok (.iload_n 3, 1) := by decide +kernel
theorem dX2_numberAhead_16 : decode cX2_numberAhead 16 = .ok (.invokevirtual 107, 3) := by decide +kernel
theorem dX2_numberAhead_19 : decode cX2_numberAhead 19 = .ok (.isub, 1) := by decide +kernel
theorem dX2_numberAhead_20 : decode cX2_numberAhead 20 = .ok (.iadd, 1) := by decide +kernel
theorem dX2_numberAhead_21 : decode cX2_numberAhead 21 = .ok (.istore_n 2, 1) := by decide +kernel
theorem dX2_numberAhead_22 : decode cX2_numberAhead 22 = .ok (.iinc 3 1, 3) := by decide +kernel
theorem dX2_numberAhead_25 : decode cX2_numberAhead 25 = .ok (.goto (-18), 3) := by decide +kernel
theorem dX2_numberAhead_28 : decode cX2_numberAhead 28 = .ok (.iload_n 2, 1) := by decide +kernel
theorem dX2_numberAhead_29 : decode cX2_numberAhead 29 = .ok (.ireturn, 1) := by decide +kernel
theorem dX3_init_0 : decode cX3_init 0 = .ok (.aload_n 0, 1) := by decide +kernel
theorem dX3_init_1 : decode cX3_init 1 = .ok (.invokespecial 3, 3) := by decide +kernel
theorem dX3_init_4 : decode cX3_init 4 = .ok (.aload_n 0, 1) := by decide +kernel
theorem dX3_init_5 : decode cX3_init 5 = .ok (.bipush 14, 2) := by decide +kernel
theorem dX3_init_7 : decode cX3_init 7 = .ok (.newarray .int, 2) := by decide +kernel
theorem dX3_init_9 : decode cX3_init 9 = .ok (.putfield 9, 3) := by decide +kernel
theorem dX3_init_12 : decode cX3_init 12 = .ok (.return_, 1) := by decide +kernel
theorem dX3_size_0 : decode cX3_size 0 = .ok (.aload_n 0, 1) := by decide +kernel
theorem dX3_size_1 : decode cX3_size 1 = .ok (.getfield 15, 3) := by decide +kernel
theorem dX3_size_4 : decode cX3_size 4 = .ok (.ireturn, 1) := by decide +kernel
theorem dX3_all_0 : decode cX3_all 0 = .ok (.iconst 1, 1) := by decide +kernel
theorem dX3_all_1 : decode cX3_all 1 = .ok (.aload_n 0, 1) := by decide +kernel
theorem dX3_all_2 : decode cX3_all 2 = .ok (.getfield 15, 3) := by decide +kernel
theorem dX3_all_5 : decode cX3_all 5 = .ok (.ishl, 1) := by decide +kernel
theorem dX3_all_6 : decode cX3_all 6 = .ok (.iconst 1, 1) := by decide +kernel
theorem dX3_all_7 : decode cX3_all 7 = .ok (.isub, 1) := by decide +kernel
theorem dX3_all_8 : decode cX3_all 8 = .ok (.ireturn, 1) := by decide +kernel
theorem dX3_holds_0 : decode cX3_holds 0 = .ok (.iload_n 1, 1) := by decide +kernel
theorem dX3_holds_1 : decode cX3_holds 1 = .ok (.ifCond .lt 15, 3) := by decide +kernel
theorem dX3_holds_4 : decode cX3_holds 4 = .ok (.iload_n 1, 1) := by decide +kernel
theorem dX3_holds_5 : decode cX3_holds 5 = .ok (.aload_n 0, 1) := by decide +kernel
theorem dX3_holds_6 : decode cX3_holds 6 = .ok (.getfield 15, 3) := by decide +kernel
theorem dX3_holds_9 : decode cX3_holds 9 = .ok (.if_icmp .ge 7, 3) := by decide +kernel
theorem dX3_holds_12 : decode cX3_holds 12 = .ok (.iconst 1, 1) := by decide +kernel
theorem dX3_holds_13 : decode cX3_holds 13 = .ok (.goto 4, 3) := by decide +kernel
theorem dX3_holds_16 : decode cX3_holds 16 = .ok (.iconst 0, 1) := by decide +kernel
theorem dX3_holds_17 : decode cX3_holds 17 = .ok (.ireturn, 1) := by decide +kernel
theorem dX3_holdsPair_0 : decode cX3_holdsPair 0 = .ok (.aload_n 0, 1) := by decide +kernel
theorem dX3_holdsPair_1 : decode cX3_holdsPair 1 = .ok (.iload_n 1, 1) := by decide +kernel
theorem dX3_holdsPair_2 : decode cX3_holdsPair 2 = .ok (.invokevirtual 19, 3) := by decide +kernel
theorem dX3_holdsPair_5 : decode cX3_holdsPair 5 = .ok (.ifCond .eq 20, 3) := by decide +kernel
theorem dX3_holdsPair_8 : decode cX3_holdsPair 8 = .ok (.aload_n 0, 1) := by decide +kernel
theorem dX3_holdsPair_9 : decode cX3_holdsPair 9 = .ok (.iload_n 2, 1) := by decide +kernel
theorem dX3_holdsPair_10 : decode cX3_holdsPair 10 = .ok (.invokevirtual 19, 3) := by decide +kernel
theorem dX3_holdsPair_13 : decode cX3_holdsPair 13 = .ok (.ifCond .eq 12, 3) := by decide +kernel
theorem dX3_holdsPair_16 : decode cX3_holdsPair 16 = .ok (.iload_n 1, 1) := by decide +kernel
theorem dX3_holdsPair_17 : decode cX3_holdsPair 17 = .ok (.iload_n 2, 1) := by decide +kernel
theorem dX3_holdsPair_18 : decode cX3_holdsPair 18 = .ok (.if_icmp .eq 7, 3) := by decide +kernel
theorem dX3_holdsPair_21 : decode cX3_holdsPair 21 = .ok (.iconst 1, 1) := by decide +kernel
theorem dX3_holdsPair_22 : decode cX3_holdsPair 22 = .ok (.goto 4, 3) := by decide +kernel
theorem dX3_holdsPair_25 : decode cX3_holdsPair 25 = .ok (.iconst 0, 1) := by decide +kernel
theorem dX3_holdsPair_26 : decode cX3_holdsPair 26 = .ok (.ireturn, 1) := by decide +kernel
theorem dX3_mayAdd_0 : decode cX3_mayAdd 0 = .ok (.aload_n 0, 1) := by decide +kernel
theorem dX3_mayAdd_1 : decode cX3_mayAdd 1 = .ok (.getfield 15, 3) := by decide +kernel
theorem dX3_mayAdd_4 : decode cX3_mayAdd 4 = .ok (.bipush 14, 2) := by decide +kernel
theorem dX3_mayAdd_6 : decode cX3_mayAdd 6 = .ok (.if_icmp .ge 18, 3) := by decide +kernel
theorem dX3_mayAdd_9 : decode cX3_mayAdd 9 = .ok (.iload_n 1, 1) := by decide +kernel
theorem dX3_mayAdd_10 : decode cX3_mayAdd 10 = .ok (.aload_n 0, 1) := by decide +kernel
theorem dX3_mayAdd_11 : decode cX3_mayAdd 11 = .ok (.invokevirtual 23, 3) := by decide +kernel
theorem dX3_mayAdd_14 : decode cX3_mayAdd 14 = .ok (.iconst (-1), 1) := by decide +kernel
theorem dX3_mayAdd_15 : decode cX3_mayAdd 15 = .ok (.ixor, 1) := by decide +kernel
theorem dX3_mayAdd_16 : decode cX3_mayAdd 16 = .ok (.iand, 1) := by decide +kernel
theorem dX3_mayAdd_17 : decode cX3_mayAdd 17 = .ok (.ifCond .ne 7, 3) := by decide +kernel
theorem dX3_mayAdd_20 : decode cX3_mayAdd 20 = .ok (.iconst 1, 1) := by decide +kernel
theorem dX3_mayAdd_21 : decode cX3_mayAdd 21 = .ok (.goto 4, 3) := by decide +kernel
theorem dX3_mayAdd_24 : decode cX3_mayAdd 24 = .ok (.iconst 0, 1) := by decide +kernel
theorem dX3_mayAdd_25 : decode cX3_mayAdd 25 = .ok (.ireturn, 1) := by decide +kernel
theorem dX3_tiesOf_0 : decode cX3_tiesOf 0 = .ok (.aload_n 0, 1) := by decide +kernel
theorem dX3_tiesOf_1 : decode cX3_tiesOf 1 = .ok (.getfield 9, 3) := by decide +kernel
theorem dX3_tiesOf_4 : decode cX3_tiesOf 4 = .ok (.iload_n 1, 1) := by decide +kernel
theorem dX3_tiesOf_5 : decode cX3_tiesOf 5 = .ok (.invokestatic 27, 3) := by decide +kernel
theorem dX3_tiesOf_8 : decode cX3_tiesOf 8 = .ok (.ireturn, 1) := by decide +kernel
theorem dX3_tied_0 : decode cX3_tied 0 = .ok (.aload_n 0, 1) := by decide +kernel
theorem dX3_tied_1 : decode cX3_tied 1 = .ok (.getfield 9, 3) := by decide +kernel
theorem dX3_tied_4 : decode cX3_tied 4 = .ok (.iload_n 1, 1) := by decide +kernel
theorem dX3_tied_5 : decode cX3_tied 5 = .ok (.invokestatic 27, 3) := by decide +kernel
theorem dX3_tied_8 : decode cX3_tied 8 = .ok (.iload_n 2, 1) := by decide +kernel
theorem dX3_tied_9 : decode cX3_tied 9 = .ok (.invokestatic 31, 3) := by decide +kernel
theorem dX3_tied_12 : decode cX3_tied 12 = .ok (.ireturn, 1) := by decide +kernel
theorem dX3_equalTo_0 : decode cX3_equalTo 0 = .ok (.aload_n 0, 1) := by decide +kernel
theorem dX3_equalTo_1 : decode cX3_equalTo 1 = .ok (.getfield 15, 3) := by decide +kernel
theorem dX3_equalTo_4 : decode cX3_equalTo 4 = .ok (.aload_n 1, 1) := by decide +kernel
theorem dX3_equalTo_5 : decode cX3_equalTo 5 = .ok (.getfield 15, 3) := by decide +kernel
theorem dX3_equalTo_8 : decode cX3_equalTo 8 = .ok (.if_icmp .eq 5, 3) := by decide +kernel
theorem dX3_equalTo_11 : decode cX3_equalTo 11 = .ok (.iconst 0, 1) := by decide +kernel
theorem dX3_equalTo_12 : decode cX3_equalTo 12 = .ok (.ireturn, 1) := by decide +kernel
theorem dX3_equalTo_13 : decode cX3_equalTo 13 = .ok (.iconst 0, 1) := by decide +kernel
theorem dX3_equalTo_14 : decode cX3_equalTo 14 = .ok (.istore_n 2, 1) := by decide +kernel
theorem dX3_equalTo_15 : decode cX3_equalTo 15 = .ok (.iload_n 2, 1) := by decide +kernel
theorem dX3_equalTo_16 : decode cX3_equalTo 16 = .ok (.aload_n 0, 1) := by decide +kernel
theorem dX3_equalTo_17 : decode cX3_equalTo 17 = .ok (.getfield 15, 3) := by decide +kernel
theorem dX3_equalTo_20 : decode cX3_equalTo 20 = .ok (.if_icmp .ge 30, 3) := by decide +kernel
theorem dX3_equalTo_23 : decode cX3_equalTo 23 = .ok (.aload_n 0, 1) := by decide +kernel
theorem dX3_equalTo_24 : decode cX3_equalTo 24 = .ok (.getfield 9, 3) := by decide +kernel
theorem dX3_equalTo_27 : decode cX3_equalTo 27 = .ok (.iload_n 2, 1) := by decide +kernel
theorem dX3_equalTo_28 : decode cX3_equalTo 28 = .ok (.invokestatic 27, 3) := by decide +kernel
theorem dX3_equalTo_31 : decode cX3_equalTo 31 = .ok (.aload_n 1, 1) := by decide +kernel
theorem dX3_equalTo_32 : decode cX3_equalTo 32 = .ok (.getfield 9, 3) := by decide +kernel
theorem dX3_equalTo_35 : decode cX3_equalTo 35 = .ok (.iload_n 2, 1) := by decide +kernel
theorem dX3_equalTo_36 : decode cX3_equalTo 36 = .ok (.invokestatic 27, 3) := by decide +kernel
theorem dX3_equalTo_39 : decode cX3_equalTo 39 = .ok (.if_icmp .eq 5, 3) := by decide +kernel
theorem dX3_equalTo_42 : decode cX3_equalTo 42 = .ok (.iconst 0, 1) := by decide +kernel
theorem dX3_equalTo_43 : decode cX3_equalTo 43 = .ok (.ireturn, 1) := by decide +kernel
theorem dX3_equalTo_44 : decode cX3_equalTo 44 = .ok (.iinc 2 1, 3) := by decide +kernel
theorem dX3_equalTo_47 : decode cX3_equalTo 47 = .ok (.goto (-32), 3) := by decide +kernel
theorem dX3_equalTo_50 : decode cX3_equalTo 50 = .ok (.iconst 1, 1) := by decide +kernel
theorem dX3_equalTo_51 : decode cX3_equalTo 51 = .ok (.ireturn, 1) := by decide +kernel
theorem dX3_clear_0 : decode cX3_clear 0 = .ok (.aload_n 0, 1) := by decide +kernel
theorem dX3_clear_1 : decode cX3_clear 1 = .ok (.iload_n 1, 1) := by decide +kernel
theorem dX3_clear_2 : decode cX3_clear 2 = .ok (.ifCond .lt 13, 3) := by decide +kernel
theorem dX3_clear_5 : decode cX3_clear 5 = .ok (.iload_n 1, 1) := by decide +kernel
theorem dX3_clear_6 : decode cX3_clear 6 = .ok (.bipush 14, 2) := by decide +kernel
theorem dX3_clear_8 : decode cX3_clear 8 = .ok (.if_icmp .gt 7, 3) := by decide +kernel
theorem dX3_clear_11 : decode cX3_clear 11 = .ok (.iload_n 1, 1) := by decide +kernel
theorem dX3_clear_12 : decode cX3_clear 12 = .ok (.goto 4, 3) := by decide +kernel
theorem dX3_clear_15 : decode cX3_clear 15 = .ok (.iconst 0, 1) := by decide +kernel
theorem dX3_clear_16 : decode cX3_clear 16 = .ok (.putfield 15, 3) := by decide +kernel
theorem dX3_clear_19 : decode cX3_clear 19 = .ok (.iconst 0, 1) := by decide +kernel
theorem dX3_clear_20 : decode cX3_clear 20 = .ok (.istore_n 2, 1) := by decide +kernel
theorem dX3_clear_21 : decode cX3_clear 21 = .ok (.iload_n 2, 1) := by decide +kernel
theorem dX3_clear_22 : decode cX3_clear 22 = .ok (.bipush 14, 2) := by decide +kernel
theorem dX3_clear_24 : decode cX3_clear 24 = .ok (.if_icmp .ge 18, 3) := by decide +kernel
theorem dX3_clear_27 : decode cX3_clear 27 = .ok (.aload_n 0, 1) := by decide +kernel
theorem dX3_clear_28 : decode cX3_clear 28 = .ok (.getfield 9, 3) := by decide +kernel
theorem dX3_clear_31 : decode cX3_clear 31 = .ok (.iload_n 2, 1) := by decide +kernel
theorem dX3_clear_32 : decode cX3_clear 32 = .ok (.iconst 0, 1) := by decide +kernel
theorem dX3_clear_33 : decode cX3_clear 33 = .ok (.invokestatic 35, 3) := by decide +kernel
theorem dX3_clear_36 : decode cX3_clear 36 = .ok (.iinc 2 1, 3) := by decide +kernel
theorem dX3_clear_39 : decode cX3_clear 39 = .ok (.goto (-18), 3) := by decide +kernel
theorem dX3_clear_42 : decode cX3_clear 42 = .ok (.return_, 1) := by decide +kernel
theorem dX3_copy_0 : decode cX3_copy 0 = .ok (.aload_n 0, 1) := by decide +kernel
theorem dX3_copy_1 : decode cX3_copy 1 = .ok (.aload_n 1, 1) := by decide +kernel
theorem dX3_copy_2 : decode cX3_copy 2 = .ok (.getfield 15, 3) := by decide +kernel
theorem dX3_copy_5 : decode cX3_copy 5 = .ok (.invokevirtual 39, 3) := by decide +kernel
theorem dX3_copy_8 : decode cX3_copy 8 = .ok (.iconst 0, 1) := by decide +kernel
theorem dX3_copy_9 : decode cX3_copy 9 = .ok (.istore_n 2, 1) := by decide +kernel
theorem dX3_copy_10 : decode cX3_copy 10 = .ok (.iload_n 2, 1) := by decide +kernel
theorem dX3_copy_11 : decode cX3_copy 11 = .ok (.aload_n 0, 1) := by decide +kernel
theorem dX3_copy_12 : decode cX3_copy 12 = .ok (.getfield 15, 3) := by decide +kernel
theorem dX3_copy_15 : decode cX3_copy 15 = .ok (.if_icmp .ge 25, 3) := by decide +kernel
theorem dX3_copy_18 : decode cX3_copy 18 = .ok (.aload_n 0, 1) := by decide +kernel
theorem dX3_copy_19 : decode cX3_copy 19 = .ok (.getfield 9, 3) := by decide +kernel
theorem dX3_copy_22 : decode cX3_copy 22 = .ok (.iload_n 2, 1) := by decide +kernel
theorem dX3_copy_23 : decode cX3_copy 23 = .ok (.aload_n 1, 1) := by decide +kernel
theorem dX3_copy_24 : decode cX3_copy 24 = .ok (.getfield 9, 3) := by decide +kernel
theorem dX3_copy_27 : decode cX3_copy 27 = .ok (.iload_n 2, 1) := by decide +kernel
theorem dX3_copy_28 : decode cX3_copy 28 = .ok (.invokestatic 27, 3) := by decide +kernel
theorem dX3_copy_31 : decode cX3_copy 31 = .ok (.invokestatic 35, 3) := by decide +kernel
theorem dX3_copy_34 : decode cX3_copy 34 = .ok (.iinc 2 1, 3) := by decide +kernel
theorem dX3_copy_37 : decode cX3_copy 37 = .ok (.goto (-27), 3) := by decide +kernel
theorem dX3_copy_40 : decode cX3_copy 40 = .ok (.return_, 1) := by decide +kernel
theorem dX3_setTies_0 : decode cX3_setTies 0 = .ok (.aload_n 0, 1) := by decide +kernel
theorem dX3_setTies_1 : decode cX3_setTies 1 = .ok (.getfield 9, 3) := by decide +kernel
theorem dX3_setTies_4 : decode cX3_setTies 4 = .ok (.iload_n 1, 1) := by decide +kernel
theorem dX3_setTies_5 : decode cX3_setTies 5 = .ok (.iload_n 2, 1) := by decide +kernel
theorem dX3_setTies_6 : decode cX3_setTies 6 = .ok (.invokestatic 35, 3) := by decide +kernel
theorem dX3_setTies_9 : decode cX3_setTies 9 = .ok (.return_, 1) := by decide +kernel
theorem dX3_flip_0 : decode cX3_flip 0 = .ok (.aload_n 0, 1) := by decide +kernel
theorem dX3_flip_1 : decode cX3_flip 1 = .ok (.getfield 9, 3) := by decide +kernel
theorem dX3_flip_4 : decode cX3_flip 4 = .ok (.iload_n 1, 1) := by decide +kernel
theorem dX3_flip_5 : decode cX3_flip 5 = .ok (.aload_n 0, 1) := by decide +kernel
theorem dX3_flip_6 : decode cX3_flip 6 = .ok (.getfield 9, 3) := by decide +kernel
theorem dX3_flip_9 : decode cX3_flip 9 = .ok (.iload_n 1, 1) := by decide +kernel
theorem dX3_flip_10 : decode cX3_flip 10 = .ok (.invokestatic 27, 3) := by decide +kernel
theorem dX3_flip_13 : decode cX3_flip 13 = .ok (.iconst 1, 1) := by decide +kernel
theorem dX3_flip_14 : decode cX3_flip 14 = .ok (.iload_n 2, 1) := by decide +kernel
theorem dX3_flip_15 : decode cX3_flip 15 = .ok (.ishl, 1) := by decide +kernel
theorem dX3_flip_16 : decode cX3_flip 16 = .ok (.ixor, 1) := by decide +kernel
theorem dX3_flip_17 : decode cX3_flip 17 = .ok (.invokestatic 35, 3) := by decide +kernel
theorem dX3_flip_20 : decode cX3_flip 20 = .ok (.aload_n 0, 1) := by decide +kernel
theorem dX3_flip_21 : decode cX3_flip 21 = .ok (.getfield 9, 3) := by decide +kernel
theorem dX3_flip_24 : decode cX3_flip 24 = .ok (.iload_n 2, 1) := by decide +kernel
theorem dX3_flip_25 : decode cX3_flip 25 = .ok (.aload_n 0, 1) := by decide +kernel
theorem dX3_flip_26 : decode cX3_flip 26 = .ok (.getfield 9, 3) := by decide +kernel
theorem dX3_flip_29 : decode cX3_flip 29 = .ok (.iload_n 2, 1) := by decide +kernel
theorem dX3_flip_30 : decode cX3_flip 30 = .ok (.invokestatic 27, 3) := by decide +kernel
theorem dX3_flip_33 : decode cX3_flip 33 = .ok (.iconst 1, 1) := by decide +kernel
theorem dX3_flip_34 : decode cX3_flip 34 = .ok (.iload_n 1, 1) := by decide +kernel
theorem dX3_flip_35 : decode cX3_flip 35 = .ok (.ishl, 1) := by decide +kernel
theorem dX3_flip_36 : decode cX3_flip 36 = .ok (.ixor, 1) := by decide +kernel
theorem dX3_flip_37 : decode cX3_flip 37 = .ok (.invokestatic 35, 3) := by decide +kernel
theorem dX3_flip_40 : decode cX3_flip 40 = .ok (.return_, 1) := by decide +kernel
theorem dX3_add_0 : decode cX3_add 0 = .ok (.aload_n 0, 1) := by decide +kernel
theorem dX3_add_1 : decode cX3_add 1 = .ok (.iload_n 1, 1) := by decide +kernel
theorem dX3_add_2 : decode cX3_add 2 = .ok (.invokevirtual 43, 3) := by decide +kernel
theorem dX3_add_5 : decode cX3_add 5 = .ok (.ifCond .ne 4, 3) := by decide +kernel
theorem dX3_add_8 : decode cX3_add 8 = .ok (.return_, 1) := by decide +kernel
theorem dX3_add_9 : decode cX3_add 9 = .ok (.aload_n 0, 1) := by decide +kernel
theorem dX3_add_10 : decode cX3_add 10 = .ok (.getfield 15, 3) := by decide +kernel
theorem dX3_add_13 : decode cX3_add 13 = .ok (.istore_n 2, 1) := by decide +kernel
theorem dX3_add_14 : decode cX3_add 14 = .ok (.aload_n 0, 1) := by decide +kernel
theorem dX3_add_15 : decode cX3_add 15 = .ok (.iload_n 2, 1) := by decide +kernel
theorem dX3_add_16 : decode cX3_add 16 = .ok (.iconst 1, 1) := by decide +kernel
theorem dX3_add_17 : decode cX3_add 17 = .ok (.iadd, 1) := by decide +kernel
theorem dX3_add_18 : decode cX3_add 18 = .ok (.putfield 15, 3) := by decide +kernel
theorem dX3_add_21 : decode cX3_add 21 = .ok (.aload_n 0, 1) := by decide +kernel
theorem dX3_add_22 : decode cX3_add 22 = .ok (.getfield 9, 3) := by decide +kernel
theorem dX3_add_25 : decode cX3_add 25 = .ok (.iload_n 2, 1) := by decide +kernel
theorem dX3_add_26 : decode cX3_add 26 = .ok (.iload_n 1, 1) := by decide +kernel
theorem dX3_add_27 : decode cX3_add 27 = .ok (.invokestatic 35, 3) := by decide +kernel
theorem dX3_add_30 : decode cX3_add 30 = .ok (.iconst 0, 1) := by decide +kernel
theorem dX3_add_31 : decode cX3_add 31 = .ok (.istore_n 3, 1) := by decide +kernel
theorem dX3_add_32 : decode cX3_add 32 = .ok (.iload_n 3, 1) := by decide +kernel
theorem dX3_add_33 : decode cX3_add 33 = .ok (.iload_n 2, 1) := by decide +kernel
theorem dX3_add_34 : decode cX3_add 34 = .ok (.if_icmp .ge 37, 3) := by decide +kernel
theorem dX3_add_37 : decode cX3_add 37 = .ok (.iload_n 1, 1) := by decide +kernel
theorem dX3_add_38 : decode cX3_add 38 = .ok (.iload_n 3, 1) := by decide +kernel
theorem dX3_add_39 : decode cX3_add 39 = .ok (.invokestatic 31, 3) := by decide +kernel
theorem dX3_add_42 : decode cX3_add 42 = .ok (.ifCond .eq 23, 3) := by decide +kernel
theorem dX3_add_45 : decode cX3_add 45 = .ok (.aload_n 0, 1) := by decide +kernel
theorem dX3_add_46 : decode cX3_add 46 = .ok (.getfield 9, 3) := by decide +kernel
theorem dX3_add_49 : decode cX3_add 49 = .ok (.iload_n 3, 1) := by decide +kernel
theorem dX3_add_50 : decode cX3_add 50 = .ok (.aload_n 0, 1) := by decide +kernel
theorem dX3_add_51 : decode cX3_add 51 = .ok (.getfield 9, 3) := by decide +kernel
theorem dX3_add_54 : decode cX3_add 54 = .ok (.iload_n 3, 1) := by decide +kernel
theorem dX3_add_55 : decode cX3_add 55 = .ok (.invokestatic 27, 3) := by decide +kernel
theorem dX3_add_58 : decode cX3_add 58 = .ok (.iconst 1, 1) := by decide +kernel
theorem dX3_add_59 : decode cX3_add 59 = .ok (.iload_n 2, 1) := by decide +kernel
theorem dX3_add_60 : decode cX3_add 60 = .ok (.ishl, 1) := by decide +kernel
theorem dX3_add_61 : decode cX3_add 61 = .ok (.ior, 1) := by decide +kernel
theorem dX3_add_62 : decode cX3_add 62 = .ok (.invokestatic 35, 3) := by decide +kernel
theorem dX3_add_65 : decode cX3_add 65 = .ok (.iinc 3 1, 3) := by decide +kernel
theorem dX3_add_68 : decode cX3_add 68 = .ok (.goto (-36), 3) := by decide +kernel
theorem dX3_add_71 : decode cX3_add 71 = .ok (.return_, 1) := by decide +kernel
theorem dX3_drop_0 : decode cX3_drop 0 = .ok (.aload_n 0, 1) := by decide +kernel
theorem dX3_drop_1 : decode cX3_drop 1 = .ok (.iload_n 1, 1) := by decide +kernel
theorem dX3_drop_2 : decode cX3_drop 2 = .ok (.invokevirtual 19, 3) := by decide +kernel
theorem dX3_drop_5 : decode cX3_drop 5 = .ok (.ifCond .ne 4, 3) := by decide +kernel
theorem dX3_drop_8 : decode cX3_drop 8 = .ok (.return_, 1) := by decide +kernel
theorem dX3_drop_9 : decode cX3_drop 9 = .ok (.iload_n 1, 1) := by decide +kernel
theorem dX3_drop_10 : decode cX3_drop 10 = .ok (.istore_n 2, 1) := by decide +kernel
theorem dX3_drop_11 : decode cX3_drop 11 = .ok (.iload_n 2, 1) := by decide +kernel
theorem dX3_drop_12 : decode cX3_drop 12 = .ok (.iconst 1, 1) := by decide +kernel
theorem dX3_drop_13 : decode cX3_drop 13 = .ok (.iadd, 1) := by decide +kernel
theorem dX3_drop_14 : decode cX3_drop 14 = .ok (.aload_n 0, 1) := by decide +kernel
theorem dX3_drop_15 : decode cX3_drop 15 = .ok (.getfield 15, 3) := by decide +kernel
theorem dX3_drop_18 : decode cX3_drop 18 = .ok (.if_icmp .ge 27, 3) := by decide +kernel
theorem dX3_drop_21 : decode cX3_drop 21 = .ok (.aload_n 0, 1) := by decide +kernel
theorem dX3_drop_22 : decode cX3_drop 22 = .ok (.getfield 9, 3) := by decide +kernel
theorem dX3_drop_25 : decode cX3_drop 25 = .ok (.iload_n 2, 1) := by decide +kernel
theorem dX3_drop_26 : decode cX3_drop 26 = .ok (.aload_n 0, 1) := by decide +kernel
theorem dX3_drop_27 : decode cX3_drop 27 = .ok (.getfield 9, 3) := by decide +kernel
theorem dX3_drop_30 : decode cX3_drop 30 = .ok (.iload_n 2, 1) := by decide +kernel
theorem dX3_drop_31 : decode cX3_drop 31 = .ok (.iconst 1, 1) := by decide +kernel
theorem dX3_drop_32 : decode cX3_drop 32 = .ok (.iadd, 1) := by decide +kernel
theorem dX3_drop_33 : decode cX3_drop 33 = .ok (.invokestatic 27, 3) := by decide +kernel
theorem dX3_drop_36 : decode cX3_drop 36 = .ok (.invokestatic 35, 3) := by decide +kernel
theorem dX3_drop_39 : decode cX3_drop 39 = .ok (.iinc 2 1, 3) := by decide +kernel
theorem dX3_drop_42 : decode cX3_drop 42 = .ok (.goto (-31), 3) := by decide +kernel
theorem dX3_drop_45 : decode cX3_drop 45 = .ok (.aload_n 0, 1) := by decide +kernel
theorem dX3_drop_46 : decode cX3_drop 46 = .ok (.dup, 1) := by decide +kernel
theorem dX3_drop_47 : decode cX3_drop 47 = .ok (.getfield 15, 3) := by decide +kernel
theorem dX3_drop_50 : decode cX3_drop 50 = .ok (.iconst 1, 1) := by decide +kernel
theorem dX3_drop_51 : decode cX3_drop 51 = .ok (.isub, 1) := by decide +kernel
theorem dX3_drop_52 : decode cX3_drop 52 = .ok (.putfield 15, 3) := by decide +kernel
theorem dX3_drop_55 : decode cX3_drop 55 = .ok (.aload_n 0, 1) := by decide +kernel
theorem dX3_drop_56 : decode cX3_drop 56 = .ok (.getfield 9, 3) := by decide +kernel
theorem dX3_drop_59 : decode cX3_drop 59 = .ok (.aload_n 0, 1) := by decide +kernel
theorem dX3_drop_60 : decode cX3_drop 60 = .ok (.getfield 15, 3) := by decide +kernel
theorem dX3_drop_63 : decode cX3_drop 63 = .ok (.iconst 0, 1) := by decide +kernel
theorem dX3_drop_64 : decode cX3_drop 64 = .ok (.invokestatic 35, 3) := by decide +kernel
theorem dX3_drop_67 : decode cX3_drop 67 = .ok (.iconst 1, 1) := by decide +kernel
theorem dX3_drop_68 : decode cX3_drop 68 = .ok (.iload_n 1, 1) := by decide +kernel
theorem dX3_drop_69 : decode cX3_drop 69 = .ok (.ishl, 1) := by decide +kernel
theorem dX3_drop_70 : decode cX3_drop 70 = .ok (.iconst 1, 1) := by decide +kernel
theorem dX3_drop_71 : decode cX3_drop 71 = .ok (.isub, 1) := by decide +kernel
theorem dX3_drop_72 : decode cX3_drop 72 = .ok (.istore_n 2, 1) := by decide +kernel
theorem dX3_drop_73 : decode cX3_drop 73 = .ok (.iconst 0, 1) := by decide +kernel
theorem dX3_drop_74 : decode cX3_drop 74 = .ok (.istore_n 3, 1) := by decide +kernel
theorem dX3_drop_75 : decode cX3_drop 75 = .ok (.iload_n 3, 1) := by decide +kernel
theorem dX3_drop_76 : decode cX3_drop 76 = .ok (.aload_n 0, 1) := by decide +kernel
theorem dX3_drop_77 : decode cX3_drop 77 = .ok (.getfield 15, 3) := by decide +kernel
theorem dX3_drop_80 : decode cX3_drop 80 = .ok (.if_icmp .ge 40, 3) := by decide +kernel
theorem dX3_drop_83 : decode cX3_drop 83 = .ok (.aload_n 0, 1) := by decide +kernel
theorem dX3_drop_84 : decode cX3_drop 84 = .ok (.getfield 9, 3) := by decide +kernel
theorem dX3_drop_87 : decode cX3_drop 87 = .ok (.iload_n 3, 1) := by decide +kernel
theorem dX3_drop_88 : decode cX3_drop 88 = .ok (.invokestatic 27, 3) := by decide +kernel
theorem dX3_drop_91 : decode cX3_drop 91 = .ok (.istore 4, 2) := by decide +kernel
theorem dX3_drop_93 : decode cX3_drop 93 = .ok (.aload_n 0, 1) := by decide +kernel
theorem dX3_drop_94 : decode cX3_drop 94 = .ok (.getfield 9, 3) := by decide +kernel
theorem dX3_drop_97 : decode cX3_drop 97 = .ok (.iload_n 3, 1) := by decide +kernel
theorem dX3_drop_98 : decode cX3_drop 98 = .ok (.iload 4, 2) := by decide +kernel
theorem dX3_drop_100 : decode cX3_drop 100 = .ok (.iload_n 2, 1) := by decide +kernel
theorem dX3_drop_101 : decode cX3_drop 101 = .ok (.iand, 1) := by decide +kernel
theorem dX3_drop_102 : decode cX3_drop 102 = .ok (.iload 4, 2) := by decide +kernel
theorem dX3_drop_104 : decode cX3_drop 104 = .ok (.iconst 1, 1) := by decide +kernel
theorem dX3_drop_105 : decode cX3_drop 105 = .ok (.iushr, 1) := by decide +kernel
theorem dX3_drop_106 : decode cX3_drop 106 = .ok (.iload_n 2, 1) := by decide +kernel
theorem dX3_drop_107 : decode cX3_drop 107 = .ok (.iconst (-1), 1) := by decide +kernel
theorem dX3_drop_108 : decode cX3_drop 108 = .ok (.ixor, 1) := by decide +kernel
theorem dX3_drop_109 : decode cX3_drop 109 = .ok (.iand, 1) := by decide +kernel
theorem dX3_drop_110 : decode cX3_drop 110 = .ok (.ior, 1) := by decide +kernel
theorem dX3_drop_111 : decode cX3_drop 111 = .ok (.invokestatic 35, 3) := by decide +kernel
theorem dX3_drop_114 : decode cX3_drop 114 = .ok (.iinc 3 1, 3) := by decide +kernel
theorem dX3_drop_117 : decode cX3_drop 117 = .ok (.goto (-42), 3) := by decide +kernel
theorem dX3_drop_120 : decode cX3_drop 120 = .ok (.return_, 1) := by decide +kernel
theorem dX3_lines_0 : decode cX3_lines 0 = .ok (.iconst 0, 1) := by decide +kernel
theorem dX3_lines_1 : decode cX3_lines 1 = .ok (.istore_n 1, 1) := by decide +kernel
theorem dX3_lines_2 : decode cX3_lines 2 = .ok (.iconst 0, 1) := by decide +kernel
theorem dX3_lines_3 : decode cX3_lines 3 = .ok (.istore_n 2, 1) := by decide +kernel
theorem dX3_lines_4 : decode cX3_lines 4 = .ok (.iload_n 2, 1) := by decide +kernel
theorem dX3_lines_5 : decode cX3_lines 5 = .ok (.aload_n 0, 1) := by decide +kernel
theorem dX3_lines_6 : decode cX3_lines 6 = .ok (.getfield 15, 3) := by decide +kernel
theorem dX3_lines_9 : decode cX3_lines 9 = .ok (.if_icmp .ge 23, 3) := by decide +kernel
theorem dX3_lines_12 : decode cX3_lines 12 = .ok (.iload_n 1, 1) := by decide +kernel
theorem dX3_lines_13 : decode cX3_lines 13 = .ok (.aload_n 0, 1) := by decide +kernel
theorem dX3_lines_14 : decode cX3_lines 14 = .ok (.getfield 9, 3) := by decide +kernel
theorem dX3_lines_17 : decode cX3_lines 17 = .ok (.iload_n 2, 1) := by decide +kernel
theorem dX3_lines_18 : decode cX3_lines 18 = .ok (.invokestatic 27, 3) := by decide +kernel
theorem dX3_lines_21 : decode cX3_lines 21 = .ok (.invokestatic 46, 3) := by decide +kernel
theorem dX3_lines_24 : decode cX3_lines 24 = .ok (.iadd, 1) := by decide +kernel
theorem dX3_lines_25 : decode cX3_lines 25 = .ok (.istore_n 1, 1) := by decide +kernel
theorem dX3_lines_26 : decode cX3_lines 26 = .ok (.iinc 2 1, 3) := by decide +kernel
theorem dX3_lines_29 : decode cX3_lines 29 = .ok (.goto (-25), 3) := by decide +kernel
theorem dX3_lines_32 : decode cX3_lines 32 = .ok (.iload_n 1, 1) := by decide +kernel
theorem dX3_lines_33 : decode cX3_lines 33 = .ok (.iconst 1, 1) := by decide +kernel
theorem dX3_lines_34 : decode cX3_lines 34 = .ok (.ishr, 1) := by decide +kernel
theorem dX3_lines_35 : decode cX3_lines 35 = .ok (.ireturn, 1) := by decide +kernel
theorem dX3_mostLines_0 : decode cX3_mostLines 0 = .ok (.iconst 0, 1) := by decide +kernel
theorem dX3_mostLines_1 : decode cX3_mostLines 1 = .ok (.istore_n 1, 1) := by decide +kernel
theorem dX3_mostLines_2 : decode cX3_mostLines 2 = .ok (.iconst 0, 1) := by decide +kernel
theorem dX3_mostLines_3 : decode cX3_mostLines 3 = .ok (.istore_n 2, 1) := by decide +kernel
theorem dX3_mostLines_4 : decode cX3_mostLines 4 = .ok (.iload_n 2, 1) := by decide +kernel
theorem dX3_mostLines_5 : decode cX3_mostLines 5 = .ok (.aload_n 0, 1) := by decide +kernel
theorem dX3_mostLines_6 : decode cX3_mostLines 6 = .ok (.getfield 15, 3) := by decide +kernel
theorem dX3_mostLines_9 : decode cX3_mostLines 9 = .ok (.if_icmp .ge 25, 3) := by decide +kernel
theorem dX3_mostLines_12 : decode cX3_mostLines 12 = .ok (.iload_n 1, 1) := by decide +kernel
theorem dX3_mostLines_13 : decode cX3_mostLines 13 = .ok (.aload_n 0, 1) := by decide +kernel
theorem dX3_mostLines_14 : decode cX3_mostLines 14 = .ok (.getfield 9, 3) := by decide +kernel
theorem dX3_mostLines_17 : decode cX3_mostLines 17 = .ok (.iload_n 2, 1) := by decide +kernel
theorem dX3_mostLines_18 : decode cX3_mostLines 18 = .ok (.invokestatic 27, 3) := by decide +kernel
theorem dX3_mostLines_21 : decode cX3_mostLines 21 = .ok (.invokestatic 46, 3) := by decide +kernel
theorem dX3_mostLines_24 : decode cX3_mostLines 24 = .ok (.invokestatic 52, 3) := by decide +kernel
theorem dX3_mostLines_27 : decode cX3_mostLines 27 = .ok (.istore_n 1, 1) := by decide +kernel
theorem dX3_mostLines_28 : decode cX3_mostLines 28 = .ok (.iinc 2 1, 3) := by decide +kernel
theorem dX3_mostLines_31 : decode cX3_mostLines 31 = .ok (.goto (-27), 3) := by decide +kernel
theorem dX3_mostLines_34 : decode cX3_mostLines 34 = .ok (.iload_n 1, 1) := by decide +kernel
theorem dX3_mostLines_35 : decode cX3_mostLines 35 = .ok (.ireturn, 1) := by decide +kernel
theorem dX3_parts_0 : decode cX3_parts 0 = .ok (.aload_n 0, 1) := by decide +kernel
theorem dX3_parts_1 : decode cX3_parts 1 = .ok (.invokevirtual 23, 3) := by decide +kernel
theorem dX3_parts_4 : decode cX3_parts 4 = .ok (.istore_n 1, 1) := by decide +kernel
theorem dX3_parts_5 : decode cX3_parts 5 = .ok (.iconst 0, 1) := by decide +kernel
theorem dX3_parts_6 : decode cX3_parts 6 = .ok (.istore_n 2, 1) := by decide +kernel
theorem dX3_parts_7 : decode cX3_parts 7 = .ok (.iconst 0, 1) := by decide +kernel
theorem dX3_parts_8 : decode cX3_parts 8 = .ok (.istore_n 3, 1) := by decide +kernel
theorem dX3_parts_9 : decode cX3_parts 9 = .ok (.iload_n 3, 1) := by decide +kernel
theorem dX3_parts_10 : decode cX3_parts 10 = .ok (.aload_n 0, 1) := by decide +kernel
theorem dX3_parts_11 : decode cX3_parts 11 = .ok (.getfield 15, 3) := by decide +kernel
theorem dX3_parts_14 : decode cX3_parts 14 = .ok (.if_icmp .ge 30, 3) := by decide +kernel
theorem dX3_parts_17 : decode cX3_parts 17 = .ok (.iload_n 1, 1) := by decide +kernel
theorem dX3_parts_18 : decode cX3_parts 18 = .ok (.iload_n 3, 1) := by decide +kernel
theorem dX3_parts_19 : decode cX3_parts 19 = .ok (.invokestatic 31, 3) := by decide +kernel
theorem dX3_parts_22 : decode cX3_parts 22 = .ok (.ifCond .eq 16, 3) := by decide +kernel
theorem dX3_parts_25 : decode cX3_parts 25 = .ok (.iload_n 1, 1) := by decide +kernel
theorem dX3_parts_26 : decode cX3_parts 26 = .ok (.aload_n 0, 1) := by decide +kernel
theorem dX3_parts_27 : decode cX3_parts 27 = .ok (.iload_n 3, 1) := by decide +kernel
theorem dX3_parts_28 : decode cX3_parts 28 = .ok (.invokevirtual 58, 3) := by decide +kernel
theorem dX3_parts_31 : decode cX3_parts 31 = .ok (.iconst (-1), 1) := by decide +kernel
theorem dX3_parts_32 : decode cX3_parts 32 = .ok (.ixor, 1) := by decide +kernel
theorem dX3_parts_33 : decode cX3_parts 33 = .ok (.iand, 1) := by decide +kernel
theorem dX3_parts_34 : decode cX3_parts 34 = .ok (.istore_n 1, 1) := by decide +kernel
theorem dX3_parts_35 : decode cX3_parts 35 = .ok (.iinc 2 1, 3) := by decide +kernel
theorem dX3_parts_38 : decode cX3_parts 38 = .ok (.iinc 3 1, 3) := by decide +kernel
theorem dX3_parts_41 : decode cX3_parts 41 = .ok (.goto (-32), 3) := by decide +kernel
theorem dX3_parts_44 : decode cX3_parts 44 = .ok (.iload_n 2, 1) := by decide +kernel
theorem dX3_parts_45 : decode cX3_parts 45 = .ok (.ireturn, 1) := by decide +kernel
theorem dX3_reach_0 : decode cX3_reach 0 = .ok (.iconst 1, 1) := by decide +kernel
theorem dX3_reach_1 : decode cX3_reach 1 = .ok (.iload_n 1, 1) := by decide +kernel
theorem dX3_reach_2 : decode cX3_reach 2 = .ok (.ishl, 1) := by decide +kernel
theorem dX3_reach_3 : decode cX3_reach 3 = .ok (.istore_n 2, 1) := by decide +kernel
theorem dX3_reach_4 : decode cX3_reach 4 = .ok (.iconst 0, 1) := by decide +kernel
theorem dX3_reach_5 : decode cX3_reach 5 = .ok (.istore_n 3, 1) := by decide +kernel
theorem dX3_reach_6 : decode cX3_reach 6 = .ok (.iload_n 3, 1) := by decide +kernel
theorem dX3_reach_7 : decode cX3_reach 7 = .ok (.aload_n 0, 1) := by decide +kernel
theorem dX3_reach_8 : decode cX3_reach 8 = .ok (.getfield 15, 3) := by decide +kernel
theorem dX3_reach_11 : decode cX3_reach 11 = .ok (.if_icmp .ge 48, 3) := by decide +kernel
theorem dX3_reach_14 : decode cX3_reach 14 = .ok (.iconst 0, 1) := by decide +kernel
theorem dX3_reach_15 : decode cX3_reach 15 = .ok (.istore 4, 2) := by decide +kernel
theorem dX3_reach_17 : decode cX3_reach 17 = .ok (.iload 4, 2) := by decide +kernel
theorem dX3_reach_19 : decode cX3_reach 19 = .ok (.aload_n 0, 1) := by decide +kernel
theorem dX3_reach_20 : decode cX3_reach 20 = .ok (.getfield 15, 3) := by decide +kernel
theorem dX3_reach_23 : decode cX3_reach 23 = .ok (.if_icmp .ge 30, 3) := by decide +kernel
theorem dX3_reach_26 : decode cX3_reach 26 = .ok (.iload_n 2, 1) := by decide +kernel
theorem dX3_reach_27 : decode cX3_reach 27 = .ok (.iload 4, 2) := by decide +kernel
theorem dX3_reach_29 : decode cX3_reach 29 = .ok (.invokestatic 31, 3) := by decide +kernel
theorem dX3_reach_32 : decode cX3_reach 32 = .ok (.ifCond .eq 15, 3) := by decide +kernel
theorem dX3_reach_35 : decode cX3_reach 35 = .ok (.iload_n 2, 1) := by decide +kernel
theorem dX3_reach_36 : decode cX3_reach 36 = .ok (.aload_n 0, 1) := by decide +kernel
theorem dX3_reach_37 : decode cX3_reach 37 = .ok (.getfield 9, 3) := by decide +kernel
theorem dX3_reach_40 : decode cX3_reach 40 = .ok (.iload 4, 2) := by decide +kernel
theorem dX3_reach_42 : decode cX3_reach 42 = .ok (.invokestatic 27, 3) := by decide +kernel
theorem dX3_reach_45 : decode cX3_reach 45 = .ok (.ior, 1) := by decide +kernel
theorem dX3_reach_46 : decode cX3_reach 46 = .ok (.istore_n 2, 1) := by decide +kernel
theorem dX3_reach_47 : decode cX3_reach 47 = .ok (.iinc 4 1, 3) := by decide +kernel
theorem dX3_reach_50 : decode cX3_reach 50 = .ok (.goto (-33), 3) := by decide +kernel
theorem dX3_reach_53 : decode cX3_reach 53 = .ok (.iinc 3 1, 3) := by decide +kernel
theorem dX3_reach_56 : decode cX3_reach 56 = .ok (.goto (-50), 3) := by decide +kernel
theorem dX3_reach_59 : decode cX3_reach 59 = .ok (.iload_n 2, 1) := by decide +kernel
theorem dX3_reach_60 : decode cX3_reach 60 = .ok (.ireturn, 1) := by decide +kernel
theorem dX3_endsOf_0 : decode cX3_endsOf 0 = .ok (.iconst 0, 1) := by decide +kernel
theorem dX3_endsOf_1 : decode cX3_endsOf 1 = .ok (.istore_n 2, 1) := by decide +kernel
theorem dX3_endsOf_2 : decode cX3_endsOf 2 = .ok (.iconst 0, 1) := by decide +kernel
theorem dX3_endsOf_3 : decode cX3_endsOf 3 = .ok (.istore_n 3, 1) := by decide +kernel
theorem dX3_endsOf_4 : decode cX3_endsOf 4 = .ok (.iload_n 3, 1) := by decide +kernel
theorem dX3_endsOf_5 : decode cX3_endsOf 5 = .ok (.aload_n 0, 1) := by decide +kernel
theorem dX3_endsOf_6 : decode cX3_endsOf 6 = .ok (.getfield 15, 3) := by decide +kernel
theorem dX3_endsOf_9 : decode cX3_endsOf 9 = .ok (.if_icmp .ge 59, 3) := by decide +kernel
theorem dX3_endsOf_12 : decode cX3_endsOf 12 = .ok (.iload_n 3, 1) := by decide +kernel
theorem dX3_endsOf_13 : decode cX3_endsOf 13 = .ok (.iconst 1, 1) := by decide +kernel
theorem dX3_endsOf_14 : decode cX3_endsOf 14 = .ok (.iadd, 1) := by decide +kernel
theorem dX3_endsOf_15 : decode cX3_endsOf 15 = .ok (.istore 4, 2) := by decide +kernel
theorem dX3_endsOf_17 : decode cX3_endsOf 17 = .ok (.iload 4, 2) := by decide +kernel
theorem dX3_endsOf_19 : decode cX3_endsOf 19 = .ok (.aload_n 0, 1) := by decide +kernel
theorem dX3_endsOf_20 : decode cX3_endsOf 20 = .ok (.getfield 15, 3) := by decide +kernel
theorem dX3_endsOf_23 : decode cX3_endsOf 23 = .ok (.if_icmp .ge 39, 3) := by decide +kernel
theorem dX3_endsOf_26 : decode cX3_endsOf 26 = .ok (.aload_n 0, 1) := by decide +kernel
theorem dX3_endsOf_27 : decode cX3_endsOf 27 = .ok (.iload_n 3, 1) := by decide +kernel
theorem dX3_endsOf_28 : decode cX3_endsOf 28 = .ok (.iload 4, 2) := by decide +kernel
theorem dX3_endsOf_30 : decode cX3_endsOf 30 = .ok (.invokevirtual 61, 3) := by decide +kernel
theorem dX3_endsOf_33 : decode cX3_endsOf 33 = .ok (.ifCond .ne 6, 3) := by decide +kernel
theorem dX3_endsOf_36 : decode cX3_endsOf 36 = .ok (.goto 20, 3) := by decide +kernel
theorem dX3_endsOf_39 : decode cX3_endsOf 39 = .ok (.iload_n 2, 1) := by decide +kernel
theorem dX3_endsOf_40 : decode cX3_endsOf 40 = .ok (.iload_n 1, 1) := by decide +kernel
theorem dX3_endsOf_41 : decode cX3_endsOf 41 = .ok (.if_icmp .ne 12, 3) := by decide +kernel
theorem dX3_endsOf_44 : decode cX3_endsOf 44 = .ok (.iconst 1, 1) := by decide +kernel
theorem dX3_endsOf_45 : decode cX3_endsOf 45 = .ok (.iload_n 3, 1) := by decide +kernel
theorem dX3_endsOf_46 : decode cX3_endsOf 46 = .ok (.ishl, 1) := by decide +kernel
theorem dX3_endsOf_47 : decode cX3_endsOf 47 = .ok (.iconst 1, 1) := by decide +kernel
theorem dX3_endsOf_48 : decode cX3_endsOf 48 = .ok (.iload 4, 2) := by decide +kernel
theorem dX3_endsOf_50 : decode cX3_endsOf 50 = .ok (.ishl, 1) := by decide +kernel
theorem dX3_endsOf_51 : decode cX3_endsOf 51 = .ok (.ior, 1) := by decide +kernel
theorem dX3_endsOf_52 : decode cX3_endsOf 52 = .ok (.ireturn, 1) := by decide +kernel
theorem dX3_endsOf_53 : decode cX3_endsOf 53 = .ok (.iinc 2 1, 3) := by decide +kernel
theorem dX3_endsOf_56 : decode cX3_endsOf 56 = .ok (.iinc 4 1, 3) := by decide +kernel
theorem dX3_endsOf_59 : decode cX3_endsOf 59 = .ok (.goto (-42), 3) := by decide +kernel
theorem dX3_endsOf_62 : decode cX3_endsOf 62 = .ok (.iinc 3 1, 3) := by decide +kernel
theorem dX3_endsOf_65 : decode cX3_endsOf 65 = .ok (.goto (-61), 3) := by decide +kernel
theorem dX3_endsOf_68 : decode cX3_endsOf 68 = .ok (.iconst 0, 1) := by decide +kernel
theorem dX3_endsOf_69 : decode cX3_endsOf 69 = .ok (.ireturn, 1) := by decide +kernel
theorem dX3_becomeMeetingOf_0 : decode cX3_becomeMeetingOf 0 = .ok (.aload_n 0, 1) := by decide +kernel
theorem dX3_becomeMeetingOf_1 : decode cX3_becomeMeetingOf 1 = .ok (.iconst 0, 1) := by decide +kernel
theorem dX3_becomeMeetingOf_2 : decode cX3_becomeMeetingOf 2 = .ok (.invokevirtual 39, 3) := by decide +kernel
theorem dX3_becomeMeetingOf_5 : decode cX3_becomeMeetingOf 5 = .ok (.aload_n 1, 1) := by decide +kernel
theorem dX3_becomeMeetingOf_6 : decode cX3_becomeMeetingOf 6 = .ok (.invokevirtual 64, 3) := by decide +kernel
theorem dX3_becomeMeetingOf_9 : decode cX3_becomeMeetingOf 9 = .ok (.bipush 14, 2) := by decide +kernel
theorem dX3_becomeMeetingOf_11 : decode cX3_becomeMeetingOf 11 = .ok (.invokestatic 67, 3) := by decide +kernel
theorem dX3_becomeMeetingOf_14 : decode cX3_becomeMeetingOf 14 = .ok (.istore_n 2, 1) := by decide +kernel
theorem dX3_becomeMeetingOf_15 : decode cX3_becomeMeetingOf 15 = .ok (.iconst 0, 1) := by decide +kernel
theorem dX3_becomeMeetingOf_16 : decode cX3_becomeMeetingOf 16 = .ok (.istore_n 3, 1) := by decide +kernel
theorem dX3_becomeMeetingOf_17 : decode cX3_becomeMeetingOf 17 = .ok (.iload_n 3, 1) := by decide +kernel
theorem dX3_becomeMeetingOf_18 : decode cX3_becomeMeetingOf 18 = .ok (.iload_n 2, 1) := by decide +kernel
theorem dX3_becomeMeetingOf_19 : decode cX3_becomeMeetingOf 19 = .ok (.if_icmp .ge 61, 3) := by decide +kernel
theorem dX3_becomeMeetingOf_22 : decode cX3_becomeMeetingOf 22 = .ok (.aload_n 1, 1) := by decide +kernel
theorem dX3_becomeMeetingOf_23 : decode cX3_becomeMeetingOf 23 = .ok (.iload_n 3, 1) := by decide +kernel
theorem dX3_becomeMeetingOf_24 : decode cX3_becomeMeetingOf 24 = .ok (.invokevirtual 70, 3) := by decide +kernel
theorem dX3_becomeMeetingOf_27 : decode cX3_becomeMeetingOf 27 = .ok (.istore 4, 2) := by decide +kernel
theorem dX3_becomeMeetingOf_29 : decode cX3_becomeMeetingOf 29 = .ok (.iconst 0, 1) := by decide +kernel
theorem dX3_becomeMeetingOf_30 : decode cX3_becomeMeetingOf 30 = .ok (.istore 5, 2) := by decide +kernel
theorem dX3_becomeMeetingOf_32 : decode cX3_becomeMeetingOf 32 = .ok (.iconst 0, 1) := by decide +kernel
theorem dX3_becomeMeetingOf_33 : decode cX3_becomeMeetingOf 33 = .ok (.istore 6, 2) := by decide +kernel
theorem dX3_becomeMeetingOf_35 : decode cX3_becomeMeetingOf 35 = .ok (.iload 6, 2) := by decide +kernel
theorem dX3_becomeMeetingOf_37 : decode cX3_becomeMeetingOf 37 = .ok (.iload_n 3, 1) := by decide +kernel
theorem dX3_becomeMeetingOf_38 : decode cX3_becomeMeetingOf 38 = .ok (.if_icmp .ge 30, 3) := by decide +kernel
theorem dX3_becomeMeetingOf_41 : decode cX3_becomeMeetingOf 41 = .ok (.aload_n 1, 1) := by decide +kernel
theorem dX3_becomeMeetingOf_42 : decode cX3_becomeMeetingOf 42 = .ok (.iload 6, 2) := by decide +kernel
theorem dX3_becomeMeetingOf_44 : decode cX3_becomeMeetingOf 44 = .ok (.invokevirtual 70, 3) := by decide +kernel
theorem dX3_becomeMeetingOf_47 : decode cX3_becomeMeetingOf 47 = .ok (.iload 4, 2) := by decide +kernel
theorem dX3_becomeMeetingOf_49 : decode cX3_becomeMeetingOf 49 = .ok (.iand, 1) := by decide +kernel
theorem dX3_becomeMeetingOf_50 : decode cX3_becomeMeetingOf 50 = .ok (.ifCond .eq 12, 3) := by decide +kernel
theorem dX3_becomeMeetingOf_53 : decode cX3_becomeMeetingOf 53 = .ok (.iload 5, 2) := by decide +kernel
theorem dX3_becomeMeetingOf_55 : decode cX3_becomeMeetingOf 55 = .ok (.iconst 1, 1) := by decide +kernel
theorem dX3_becomeMeetingOf_56 : decode cX3_becomeMeetingOf 56 = .ok (.iload 6, 2) := by decide +kernel
theorem dX3_becomeMeetingOf_58 : decode cX3_becomeMeetingOf 58 = .ok (.ishl, 1) := by decide +kernel
theorem dX3_becomeMeetingOf_59 : decode cX3_becomeMeetingOf 59 = .ok (.ior, 1) := by decide +kernel
theorem dX3_becomeMeetingOf_60 : decode cX3_becomeMeetingOf 60 = .ok (.istore 5, 2) := by decide +kernel
theorem dX3_becomeMeetingOf_62 : decode cX3_becomeMeetingOf 62 = .ok (.iinc 6 1, 3) := by decide +kernel
theorem dX3_becomeMeetingOf_65 : decode cX3_becomeMeetingOf 65 = .ok (.goto (-30), 3) := by decide +kernel
theorem dX3_becomeMeetingOf_68 : decode cX3_becomeMeetingOf 68 = .ok (.aload_n 0, 1) := by decide +kernel
theorem dX3_becomeMeetingOf_69 : decode cX3_becomeMeetingOf 69 = .ok (.iload 5, 2) := by decide +kernel
theorem dX3_becomeMeetingOf_71 : decode cX3_becomeMeetingOf 71 = .ok (.invokevirtual 73, 3) := by decide +kernel
theorem dX3_becomeMeetingOf_74 : decode cX3_becomeMeetingOf 74 = .ok (.iinc 3 1, 3) := by decide +kernel
theorem dX3_becomeMeetingOf_77 : decode cX3_becomeMeetingOf 77 = .ok (.goto (-60), 3) := by decide +kernel
theorem dX3_becomeMeetingOf_80 : decode cX3_becomeMeetingOf 80 = .ok (.return_, 1) := by decide +kernel
theorem dX3_isOdd_0 : decode cX3_isOdd 0 = .ok (.aload_n 0, 1) := by decide +kernel
theorem dX3_isOdd_1 : decode cX3_isOdd 1 = .ok (.getfield 9, 3) := by decide +kernel
theorem dX3_isOdd_4 : decode cX3_isOdd 4 = .ok (.iload_n 1, 1) := by decide +kernel
theorem dX3_isOdd_5 : decode cX3_isOdd 5 = .ok (.invokestatic 27, 3) := by decide +kernel
theorem dX3_isOdd_8 : decode cX3_isOdd 8 = .ok (.aload_n 0, 1) := by decide +kernel
theorem dX3_isOdd_9 : decode cX3_isOdd 9 = .ok (.getfield 9, 3) := by decide +kernel
theorem dX3_isOdd_12 : decode cX3_isOdd 12 = .ok (.iload_n 2, 1) := by decide +kernel
theorem dX3_isOdd_13 : decode cX3_isOdd 13 = .ok (.invokestatic 27, 3) := by decide +kernel
theorem dX3_isOdd_16 : decode cX3_isOdd 16 = .ok (.ixor, 1) := by decide +kernel
theorem dX3_isOdd_17 : decode cX3_isOdd 17 = .ok (.aload_n 0, 1) := by decide +kernel
theorem dX3_isOdd_18 : decode cX3_isOdd 18 = .ok (.getfield 9, 3) := by decide +kernel
theorem dX3_isOdd_21 : decode cX3_isOdd 21 = .ok (.iload_n 3, 1) := by decide +kernel
theorem dX3_isOdd_22 : decode cX3_isOdd 22 = .ok (.invokestatic 27, 3) := by decide +kernel
theorem dX3_isOdd_25 : decode cX3_isOdd 25 = .ok (.ixor, 1) := by decide +kernel
theorem dX3_isOdd_26 : decode cX3_isOdd 26 = .ok (.ifCond .eq 7, 3) := by decide +kernel
theorem dX3_isOdd_29 : decode cX3_isOdd 29 = .ok (.iconst 1, 1) := by decide +kernel
theorem dX3_isOdd_30 : decode cX3_isOdd 30 = .ok (.goto 4, 3) := by decide +kernel
theorem dX3_isOdd_33 : decode cX3_isOdd 33 = .ok (.iconst 0, 1) := by decide +kernel
theorem dX3_isOdd_34 : decode cX3_isOdd 34 = .ok (.ireturn, 1) := by decide +kernel
theorem dX3_triangles_0 : decode cX3_triangles 0 = .ok (.iconst 0, 1) := by decide +kernel
theorem dX3_triangles_1 : decode cX3_triangles 1 = .ok (.istore_n 2, 1) := by decide +kernel
theorem dX3_triangles_2 : decode cX3_triangles 2 = .ok (.iconst 0, 1) := by decide +kernel
theorem dX3_triangles_3 : decode cX3_triangles 3 = .ok (.istore_n 3, 1) := by decide +kernel
theorem dX3_triangles_4 : decode cX3_triangles 4 = .ok (.iload_n 3, 1) := by decide +kernel
theorem dX3_triangles_5 : decode cX3_triangles 5 = .ok (.aload_n 0, 1) := by decide +kernel
theorem dX3_triangles_6 : decode cX3_triangles 6 = .ok (.getfield 15, 3) := by decide +kernel
theorem dX3_triangles_9 : decode cX3_triangles 9 = .ok (.if_icmp .ge 91, 3) := by decide +kernel
theorem dX3_triangles_12 : decode cX3_triangles 12 = .ok (.iload_n 3, 1) := by decide +kernel
theorem dX3_triangles_13 : decode cX3_triangles 13 = .ok (.iconst 1, 1) := by decide +kernel
theorem dX3_triangles_14 : decode cX3_triangles 14 = .ok (.iadd, 1) := by decide +kernel
theorem dX3_triangles_15 : decode cX3_triangles 15 = .ok (.istore 4, 2) := by decide +kernel
theorem dX3_triangles_17 : decode cX3_triangles 17 = .ok (.iload 4, 2) := by decide +kernel
theorem dX3_triangles_19 : decode cX3_triangles 19 = .ok (.aload_n 0, 1) := by decide +kernel
theorem dX3_triangles_20 : decode cX3_triangles 20 = .ok (.getfield 15, 3) := by decide +kernel
theorem dX3_triangles_23 : decode cX3_triangles 23 = .ok (.if_icmp .ge 71, 3) := by decide +kernel
theorem dX3_triangles_26 : decode cX3_triangles 26 = .ok (.aload_n 0, 1) := by decide +kernel
theorem dX3_triangles_27 : decode cX3_triangles 27 = .ok (.iload_n 3, 1) := by decide +kernel
theorem dX3_triangles_28 : decode cX3_triangles 28 = .ok (.iload 4, 2) := by decide +kernel
theorem dX3_triangles_30 : decode cX3_triangles 30 = .ok (.invokevirtual 61, 3) := by decide +kernel
theorem dX3_triangles_33 : decode cX3_triangles 33 = .ok (.ifCond .eq 55, 3) := by decide +kernel
theorem dX3_triangles_36 : decode cX3_triangles 36 = .ok (.iload_n 1, 1) := by decide +kernel
theorem dX3_triangles_37 : decode cX3_triangles 37 = .ok (.ifCond .eq 17, 3) := by decide +kernel
theorem dX3_triangles_40 : decode cX3_triangles 40 = .ok (.aload_n 0, 1) := by decide +kernel
theorem dX3_triangles_41 : decode cX3_triangles 41 = .ok (.iload_n 3, 1) := by decide +kernel
theorem dX3_triangles_42 : decode cX3_triangles 42 = .ok (.iload 4, 2) := by decide +kernel
theorem dX3_triangles_44 : decode cX3_triangles 44 = .ok (.aload_n 0, 1) := by decide +kernel
theorem dX3_triangles_45 : decode cX3_triangles 45 = .ok (.invokevirtual 23, 3) := by decide +kernel
theorem dX3_triangles_48 : decode cX3_triangles 48 = .ok (.invokevirtual 76, 3) := by decide +kernel
theorem dX3_triangles_51 : decode cX3_triangles 51 = .ok (.goto 21, 3) := by decide +kernel
theorem dX3_triangles_54 : decode cX3_triangles 54 = .ok (.aload_n 0, 1) := by decide +kernel
theorem dX3_triangles_55 : decode cX3_triangles 55 = .ok (.getfield 9, 3) := by decide +kernel
theorem dX3_triangles_58 : decode cX3_triangles 58 = .ok (.iload_n 3, 1) := by decide +kernel
theorem dX3_triangles_59 : decode cX3_triangles 59 = .ok (.invokestatic 27, 3) := by decide +kernel
theorem dX3_triangles_62 : decode cX3_triangles 62 = .ok (.aload_n 0, 1) := by decide +kernel
theorem dX3_triangles_63 : decode cX3_triangles 63 = .ok (.getfield 9, 3) := by decide +kernel
theorem dX3_triangles_66 : decode cX3_triangles 66 = .ok (.iload 4, 2) := by decide +kernel
theorem dX3_triangles_68 : decode cX3_triangles 68 = .ok (.invokestatic 27, 3) := by decide +kernel
theorem dX3_triangles_71 : decode cX3_triangles 71 = .ok (.iand, 1) := by decide +kernel
theorem dX3_triangles_72 : decode cX3_triangles 72 = .ok (.istore 5, 2) := by decide +kernel
theorem dX3_triangles_74 : decode cX3_triangles 74 = .ok (.iload_n 2, 1) := by decide +kernel
theorem dX3_triangles_75 : decode cX3_triangles 75 = .ok (.iload 5, 2) := by decide +kernel
theorem dX3_triangles_77 : decode cX3_triangles 77 = .ok (.iload 4, 2) := by decide +kernel
theorem dX3_triangles_79 : decode cX3_triangles 79 = .ok (.invokestatic 80, 3) := by decide +kernel
theorem dX3_triangles_82 : decode cX3_triangles 82 = .ok (.iand, 1) := by decide +kernel
theorem dX3_triangles_83 : decode cX3_triangles 83 = .ok (.invokestatic 46, 3) := by decide +kernel
theorem dX3_triangles_86 : decode cX3_triangles 86 = .ok (.iadd, 1) := by decide +kernel
theorem dX3_triangles_87 : decode cX3_triangles 87 = .ok (.istore_n 2, 1) := by decide +kernel
theorem dX3_triangles_88 : decode cX3_triangles 88 = .ok (.iinc 4 1, 3) := by decide +kernel
theorem dX3_triangles_91 : decode cX3_triangles 91 = .ok (.goto (-74), 3) := by decide +kernel
theorem dX3_triangles_94 : decode cX3_triangles 94 = .ok (.iinc 3 1, 3) := by decide +kernel
theorem dX3_triangles_97 : decode cX3_triangles 97 = .ok (.goto (-93), 3) := by decide +kernel
theorem dX3_triangles_100 : decode cX3_triangles 100 = .ok (.iload_n 2, 1) := by decide +kernel
theorem dX3_triangles_101 : decode cX3_triangles 101 = .ok (.ireturn, 1) := by decide +kernel
theorem dX3_claws_0 : decode cX3_claws 0 = .ok (.iconst 0, 1) := by decide +kernel
theorem dX3_claws_1 : decode cX3_claws 1 = .ok (.istore_n 1, 1) := by decide +kernel
theorem dX3_claws_2 : decode cX3_claws 2 = .ok (.iconst 0, 1) := by decide +kernel
theorem dX3_claws_3 : decode cX3_claws 3 = .ok (.istore_n 2, 1) := by decide +kernel
theorem dX3_claws_4 : decode cX3_claws 4 = .ok (.iload_n 2, 1) := by decide +kernel
theorem dX3_claws_5 : decode cX3_claws 5 = .ok (.aload_n 0, 1) := by decide +kernel
theorem dX3_claws_6 : decode cX3_claws 6 = .ok (.getfield 15, 3) := by decide +kernel
theorem dX3_claws_9 : decode cX3_claws 9 = .ok (.if_icmp .ge 72, 3) := by decide +kernel
theorem dX3_claws_12 : decode cX3_claws 12 = .ok (.aload_n 0, 1) := by decide +kernel
theorem dX3_claws_13 : decode cX3_claws 13 = .ok (.getfield 9, 3) := by decide +kernel
theorem dX3_claws_16 : decode cX3_claws 16 = .ok (.iload_n 2, 1) := by decide +kernel
theorem dX3_claws_17 : decode cX3_claws 17 = .ok (.invokestatic 27, 3) := by decide +kernel
theorem dX3_claws_20 : decode cX3_claws 20 = .ok (.istore_n 3, 1) := by decide +kernel
theorem dX3_claws_21 : decode cX3_claws 21 = .ok (.iconst 0, 1) := by decide +kernel
theorem dX3_claws_22 : decode cX3_claws 22 = .ok (.istore 4, 2) := by decide +kernel
theorem dX3_claws_24 : decode cX3_claws 24 = .ok (.iload 4, 2) := by decide +kernel
theorem dX3_claws_26 : decode cX3_claws 26 = .ok (.aload_n 0, 1) := by decide +kernel
theorem dX3_claws_27 : decode cX3_claws 27 = .ok (.getfield 15, 3) := by decide +kernel
theorem dX3_claws_30 : decode cX3_claws 30 = .ok (.if_icmp .ge 45, 3) := by decide +kernel
theorem dX3_claws_33 : decode cX3_claws 33 = .ok (.iload 4, 2) := by decide +kernel
theorem dX3_claws_35 : decode cX3_claws 35 = .ok (.iconst 1, 1) := by decide +kernel
theorem dX3_claws_36 : decode cX3_claws 36 = .ok (.iadd, 1) := by decide +kernel
theorem dX3_claws_37 : decode cX3_claws 37 = .ok (.istore 5, 2) := by decide +kernel
theorem dX3_claws_39 : decode cX3_claws 39 = .ok (.iload 5, 2) := by decide +kernel
theorem dX3_claws_41 : decode cX3_claws 41 = .ok (.aload_n 0, 1) := by decide +kernel
theorem dX3_claws_42 : decode cX3_claws 42 = .ok (.getfield 15, 3) := by decide +kernel
theorem dX3_claws_45 : decode cX3_claws 45 = .ok (.if_icmp .ge 24, 3) := by decide +kernel
theorem dX3_claws_48 : decode cX3_claws 48 = .ok (.iload_n 1, 1) := by decide +kernel
theorem dX3_claws_49 : decode cX3_claws 49 = .ok (.aload_n 0, 1) := by decide +kernel
theorem dX3_claws_50 : decode cX3_claws 50 = .ok (.iload_n 3, 1) := by decide +kernel
theorem dX3_claws_51 : decode cX3_claws 51 = .ok (.iload 4, 2) := by decide +kernel
theorem dX3_claws_53 : decode cX3_claws 53 = .ok (.iload 5, 2) := by decide +kernel
theorem dX3_claws_55 : decode cX3_claws 55 = .ok (.invokevirtual 83, 3) := by decide +kernel
theorem dX3_claws_58 : decode cX3_claws 58 = .ok (.invokestatic 46, 3) := by decide +kernel
theorem dX3_claws_61 : decode cX3_claws 61 = .ok (.iadd, 1) := by decide +kernel
theorem dX3_claws_62 : decode cX3_claws 62 = .ok (.istore_n 1, 1) := by decide +kernel
theorem dX3_claws_63 : decode cX3_claws 63 = .ok (.iinc 5 1, 3) := by decide +kernel
theorem dX3_claws_66 : decode cX3_claws 66 = .ok (.goto (-27), 3) := by decide +kernel
theorem dX3_claws_69 : decode cX3_claws 69 = .ok (.iinc 4 1, 3) := by decide +kernel
theorem dX3_claws_72 : decode cX3_claws 72 = .ok (.goto (-48), 3) := by decide +kernel
theorem dX3_claws_75 : decode cX3_claws 75 = .ok (.iinc 2 1, 3) := by decide +kernel
theorem dX3_claws_78 : decode cX3_claws 78 = .ok (.goto (-74), 3) := by decide +kernel
theorem dX3_claws_81 : decode cX3_claws 81 = .ok (.iload_n 1, 1) := by decide +kernel
theorem dX3_claws_82 : decode cX3_claws 82 = .ok (.ireturn, 1) := by decide +kernel
theorem dX3_leastClaw_0 : decode cX3_leastClaw 0 = .ok (.iconst 0, 1) := by decide +kernel
theorem dX3_leastClaw_1 : decode cX3_leastClaw 1 = .ok (.istore_n 1, 1) := by decide +kernel
theorem dX3_leastClaw_2 : decode cX3_leastClaw 2 = .ok (.iconst 0, 1) := by decide +kernel
theorem dX3_leastClaw_3 : decode cX3_leastClaw 3 = .ok (.istore_n 2, 1) := by decide +kernel
theorem dX3_leastClaw_4 : decode cX3_leastClaw 4 = .ok (.iload_n 2, 1) := by decide +kernel
theorem dX3_leastClaw_5 : decode cX3_leastClaw 5 = .ok (.aload_n 0, 1) := by decide +kernel
theorem dX3_leastClaw_6 : decode cX3_leastClaw 6 = .ok (.getfield 15, 3) := by decide +kernel
theorem dX3_leastClaw_9 : decode cX3_leastClaw 9 = .ok (.if_icmp .ge 108, 3) := by decide +kernel
theorem dX3_leastClaw_12 : decode cX3_leastClaw 12 = .ok (.aload_n 0, 1) := by decide +kernel
theorem dX3_leastClaw_13 : decode cX3_leastClaw 13 = .ok (.getfield 9, 3) := by decide +kernel
theorem dX3_leastClaw_16 : decode cX3_leastClaw 16 = .ok (.iload_n 2, 1) := by decide +kernel
theorem dX3_leastClaw_17 : decode cX3_leastClaw 17 = .ok (.invokestatic 27, 3) := by decide +kernel
theorem dX3_leastClaw_20 : decode cX3_leastClaw 20 = .ok (.istore_n 3, 1) := by decide +kernel
theorem dX3_leastClaw_21 : decode cX3_leastClaw 21 = .ok (.iconst 0, 1) := by decide +kernel
theorem dX3_leastClaw_22 : decode cX3_leastClaw 22 = .ok (.istore 4, 2) := by decide +kernel
theorem dX3_leastClaw_24 : decode cX3_leastClaw 24 = .ok (.iload 4, 2) := by decide +kernel
theorem dX3_leastClaw_26 : decode cX3_leastClaw 26 = .ok (.aload_n 0, 1) := by decide +kernel
theorem dX3_leastClaw_27 : decode cX3_leastClaw 27 = .ok (.getfield 15, 3) := by decide +kernel
theorem dX3_leastClaw_30 : decode cX3_leastClaw 30 = .ok (.if_icmp .ge 81, 3) := by decide +kernel
theorem dX3_leastClaw_33 : decode cX3_leastClaw 33 = .ok (.iload 4, 2) := by decide +kernel
theorem dX3_leastClaw_35 : decode cX3_leastClaw 35 = .ok (.iconst 1, 1) := by decide +kernel
theorem dX3_leastClaw_36 : decode cX3_leastClaw 36 = .ok (.iadd, 1) := by decide +kernel
theorem dX3_leastClaw_37 : decode cX3_leastClaw 37 = .ok (.istore 5, 2) := by decide +kernel
theorem dX3_leastClaw_39 : decode cX3_leastClaw 39 = .ok (.iload 5, 2) := by decide +kernel
theorem dX3_leastClaw_41 : decode cX3_leastClaw 41 = .ok (.aload_n 0, 1) := by decide +kernel
theorem dX3_leastClaw_42 : decode cX3_leastClaw 42 = .ok (.getfield 15, 3) := by decide +kernel
theorem dX3_leastClaw_45 : decode cX3_leastClaw 45 = .ok (.if_icmp .ge 60, 3) := by decide +kernel
theorem dX3_leastClaw_48 : decode cX3_leastClaw 48 = .ok (.aload_n 0, 1) := by decide +kernel
theorem dX3_leastClaw_49 : decode cX3_leastClaw 49 = .ok (.iload_n 3, 1) := by decide +kernel
theorem dX3_leastClaw_50 : decode cX3_leastClaw 50 = .ok (.iload 4, 2) := by decide +kernel
theorem dX3_leastClaw_52 : decode cX3_leastClaw 52 = .ok (.iload 5, 2) := by decide +kernel
theorem dX3_leastClaw_54 : decode cX3_leastClaw 54 = .ok (.invokevirtual 83, 3) := by decide +kernel
theorem dX3_leastClaw_57 : decode cX3_leastClaw 57 = .ok (.istore 6, 2) := by decide +kernel
theorem dX3_leastClaw_59 : decode cX3_leastClaw 59 = .ok (.iconst 1, 1) := by decide +kernel
theorem dX3_leastClaw_60 : decode cX3_leastClaw 60 = .ok (.iload_n 2, 1) := by decide +kernel
theorem dX3_leastClaw_61 : decode cX3_leastClaw 61 = .ok (.ishl, 1) := by decide +kernel
theorem dX3_leastClaw_62 : decode cX3_leastClaw 62 = .ok (.iconst 1, 1) := by decide +kernel
theorem dX3_leastClaw_63 : decode cX3_leastClaw 63 = .ok (.iload 4, 2) := by decide +kernel
theorem dX3_leastClaw_65 : decode cX3_leastClaw 65 = .ok (.ishl, 1) := by decide +kernel
theorem dX3_leastClaw_66 : decode cX3_leastClaw 66 = .ok (.ior, 1) := by decide +kernel
theorem dX3_leastClaw_67 : decode cX3_leastClaw 67 = .ok (.iconst 1, 1) := by decide +kernel
theorem dX3_leastClaw_68 : decode cX3_leastClaw 68 = .ok (.iload 5, 2) := by decide +kernel
theorem dX3_leastClaw_70 : decode cX3_leastClaw 70 = .ok (.ishl, 1) := by decide +kernel
theorem dX3_leastClaw_71 : decode cX3_leastClaw 71 = .ok (.ior, 1) := by decide +kernel
theorem dX3_leastClaw_72 : decode cX3_leastClaw 72 = .ok (.iload 6, 2) := by decide +kernel
theorem dX3_leastClaw_74 : decode cX3_leastClaw 74 = .ok (.iload 6, 2) := by decide +kernel
theorem dX3_leastClaw_76 : decode cX3_leastClaw 76 = .ok (.ineg, 1) := by decide +kernel
theorem dX3_leastClaw_77 : decode cX3_leastClaw 77 = .ok (.iand, 1) := by decide +kernel
theorem dX3_leastClaw_78 : decode cX3_leastClaw 78 = .ok (.ior, 1) := by decide +kernel
theorem dX3_leastClaw_79 : decode cX3_leastClaw 79 = .ok (.istore 7, 2) := by decide +kernel
theorem dX3_leastClaw_81 : decode cX3_leastClaw 81 = .ok (.iload 6, 2) := by decide +kernel
theorem dX3_leastClaw_83 : decode cX3_leastClaw 83 = .ok (.ifCond .eq 16, 3) := by decide +kernel
theorem dX3_leastClaw_86 : decode cX3_leastClaw 86 = .ok (.iload_n 1, 1) := by decide +kernel
theorem dX3_leastClaw_87 : decode cX3_leastClaw 87 = .ok (.ifCond .eq 9, 3) := by decide +kernel
theorem dX3_leastClaw_90 : decode cX3_leastClaw 90 = .ok (.iload 7, 2) := by decide +kernel
theorem dX3_leastClaw_92 : decode cX3_leastClaw 92 = .ok (.iload_n 1, 1) := by decide +kernel
theorem dX3_leastClaw_93 : decode cX3_leastClaw 93 = .ok (.if_icmp .ge 6, 3) := by decide +kernel
theorem dX3_leastClaw_96 : decode cX3_leastClaw 96 = .ok (.iload 7, 2) := by decide +kernel
theorem dX3_leastClaw_98 : decode cX3_leastClaw 98 = .ok (.istore_n 1, 1) := by decide +kernel
theorem dX3_leastClaw_99 : decode cX3_leastClaw 99 = .ok (.iinc 5 1, 3) := by decide +kernel
theorem dX3_leastClaw_102 : decode cX3_leastClaw 102 = .ok (.goto (-63), 3) := by decide +kernel
theorem dX3_leastClaw_105 : decode cX3_leastClaw 105 = .ok (.iinc 4 1, 3) := by decide +kernel
theorem dX3_leastClaw_108 : decode cX3_leastClaw 108 = .ok (.goto (-84), 3) := by decide +kernel
theorem dX3_leastClaw_111 : decode cX3_leastClaw 111 = .ok (.iinc 2 1, 3) := by decide +kernel
theorem dX3_leastClaw_114 : decode cX3_leastClaw 114 = .ok (.goto (-110), 3) := by decide +kernel
theorem dX3_leastClaw_117 : decode cX3_leastClaw 117 = .ok (.iload_n 1, 1) := by decide +kernel
theorem dX3_leastClaw_118 : decode cX3_leastClaw 118 = .ok (.ireturn, 1) := by decide +kernel
theorem dX3_clawEnds_0 : decode cX3_clawEnds 0 = .ok (.iload_n 1, 1) := by decide +kernel
theorem dX3_clawEnds_1 : decode cX3_clawEnds 1 = .ok (.iload_n 2, 1) := by decide +kernel
theorem dX3_clawEnds_2 : decode cX3_clawEnds 2 = .ok (.invokestatic 31, 3) := by decide +kernel
theorem dX3_clawEnds_5 : decode cX3_clawEnds 5 = .ok (.ifCond .eq 20, 3) := by decide +kernel
theorem dX3_clawEnds_8 : decode cX3_clawEnds 8 = .ok (.iload_n 1, 1) := by decide +kernel
theorem dX3_clawEnds_9 : decode cX3_clawEnds 9 = .ok (.iload_n 3, 1) := by decide +kernel
theorem dX3_clawEnds_10 : decode cX3_clawEnds 10 = .ok (.invokestatic 31, 3) := by decide +kernel
theorem dX3_clawEnds_13 : decode cX3_clawEnds 13 = .ok (.ifCond .eq 12, 3) := by decide +kernel
theorem dX3_clawEnds_16 : decode cX3_clawEnds 16 = .ok (.aload_n 0, 1) := by decide +kernel
theorem dX3_clawEnds_17 : decode cX3_clawEnds 17 = .ok (.iload_n 2, 1) := by decide +kernel
theorem dX3_clawEnds_18 : decode cX3_clawEnds 18 = .ok (.iload_n 3, 1) := by decide +kernel
theorem dX3_clawEnds_19 : decode cX3_clawEnds 19 = .ok (.invokevirtual 61, 3) := by decide +kernel
theorem dX3_clawEnds_22 : decode cX3_clawEnds 22 = .ok (.ifCond .eq 5, 3) := by decide +kernel
theorem dX3_clawEnds_25 : decode cX3_clawEnds 25 = .ok (.iconst 0, 1) := by decide +kernel
theorem dX3_clawEnds_26 : decode cX3_clawEnds 26 = .ok (.ireturn, 1) := by decide +kernel
theorem dX3_clawEnds_27 : decode cX3_clawEnds 27 = .ok (.iload_n 1, 1) := by decide +kernel
theorem dX3_clawEnds_28 : decode cX3_clawEnds 28 = .ok (.iload_n 3, 1) := by decide +kernel
theorem dX3_clawEnds_29 : decode cX3_clawEnds 29 = .ok (.invokestatic 80, 3) := by decide +kernel
theorem dX3_clawEnds_32 : decode cX3_clawEnds 32 = .ok (.iand, 1) := by decide +kernel
theorem dX3_clawEnds_33 : decode cX3_clawEnds 33 = .ok (.aload_n 0, 1) := by decide +kernel
theorem dX3_clawEnds_34 : decode cX3_clawEnds 34 = .ok (.getfield 9, 3) := by decide +kernel
theorem dX3_clawEnds_37 : decode cX3_clawEnds 37 = .ok (.iload_n 2, 1) := by decide +kernel
theorem dX3_clawEnds_38 : decode cX3_clawEnds 38 = .ok (.invokestatic 27, 3) := by decide +kernel
theorem dX3_clawEnds_41 : decode cX3_clawEnds 41 = .ok (.iconst (-1), 1) := by decide +kernel
theorem dX3_clawEnds_42 : decode cX3_clawEnds 42 = .ok (.ixor, 1) := by decide +kernel
theorem dX3_clawEnds_43 : decode cX3_clawEnds 43 = .ok (.iand, 1) := by decide +kernel
theorem dX3_clawEnds_44 : decode cX3_clawEnds 44 = .ok (.aload_n 0, 1) := by decide +kernel
theorem dX3_clawEnds_45 : decode cX3_clawEnds 45 = .ok (.getfield 9, 3) := by decide +kernel
theorem dX3_clawEnds_48 : decode cX3_clawEnds 48 = .ok (.iload_n 3, 1) := by decide +kernel
theorem dX3_clawEnds_49 : decode cX3_clawEnds 49 = .ok (.invokestatic 27, 3) := by decide +kernel
theorem dX3_clawEnds_52 : decode cX3_clawEnds 52 = .ok (.iconst (-1), 1) := by decide +kernel
theorem dX3_clawEnds_53 : decode cX3_clawEnds 53 = .ok (.ixor, 1) := by decide +kernel
theorem dX3_clawEnds_54 : decode cX3_clawEnds 54 = .ok (.iand, 1) := by decide +kernel
theorem dX3_clawEnds_55 : decode cX3_clawEnds 55 = .ok (.ireturn, 1) := by decide +kernel
theorem dX3_hasCover_0 : decode cX3_hasCover 0 = .ok (.aload_n 0, 1) := by decide +kernel
theorem dX3_hasCover_1 : decode cX3_hasCover 1 = .ok (.iload_n 1, 1) := by decide +kernel
theorem dX3_hasCover_2 : decode cX3_hasCover 2 = .ok (.invokevirtual 86, 3) := by decide +kernel
theorem dX3_hasCover_5 : decode cX3_hasCover 5 = .ok (.ifCond .ne 15, 3) := by decide +kernel
theorem dX3_hasCover_8 : decode cX3_hasCover 8 = .ok (.aload_n 0, 1) := by decide +kernel
theorem dX3_hasCover_9 : decode cX3_hasCover 9 = .ok (.iload_n 1, 1) := by decide +kernel
theorem dX3_hasCover_10 : decode cX3_hasCover 10 = .ok (.invokevirtual 89, 3) := by decide +kernel
theorem dX3_hasCover_13 : decode cX3_hasCover 13 = .ok (.ifCond .ne 7, 3) := by decide +kernel
theorem dX3_hasCover_16 : decode cX3_hasCover 16 = .ok (.iconst 1, 1) := by decide +kernel
theorem dX3_hasCover_17 : decode cX3_hasCover 17 = .ok (.goto 4, 3) := by decide +kernel
theorem dX3_hasCover_20 : decode cX3_hasCover 20 = .ok (.iconst 0, 1) := by decide +kernel
theorem dX3_hasCover_21 : decode cX3_hasCover 21 = .ok (.ireturn, 1) := by decide +kernel
theorem dX3_hasClaw_0 : decode cX3_hasClaw 0 = .ok (.iconst 0, 1) := by decide +kernel
theorem dX3_hasClaw_1 : decode cX3_hasClaw 1 = .ok (.istore_n 2, 1) := by decide +kernel
theorem dX3_hasClaw_2 : decode cX3_hasClaw 2 = .ok (.iload_n 2, 1) := by decide +kernel
theorem dX3_hasClaw_3 : decode cX3_hasClaw 3 = .ok (.aload_n 0, 1) := by decide +kernel
theorem dX3_hasClaw_4 : decode cX3_hasClaw 4 = .ok (.getfield 15, 3) := by decide +kernel
theorem dX3_hasClaw_7 : decode cX3_hasClaw 7 = .ok (.if_icmp .ge 36, 3) := by decide +kernel
theorem dX3_hasClaw_10 : decode cX3_hasClaw 10 = .ok (.iload_n 1, 1) := by decide +kernel
theorem dX3_hasClaw_11 : decode cX3_hasClaw 11 = .ok (.iload_n 2, 1) := by decide +kernel
theorem dX3_hasClaw_12 : decode cX3_hasClaw 12 = .ok (.invokestatic 31, 3) := by decide +kernel
theorem dX3_hasClaw_15 : decode cX3_hasClaw 15 = .ok (.ifCond .eq 22, 3) := by decide +kernel
theorem dX3_hasClaw_18 : decode cX3_hasClaw 18 = .ok (.aload_n 0, 1) := by decide +kernel
theorem dX3_hasClaw_19 : decode cX3_hasClaw 19 = .ok (.aload_n 0, 1) := by decide +kernel
theorem dX3_hasClaw_20 : decode cX3_hasClaw 20 = .ok (.getfield 9, 3) := by decide +kernel
theorem dX3_hasClaw_23 : decode cX3_hasClaw 23 = .ok (.iload_n 2, 1) := by decide +kernel
theorem dX3_hasClaw_24 : decode cX3_hasClaw 24 = .ok (.invokestatic 27, 3) := by decide +kernel
theorem dX3_hasClaw_27 : decode cX3_hasClaw 27 = .ok (.iload_n 1, 1) := by decide +kernel
theorem dX3_hasClaw_28 : decode cX3_hasClaw 28 = .ok (.iand, 1) := by decide +kernel
theorem dX3_hasClaw_29 : decode cX3_hasClaw 29 = .ok (.invokevirtual 92, 3) := by decide +kernel
theorem dX3_hasClaw_32 : decode cX3_hasClaw 32 = .ok (.ifCond .eq 5, 3) := by decide +kernel
theorem dX3_hasClaw_35 : decode cX3_hasClaw 35 = .ok (.iconst 1, 1) := by decide +kernel
theorem dX3_hasClaw_36 : decode cX3_hasClaw 36 = .ok (.ireturn, 1) := by decide +kernel
theorem dX3_hasClaw_37 : decode cX3_hasClaw 37 = .ok (.iinc 2 1, 3) := by decide +kernel
theorem dX3_hasClaw_40 : decode cX3_hasClaw 40 = .ok (.goto (-38), 3) := by decide +kernel
theorem dX3_hasClaw_43 : decode cX3_hasClaw 43 = .ok (.iconst 0, 1) := by decide +kernel
theorem dX3_hasClaw_44 : decode cX3_hasClaw 44 = .ok (.ireturn, 1) := by decide +kernel
theorem dX3_hasThreeUntied_0 : decode cX3_hasThreeUntied 0 = .ok (.iload_n 1, 1) := by decide +kernel
theorem dX3_hasThreeUntied_1 : decode cX3_hasThreeUntied 1 = .ok (.invokestatic 46, 3) := by decide +kernel
theorem dX3_hasThreeUntied_4 : decode cX3_hasThreeUntied 4 = .ok (.iconst 3, 1) := by decide +kernel
theorem dX3_hasThreeUntied_5 : decode cX3_hasThreeUntied 5 = .ok (.if_icmp .ge 5, 3) := by decide +kernel
theorem dX3_hasThreeUntied_8 : decode cX3_hasThreeUntied 8 = .ok (.iconst 0, 1) := by decide +kernel
theorem dX3_hasThreeUntied_9 : decode cX3_hasThreeUntied 9 = .ok (.ireturn, 1) := by decide +kernel
theorem dX3_hasThreeUntied_10 : decode cX3_hasThreeUntied 10 = .ok (.iconst 0, 1) := by decide +kernel
theorem dX3_hasThreeUntied_11 : decode cX3_hasThreeUntied 11 = .ok (.istore_n 2, 1) := by decide +kernel
theorem dX3_hasThreeUntied_12 : decode cX3_hasThreeUntied 12 = .ok (.iload_n 2, 1) := by decide +kernel
theorem dX3_hasThreeUntied_13 : decode cX3_hasThreeUntied 13 = .ok (.aload_n 0, 1) := by decide +kernel
theorem dX3_hasThreeUntied_14 : decode cX3_hasThreeUntied 14 = .ok (.getfield 15, 3) := by decide +kernel
theorem dX3_hasThreeUntied_17 : decode cX3_hasThreeUntied 17 = .ok (.if_icmp .ge 91, 3) := by decide +kernel
theorem dX3_hasThreeUntied_20 : decode cX3_hasThreeUntied 20 = .ok (.iload_n 1, 1) := by decide +kernel
theorem dX3_hasThreeUntied_21 : decode cX3_hasThreeUntied 21 = .ok (.iload_n 2, 1) := by decide +kernel
theorem dX3_hasThreeUntied_22 : decode cX3_hasThreeUntied 22 = .ok (.invokestatic 31, 3) := by decide +kernel
theorem dX3_hasThreeUntied_25 : decode cX3_hasThreeUntied 25 = .ok (.ifCond .ne 6, 3) := by decide +kernel
theorem dX3_hasThreeUntied_28 : decode cX3_hasThreeUntied 28 = .ok (.goto 74, 3) := by decide +kernel
theorem dX3_hasThreeUntied_31 : decode cX3_hasThreeUntied 31 = .ok (.iload_n 1, 1) := by decide +kernel
theorem dX3_hasThreeUntied_32 : decode cX3_hasThreeUntied 32 = .ok (.iload_n 2, 1) := by decide +kernel
theorem dX3_hasThreeUntied_33 : decode cX3_hasThreeUntied 33 = .ok (.invokestatic 80, 3) := by decide +kernel
theorem dX3_hasThreeUntied_36 : decode cX3_hasThreeUntied 36 = .ok (.iand, 1) := by decide +kernel
theorem dX3_hasThreeUntied_37 : decode cX3_hasThreeUntied 37 = .ok (.aload_n 0, 1) := by decide +kernel
theorem dX3_hasThreeUntied_38 : decode cX3_hasThreeUntied 38 = .ok (.getfield 9, 3) := by decide +kernel
theorem dX3_hasThreeUntied_41 : decode cX3_hasThreeUntied 41 = .ok (.iload_n 2, 1) := by decide +kernel
theorem dX3_hasThreeUntied_42 : decode cX3_hasThreeUntied 42 = .ok (.invokestatic 27, 3) := by decide +kernel
theorem dX3_hasThreeUntied_45 : decode cX3_hasThreeUntied 45 = .ok (.iconst (-1), 1) := by decide +kernel
theorem dX3_hasThreeUntied_46 : decode cX3_hasThreeUntied 46 = .ok (.ixor, 1) := by decide +kernel
theorem dX3_hasThreeUntied_47 : decode cX3_hasThreeUntied 47 = .ok (.iand, 1) := by decide +kernel
theorem dX3_hasThreeUntied_48 : decode cX3_hasThreeUntied 48 = .ok (.istore_n 3, 1) := by decide +kernel
theorem dX3_hasThreeUntied_49 : decode cX3_hasThreeUntied 49 = .ok (.iload_n 2, 1) := by decide +kernel
theorem dX3_hasThreeUntied_50 : decode cX3_hasThreeUntied 50 = .ok (.iconst 1, 1) := by decide +kernel
theorem dX3_hasThreeUntied_51 : decode cX3_hasThreeUntied 51 = .ok (.iadd, 1) := by decide +kernel
theorem dX3_hasThreeUntied_52 : decode cX3_hasThreeUntied 52 = .ok (.istore 4, 2) := by decide +kernel
theorem dX3_hasThreeUntied_54 : decode cX3_hasThreeUntied 54 = .ok (.iload 4, 2) := by decide +kernel
theorem dX3_hasThreeUntied_56 : decode cX3_hasThreeUntied 56 = .ok (.aload_n 0, 1) := by decide +kernel
theorem dX3_hasThreeUntied_57 : decode cX3_hasThreeUntied 57 = .ok (.getfield 15, 3) := by decide +kernel
theorem dX3_hasThreeUntied_60 : decode cX3_hasThreeUntied 60 = .ok (.if_icmp .ge 42, 3) := by decide +kernel
theorem dX3_hasThreeUntied_63 : decode cX3_hasThreeUntied 63 = .ok (.iload_n 3, 1) := by decide +kernel
theorem dX3_hasThreeUntied_64 : decode cX3_hasThreeUntied 64 = .ok (.iload 4, 2) := by decide +kernel
theorem dX3_hasThreeUntied_66 : decode cX3_hasThreeUntied 66 = .ok (.invokestatic 31, 3) := by decide +kernel
theorem dX3_hasThreeUntied_69 : decode cX3_hasThreeUntied 69 = .ok (.ifCond .eq 27, 3) := by decide +kernel
theorem dX3_hasThreeUntied_72 : decode cX3_hasThreeUntied 72 = .ok (.iload_n 3, 1) := by decide +kernel
theorem dX3_hasThreeUntied_73 : decode cX3_hasThreeUntied 73 = .ok (.iload 4, 2) := by decide +kernel
theorem dX3_hasThreeUntied_75 : decode cX3_hasThreeUntied 75 = .ok (.invokestatic 80, 3) := by decide +kernel
theorem dX3_hasThreeUntied_78 : decode cX3_hasThreeUntied 78 = .ok (.iand, 1) := by decide +kernel
theorem dX3_hasThreeUntied_79 : decode cX3_hasThreeUntied 79 = .ok (.aload_n 0, 1) := by decide +kernel
theorem dX3_hasThreeUntied_80 : decode cX3_hasThreeUntied 80 = .ok (.getfield 9, 3) := by decide +kernel
theorem dX3_hasThreeUntied_83 : decode cX3_hasThreeUntied 83 = .ok (.iload 4, 2) := by decide +kernel
theorem dX3_hasThreeUntied_85 : decode cX3_hasThreeUntied 85 = .ok (.invokestatic 27, 3) := by decide +kernel
theorem dX3_hasThreeUntied_88 : decode cX3_hasThreeUntied 88 = .ok (.iconst (-1), 1) := by decide +kernel
theorem dX3_hasThreeUntied_89 : decode cX3_hasThreeUntied 89 = .ok (.ixor, 1) := by decide +kernel
theorem dX3_hasThreeUntied_90 : decode cX3_hasThreeUntied 90 = .ok (.iand, 1) := by decide +kernel
theorem dX3_hasThreeUntied_91 : decode cX3_hasThreeUntied 91 = .ok (.ifCond .eq 5, 3) := by decide +kernel
theorem dX3_hasThreeUntied_94 : decode cX3_hasThreeUntied 94 = .ok (.iconst 1, 1) := by decide +kernel
theorem dX3_hasThreeUntied_95 : decode cX3_hasThreeUntied 95 = .ok (.ireturn, 1) := by decide +kernel
theorem dX3_hasThreeUntied_96 : decode cX3_hasThreeUntied 96 = .ok (.iinc 4 1, 3) := by decide +kernel
theorem dX3_hasThreeUntied_99 : decode cX3_hasThreeUntied 99 = .ok (.goto (-45), 3) := by decide +kernel
theorem dX3_hasThreeUntied_102 : decode cX3_hasThreeUntied 102 = .ok (.iinc 2 1, 3) := by decide +kernel
theorem dX3_hasThreeUntied_105 : decode cX3_hasThreeUntied 105 = .ok (.goto (-93), 3) := by decide +kernel
theorem dX3_hasThreeUntied_108 : decode cX3_hasThreeUntied 108 = .ok (.iconst 0, 1) := by decide +kernel
theorem dX3_hasThreeUntied_109 : decode cX3_hasThreeUntied 109 = .ok (.ireturn, 1) := by decide +kernel
theorem dX3_hasOddPair_0 : decode cX3_hasOddPair 0 = .ok (.iconst 0, 1) := by decide +kernel
theorem dX3_hasOddPair_1 : decode cX3_hasOddPair 1 = .ok (.istore_n 2, 1) := by decide +kernel
theorem dX3_hasOddPair_2 : decode cX3_hasOddPair 2 = .ok (.iload_n 2, 1) := by decide +kernel
theorem dX3_hasOddPair_3 : decode cX3_hasOddPair 3 = .ok (.aload_n 0, 1) := by decide +kernel
theorem dX3_hasOddPair_4 : decode cX3_hasOddPair 4 = .ok (.getfield 15, 3) := by decide +kernel
theorem dX3_hasOddPair_7 : decode cX3_hasOddPair 7 = .ok (.if_icmp .ge 80, 3) := by decide +kernel
theorem dX3_hasOddPair_10 : decode cX3_hasOddPair 10 = .ok (.iload_n 1, 1) := by decide +kernel
theorem dX3_hasOddPair_11 : decode cX3_hasOddPair 11 = .ok (.iload_n 2, 1) := by decide +kernel
theorem dX3_hasOddPair_12 : decode cX3_hasOddPair 12 = .ok (.invokestatic 31, 3) := by decide +kernel
theorem dX3_hasOddPair_15 : decode cX3_hasOddPair 15 = .ok (.ifCond .ne 6, 3) := by decide +kernel
theorem dX3_hasOddPair_18 : decode cX3_hasOddPair 18 = .ok (.goto 63, 3) := by decide +kernel
theorem dX3_hasOddPair_21 : decode cX3_hasOddPair 21 = .ok (.aload_n 0, 1) := by decide +kernel
theorem dX3_hasOddPair_22 : decode cX3_hasOddPair 22 = .ok (.getfield 9, 3) := by decide +kernel
theorem dX3_hasOddPair_25 : decode cX3_hasOddPair 25 = .ok (.iload_n 2, 1) := by decide +kernel
theorem dX3_hasOddPair_26 : decode cX3_hasOddPair 26 = .ok (.invokestatic 27, 3) := by decide +kernel
theorem dX3_hasOddPair_29 : decode cX3_hasOddPair 29 = .ok (.iload_n 1, 1) := by decide +kernel
theorem dX3_hasOddPair_30 : decode cX3_hasOddPair 30 = .ok (.iand, 1) := by decide +kernel
theorem dX3_hasOddPair_31 : decode cX3_hasOddPair 31 = .ok (.istore_n 3, 1) := by decide +kernel
theorem dX3_hasOddPair_32 : decode cX3_hasOddPair 32 = .ok (.iload_n 2, 1) := by decide +kernel
theorem dX3_hasOddPair_33 : decode cX3_hasOddPair 33 = .ok (.iconst 1, 1) := by decide +kernel
theorem dX3_hasOddPair_34 : decode cX3_hasOddPair 34 = .ok (.iadd, 1) := by decide +kernel
theorem dX3_hasOddPair_35 : decode cX3_hasOddPair 35 = .ok (.istore 4, 2) := by decide +kernel
theorem dX3_hasOddPair_37 : decode cX3_hasOddPair 37 = .ok (.iload 4, 2) := by decide +kernel
theorem dX3_hasOddPair_39 : decode cX3_hasOddPair 39 = .ok (.aload_n 0, 1) := by decide +kernel
theorem dX3_hasOddPair_40 : decode cX3_hasOddPair 40 = .ok (.getfield 15, 3) := by decide +kernel
theorem dX3_hasOddPair_43 : decode cX3_hasOddPair 43 = .ok (.if_icmp .ge 38, 3) := by decide +kernel
theorem dX3_hasOddPair_46 : decode cX3_hasOddPair 46 = .ok (.iload_n 3, 1) := by decide +kernel
theorem dX3_hasOddPair_47 : decode cX3_hasOddPair 47 = .ok (.iload 4, 2) := by decide +kernel
theorem dX3_hasOddPair_49 : decode cX3_hasOddPair 49 = .ok (.invokestatic 31, 3) := by decide +kernel
theorem dX3_hasOddPair_52 : decode cX3_hasOddPair 52 = .ok (.ifCond .eq 23, 3) := by decide +kernel
theorem dX3_hasOddPair_55 : decode cX3_hasOddPair 55 = .ok (.aload_n 0, 1) := by decide +kernel
theorem dX3_hasOddPair_56 : decode cX3_hasOddPair 56 = .ok (.getfield 9, 3) := by decide +kernel
theorem dX3_hasOddPair_59 : decode cX3_hasOddPair 59 = .ok (.aload_n 0, 1) := by decide +kernel
theorem dX3_hasOddPair_60 : decode cX3_hasOddPair 60 = .ok (.iload_n 2, 1) := by decide +kernel
theorem dX3_hasOddPair_61 : decode cX3_hasOddPair 61 = .ok (.iload 4, 2) := by decide +kernel
theorem dX3_hasOddPair_63 : decode cX3_hasOddPair 63 = .ok (.iload_n 1, 1) := by decide +kernel
theorem dX3_hasOddPair_64 : decode cX3_hasOddPair 64 = .ok (.invokevirtual 76, 3) := by decide +kernel
theorem dX3_hasOddPair_67 : decode cX3_hasOddPair 67 = .ok (.invokestatic 95, 3) := by decide +kernel
theorem dX3_hasOddPair_70 : decode cX3_hasOddPair 70 = .ok (.ifCond .ne 5, 3) := by decide +kernel
theorem dX3_hasOddPair_73 : decode cX3_hasOddPair 73 = .ok (.iconst 1, 1) := by decide +kernel
theorem dX3_hasOddPair_74 : decode cX3_hasOddPair 74 = .ok (.ireturn, 1) := by decide +kernel
theorem dX3_hasOddPair_75 : decode cX3_hasOddPair 75 = .ok (.iinc 4 1, 3) := by decide +kernel
theorem dX3_hasOddPair_78 : decode cX3_hasOddPair 78 = .ok (.goto (-41), 3) := by decide +kernel
theorem dX3_hasOddPair_81 : decode cX3_hasOddPair 81 = .ok (.iinc 2 1, 3) := by decide +kernel
theorem dX3_hasOddPair_84 : decode cX3_hasOddPair 84 = .ok (.goto (-82), 3) := by decide +kernel
theorem dX3_hasOddPair_87 : decode cX3_hasOddPair 87 = .ok (.iconst 0, 1) := by decide +kernel
theorem dX3_hasOddPair_88 : decode cX3_hasOddPair 88 = .ok (.ireturn, 1) := by decide +kernel
theorem dX3_oddTips_0 : decode cX3_oddTips 0 = .ok (.aload_n 0, 1) := by decide +kernel
theorem dX3_oddTips_1 : decode cX3_oddTips 1 = .ok (.getfield 9, 3) := by decide +kernel
theorem dX3_oddTips_4 : decode cX3_oddTips 4 = .ok (.iload_n 1, 1) := by decide +kernel
theorem dX3_oddTips_5 : decode cX3_oddTips 5 = .ok (.invokestatic 27, 3) := by decide +kernel
theorem dX3_oddTips_8 : decode cX3_oddTips 8 = .ok (.aload_n 0, 1) := by decide +kernel
theorem dX3_oddTips_9 : decode cX3_oddTips 9 = .ok (.getfield 9, 3) := by decide +kernel
theorem dX3_oddTips_12 : decode cX3_oddTips 12 = .ok (.iload_n 2, 1) := by decide +kernel
theorem dX3_oddTips_13 : decode cX3_oddTips 13 = .ok (.invokestatic 27, 3) := by decide +kernel
theorem dX3_oddTips_16 : decode cX3_oddTips 16 = .ok (.iand, 1) := by decide +kernel
theorem dX3_oddTips_17 : decode cX3_oddTips 17 = .ok (.iload_n 3, 1) := by decide +kernel
theorem dX3_oddTips_18 : decode cX3_oddTips 18 = .ok (.iand, 1) := by decide +kernel
theorem dX3_oddTips_19 : decode cX3_oddTips 19 = .ok (.istore 4, 2) := by decide +kernel
theorem dX3_oddTips_21 : decode cX3_oddTips 21 = .ok (.aload_n 0, 1) := by decide +kernel
theorem dX3_oddTips_22 : decode cX3_oddTips 22 = .ok (.getfield 9, 3) := by decide +kernel
theorem dX3_oddTips_25 : decode cX3_oddTips 25 = .ok (.iload_n 1, 1) := by decide +kernel
theorem dX3_oddTips_26 : decode cX3_oddTips 26 = .ok (.invokestatic 27, 3) := by decide +kernel
theorem dX3_oddTips_29 : decode cX3_oddTips 29 = .ok (.aload_n 0, 1) := by decide +kernel
theorem dX3_oddTips_30 : decode cX3_oddTips 30 = .ok (.getfield 9, 3) := by decide +kernel
theorem dX3_oddTips_33 : decode cX3_oddTips 33 = .ok (.iload_n 2, 1) := by decide +kernel
theorem dX3_oddTips_34 : decode cX3_oddTips 34 = .ok (.invokestatic 27, 3) := by decide +kernel
theorem dX3_oddTips_37 : decode cX3_oddTips 37 = .ok (.ixor, 1) := by decide +kernel
theorem dX3_oddTips_38 : decode cX3_oddTips 38 = .ok (.istore 5, 2) := by decide +kernel
theorem dX3_oddTips_40 : decode cX3_oddTips 40 = .ok (.iconst 0, 1) := by decide +kernel
theorem dX3_oddTips_41 : decode cX3_oddTips 41 = .ok (.istore 6, 2) := by decide +kernel
theorem dX3_oddTips_43 : decode cX3_oddTips 43 = .ok (.iconst 0, 1) := by decide +kernel
theorem dX3_oddTips_44 : decode cX3_oddTips 44 = .ok (.istore 7, 2) := by decide +kernel
theorem dX3_oddTips_46 : decode cX3_oddTips 46 = .ok (.iload 7, 2) := by decide +kernel
theorem dX3_oddTips_48 : decode cX3_oddTips 48 = .ok (.aload_n 0, 1) := by decide +kernel
theorem dX3_oddTips_49 : decode cX3_oddTips 49 = .ok (.getfield 15, 3) := by decide +kernel
theorem dX3_oddTips_52 : decode cX3_oddTips 52 = .ok (.if_icmp .ge 45, 3) := by decide +kernel
theorem dX3_oddTips_55 : decode cX3_oddTips 55 = .ok (.iload 4, 2) := by decide +kernel
theorem dX3_oddTips_57 : decode cX3_oddTips 57 = .ok (.iload 7, 2) := by decide +kernel
theorem dX3_oddTips_59 : decode cX3_oddTips 59 = .ok (.invokestatic 31, 3) := by decide +kernel
theorem dX3_oddTips_62 : decode cX3_oddTips 62 = .ok (.ifCond .eq 29, 3) := by decide +kernel
theorem dX3_oddTips_65 : decode cX3_oddTips 65 = .ok (.iload 5, 2) := by decide +kernel
theorem dX3_oddTips_67 : decode cX3_oddTips 67 = .ok (.aload_n 0, 1) := by decide +kernel
theorem dX3_oddTips_68 : decode cX3_oddTips 68 = .ok (.getfield 9, 3) := by decide +kernel
theorem dX3_oddTips_71 : decode cX3_oddTips 71 = .ok (.iload 7, 2) := by decide +kernel
theorem dX3_oddTips_73 : decode cX3_oddTips 73 = .ok (.invokestatic 27, 3) := by decide +kernel
theorem dX3_oddTips_76 : decode cX3_oddTips 76 = .ok (.ixor, 1) := by decide +kernel
theorem dX3_oddTips_77 : decode cX3_oddTips 77 = .ok (.iload_n 3, 1) := by decide +kernel
theorem dX3_oddTips_78 : decode cX3_oddTips 78 = .ok (.iand, 1) := by decide +kernel
theorem dX3_oddTips_79 : decode cX3_oddTips 79 = .ok (.ifCond .eq 12, 3) := by decide +kernel
theorem dX3_oddTips_82 : decode cX3_oddTips 82 = .ok (.iload 6, 2) := by decide +kernel
theorem dX3_oddTips_84 : decode cX3_oddTips 84 = .ok (.iconst 1, 1) := by decide +kernel
theorem dX3_oddTips_85 : decode cX3_oddTips 85 = .ok (.iload 7, 2) := by decide +kernel
theorem dX3_oddTips_87 : decode cX3_oddTips 87 = .ok (.ishl, 1) := by decide +kernel
theorem dX3_oddTips_88 : decode cX3_oddTips 88 = .ok (.ior, 1) := by decide +kernel
theorem dX3_oddTips_89 : decode cX3_oddTips 89 = .ok (.istore 6, 2) := by decide +kernel
theorem dX3_oddTips_91 : decode cX3_oddTips 91 = .ok (.iinc 7 1, 3) := by decide +kernel
theorem dX3_oddTips_94 : decode cX3_oddTips 94 = .ok (.goto (-48), 3) := by decide +kernel
theorem dX3_oddTips_97 : decode cX3_oddTips 97 = .ok (.iload 6, 2) := by decide +kernel
theorem dX3_oddTips_99 : decode cX3_oddTips 99 = .ok (.ireturn, 1) := by decide +kernel
theorem dX4_init_0 : decode cX4_init 0 = .ok (.aload_n 0, 1) := by decide +kernel
theorem dX4_init_1 : decode cX4_init 1 = .ok (.invokespecial 3, 3) := by decide +kernel
theorem dX4_init_4 : decode cX4_init 4 = .ok (.aload_n 0, 1) := by decide +kernel
theorem dX4_init_5 : decode cX4_init 5 = .ok (.bipush 14, 2) := by decide +kernel
theorem dX4_init_7 : decode cX4_init 7 = .ok (.newarray .int, 2) := by decide +kernel
theorem dX4_init_9 : decode cX4_init 9 = .ok (.putfield 9, 3) := by decide +kernel
theorem dX4_init_12 : decode cX4_init 12 = .ok (.aload_n 0, 1) := by decide +kernel
theorem dX4_init_13 : decode cX4_init 13 = .ok (.bipush 14, 2) := by decide +kernel
theorem dX4_init_15 : decode cX4_init 15 = .ok (.newarray .int, 2) := by decide +kernel
theorem dX4_init_17 : decode cX4_init 17 = .ok (.putfield 15, 3) := by decide +kernel
theorem dX4_init_20 : decode cX4_init 20 = .ok (.return_, 1) := by decide +kernel
theorem dX4_colourOf_0 : decode cX4_colourOf 0 = .ok (.aload_n 0, 1) := by decide +kernel
theorem dX4_colourOf_1 : decode cX4_colourOf 1 = .ok (.getfield 9, 3) := by decide +kernel
theorem dX4_colourOf_4 : decode cX4_colourOf 4 = .ok (.iload_n 1, 1) := by decide +kernel
theorem dX4_colourOf_5 : decode cX4_colourOf 5 = .ok (.invokestatic 18, 3) := by decide +kernel
theorem dX4_colourOf_8 : decode cX4_colourOf 8 = .ok (.ireturn, 1) := by decide +kernel
theorem dX4_paint_0 : decode cX4_paint 0 = .ok (.aload_n 2, 1) := by decide +kernel
theorem dX4_paint_1 : decode cX4_paint 1 = .ok (.aload_n 1, 1) := by decide +kernel
theorem dX4_paint_2 : decode cX4_paint 2 = .ok (.invokevirtual 22, 3) := by decide +kernel
theorem dX4_paint_5 : decode cX4_paint 5 = .ok (.aload_n 2, 1) := by decide +kernel
theorem dX4_paint_6 : decode cX4_paint 6 = .ok (.invokevirtual 28, 3) := by decide +kernel
theorem dX4_paint_9 : decode cX4_paint 9 = .ok (.istore_n 3, 1) := by decide +kernel
theorem dX4_paint_10 : decode cX4_paint 10 = .ok (.iload_n 3, 1) := by decide +kernel
theorem dX4_paint_11 : decode cX4_paint 11 = .ok (.aload_n 1, 1) := by decide +kernel
theorem dX4_paint_12 : decode cX4_paint 12 = .ok (.invokevirtual 32, 3) := by decide +kernel
theorem dX4_paint_15 : decode cX4_paint 15 = .ok (.if_icmp .ge 26, 3) := by decide +kernel
theorem dX4_paint_18 : decode cX4_paint 18 = .ok (.aload_n 0, 1) := by decide +kernel
theorem dX4_paint_19 : decode cX4_paint 19 = .ok (.invokevirtual 37, 3) := by decide +kernel
theorem dX4_paint_22 : decode cX4_paint 22 = .ok (.aload_n 0, 1) := by decide +kernel
theorem dX4_paint_23 : decode cX4_paint 23 = .ok (.aload_n 1, 1) := by decide +kernel
theorem dX4_paint_24 : decode cX4_paint 24 = .ok (.iconst 0, 1) := by decide +kernel
theorem dX4_paint_25 : decode cX4_paint 25 = .ok (.iconst 0, 1) := by decide +kernel
theorem dX4_paint_26 : decode cX4_paint 26 = .ok (.iload_n 3, 1) := by decide +kernel
theorem dX4_paint_27 : decode cX4_paint 27 = .ok (.invokestatic 40, 3) := by decide +kernel
theorem dX4_paint_30 : decode cX4_paint 30 = .ok (.ifCond .eq 5, 3) := by decide +kernel
theorem dX4_paint_33 : decode cX4_paint 33 = .ok (.iload_n 3, 1) := by decide +kernel
theorem dX4_paint_34 : decode cX4_paint 34 = .ok (.ireturn, 1) := by decide +kernel
theorem dX4_paint_35 : decode cX4_paint 35 = .ok (.iinc 3 1, 3) := by decide +kernel
theorem dX4_paint_38 : decode cX4_paint 38 = .ok (.goto (-28), 3) := by decide +kernel
theorem dX4_paint_41 : decode cX4_paint 41 = .ok (.aload_n 0, 1) := by decide +kernel
theorem dX4_paint_42 : decode cX4_paint 42 = .ok (.invokevirtual 37, 3) := by decide +kernel
theorem dX4_paint_45 : decode cX4_paint 45 = .ok (.aload_n 0, 1) := by decide +kernel
theorem dX4_paint_46 : decode cX4_paint 46 = .ok (.aload_n 1, 1) := by decide +kernel
theorem dX4_paint_47 : decode cX4_paint 47 = .ok (.iconst 0, 1) := by decide +kernel
theorem dX4_paint_48 : decode cX4_paint 48 = .ok (.iconst 0, 1) := by decide +kernel
theorem dX4_paint_49 : decode cX4_paint 49 = .ok (.aload_n 1, 1) := by decide +kernel
theorem dX4_paint_50 : decode cX4_paint 50 = .ok (.invokevirtual 32, 3) := by decide +kernel
theorem dX4_paint_53 : decode cX4_paint 53 = .ok (.invokestatic 40, 3) := by decide +kernel
theorem dX4_paint_56 : decode cX4_paint 56 = .ok (.pop, 1) := by decide +kernel
theorem dX4_paint_57 : decode cX4_paint 57 = .ok (.aload_n 1, 1) := by decide +kernel
theorem dX4_paint_58 : decode cX4_paint 58 = .ok (.invokevirtual 32, 3) := by decide +kernel
theorem dX4_paint_61 : decode cX4_paint 61 = .ok (.ireturn, 1) := by decide +kernel
theorem dX4_clear_0 : decode cX4_clear 0 = .ok (.iconst 0, 1) := by decide +kernel
theorem dX4_clear_1 : decode cX4_clear 1 = .ok (.istore_n 1, 1) := by decide +kernel
theorem dX4_clear_2 : decode cX4_clear 2 = .ok (.iload_n 1, 1) := by decide +kernel
theorem dX4_clear_3 : decode cX4_clear 3 = .ok (.bipush 14, 2) := by decide +kernel
theorem dX4_clear_5 : decode cX4_clear 5 = .ok (.if_icmp .ge 18, 3) := by decide +kernel
theorem dX4_clear_8 : decode cX4_clear 8 = .ok (.aload_n 0, 1) := by decide +kernel
theorem dX4_clear_9 : decode cX4_clear 9 = .ok (.getfield 15, 3) := by decide +kernel
theorem dX4_clear_12 : decode cX4_clear 12 = .ok (.iload_n 1, 1) := by decide +kernel
theorem dX4_clear_13 : decode cX4_clear 13 = .ok (.iconst 0, 1) := by decide +kernel
theorem dX4_clear_14 : decode cX4_clear 14 = .ok (.invokestatic 44, 3) := by decide +kernel
theorem dX4_clear_17 : decode cX4_clear 17 = .ok (.iinc 1 1, 3) := by decide +kernel
theorem dX4_clear_20 : decode cX4_clear 20 = .ok (.goto (-18), 3) := by decide +kernel
theorem dX4_clear_23 : decode cX4_clear 23 = .ok (.return_, 1) := by decide +kernel
theorem dX4_fill_0 : decode cX4_fill 0 = .ok (.iload_n 2, 1) := by decide +kernel
theorem dX4_fill_1 : decode cX4_fill 1 = .ok (.aload_n 1, 1) := by decide +kernel
theorem dX4_fill_2 : decode cX4_fill 2 = .ok (.invokevirtual 32, 3) := by decide +kernel
theorem dX4_fill_5 : decode cX4_fill 5 = .ok (.if_icmp .ge 9, 3) := by decide +kernel
theorem dX4_fill_8 : decode cX4_fill 8 = .ok (.iload_n 2, 1) := by decide +kernel
theorem dX4_fill_9 : decode cX4_fill 9 = .ok (.bipush 14, 2) := by decide +kernel
theorem dX4_fill_11 : decode cX4_fill 11 = .ok (.if_icmp .lt 5, 3) := by decide +kernel
theorem dX4_fill_14 : decode cX4_fill 14 = .ok (.iconst 1, 1) := by decide +kernel
theorem dX4_fill_15 : decode cX4_fill 15 = .ok (.ireturn, 1) := by decide +kernel
theorem dX4_fill_16 : decode cX4_fill 16 = .ok (.iconst 0, 1) := by decide +kernel
theorem dX4_fill_17 : decode cX4_fill 17 = .ok (.istore 5, 2) := by decide +kernel
theorem dX4_fill_19 : decode cX4_fill 19 = .ok (.iload 5, 2) := by decide +kernel
theorem dX4_fill_21 : decode cX4_fill 21 = .ok (.iload_n 3, 1) := by decide +kernel
theorem dX4_fill_22 : decode cX4_fill 22 = .ok (.if_icmp .gt 100, 3) := by decide +kernel
theorem dX4_fill_25 : decode cX4_fill 25 = .ok (.iload 5, 2) := by decide +kernel
theorem dX4_fill_27 : decode cX4_fill 27 = .ok (.iload 4, 2) := by decide +kernel
theorem dX4_fill_29 : decode cX4_fill 29 = .ok (.if_icmp .ge 93, 3) := by decide +kernel
theorem dX4_fill_32 : decode cX4_fill 32 = .ok (.aload_n 0, 1) := by decide +kernel
theorem dX4_fill_33 : decode cX4_fill 33 = .ok (.getfield 15, 3) := by decide +kernel
theorem dX4_fill_36 : decode cX4_fill 36 = .ok (.iload 5, 2) := by decide +kernel
theorem dX4_fill_38 : decode cX4_fill 38 = .ok (.invokestatic 18, 3) := by decide +kernel
theorem dX4_fill_41 : decode cX4_fill 41 = .ok (.istore 6, 2) := by decide +kernel
theorem dX4_fill_43 : decode cX4_fill 43 = .ok (.iload 6, 2) := by decide +kernel
theorem dX4_fill_45 : decode cX4_fill 45 = .ok (.aload_n 1, 1) := by decide +kernel
theorem dX4_fill_46 : decode cX4_fill 46 = .ok (.iload_n 2, 1) := by decide +kernel
theorem dX4_fill_47 : decode cX4_fill 47 = .ok (.invokevirtual 48, 3) := by decide +kernel
theorem dX4_fill_50 : decode cX4_fill 50 = .ok (.iand, 1) := by decide +kernel
theorem dX4_fill_51 : decode cX4_fill 51 = .ok (.ifCond .eq 6, 3) := by decide +kernel
theorem dX4_fill_54 : decode cX4_fill 54 = .ok (.goto 62, 3) := by decide +kernel
theorem dX4_fill_57 : decode cX4_fill 57 = .ok (.aload_n 0, 1) := by decide +kernel
theorem dX4_fill_58 : decode cX4_fill 58 = .ok (.getfield 9, 3) := by decide +kernel
theorem dX4_fill_61 : decode cX4_fill 61 = .ok (.iload_n 2, 1) := by decide +kernel
theorem dX4_fill_62 : decode cX4_fill 62 = .ok (.iload 5, 2) := by decide +kernel
theorem dX4_fill_64 : decode cX4_fill 64 = .ok (.invokestatic 44, 3) := by decide +kernel
theorem dX4_fill_67 : decode cX4_fill 67 = .ok (.aload_n 0, 1) := by decide +kernel
theorem dX4_fill_68 : decode cX4_fill 68 = .ok (.getfield 15, 3) := by decide +kernel
theorem dX4_fill_71 : decode cX4_fill 71 = .ok (.iload 5, 2) := by decide +kernel
theorem dX4_fill_73 : decode cX4_fill 73 = .ok (.iload 6, 2) := by decide +kernel
theorem dX4_fill_75 : decode cX4_fill 75 = .ok (.iconst 1, 1) := by decide +kernel
theorem dX4_fill_76 : decode cX4_fill 76 = .ok (.iload_n 2, 1) := by decide +kernel
theorem dX4_fill_77 : decode cX4_fill 77 = .ok (.ishl, 1) := by decide +kernel
theorem dX4_fill_78 : decode cX4_fill 78 = .ok (.ior, 1) := by decide +kernel
theorem dX4_fill_79 : decode cX4_fill 79 = .ok (.invokestatic 44, 3) := by decide +kernel
theorem dX4_fill_82 : decode cX4_fill 82 = .ok (.aload_n 0, 1) := by decide +kernel
theorem dX4_fill_83 : decode cX4_fill 83 = .ok (.aload_n 1, 1) := by decide +kernel
theorem dX4_fill_84 : decode cX4_fill 84 = .ok (.iload_n 2, 1) := by decide +kernel
theorem dX4_fill_85 : decode cX4_fill 85 = .ok (.iconst 1, 1) := by decide +kernel
theorem dX4_fill_86 : decode cX4_fill 86 = .ok (.iadd, 1) := by decide +kernel
theorem dX4_fill_87 : decode cX4_fill 87 = .ok (.iload_n 3, 1) := by decide +kernel
theorem dX4_fill_88 : decode cX4_fill 88 = .ok (.iload 5, 2) := by decide +kernel
theorem dX4_fill_90 : decode cX4_fill 90 = .ok (.iconst 1, 1) := by decide +kernel
theorem dX4_fill_91 : decode cX4_fill 91 = .ok (.iadd, 1) := by decide +kernel
theorem dX4_fill_92 : decode cX4_fill 92 = .ok (.invokestatic 52, 3) := by decide +kernel
theorem dX4_fill_95 : decode cX4_fill 95 = .ok (.iload 4, 2) := by decide +kernel
theorem dX4_fill_97 : decode cX4_fill 97 = .ok (.invokestatic 40, 3) := by decide +kernel
theorem dX4_fill_100 : decode cX4_fill 100 = .ok (.ifCond .eq 5, 3) := by decide +kernel
theorem dX4_fill_103 : decode cX4_fill 103 = .ok (.iconst 1, 1) := by decide +kernel
theorem dX4_fill_104 : decode cX4_fill 104 = .ok (.ireturn, 1) := by decide +kernel
theorem dX4_fill_105 : decode cX4_fill 105 = .ok (.aload_n 0, 1) := by decide +kernel
theorem dX4_fill_106 : decode cX4_fill 106 = .ok (.getfield 15, 3) := by decide +kernel
theorem dX4_fill_109 : decode cX4_fill 109 = .ok (.iload 5, 2) := by decide +kernel
theorem dX4_fill_111 : decode cX4_fill 111 = .ok (.iload 6, 2) := by decide +kernel
theorem dX4_fill_113 : decode cX4_fill 113 = .ok (.invokestatic 44, 3) := by decide +kernel
theorem dX4_fill_116 : decode cX4_fill 116 = .ok (.iinc 5 1, 3) := by decide +kernel
theorem dX4_fill_119 : decode cX4_fill 119 = .ok (.goto (-100), 3) := by decide +kernel
theorem dX4_fill_122 : decode cX4_fill 122 = .ok (.iconst 0, 1) := by decide +kernel
theorem dX4_fill_123 : decode cX4_fill 123 = .ok (.ireturn, 1) := by decide +kernel
theorem dX5_init_0 : decode cX5_init 0 = .ok (.aload_n 0, 1) := by decide +kernel
theorem dX5_init_1 : decode cX5_init 1 = .ok (.invokespecial 3, 3) := by decide +kernel
theorem dX5_init_4 : decode cX5_init 4 = .ok (.aload_n 0, 1) := by decide +kernel
theorem dX5_init_5 : decode cX5_init 5 = .ok (.new 9, 3) := by decide +kernel
theorem dX5_init_8 : decode cX5_init 8 = .ok (.dup, 1) := by decide +kernel
theorem dX5_init_9 : decode cX5_init 9 = .ok (.invokespecial 11, 3) := by decide +kernel
theorem dX5_init_12 : decode cX5_init 12 = .ok (.putfield 12, 3) := by decide +kernel
theorem dX5_init_15 : decode cX5_init 15 = .ok (.aload_n 0, 1) := by decide +kernel
theorem dX5_init_16 : decode cX5_init 16 = .ok (.sipush 512, 3) := by decide +kernel
theorem dX5_init_19 : decode cX5_init 19 = .ok (.newarray .int, 2) := by decide +kernel
theorem dX5_init_21 : decode cX5_init 21 = .ok (.putfield 18, 3) := by decide +kernel
theorem dX5_init_24 : decode cX5_init 24 = .ok (.aload_n 0, 1) := by decide +kernel
theorem dX5_init_25 : decode cX5_init 25 = .ok (.bipush 14, 2) := by decide +kernel
theorem dX5_init_27 : decode cX5_init 27 = .ok (.newarray .int, 2) := by decide +kernel
theorem dX5_init_29 : decode cX5_init 29 = .ok (.putfield 22, 3) := by decide +kernel
theorem dX5_init_32 : decode cX5_init 32 = .ok (.return_, 1) := by decide +kernel
theorem dX5_many_0 : decode cX5_many 0 = .ok (.aload_n 0, 1) := by decide +kernel
theorem dX5_many_1 : decode cX5_many 1 = .ok (.getfield 25, 3) := by decide +kernel
theorem dX5_many_4 : decode cX5_many 4 = .ok (.ireturn, 1) := by decide +kernel
theorem dX5_least_0 : decode cX5_least 0 = .ok (.aload_n 0, 1) := by decide +kernel
theorem dX5_least_1 : decode cX5_least 1 = .ok (.getfield 29, 3) := by decide +kernel
theorem dX5_least_4 : decode cX5_least 4 = .ok (.ireturn, 1) := by decide +kernel
theorem dX5_blame_0 : decode cX5_blame 0 = .ok (.aload_n 0, 1) := by decide +kernel
theorem dX5_blame_1 : decode cX5_blame 1 = .ok (.getfield 22, 3) := by decide +kernel
theorem dX5_blame_4 : decode cX5_blame 4 = .ok (.iload_n 1, 1) := by decide +kernel
theorem dX5_blame_5 : decode cX5_blame 5 = .ok (.invokestatic 32, 3) := by decide +kernel
theorem dX5_blame_8 : decode cX5_blame 8 = .ok (.ireturn, 1) := by decide +kernel
theorem dX5_look_0 : decode cX5_look 0 = .ok (.aload_n 0, 1) := by decide +kernel
theorem dX5_look_1 : decode cX5_look 1 = .ok (.getfield 12, 3) := by decide +kernel
theorem dX5_look_4 : decode cX5_look 4 = .ok (.aload_n 1, 1) := by decide +kernel
theorem dX5_look_5 : decode cX5_look 5 = .ok (.invokevirtual 36, 3) := by decide +kernel
theorem dX5_look_8 : decode cX5_look 8 = .ok (.ifCond .eq 4, 3) := by decide +kernel
theorem dX5_look_11 : decode cX5_look 11 = .ok (.return_, 1) := by decide +kernel
theorem dX5_look_12 : decode cX5_look 12 = .ok (.aload_n 0, 1) := by decide +kernel
theorem dX5_look_13 : decode cX5_look 13 = .ok (.getfield 12, 3) := by decide +kernel
theorem dX5_look_16 : decode cX5_look 16 = .ok (.aload_n 1, 1) := by decide +kernel
theorem dX5_look_17 : decode cX5_look 17 = .ok (.invokevirtual 40, 3) := by decide +kernel
theorem dX5_look_20 : decode cX5_look 20 = .ok (.aload_n 0, 1) := by decide +kernel
theorem dX5_look_21 : decode cX5_look 21 = .ok (.invokevirtual 44, 3) := by decide +kernel
theorem dX5_look_24 : decode cX5_look 24 = .ok (.aload_n 1, 1) := by decide +kernel
theorem dX5_look_25 : decode cX5_look 25 = .ok (.aload_n 1, 1) := by decide +kernel
theorem dX5_look_26 : decode cX5_look 26 = .ok (.invokevirtual 47, 3) := by decide +kernel
theorem dX5_look_29 : decode cX5_look 29 = .ok (.invokevirtual 51, 3) := by decide +kernel
theorem dX5_look_32 : decode cX5_look 32 = .ok (.ifCond .eq 4, 3) := by decide +kernel
theorem dX5_look_35 : decode cX5_look 35 = .ok (.return_, 1) := by decide +kernel
theorem dX5_look_36 : decode cX5_look 36 = .ok (.iconst 0, 1) := by decide +kernel
theorem dX5_look_37 : decode cX5_look 37 = .ok (.istore_n 2, 1) := by decide +kernel
theorem dX5_look_38 : decode cX5_look 38 = .ok (.iload_n 2, 1) := by decide +kernel
theorem dX5_look_39 : decode cX5_look 39 = .ok (.aload_n 1, 1) := by decide +kernel
theorem dX5_look_40 : decode cX5_look 40 = .ok (.invokevirtual 47, 3) := by decide +kernel
theorem dX5_look_43 : decode cX5_look 43 = .ok (.if_icmp .gt 31, 3) := by decide +kernel
theorem dX5_look_46 : decode cX5_look 46 = .ok (.iload_n 2, 1) := by decide +kernel
theorem dX5_look_47 : decode cX5_look 47 = .ok (.invokestatic 55, 3) := by decide +kernel
theorem dX5_look_50 : decode cX5_look 50 = .ok (.istore_n 3, 1) := by decide +kernel
theorem dX5_look_51 : decode cX5_look 51 = .ok (.iload_n 3, 1) := by decide +kernel
theorem dX5_look_52 : decode cX5_look 52 = .ok (.iconst 4, 1) := by decide +kernel
theorem dX5_look_53 : decode cX5_look 53 = .ok (.if_icmp .lt 15, 3) := by decide +kernel
theorem dX5_look_56 : decode cX5_look 56 = .ok (.iload_n 3, 1) := by decide +kernel
theorem dX5_look_57 : decode cX5_look 57 = .ok (.bipush 6, 2) := by decide +kernel
theorem dX5_look_59 : decode cX5_look 59 = .ok (.if_icmp .gt 9, 3) := by decide +kernel
theorem dX5_look_62 : decode cX5_look 62 = .ok (.aload_n 0, 1) := by decide +kernel
theorem dX5_look_63 : decode cX5_look 63 = .ok (.iload_n 2, 1) := by decide +kernel
theorem dX5_look_64 : decode cX5_look 64 = .ok (.iload_n 3, 1) := by decide +kernel
theorem dX5_look_65 : decode cX5_look 65 = .ok (.invokevirtual 61, 3) := by decide +kernel
theorem dX5_look_68 : decode cX5_look 68 = .ok (.iinc 2 1, 3) := by decide +kernel
theorem dX5_look_71 : decode cX5_look 71 = .ok (.goto (-33), 3) := by decide +kernel
theorem dX5_look_74 : decode cX5_look 74 = .ok (.return_, 1) := by decide +kernel
theorem dX5_forget_0 : decode cX5_forget 0 = .ok (.aload_n 0, 1) := by decide +kernel
theorem dX5_forget_1 : decode cX5_forget 1 = .ok (.iconst 0, 1) := by decide +kernel
theorem dX5_forget_2 : decode cX5_forget 2 = .ok (.putfield 25, 3) := by decide +kernel
theorem dX5_forget_5 : decode cX5_forget 5 = .ok (.aload_n 0, 1) := by decide +kernel
theorem dX5_forget_6 : decode cX5_forget 6 = .ok (.iconst 0, 1) := by decide +kernel
theorem dX5_forget_7 : decode cX5_forget 7 = .ok (.putfield 29, 3) := by decide +kernel
theorem dX5_forget_10 : decode cX5_forget 10 = .ok (.iconst 0, 1) := by decide +kernel
theorem dX5_forget_11 : decode cX5_forget 11 = .ok (.istore_n 1, 1) := by decide +kernel
theorem dX5_forget_12 : decode cX5_forget 12 = .ok (.iload_n 1, 1) := by decide +kernel
theorem dX5_forget_13 : decode cX5_forget 13 = .ok (.bipush 14, 2) := by decide +kernel
theorem dX5_forget_15 : decode cX5_forget 15 = .ok (.if_icmp .ge 18, 3) := by decide +kernel
theorem dX5_forget_18 : decode cX5_forget 18 = .ok (.aload_n 0, 1) := by decide +kernel
theorem dX5_forget_19 : decode cX5_forget 19 = .ok (.getfield 22, 3) := by decide +kernel
theorem dX5_forget_22 : decode cX5_forget 22 = .ok (.iload_n 1, 1) := by decide +kernel
theorem dX5_forget_23 : decode cX5_forget 23 = .ok (.iconst 0, 1) := by decide +kernel
theorem dX5_forget_24 : decode cX5_forget 24 = .ok (.invokestatic 65, 3) := by decide +kernel
theorem dX5_forget_27 : decode cX5_forget 27 = .ok (.iinc 1 1, 3) := by decide +kernel
theorem dX5_forget_30 : decode cX5_forget 30 = .ok (.goto (-18), 3) := by decide +kernel
theorem dX5_forget_33 : decode cX5_forget 33 = .ok (.iconst 0, 1) := by decide +kernel
theorem dX5_forget_34 : decode cX5_forget 34 = .ok (.istore_n 1, 1) := by decide +kernel
theorem dX5_forget_35 : decode cX5_forget 35 = .ok (.iload_n 1, 1) := by decide +kernel
theorem dX5_forget_36 : decode cX5_forget 36 = .ok (.aload_n 0, 1) := by decide +kernel
theorem dX5_forget_37 : decode cX5_forget 37 = .ok (.getfield 18, 3) := by decide +kernel
theorem dX5_forget_40 : decode cX5_forget 40 = .ok (.arraylength, 1) := by decide +kernel
theorem dX5_forget_41 : decode cX5_forget 41 = .ok (.if_icmp .ge 16, 3) := by decide +kernel
theorem dX5_forget_44 : decode cX5_forget 44 = .ok (.aload_n 0, 1) := by decide +kernel
theorem dX5_forget_45 : decode cX5_forget 45 = .ok (.getfield 18, 3) := by decide +kernel
theorem dX5_forget_48 : decode cX5_forget 48 = .ok (.iload_n 1, 1) := by decide +kernel
theorem dX5_forget_49 : decode cX5_forget 49 = .ok (.iconst 0, 1) := by decide +kernel
theorem dX5_forget_50 : decode cX5_forget 50 = .ok (.iastore, 1) := by decide +kernel
theorem dX5_forget_51 : decode cX5_forget 51 = .ok (.iinc 1 1, 3) := by decide +kernel
theorem dX5_forget_54 : decode cX5_forget 54 = .ok (.goto (-19), 3) := by decide +kernel
theorem dX5_forget_57 : decode cX5_forget 57 = .ok (.return_, 1) := by decide +kernel
theorem dX5_weigh_0 : decode cX5_weigh 0 = .ok (.aload_n 0, 1) := by decide +kernel
theorem dX5_weigh_1 : decode cX5_weigh 1 = .ok (.iload_n 1, 1) := by decide +kernel
theorem dX5_weigh_2 : decode cX5_weigh 2 = .ok (.invokevirtual 69, 3) := by decide +kernel
theorem dX5_weigh_5 : decode cX5_weigh 5 = .ok (.istore_n 3, 1) := by decide +kernel
theorem dX5_weigh_6 : decode cX5_weigh 6 = .ok (.iload_n 3, 1) := by decide +kernel
theorem dX5_weigh_7 : decode cX5_weigh 7 = .ok (.ifCond .ne 15, 3) := by decide +kernel
theorem dX5_weigh_10 : decode cX5_weigh 10 = .ok (.aload_n 0, 1) := by decide +kernel
theorem dX5_weigh_11 : decode cX5_weigh 11 = .ok (.getfield 12, 3) := by decide +kernel
theorem dX5_weigh_14 : decode cX5_weigh 14 = .ok (.iload_n 1, 1) := by decide +kernel
theorem dX5_weigh_15 : decode cX5_weigh 15 = .ok (.invokevirtual 51, 3) := by decide +kernel
theorem dX5_weigh_18 : decode cX5_weigh 18 = .ok (.ifCond .eq 4, 3) := by decide +kernel
theorem dX5_weigh_21 : decode cX5_weigh 21 = .ok (.return_, 1) := by decide +kernel
theorem dX5_weigh_22 : decode cX5_weigh 22 = .ok (.aload_n 0, 1) := by decide +kernel
theorem dX5_weigh_23 : decode cX5_weigh 23 = .ok (.getfield 18, 3) := by decide +kernel
theorem dX5_weigh_26 : decode cX5_weigh 26 = .ok (.iload_n 1, 1) := by decide +kernel
theorem dX5_weigh_27 : decode cX5_weigh 27 = .ok (.iconst 5, 1) := by decide +kernel
theorem dX5_weigh_28 : decode cX5_weigh 28 = .ok (.ishr, 1) := by decide +kernel
theorem dX5_weigh_29 : decode cX5_weigh 29 = .ok (.aload_n 0, 1) := by decide +kernel
theorem dX5_weigh_30 : decode cX5_weigh 30 = .ok (.getfield 18, 3) := by decide +kernel
theorem dX5_weigh_33 : decode cX5_weigh 33 = .ok (.iload_n 1, 1) := by decide +kernel
theorem dX5_weigh_34 : decode cX5_weigh 34 = .ok (.iconst 5, 1) := by decide +kernel
theorem dX5_weigh_35 : decode cX5_weigh 35 = .ok (.ishr, 1) := by decide +kernel
theorem dX5_weigh_36 : decode cX5_weigh 36 = .ok (.invokestatic 32, 3) := by decide +kernel
theorem dX5_weigh_39 : decode cX5_weigh 39 = .ok (.iconst 1, 1) := by decide +kernel
theorem dX5_weigh_40 : decode cX5_weigh 40 = .ok (.iload_n 1, 1) := by decide +kernel
theorem dX5_weigh_41 : decode cX5_weigh 41 = .ok (.bipush 31, 2) := by decide +kernel
theorem dX5_weigh_43 : decode cX5_weigh 43 = .ok (.iand, 1) := by decide +kernel
theorem dX5_weigh_44 : decode cX5_weigh 44 = .ok (.ishl, 1) := by decide +kernel
theorem dX5_weigh_45 : decode cX5_weigh 45 = .ok (.ior, 1) := by decide +kernel
theorem dX5_weigh_46 : decode cX5_weigh 46 = .ok (.invokestatic 65, 3) := by decide +kernel
theorem dX5_weigh_49 : decode cX5_weigh 49 = .ok (.iload_n 3, 1) := by decide +kernel
theorem dX5_weigh_50 : decode cX5_weigh 50 = .ok (.ifCond .ne 9, 3) := by decide +kernel
theorem dX5_weigh_53 : decode cX5_weigh 53 = .ok (.aload_n 0, 1) := by decide +kernel
theorem dX5_weigh_54 : decode cX5_weigh 54 = .ok (.iload_n 1, 1) := by decide +kernel
theorem dX5_weigh_55 : decode cX5_weigh 55 = .ok (.iload_n 2, 1) := by decide +kernel
theorem dX5_weigh_56 : decode cX5_weigh 56 = .ok (.invokevirtual 72, 3) := by decide +kernel
theorem dX5_weigh_59 : decode cX5_weigh 59 = .ok (.return_, 1) := by decide +kernel
theorem dX5_hasCoverlessWithin_0 : decode cX5_hasCoverlessWithin 0 = .ok (.iconst 0, 1) := by decide +kernel
theorem dX5_hasCoverlessWithin_1 : decode cX5_hasCoverlessWithin 1 = .ok (.istore_n 2, 1) := by decide +kernel
theorem dX5_hasCoverlessWithin_2 : decode cX5_hasCoverlessWithin 2 = .ok (.iload_n 2, 1) := by decide +kernel
theorem dX5_hasCoverlessWithin_3 : decode cX5_hasCoverlessWithin 3 = .ok (.aload_n 0, 1) := by decide +kernel
theorem dX5_hasCoverlessWithin_4 : decode cX5_hasCoverlessWithin 4 = .ok (.getfield 12, 3) := by decide +kernel
theorem dX5_hasCoverlessWithin_7 : decode cX5_hasCoverlessWithin 7 = .ok (.invokevirtual 75, 3) := by decide +kernel
theorem dX5_hasCoverlessWithin_10 : decode cX5_hasCoverlessWithin 10 = .ok (.if_icmp .ge 47, 3) := by decide +kernel
theorem dX5_hasCoverlessWithin_13 : decode cX5_hasCoverlessWithin 13 = .ok (.iload_n 1, 1) := by decide +kernel
theorem dX5_hasCoverlessWithin_14 : decode cX5_hasCoverlessWithin 14 = .ok (.iload_n 2, 1) := by decide +kernel
theorem dX5_hasCoverlessWithin_15 : decode cX5_hasCoverlessWithin 15 = .ok (.invokestatic 78, 3) := by decide +kernel
theorem dX5_hasCoverlessWithin_18 : decode cX5_hasCoverlessWithin 18 = .ok (.ifCond .eq 33, 3) := by decide +kernel
theorem dX5_hasCoverlessWithin_21 : decode cX5_hasCoverlessWithin 21 = .ok (.iload_n 1, 1) := by decide +kernel
theorem dX5_hasCoverlessWithin_22 : decode cX5_hasCoverlessWithin 22 = .ok (.iconst 1, 1) := by decide +kernel
theorem dX5_hasCoverlessWithin_23 : decode cX5_hasCoverlessWithin 23 = .ok (.iload_n 2, 1) := by decide +kernel
theorem dX5_hasCoverlessWithin_24 : decode cX5_hasCoverlessWithin 24 = .ok (.ishl, 1) := by decide +kernel
theorem dX5_hasCoverlessWithin_25 : decode cX5_hasCoverlessWithin 25 = .ok (.iconst (-1), 1) := by decide +kernel
theorem dX5_hasCoverlessWithin_26 : decode cX5_hasCoverlessWithin 26 = .ok (.ixor, 1) := by decide +kernel
theorem dX5_hasCoverlessWithin_27 : decode cX5_hasCoverlessWithin 27 = .ok (.iand, 1) := by decide +kernel
theorem dX5_hasCoverlessWithin_28 : decode cX5_hasCoverlessWithin 28 = .ok (.istore_n 3, 1) := by decide +kernel
theorem dX5_hasCoverlessWithin_29 : decode cX5_hasCoverlessWithin 29 = .ok (.aload_n 0, 1) := by decide +kernel
theorem dX5_hasCoverlessWithin_30 : decode cX5_hasCoverlessWithin 30 = .ok (.getfield 18, 3) := by decide +kernel
theorem dX5_hasCoverlessWithin_33 : decode cX5_hasCoverlessWithin 33 = .ok (.iload_n 3, 1) := by decide +kernel
theorem dX5_hasCoverlessWithin_34 : decode cX5_hasCoverlessWithin 34 = .ok (.iconst 5, 1) := by decide +kernel
theorem dX5_hasCoverlessWithin_35 : decode cX5_hasCoverlessWithin 35 = .ok (.ishr, 1) := by decide +kernel
theorem dX5_hasCoverlessWithin_36 : decode cX5_hasCoverlessWithin 36 = .ok (.invokestatic 32, 3) := by decide +kernel
theorem dX5_hasCoverlessWithin_39 : decode cX5_hasCoverlessWithin 39 = .ok (.iload_n 3, 1) := by decide +kernel
theorem dX5_hasCoverlessWithin_40 : decode cX5_hasCoverlessWithin 40 = .ok (.bipush 31, 2) := by decide +kernel
theorem dX5_hasCoverlessWithin_42 : decode cX5_hasCoverlessWithin 42 = .ok (.iand, 1) := by decide +kernel
theorem dX5_hasCoverlessWithin_43 : decode cX5_hasCoverlessWithin 43 = .ok (.iushr, 1) := by decide +kernel
theorem dX5_hasCoverlessWithin_44 : decode cX5_hasCoverlessWithin 44 = .ok (.iconst 1, 1) := by decide +kernel
theorem dX5_hasCoverlessWithin_45 : decode cX5_hasCoverlessWithin 45 = .ok (.iand, 1) := by decide +kernel
theorem dX5_hasCoverlessWithin_46 : decode cX5_hasCoverlessWithin 46 = .ok (.ifCond .eq 5, 3) := by decide +kernel
theorem dX5_hasCoverlessWithin_49 : decode cX5_hasCoverlessWithin 49 = .ok (.iconst 1, 1) := by decide +kernel
theorem dX5_hasCoverlessWithin_50 : decode cX5_hasCoverlessWithin 50 = .ok (.ireturn, 1) := by decide +kernel
theorem dX5_hasCoverlessWithin_51 : decode cX5_hasCoverlessWithin 51 = .ok (.iinc 2 1, 3) := by decide +kernel
theorem dX5_hasCoverlessWithin_54 : decode cX5_hasCoverlessWithin 54 = .ok (.goto (-52), 3) := by decide +kernel
theorem dX5_hasCoverlessWithin_57 : decode cX5_hasCoverlessWithin 57 = .ok (.iconst 0, 1) := by decide +kernel
theorem dX5_hasCoverlessWithin_58 : decode cX5_hasCoverlessWithin 58 = .ok (.ireturn, 1) := by decide +kernel
theorem dX5_note_0 : decode cX5_note 0 = .ok (.aload_n 0, 1) := by decide +kernel
theorem dX5_note_1 : decode cX5_note 1 = .ok (.dup, 1) := by decide +kernel
theorem dX5_note_2 : decode cX5_note 2 = .ok (.getfield 25, 3) := by decide +kernel
theorem dX5_note_5 : decode cX5_note 5 = .ok (.iconst 1, 1) := by decide +kernel
theorem dX5_note_6 : decode cX5_note 6 = .ok (.iadd, 1) := by decide +kernel
theorem dX5_note_7 : decode cX5_note 7 = .ok (.putfield 25, 3) := by decide +kernel
theorem dX5_note_10 : decode cX5_note 10 = .ok (.aload_n 0, 1) := by decide +kernel
theorem dX5_note_11 : decode cX5_note 11 = .ok (.getfield 29, 3) := by decide +kernel
theorem dX5_note_14 : decode cX5_note 14 = .ok (.ifCond .eq 14, 3) := by decide +kernel
theorem dX5_note_17 : decode cX5_note 17 = .ok (.iload_n 2, 1) := by decide +kernel
theorem dX5_note_18 : decode cX5_note 18 = .ok (.aload_n 0, 1) := by decide +kernel
theorem dX5_note_19 : decode cX5_note 19 = .ok (.getfield 29, 3) := by decide +kernel
theorem dX5_note_22 : decode cX5_note 22 = .ok (.invokestatic 55, 3) := by decide +kernel
theorem dX5_note_25 : decode cX5_note 25 = .ok (.if_icmp .ge 8, 3) := by decide +kernel
theorem dX5_note_28 : decode cX5_note 28 = .ok (.aload_n 0, 1) := by decide +kernel
theorem dX5_note_29 : decode cX5_note 29 = .ok (.iload_n 1, 1) := by decide +kernel
theorem dX5_note_30 : decode cX5_note 30 = .ok (.putfield 29, 3) := by decide +kernel
theorem dX5_note_33 : decode cX5_note 33 = .ok (.iconst 0, 1) := by decide +kernel
theorem dX5_note_34 : decode cX5_note 34 = .ok (.istore_n 3, 1) := by decide +kernel
theorem dX5_note_35 : decode cX5_note 35 = .ok (.iload_n 3, 1) := by decide +kernel
theorem dX5_note_36 : decode cX5_note 36 = .ok (.aload_n 0, 1) := by decide +kernel
theorem dX5_note_37 : decode cX5_note 37 = .ok (.getfield 12, 3) := by decide +kernel
theorem dX5_note_40 : decode cX5_note 40 = .ok (.invokevirtual 75, 3) := by decide +kernel
theorem dX5_note_43 : decode cX5_note 43 = .ok (.if_icmp .ge 35, 3) := by decide +kernel
theorem dX5_note_46 : decode cX5_note 46 = .ok (.iload_n 1, 1) := by decide +kernel
theorem dX5_note_47 : decode cX5_note 47 = .ok (.iload_n 3, 1) := by decide +kernel
theorem dX5_note_48 : decode cX5_note 48 = .ok (.invokestatic 78, 3) := by decide +kernel
theorem dX5_note_51 : decode cX5_note 51 = .ok (.ifCond .eq 21, 3) := by decide +kernel
theorem dX5_note_54 : decode cX5_note 54 = .ok (.aload_n 0, 1) := by decide +kernel
theorem dX5_note_55 : decode cX5_note 55 = .ok (.getfield 22, 3) := by decide +kernel
theorem dX5_note_58 : decode cX5_note 58 = .ok (.iload_n 3, 1) := by decide +kernel
theorem dX5_note_59 : decode cX5_note 59 = .ok (.aload_n 0, 1) := by decide +kernel
theorem dX5_note_60 : decode cX5_note 60 = .ok (.getfield 22, 3) := by decide +kernel
theorem dX5_note_63 : decode cX5_note 63 = .ok (.iload_n 3, 1) := by decide +kernel
theorem dX5_note_64 : decode cX5_note 64 = .ok (.invokestatic 32, 3) := by decide +kernel
theorem dX5_note_67 : decode cX5_note 67 = .ok (.iconst 1, 1) := by decide +kernel
theorem dX5_note_68 : decode cX5_note 68 = .ok (.iadd, 1) := by decide +kernel
theorem dX5_note_69 : decode cX5_note 69 = .ok (.invokestatic 65, 3) := by decide +kernel
theorem dX5_note_72 : decode cX5_note 72 = .ok (.iinc 3 1, 3) := by decide +kernel
theorem dX5_note_75 : decode cX5_note 75 = .ok (.goto (-40), 3) := by decide +kernel
theorem dX5_note_78 : decode cX5_note 78 = .ok (.return_, 1) := by decide +kernel
theorem dX6_init_0 : decode cX6_init 0 = .ok (.aload_n 0, 1) := by decide +kernel
theorem dX6_init_1 : decode cX6_init 1 = .ok (.invokespecial 3, 3) := by decide +kernel
theorem dX6_init_4 : decode cX6_init 4 = .ok (.aload_n 0, 1) := by decide +kernel
theorem dX6_init_5 : decode cX6_init 5 = .ok (.new 9, 3) := by decide +kernel
theorem dX6_init_8 : decode cX6_init 8 = .ok (.dup, 1) := by decide +kernel
theorem dX6_init_9 : decode cX6_init 9 = .ok (.invokespecial 11, 3) := by decide +kernel
theorem dX6_init_12 : decode cX6_init 12 = .ok (.putfield 12, 3) := by decide +kernel
theorem dX6_init_15 : decode cX6_init 15 = .ok (.aload_n 0, 1) := by decide +kernel
theorem dX6_init_16 : decode cX6_init 16 = .ok (.bipush 14, 2) := by decide +kernel
theorem dX6_init_18 : decode cX6_init 18 = .ok (.newarray .long, 2) := by decide +kernel
theorem dX6_init_20 : decode cX6_init 20 = .ok (.putfield 18, 3) := by decide +kernel
theorem dX6_init_23 : decode cX6_init 23 = .ok (.return_, 1) := by decide +kernel
theorem dX6_draft_0 : decode cX6_draft 0 = .ok (.aload_n 0, 1) := by decide +kernel
theorem dX6_draft_1 : decode cX6_draft 1 = .ok (.getfield 12, 3) := by decide +kernel
theorem dX6_draft_4 : decode cX6_draft 4 = .ok (.areturn, 1) := by decide +kernel
theorem dX6_kind_0 : decode cX6_kind 0 = .ok (.aload_n 0, 1) := by decide +kernel
theorem dX6_kind_1 : decode cX6_kind 1 = .ok (.getfield 22, 3) := by decide +kernel
theorem dX6_kind_4 : decode cX6_kind 4 = .ok (.ireturn, 1) := by decide +kernel
theorem dX6_read_0 : decode cX6_read 0 = .ok (.aload_n 0, 1) := by decide +kernel
theorem dX6_read_1 : decode cX6_read 1 = .ok (.getfield 12, 3) := by decide +kernel
theorem dX6_read_4 : decode cX6_read 4 = .ok (.iconst 0, 1) := by decide +kernel
theorem dX6_read_5 : decode cX6_read 5 = .ok (.invokevirtual 26, 3) := by decide +kernel
theorem dX6_read_8 : decode cX6_read 8 = .ok (.aload_n 0, 1) := by decide +kernel
theorem dX6_read_9 : decode cX6_read 9 = .ok (.iconst 0, 1) := by decide +kernel
theorem dX6_read_10 : decode cX6_read 10 = .ok (.putfield 22, 3) := by decide +kernel
theorem dX6_read_13 : decode cX6_read 13 = .ok (.aload_n 0, 1) := by decide +kernel
theorem dX6_read_14 : decode cX6_read 14 = .ok (.iconst 0, 1) := by decide +kernel
theorem dX6_read_15 : decode cX6_read 15 = .ok (.putfield 30, 3) := by decide +kernel
theorem dX6_read_18 : decode cX6_read 18 = .ok (.aload_n 0, 1) := by decide +kernel
theorem dX6_read_19 : decode cX6_read 19 = .ok (.iconst 0, 1) := by decide +kernel
theorem dX6_read_20 : decode cX6_read 20 = .ok (.putfield 33, 3) := by decide +kernel
theorem dX6_read_23 : decode cX6_read 23 = .ok (.aload_n 0, 1) := by decide +kernel
theorem dX6_read_24 : decode cX6_read 24 = .ok (.iconst 0, 1) := by decide +kernel
theorem dX6_read_25 : decode cX6_read 25 = .ok (.putfield 36, 3) := by decide +kernel
theorem dX6_read_28 : decode cX6_read 28 = .ok (.aload_n 1, 1) := by decide +kernel
theorem dX6_read_29 : decode cX6_read 29 = .ok (.invokevirtual 39, 3) := by decide +kernel
theorem dX6_read_32 : decode cX6_read 32 = .ok (.istore_n 2, 1) := by decide +kernel
theorem dX6_read_33 : decode cX6_read 33 = .ok (.iconst 0, 1) := by decide +kernel
theorem dX6_read_34 : decode cX6_read 34 = .ok (.istore_n 3, 1) := by decide +kernel
theorem dX6_read_35 : decode cX6_read 35 = .ok (.iload_n 3, 1) := by decide +kernel
theorem dX6_read_36 : decode cX6_read 36 = .ok (.sipush 740, 3) := by decide +kernel
theorem dX6_read_39 : decode cX6_read 39 = .ok (.if_icmp .gt 110, 3) := by decide +kernel
theorem dX6_read_42 : decode cX6_read 42 = .ok (.aload_n 1, 1) := by decide +kernel
theorem dX6_read_43 : decode cX6_read 43 = .ok (.aload_n 0, 1) := by decide +kernel
theorem dX6_read_44 : decode cX6_read 44 = .ok (.getfield 36, 3) := by decide +kernel
theorem dX6_read_47 : decode cX6_read 47 = .ok (.invokevirtual 45, 3) := by decide +kernel
theorem dX6_read_50 : decode cX6_read 50 = .ok (.istore 4, 2) := by decide +kernel
theorem dX6_read_52 : decode cX6_read 52 = .ok (.iload_n 2, 1) := by decide +kernel
theorem dX6_read_53 : decode cX6_read 53 = .ok (.sipush 700, 3) := by decide +kernel
theorem dX6_read_56 : decode cX6_read 56 = .ok (.if_icmp .le 20, 3) := by decide +kernel
theorem dX6_read_59 : decode cX6_read 59 = .ok (.iload 4, 2) := by decide +kernel
theorem dX6_read_61 : decode cX6_read 61 = .ok (.sipush 700, 3) := by decide +kernel
theorem dX6_read_64 : decode cX6_read 64 = .ok (.if_icmp .lt 12, 3) := by decide +kernel
theorem dX6_read_67 : decode cX6_read 67 = .ok (.aload_n 0, 1) := by decide +kernel
theorem dX6_read_68 : decode cX6_read 68 = .ok (.iconst 1, 1) := by decide +kernel
theorem dX6_read_69 : decode cX6_read 69 = .ok (.putfield 22, 3) := by decide +kernel
theorem dX6_read_72 : decode cX6_read 72 = .ok (.sipush (-701), 3) := by decide +kernel
theorem dX6_read_75 : decode cX6_read 75 = .ok (.ireturn, 1) := by decide +kernel
theorem dX6_read_76 : decode cX6_read 76 = .ok (.iload 4, 2) := by decide +kernel
theorem dX6_read_78 : decode cX6_read 78 = .ok (.iload_n 2, 1) := by decide +kernel
theorem dX6_read_79 : decode cX6_read 79 = .ok (.if_icmp .lt 37, 3) := by decide +kernel
theorem dX6_read_82 : decode cX6_read 82 = .ok (.aload_n 0, 1) := by decide +kernel
theorem dX6_read_83 : decode cX6_read 83 = .ok (.aload_n 0, 1) := by decide +kernel
theorem dX6_read_84 : decode cX6_read 84 = .ok (.getfield 33, 3) := by decide +kernel
theorem dX6_read_87 : decode cX6_read 87 = .ok (.ifCond .ne 7, 3) := by decide +kernel
theorem dX6_read_90 : decode cX6_read 90 = .ok (.iconst 0, 1) := by decide +kernel
theorem dX6_read_91 : decode cX6_read 91 = .ok (.goto 4, 3) := by decide +kernel
theorem dX6_read_94 : decode cX6_read 94 = .ok (.iconst 1, 1) := by decide +kernel
theorem dX6_read_95 : decode cX6_read 95 = .ok (.putfield 22, 3) := by decide +kernel
theorem dX6_read_98 : decode cX6_read 98 = .ok (.aload_n 0, 1) := by decide +kernel
theorem dX6_read_99 : decode cX6_read 99 = .ok (.getfield 22, 3) := by decide +kernel
theorem dX6_read_102 : decode cX6_read 102 = .ok (.ifCond .ne 10, 3) := by decide +kernel
theorem dX6_read_105 : decode cX6_read 105 = .ok (.aload_n 0, 1) := by decide +kernel
theorem dX6_read_106 : decode cX6_read 106 = .ok (.getfield 30, 3) := by decide +kernel
theorem dX6_read_109 : decode cX6_read 109 = .ok (.goto 6, 3) := by decide +kernel
theorem dX6_read_112 : decode cX6_read 112 = .ok (.iconst (-1), 1) := by decide +kernel
theorem dX6_read_113 : decode cX6_read 113 = .ok (.iload_n 2, 1) := by decide +kernel
theorem dX6_read_114 : decode cX6_read 114 = .ok (.isub, 1) := by decide +kernel
theorem dX6_read_115 : decode cX6_read 115 = .ok (.ireturn, 1) := by decide +kernel
theorem dX6_read_116 : decode cX6_read 116 = .ok (.aload_n 0, 1) := by decide +kernel
theorem dX6_read_117 : decode cX6_read 117 = .ok (.aload_n 1, 1) := by decide +kernel
theorem dX6_read_118 : decode cX6_read 118 = .ok (.iload 4, 2) := by decide +kernel
theorem dX6_read_120 : decode cX6_read 120 = .ok (.invokevirtual 49, 3) := by decide +kernel
theorem dX6_read_123 : decode cX6_read 123 = .ok (.aload_n 0, 1) := by decide +kernel
theorem dX6_read_124 : decode cX6_read 124 = .ok (.aload_n 0, 1) := by decide +kernel
theorem dX6_read_125 : decode cX6_read 125 = .ok (.invokevirtual 53, 3) := by decide +kernel
theorem dX6_read_128 : decode cX6_read 128 = .ok (.putfield 22, 3) := by decide +kernel
theorem dX6_read_131 : decode cX6_read 131 = .ok (.aload_n 0, 1) := by decide +kernel
theorem dX6_read_132 : decode cX6_read 132 = .ok (.getfield 22, 3) := by decide +kernel
theorem dX6_read_135 : decode cX6_read 135 = .ok (.ifCond .eq 8, 3) := by decide +kernel
theorem dX6_read_138 : decode cX6_read 138 = .ok (.iconst (-1), 1) := by decide +kernel
theorem dX6_read_139 : decode cX6_read 139 = .ok (.iload 4, 2) := by decide +kernel
theorem dX6_read_141 : decode cX6_read 141 = .ok (.isub, 1) := by decide +kernel
theorem dX6_read_142 : decode cX6_read 142 = .ok (.ireturn, 1) := by decide +kernel
theorem dX6_read_143 : decode cX6_read 143 = .ok (.iinc 3 1, 3) := by decide +kernel
theorem dX6_read_146 : decode cX6_read 146 = .ok (.goto (-111), 3) := by decide +kernel
theorem dX6_read_149 : decode cX6_read 149 = .ok (.aload_n 0, 1) := by decide +kernel
theorem dX6_read_150 : decode cX6_read 150 = .ok (.getfield 30, 3) := by decide +kernel
theorem dX6_read_153 : decode cX6_read 153 = .ok (.ireturn, 1) := by decide +kernel
theorem dX6_scan_0 : decode cX6_scan 0 = .ok (.aload_n 0, 1) := by decide +kernel
theorem dX6_scan_1 : decode cX6_scan 1 = .ok (.iconst 0, 1) := by decide +kernel
theorem dX6_scan_2 : decode cX6_scan 2 = .ok (.putfield 56, 3) := by decide +kernel
theorem dX6_scan_5 : decode cX6_scan 5 = .ok (.aload_n 0, 1) := by decide +kernel
theorem dX6_scan_6 : decode cX6_scan 6 = .ok (.lconst 0, 1) := by decide +kernel
theorem dX6_scan_7 : decode cX6_scan 7 = .ok (.putfield 59, 3) := by decide +kernel
theorem dX6_scan_10 : decode cX6_scan 10 = .ok (.aload_n 0, 1) := by decide +kernel
theorem dX6_scan_11 : decode cX6_scan 11 = .ok (.iload_n 2, 1) := by decide +kernel
theorem dX6_scan_12 : decode cX6_scan 12 = .ok (.iconst 1, 1) := by decide +kernel
theorem dX6_scan_13 : decode cX6_scan 13 = .ok (.iadd, 1) := by decide +kernel
theorem dX6_scan_14 : decode cX6_scan 14 = .ok (.putfield 36, 3) := by decide +kernel
theorem dX6_scan_17 : decode cX6_scan 17 = .ok (.aload_n 1, 1) := by decide +kernel
theorem dX6_scan_18 : decode cX6_scan 18 = .ok (.iload_n 2, 1) := by decide +kernel
theorem dX6_scan_19 : decode cX6_scan 19 = .ok (.invokevirtual 63, 3) := by decide +kernel
theorem dX6_scan_22 : decode cX6_scan 22 = .ok (.bipush 59, 2) := by decide +kernel
theorem dX6_scan_24 : decode cX6_scan 24 = .ok (.if_icmp .ne 11, 3) := by decide +kernel
theorem dX6_scan_27 : decode cX6_scan 27 = .ok (.aload_n 0, 1) := by decide +kernel
theorem dX6_scan_28 : decode cX6_scan 28 = .ok (.iconst 1, 1) := by decide +kernel
theorem dX6_scan_29 : decode cX6_scan 29 = .ok (.putfield 56, 3) := by decide +kernel
theorem dX6_scan_32 : decode cX6_scan 32 = .ok (.goto 74, 3) := by decide +kernel
theorem dX6_scan_35 : decode cX6_scan 35 = .ok (.aload_n 1, 1) := by decide +kernel
theorem dX6_scan_36 : decode cX6_scan 36 = .ok (.iload_n 2, 1) := by decide +kernel
theorem dX6_scan_37 : decode cX6_scan 37 = .ok (.invokevirtual 66, 3) := by decide +kernel
theorem dX6_scan_40 : decode cX6_scan 40 = .ok (.ifCond .eq 66, 3) := by decide +kernel
theorem dX6_scan_43 : decode cX6_scan 43 = .ok (.aload_n 0, 1) := by decide +kernel
theorem dX6_scan_44 : decode cX6_scan 44 = .ok (.aload_n 1, 1) := by decide +kernel
theorem dX6_scan_45 : decode cX6_scan 45 = .ok (.iload_n 2, 1) := by decide +kernel
theorem dX6_scan_46 : decode cX6_scan 46 = .ok (.invokevirtual 70, 3) := by decide +kernel
theorem dX6_scan_49 : decode cX6_scan 49 = .ok (.putfield 36, 3) := by decide +kernel
theorem dX6_scan_52 : decode cX6_scan 52 = .ok (.aload_n 0, 1) := by decide +kernel
theorem dX6_scan_53 : decode cX6_scan 53 = .ok (.getfield 36, 3) := by decide +kernel
theorem dX6_scan_56 : decode cX6_scan 56 = .ok (.iload_n 2, 1) := by decide +kernel
theorem dX6_scan_57 : decode cX6_scan 57 = .ok (.isub, 1) := by decide +kernel
theorem dX6_scan_58 : decode cX6_scan 58 = .ok (.bipush 7, 2) := by decide +kernel
theorem dX6_scan_60 : decode cX6_scan 60 = .ok (.if_icmp .gt 46, 3) := by decide +kernel
theorem dX6_scan_63 : decode cX6_scan 63 = .ok (.aload_n 0, 1) := by decide +kernel
theorem dX6_scan_64 : decode cX6_scan 64 = .ok (.iconst 2, 1) := by decide +kernel
theorem dX6_scan_65 : decode cX6_scan 65 = .ok (.putfield 56, 3) := by decide +kernel
theorem dX6_scan_68 : decode cX6_scan 68 = .ok (.iload_n 2, 1) := by decide +kernel
theorem dX6_scan_69 : decode cX6_scan 69 = .ok (.istore_n 3, 1) := by decide +kernel
theorem dX6_scan_70 : decode cX6_scan 70 = .ok (.iload_n 3, 1) := by decide +kernel
theorem dX6_scan_71 : decode cX6_scan 71 = .ok (.aload_n 0, 1) := by decide +kernel
theorem dX6_scan_72 : decode cX6_scan 72 = .ok (.getfield 36, 3) := by decide +kernel
theorem dX6_scan_75 : decode cX6_scan 75 = .ok (.if_icmp .ge 31, 3) := by decide +kernel
theorem dX6_scan_78 : decode cX6_scan 78 = .ok (.aload_n 0, 1) := by decide +kernel
theorem dX6_scan_79 : decode cX6_scan 79 = .ok (.aload_n 0, 1) := by decide +kernel
theorem dX6_scan_80 : decode cX6_scan 80 = .ok (.getfield 59, 3) := by decide +kernel
theorem dX6_scan_83 : decode cX6_scan 83 = .ok (.ldc2_w 73, 3) := by decide +kernel
theorem dX6_scan_86 : decode cX6_scan 86 = .ok (.lmul, 1) := by decide +kernel
theorem dX6_scan_87 : decode cX6_scan 87 = .ok (.aload_n 1, 1) := by decide +kernel
theorem dX6_scan_88 : decode cX6_scan 88 = .ok (.iload_n 3, 1) := by decide +kernel
theorem dX6_scan_89 : decode cX6_scan 89 = .ok (.invokevirtual 63, 3) := by decide +kernel
theorem dX6_scan_92 : decode cX6_scan 92 = .ok (.bipush 96, 2) := by decide +kernel
theorem dX6_scan_94 : decode cX6_scan 94 = .ok (.isub, 1) := by decide +kernel
theorem dX6_scan_95 : decode cX6_scan 95 = .ok (.i2l, 1) := by decide +kernel
theorem dX6_scan_96 : decode cX6_scan 96 = .ok (.ladd, 1) := by decide +kernel
theorem dX6_scan_97 : decode cX6_scan 97 = .ok (.putfield 59, 3) := by decide +kernel
theorem dX6_scan_100 : decode cX6_scan 100 = .ok (.iinc 3 1, 3) := by decide +kernel
theorem dX6_scan_103 : decode cX6_scan 103 = .ok (.goto (-33), 3) := by decide +kernel
theorem dX6_scan_106 : decode cX6_scan 106 = .ok (.return_, 1) := by decide +kernel
theorem dX6_take_0 : decode cX6_take 0 = .ok (.aload_n 0, 1) := by decide +kernel
theorem dX6_take_1 : decode cX6_take 1 = .ok (.getfield 33, 3) := by decide +kernel
theorem dX6_take_4 : decode cX6_take 4 = .ok (.iconst 4, 1) := by decide +kernel
theorem dX6_take_5 : decode cX6_take 5 = .ok (.if_icmp .ne 8, 3) := by decide +kernel
theorem dX6_take_8 : decode cX6_take 8 = .ok (.aload_n 0, 1) := by decide +kernel
theorem dX6_take_9 : decode cX6_take 9 = .ok (.invokevirtual 75, 3) := by decide +kernel
theorem dX6_take_12 : decode cX6_take 12 = .ok (.ireturn, 1) := by decide +kernel
theorem dX6_take_13 : decode cX6_take 13 = .ok (.aload_n 0, 1) := by decide +kernel
theorem dX6_take_14 : decode cX6_take 14 = .ok (.getfield 56, 3) := by decide +kernel
theorem dX6_take_17 : decode cX6_take 17 = .ok (.iconst 2, 1) := by decide +kernel
theorem dX6_take_18 : decode cX6_take 18 = .ok (.if_icmp .eq 5, 3) := by decide +kernel
theorem dX6_take_21 : decode cX6_take 21 = .ok (.iconst 1, 1) := by decide +kernel
theorem dX6_take_22 : decode cX6_take 22 = .ok (.ireturn, 1) := by decide +kernel
theorem dX6_take_23 : decode cX6_take 23 = .ok (.aload_n 0, 1) := by decide +kernel
theorem dX6_take_24 : decode cX6_take 24 = .ok (.getfield 33, 3) := by decide +kernel
theorem dX6_take_27 : decode cX6_take 27 = .ok (.ifCond .ne 8, 3) := by decide +kernel
theorem dX6_take_30 : decode cX6_take 30 = .ok (.aload_n 0, 1) := by decide +kernel
theorem dX6_take_31 : decode cX6_take 31 = .ok (.invokevirtual 78, 3) := by decide +kernel
theorem dX6_take_34 : decode cX6_take 34 = .ok (.ireturn, 1) := by decide +kernel
theorem dX6_take_35 : decode cX6_take 35 = .ok (.aload_n 0, 1) := by decide +kernel
theorem dX6_take_36 : decode cX6_take 36 = .ok (.getfield 59, 3) := by decide +kernel
theorem dX6_take_39 : decode cX6_take 39 = .ok (.ldc2_w 81, 3) := by decide +kernel
theorem dX6_take_42 : decode cX6_take 42 = .ok (.lcmp, 1) := by decide +kernel
theorem dX6_take_43 : decode cX6_take 43 = .ok (.ifCond .eq 14, 3) := by decide +kernel
theorem dX6_take_46 : decode cX6_take 46 = .ok (.aload_n 0, 1) := by decide +kernel
theorem dX6_take_47 : decode cX6_take 47 = .ok (.getfield 59, 3) := by decide +kernel
theorem dX6_take_50 : decode cX6_take 50 = .ok (.ldc2_w 83, 3) := by decide +kernel
theorem dX6_take_53 : decode cX6_take 53 = .ok (.lcmp, 1) := by decide +kernel
theorem dX6_take_54 : decode cX6_take 54 = .ok (.ifCond .ne 5, 3) := by decide +kernel
theorem dX6_take_57 : decode cX6_take 57 = .ok (.iconst 1, 1) := by decide +kernel
theorem dX6_take_58 : decode cX6_take 58 = .ok (.ireturn, 1) := by decide +kernel
theorem dX6_take_59 : decode cX6_take 59 = .ok (.aload_n 0, 1) := by decide +kernel
theorem dX6_take_60 : decode cX6_take 60 = .ok (.getfield 33, 3) := by decide +kernel
theorem dX6_take_63 : decode cX6_take 63 = .ok (.iconst 1, 1) := by decide +kernel
theorem dX6_take_64 : decode cX6_take 64 = .ok (.if_icmp .ne 10, 3) := by decide +kernel
theorem dX6_take_67 : decode cX6_take 67 = .ok (.aload_n 0, 1) := by decide +kernel
theorem dX6_take_68 : decode cX6_take 68 = .ok (.invokevirtual 85, 3) := by decide +kernel
theorem dX6_take_71 : decode cX6_take 71 = .ok (.goto 7, 3) := by decide +kernel
theorem dX6_take_74 : decode cX6_take 74 = .ok (.aload_n 0, 1) := by decide +kernel
theorem dX6_take_75 : decode cX6_take 75 = .ok (.invokevirtual 88, 3) := by decide +kernel
theorem dX6_take_78 : decode cX6_take 78 = .ok (.ireturn, 1) := by decide +kernel
theorem dX6_takeSign_0 : decode cX6_takeSign 0 = .ok (.aload_n 0, 1) := by decide +kernel
theorem dX6_takeSign_1 : decode cX6_takeSign 1 = .ok (.getfield 56, 3) := by decide +kernel
theorem dX6_takeSign_4 : decode cX6_takeSign 4 = .ok (.iconst 1, 1) := by decide +kernel
theorem dX6_takeSign_5 : decode cX6_takeSign 5 = .ok (.if_icmp .eq 5, 3) := by decide +kernel
theorem dX6_takeSign_8 : decode cX6_takeSign 8 = .ok (.iconst 1, 1) := by decide +kernel
theorem dX6_takeSign_9 : decode cX6_takeSign 9 = .ok (.ireturn, 1) := by decide +kernel
theorem dX6_takeSign_10 : decode cX6_takeSign 10 = .ok (.aload_n 0, 1) := by decide +kernel
theorem dX6_takeSign_11 : decode cX6_takeSign 11 = .ok (.dup, 1) := by decide +kernel
theorem dX6_takeSign_12 : decode cX6_takeSign 12 = .ok (.getfield 30, 3) := by decide +kernel
theorem dX6_takeSign_15 : decode cX6_takeSign 15 = .ok (.iconst 1, 1) := by decide +kernel
theorem dX6_takeSign_16 : decode cX6_takeSign 16 = .ok (.iadd, 1) := by decide +kernel
theorem dX6_takeSign_17 : decode cX6_takeSign 17 = .ok (.putfield 30, 3) := by decide +kernel
theorem dX6_takeSign_20 : decode cX6_takeSign 20 = .ok (.aload_n 0, 1) := by decide +kernel
theorem dX6_takeSign_21 : decode cX6_takeSign 21 = .ok (.iconst 0, 1) := by decide +kernel
theorem dX6_takeSign_22 : decode cX6_takeSign 22 = .ok (.putfield 33, 3) := by decide +kernel
theorem dX6_takeSign_25 : decode cX6_takeSign 25 = .ok (.iconst 0, 1) := by decide +kernel
theorem dX6_takeSign_26 : decode cX6_takeSign 26 = .ok (.ireturn, 1) := by decide +kernel
theorem dX6_takeRowWord_0 : decode cX6_takeRowWord 0 = .ok (.aload_n 0, 1) := by decide +kernel
theorem dX6_takeRowWord_1 : decode cX6_takeRowWord 1 = .ok (.getfield 59, 3) := by decide +kernel
theorem dX6_takeRowWord_4 : decode cX6_takeRowWord 4 = .ok (.ldc2_w 83, 3) := by decide +kernel
theorem dX6_takeRowWord_7 : decode cX6_takeRowWord 7 = .ok (.lcmp, 1) := by decide +kernel
theorem dX6_takeRowWord_8 : decode cX6_takeRowWord 8 = .ok (.ifCond .ne 10, 3) := by decide +kernel
theorem dX6_takeRowWord_11 : decode cX6_takeRowWord 11 = .ok (.aload_n 0, 1) := by decide +kernel
theorem dX6_takeRowWord_12 : decode cX6_takeRowWord 12 = .ok (.iconst 2, 1) := by decide +kernel
theorem dX6_takeRowWord_13 : decode cX6_takeRowWord 13 = .ok (.putfield 33, 3) := by decide +kernel
theorem dX6_takeRowWord_16 : decode cX6_takeRowWord 16 = .ok (.iconst 0, 1) := by decide +kernel
theorem dX6_takeRowWord_17 : decode cX6_takeRowWord 17 = .ok (.ireturn, 1) := by decide +kernel
theorem dX6_takeRowWord_18 : decode cX6_takeRowWord 18 = .ok (.aload_n 0, 1) := by decide +kernel
theorem dX6_takeRowWord_19 : decode cX6_takeRowWord 19 = .ok (.getfield 59, 3) := by decide +kernel
theorem dX6_takeRowWord_22 : decode cX6_takeRowWord 22 = .ok (.ldc2_w 81, 3) := by decide +kernel
theorem dX6_takeRowWord_25 : decode cX6_takeRowWord 25 = .ok (.lcmp, 1) := by decide +kernel
theorem dX6_takeRowWord_26 : decode cX6_takeRowWord 26 = .ok (.ifCond .eq 5, 3) := by decide +kernel
theorem dX6_takeRowWord_29 : decode cX6_takeRowWord 29 = .ok (.iconst 1, 1) := by decide +kernel
theorem dX6_takeRowWord_30 : decode cX6_takeRowWord 30 = .ok (.ireturn, 1) := by decide +kernel
theorem dX6_takeRowWord_31 : decode cX6_takeRowWord 31 = .ok (.aload_n 0, 1) := by decide +kernel
theorem dX6_takeRowWord_32 : decode cX6_takeRowWord 32 = .ok (.iconst 1, 1) := by decide +kernel
theorem dX6_takeRowWord_33 : decode cX6_takeRowWord 33 = .ok (.putfield 33, 3) := by decide +kernel
theorem dX6_takeRowWord_36 : decode cX6_takeRowWord 36 = .ok (.aload_n 0, 1) := by decide +kernel
theorem dX6_takeRowWord_37 : decode cX6_takeRowWord 37 = .ok (.getfield 12, 3) := by decide +kernel
theorem dX6_takeRowWord_40 : decode cX6_takeRowWord 40 = .ok (.invokevirtual 91, 3) := by decide +kernel
theorem dX6_takeRowWord_43 : decode cX6_takeRowWord 43 = .ok (.bipush 14, 2) := by decide +kernel
theorem dX6_takeRowWord_45 : decode cX6_takeRowWord 45 = .ok (.if_icmp .ge 7, 3) := by decide +kernel
theorem dX6_takeRowWord_48 : decode cX6_takeRowWord 48 = .ok (.iconst 0, 1) := by decide +kernel
theorem dX6_takeRowWord_49 : decode cX6_takeRowWord 49 = .ok (.goto 4, 3) := by decide +kernel
theorem dX6_takeRowWord_52 : decode cX6_takeRowWord 52 = .ok (.iconst 3, 1) := by decide +kernel
theorem dX6_takeRowWord_53 : decode cX6_takeRowWord 53 = .ok (.ireturn, 1) := by decide +kernel
theorem dX6_takeName_0 : decode cX6_takeName 0 = .ok (.aload_n 0, 1) := by decide +kernel
theorem dX6_takeName_1 : decode cX6_takeName 1 = .ok (.invokevirtual 92, 3) := by decide +kernel
theorem dX6_takeName_4 : decode cX6_takeName 4 = .ok (.iconst (-1), 1) := by decide +kernel
theorem dX6_takeName_5 : decode cX6_takeName 5 = .ok (.if_icmp .eq 5, 3) := by decide +kernel
theorem dX6_takeName_8 : decode cX6_takeName 8 = .ok (.iconst 2, 1) := by decide +kernel
theorem dX6_takeName_9 : decode cX6_takeName 9 = .ok (.ireturn, 1) := by decide +kernel
theorem dX6_takeName_10 : decode cX6_takeName 10 = .ok (.aload_n 0, 1) := by decide +kernel
theorem dX6_takeName_11 : decode cX6_takeName 11 = .ok (.getfield 12, 3) := by decide +kernel
theorem dX6_takeName_14 : decode cX6_takeName 14 = .ok (.invokevirtual 91, 3) := by decide +kernel
theorem dX6_takeName_17 : decode cX6_takeName 17 = .ok (.istore_n 1, 1) := by decide +kernel
theorem dX6_takeName_18 : decode cX6_takeName 18 = .ok (.iload_n 1, 1) := by decide +kernel
theorem dX6_takeName_19 : decode cX6_takeName 19 = .ok (.ifCond .lt 22, 3) := by decide +kernel
theorem dX6_takeName_22 : decode cX6_takeName 22 = .ok (.iload_n 1, 1) := by decide +kernel
theorem dX6_takeName_23 : decode cX6_takeName 23 = .ok (.aload_n 0, 1) := by decide +kernel
theorem dX6_takeName_24 : decode cX6_takeName 24 = .ok (.getfield 18, 3) := by decide +kernel
theorem dX6_takeName_27 : decode cX6_takeName 27 = .ok (.arraylength, 1) := by decide +kernel
theorem dX6_takeName_28 : decode cX6_takeName 28 = .ok (.if_icmp .ge 13, 3) := by decide +kernel
theorem dX6_takeName_31 : decode cX6_takeName 31 = .ok (.aload_n 0, 1) := by decide +kernel
theorem dX6_takeName_32 : decode cX6_takeName 32 = .ok (.getfield 18, 3) := by decide +kernel
theorem dX6_takeName_35 : decode cX6_takeName 35 = .ok (.iload_n 1, 1) := by decide +kernel
theorem dX6_takeName_36 : decode cX6_takeName 36 = .ok (.aload_n 0, 1) := by decide +kernel
theorem dX6_takeName_37 : decode cX6_takeName 37 = .ok (.getfield 59, 3) := by decide +kernel
theorem dX6_takeName_40 : decode cX6_takeName 40 = .ok (.lastore, 1) := by decide +kernel
theorem dX6_takeName_41 : decode cX6_takeName 41 = .ok (.aload_n 0, 1) := by decide +kernel
theorem dX6_takeName_42 : decode cX6_takeName 42 = .ok (.getfield 12, 3) := by decide +kernel
theorem dX6_takeName_45 : decode cX6_takeName 45 = .ok (.iconst 0, 1) := by decide +kernel
theorem dX6_takeName_46 : decode cX6_takeName 46 = .ok (.invokevirtual 95, 3) := by decide +kernel
theorem dX6_takeName_49 : decode cX6_takeName 49 = .ok (.aload_n 0, 1) := by decide +kernel
theorem dX6_takeName_50 : decode cX6_takeName 50 = .ok (.iconst 4, 1) := by decide +kernel
theorem dX6_takeName_51 : decode cX6_takeName 51 = .ok (.putfield 33, 3) := by decide +kernel
theorem dX6_takeName_54 : decode cX6_takeName 54 = .ok (.iconst 0, 1) := by decide +kernel
theorem dX6_takeName_55 : decode cX6_takeName 55 = .ok (.ireturn, 1) := by decide +kernel
theorem dX6_takePoint_0 : decode cX6_takePoint 0 = .ok (.aload_n 0, 1) := by decide +kernel
theorem dX6_takePoint_1 : decode cX6_takePoint 1 = .ok (.invokevirtual 92, 3) := by decide +kernel
theorem dX6_takePoint_4 : decode cX6_takePoint 4 = .ok (.istore_n 1, 1) := by decide +kernel
theorem dX6_takePoint_5 : decode cX6_takePoint 5 = .ok (.iload_n 1, 1) := by decide +kernel
theorem dX6_takePoint_6 : decode cX6_takePoint 6 = .ok (.iconst (-1), 1) := by decide +kernel
theorem dX6_takePoint_7 : decode cX6_takePoint 7 = .ok (.if_icmp .ne 5, 3) := by decide +kernel
theorem dX6_takePoint_10 : decode cX6_takePoint 10 = .ok (.iconst 2, 1) := by decide +kernel
theorem dX6_takePoint_11 : decode cX6_takePoint 11 = .ok (.ireturn, 1) := by decide +kernel
theorem dX6_takePoint_12 : decode cX6_takePoint 12 = .ok (.aload_n 0, 1) := by decide +kernel
theorem dX6_takePoint_13 : decode cX6_takePoint 13 = .ok (.getfield 33, 3) := by decide +kernel
theorem dX6_takePoint_16 : decode cX6_takePoint 16 = .ok (.iconst 2, 1) := by decide +kernel
theorem dX6_takePoint_17 : decode cX6_takePoint 17 = .ok (.if_icmp .ne 15, 3) := by decide +kernel
theorem dX6_takePoint_20 : decode cX6_takePoint 20 = .ok (.aload_n 0, 1) := by decide +kernel
theorem dX6_takePoint_21 : decode cX6_takePoint 21 = .ok (.iload_n 1, 1) := by decide +kernel
theorem dX6_takePoint_22 : decode cX6_takePoint 22 = .ok (.putfield 98, 3) := by decide +kernel
theorem dX6_takePoint_25 : decode cX6_takePoint 25 = .ok (.aload_n 0, 1) := by decide +kernel
theorem dX6_takePoint_26 : decode cX6_takePoint 26 = .ok (.iconst 3, 1) := by decide +kernel
theorem dX6_takePoint_27 : decode cX6_takePoint 27 = .ok (.putfield 33, 3) := by decide +kernel
theorem dX6_takePoint_30 : decode cX6_takePoint 30 = .ok (.iconst 0, 1) := by decide +kernel
theorem dX6_takePoint_31 : decode cX6_takePoint 31 = .ok (.ireturn, 1) := by decide +kernel
theorem dX6_takePoint_32 : decode cX6_takePoint 32 = .ok (.iload_n 1, 1) := by decide +kernel
theorem dX6_takePoint_33 : decode cX6_takePoint 33 = .ok (.aload_n 0, 1) := by decide +kernel
theorem dX6_takePoint_34 : decode cX6_takePoint 34 = .ok (.getfield 98, 3) := by decide +kernel
theorem dX6_takePoint_37 : decode cX6_takePoint 37 = .ok (.if_icmp .eq 18, 3) := by decide +kernel
theorem dX6_takePoint_40 : decode cX6_takePoint 40 = .ok (.aload_n 0, 1) := by decide +kernel
theorem dX6_takePoint_41 : decode cX6_takePoint 41 = .ok (.getfield 12, 3) := by decide +kernel
theorem dX6_takePoint_44 : decode cX6_takePoint 44 = .ok (.aload_n 0, 1) := by decide +kernel
theorem dX6_takePoint_45 : decode cX6_takePoint 45 = .ok (.getfield 98, 3) := by decide +kernel
theorem dX6_takePoint_48 : decode cX6_takePoint 48 = .ok (.iload_n 1, 1) := by decide +kernel
theorem dX6_takePoint_49 : decode cX6_takePoint 49 = .ok (.invokevirtual 101, 3) := by decide +kernel
theorem dX6_takePoint_52 : decode cX6_takePoint 52 = .ok (.ifCond .eq 5, 3) := by decide +kernel
theorem dX6_takePoint_55 : decode cX6_takePoint 55 = .ok (.iconst 2, 1) := by decide +kernel
theorem dX6_takePoint_56 : decode cX6_takePoint 56 = .ok (.ireturn, 1) := by decide +kernel
theorem dX6_takePoint_57 : decode cX6_takePoint 57 = .ok (.aload_n 0, 1) := by decide +kernel
theorem dX6_takePoint_58 : decode cX6_takePoint 58 = .ok (.getfield 12, 3) := by decide +kernel
theorem dX6_takePoint_61 : decode cX6_takePoint 61 = .ok (.aload_n 0, 1) := by decide +kernel
theorem dX6_takePoint_62 : decode cX6_takePoint 62 = .ok (.getfield 98, 3) := by decide +kernel
theorem dX6_takePoint_65 : decode cX6_takePoint 65 = .ok (.iload_n 1, 1) := by decide +kernel
theorem dX6_takePoint_66 : decode cX6_takePoint 66 = .ok (.invokevirtual 105, 3) := by decide +kernel
theorem dX6_takePoint_69 : decode cX6_takePoint 69 = .ok (.aload_n 0, 1) := by decide +kernel
theorem dX6_takePoint_70 : decode cX6_takePoint 70 = .ok (.iconst 4, 1) := by decide +kernel
theorem dX6_takePoint_71 : decode cX6_takePoint 71 = .ok (.putfield 33, 3) := by decide +kernel
theorem dX6_takePoint_74 : decode cX6_takePoint 74 = .ok (.iconst 0, 1) := by decide +kernel
theorem dX6_takePoint_75 : decode cX6_takePoint 75 = .ok (.ireturn, 1) := by decide +kernel
theorem dX6_toldAs_0 : decode cX6_toldAs 0 = .ok (.iconst 0, 1) := by decide +kernel
theorem dX6_toldAs_1 : decode cX6_toldAs 1 = .ok (.istore_n 1, 1) := by decide +kernel
theorem dX6_toldAs_2 : decode cX6_toldAs 2 = .ok (.iload_n 1, 1) := by decide +kernel
theorem dX6_toldAs_3 : decode cX6_toldAs 3 = .ok (.aload_n 0, 1) := by decide +kernel
theorem dX6_toldAs_4 : decode cX6_toldAs 4 = .ok (.getfield 12, 3) := by decide +kernel
theorem dX6_toldAs_7 : decode cX6_toldAs 7 = .ok (.invokevirtual 91, 3) := by decide +kernel
theorem dX6_toldAs_10 : decode cX6_toldAs 10 = .ok (.if_icmp .ge 34, 3) := by decide +kernel
theorem dX6_toldAs_13 : decode cX6_toldAs 13 = .ok (.iload_n 1, 1) := by decide +kernel
theorem dX6_toldAs_14 : decode cX6_toldAs 14 = .ok (.aload_n 0, 1) := by decide +kernel
theorem dX6_toldAs_15 : decode cX6_toldAs 15 = .ok (.getfield 18, 3) := by decide +kernel
theorem dX6_toldAs_18 : decode cX6_toldAs 18 = .ok (.arraylength, 1) := by decide +kernel
theorem dX6_toldAs_19 : decode cX6_toldAs 19 = .ok (.if_icmp .ge 25, 3) := by decide +kernel
theorem dX6_toldAs_22 : decode cX6_toldAs 22 = .ok (.aload_n 0, 1) := by decide +kernel
theorem dX6_toldAs_23 : decode cX6_toldAs 23 = .ok (.getfield 18, 3) := by decide +kernel
theorem dX6_toldAs_26 : decode cX6_toldAs 26 = .ok (.iload_n 1, 1) := by decide +kernel
theorem dX6_toldAs_27 : decode cX6_toldAs 27 = .ok (.laload, 1) := by decide +kernel
theorem dX6_toldAs_28 : decode cX6_toldAs 28 = .ok (.aload_n 0, 1) := by decide +kernel
theorem dX6_toldAs_29 : decode cX6_toldAs 29 = .ok (.getfield 59, 3) := by decide +kernel
theorem dX6_toldAs_32 : decode cX6_toldAs 32 = .ok (.lcmp, 1) := by decide +kernel
theorem dX6_toldAs_33 : decode cX6_toldAs 33 = .ok (.ifCond .ne 5, 3) := by decide +kernel
theorem dX6_toldAs_36 : decode cX6_toldAs 36 = .ok (.iload_n 1, 1) := by decide +kernel
theorem dX6_toldAs_37 : decode cX6_toldAs 37 = .ok (.ireturn, 1) := by decide +kernel
theorem dX6_toldAs_38 : decode cX6_toldAs 38 = .ok (.iinc 1 1, 3) := by decide +kernel
theorem dX6_toldAs_41 : decode cX6_toldAs 41 = .ok (.goto (-39), 3) := by decide +kernel
theorem dX6_toldAs_44 : decode cX6_toldAs 44 = .ok (.iconst (-1), 1) := by decide +kernel
theorem dX6_toldAs_45 : decode cX6_toldAs 45 = .ok (.ireturn, 1) := by decide +kernel
theorem dX7_init_0 : decode cX7_init 0 = .ok (.aload_n 0, 1) := by decide +kernel
theorem dX7_init_1 : decode cX7_init 1 = .ok (.invokespecial 3, 3) := by decide +kernel
theorem dX7_init_4 : decode cX7_init 4 = .ok (.aload_n 0, 1) := by decide +kernel
theorem dX7_init_5 : decode cX7_init 5 = .ok (.bipush 120, 2) := by decide +kernel
theorem dX7_init_7 : decode cX7_init 7 = .ok (.newarray .int, 2) := by decide +kernel
theorem dX7_init_9 : decode cX7_init 9 = .ok (.putfield 11, 3) := by decide +kernel
theorem dX7_init_12 : decode cX7_init 12 = .ok (.return_, 1) := by decide +kernel
theorem dX7_save_0 : decode cX7_save 0 = .ok (.iload_n 1, 1) := by decide +kernel
theorem dX7_save_1 : decode cX7_save 1 = .ok (.bipush 15, 2) := by decide +kernel
theorem dX7_save_3 : decode cX7_save 3 = .ok (.imul, 1) := by decide +kernel
theorem dX7_save_4 : decode cX7_save 4 = .ok (.istore_n 3, 1) := by decide +kernel
theorem dX7_save_5 : decode cX7_save 5 = .ok (.aload_n 0, 1) := by decide +kernel
theorem dX7_save_6 : decode cX7_save 6 = .ok (.getfield 11, 3) := by decide +kernel
theorem dX7_save_9 : decode cX7_save 9 = .ok (.iload_n 3, 1) := by decide +kernel
theorem dX7_save_10 : decode cX7_save 10 = .ok (.aload_n 2, 1) := by decide +kernel
theorem dX7_save_11 : decode cX7_save 11 = .ok (.invokevirtual 15, 3) := by decide +kernel
theorem dX7_save_14 : decode cX7_save 14 = .ok (.invokestatic 21, 3) := by decide +kernel
theorem dX7_save_17 : decode cX7_save 17 = .ok (.iconst 0, 1) := by decide +kernel
theorem dX7_save_18 : decode cX7_save 18 = .ok (.istore 4, 2) := by decide +kernel
theorem dX7_save_20 : decode cX7_save 20 = .ok (.iload 4, 2) := by decide +kernel
theorem dX7_save_22 : decode cX7_save 22 = .ok (.bipush 14, 2) := by decide +kernel
theorem dX7_save_24 : decode cX7_save 24 = .ok (.if_icmp .ge 28, 3) := by decide +kernel
theorem dX7_save_27 : decode cX7_save 27 = .ok (.aload_n 0, 1) := by decide +kernel
theorem dX7_save_28 : decode cX7_save 28 = .ok (.getfield 11, 3) := by decide +kernel
theorem dX7_save_31 : decode cX7_save 31 = .ok (.iload_n 3, 1) := by decide +kernel
theorem dX7_save_32 : decode cX7_save 32 = .ok (.iconst 1, 1) := by decide +kernel
theorem dX7_save_33 : decode cX7_save 33 = .ok (.iadd, 1) := by decide +kernel
theorem dX7_save_34 : decode cX7_save 34 = .ok (.iload 4, 2) := by decide +kernel
theorem dX7_save_36 : decode cX7_save 36 = .ok (.iadd, 1) := by decide +kernel
theorem dX7_save_37 : decode cX7_save 37 = .ok (.aload_n 2, 1) := by decide +kernel
theorem dX7_save_38 : decode cX7_save 38 = .ok (.iload 4, 2) := by decide +kernel
theorem dX7_save_40 : decode cX7_save 40 = .ok (.invokevirtual 25, 3) := by decide +kernel
theorem dX7_save_43 : decode cX7_save 43 = .ok (.invokestatic 21, 3) := by decide +kernel
theorem dX7_save_46 : decode cX7_save 46 = .ok (.iinc 4 1, 3) := by decide +kernel
theorem dX7_save_49 : decode cX7_save 49 = .ok (.goto (-29), 3) := by decide +kernel
theorem dX7_save_52 : decode cX7_save 52 = .ok (.return_, 1) := by decide +kernel
theorem dX7_load_0 : decode cX7_load 0 = .ok (.iload_n 1, 1) := by decide +kernel
theorem dX7_load_1 : decode cX7_load 1 = .ok (.bipush 15, 2) := by decide +kernel
theorem dX7_load_3 : decode cX7_load 3 = .ok (.imul, 1) := by decide +kernel
theorem dX7_load_4 : decode cX7_load 4 = .ok (.istore_n 3, 1) := by decide +kernel
theorem dX7_load_5 : decode cX7_load 5 = .ok (.aload_n 2, 1) := by decide +kernel
theorem dX7_load_6 : decode cX7_load 6 = .ok (.aload_n 0, 1) := by decide +kernel
theorem dX7_load_7 : decode cX7_load 7 = .ok (.getfield 11, 3) := by decide +kernel
theorem dX7_load_10 : decode cX7_load 10 = .ok (.iload_n 3, 1) := by decide +kernel
theorem dX7_load_11 : decode cX7_load 11 = .ok (.invokestatic 29, 3) := by decide +kernel
theorem dX7_load_14 : decode cX7_load 14 = .ok (.invokevirtual 33, 3) := by decide +kernel
theorem dX7_load_17 : decode cX7_load 17 = .ok (.iconst 0, 1) := by decide +kernel
theorem dX7_load_18 : decode cX7_load 18 = .ok (.istore 4, 2) := by decide +kernel
theorem dX7_load_20 : decode cX7_load 20 = .ok (.iload 4, 2) := by decide +kernel
theorem dX7_load_22 : decode cX7_load 22 = .ok (.aload_n 2, 1) := by decide +kernel
theorem dX7_load_23 : decode cX7_load 23 = .ok (.invokevirtual 15, 3) := by decide +kernel
theorem dX7_load_26 : decode cX7_load 26 = .ok (.if_icmp .ge 28, 3) := by decide +kernel
theorem dX7_load_29 : decode cX7_load 29 = .ok (.aload_n 2, 1) := by decide +kernel
theorem dX7_load_30 : decode cX7_load 30 = .ok (.iload 4, 2) := by decide +kernel
theorem dX7_load_32 : decode cX7_load 32 = .ok (.aload_n 0, 1) := by decide +kernel
theorem dX7_load_33 : decode cX7_load 33 = .ok (.getfield 11, 3) := by decide +kernel
theorem dX7_load_36 : decode cX7_load 36 = .ok (.iload_n 3, 1) := by decide +kernel
theorem dX7_load_37 : decode cX7_load 37 = .ok (.iconst 1, 1) := by decide +kernel
theorem dX7_load_38 : decode cX7_load 38 = .ok (.iadd, 1) := by decide +kernel
theorem dX7_load_39 : decode cX7_load 39 = .ok (.iload 4, 2) := by decide +kernel
theorem dX7_load_41 : decode cX7_load 41 = .ok (.iadd, 1) := by decide +kernel
theorem dX7_load_42 : decode cX7_load 42 = .ok (.invokestatic 29, 3) := by decide +kernel
theorem dX7_load_45 : decode cX7_load 45 = .ok (.invokevirtual 37, 3) := by decide +kernel
theorem dX7_load_48 : decode cX7_load 48 = .ok (.iinc 4 1, 3) := by decide +kernel
theorem dX7_load_51 : decode cX7_load 51 = .ok (.goto (-31), 3) := by decide +kernel
theorem dX7_load_54 : decode cX7_load 54 = .ok (.return_, 1) := by decide +kernel
theorem dX8_init_0 : decode cX8_init 0 = .ok (.aload_n 0, 1) := by decide +kernel
theorem dX8_init_1 : decode cX8_init 1 = .ok (.invokespecial 3, 3) := by decide +kernel
theorem dX8_init_4 : decode cX8_init 4 = .ok (.aload_n 0, 1) := by decide +kernel
theorem dX8_init_5 : decode cX8_init 5 = .ok (.sipush 740, 3) := by decide +kernel
theorem dX8_init_8 : decode cX8_init 8 = .ok (.newarray .int, 2) := by decide +kernel
theorem dX8_init_10 : decode cX8_init 10 = .ok (.putfield 9, 3) := by decide +kernel
theorem dX8_init_13 : decode cX8_init 13 = .ok (.return_, 1) := by decide +kernel
theorem dX8_size_0 : decode cX8_size 0 = .ok (.aload_n 0, 1) := by decide +kernel
theorem dX8_size_1 : decode cX8_size 1 = .ok (.getfield 15, 3) := by decide +kernel
theorem dX8_size_4 : decode cX8_size 4 = .ok (.ireturn, 1) := by decide +kernel
theorem dX8_byteAt_0 : decode cX8_byteAt 0 = .ok (.aload_n 0, 1) := by decide +kernel
theorem dX8_byteAt_1 : decode cX8_byteAt 1 = .ok (.getfield 9, 3) := by decide +kernel
theorem dX8_byteAt_4 : decode cX8_byteAt 4 = .ok (.iload_n 1, 1) := by decide +kernel
theorem dX8_byteAt_5 : decode cX8_byteAt 5 = .ok (.invokestatic 19, 3) := by decide +kernel
theorem dX8_byteAt_8 : decode cX8_byteAt 8 = .ok (.ireturn, 1) := by decide +kernel
theorem dX8_addFour_0 : decode cX8_addFour 0 = .ok (.bipush 24, 2) := by decide +kernel
theorem dX8_addFour_2 : decode cX8_addFour 2 = .ok (.istore_n 2, 1) := by decide +kernel
theorem dX8_addFour_3 : decode cX8_addFour 3 = .ok (.iload_n 2, 1) := by decide +kernel
theorem dX8_addFour_4 : decode cX8_addFour 4 = .ok (.ifCond .lt 37, 3) := by decide +kernel
theorem dX8_addFour_7 : decode cX8_addFour 7 = .ok (.aload_n 0, 1) := by decide +kernel
theorem dX8_addFour_8 : decode cX8_addFour 8 = .ok (.getfield 9, 3) := by decide +kernel
theorem dX8_addFour_11 : decode cX8_addFour 11 = .ok (.aload_n 0, 1) := by decide +kernel
theorem dX8_addFour_12 : decode cX8_addFour 12 = .ok (.getfield 15, 3) := by decide +kernel
theorem dX8_addFour_15 : decode cX8_addFour 15 = .ok (.iload_n 1, 1) := by decide +kernel
theorem dX8_addFour_16 : decode cX8_addFour 16 = .ok (.iload_n 2, 1) := by decide +kernel
theorem dX8_addFour_17 : decode cX8_addFour 17 = .ok (.iushr, 1) := by decide +kernel
theorem dX8_addFour_18 : decode cX8_addFour 18 = .ok (.sipush 255, 3) := by decide +kernel
theorem dX8_addFour_21 : decode cX8_addFour 21 = .ok (.iand, 1) := by decide +kernel
theorem dX8_addFour_22 : decode cX8_addFour 22 = .ok (.invokestatic 23, 3) := by decide +kernel
theorem dX8_addFour_25 : decode cX8_addFour 25 = .ok (.aload_n 0, 1) := by decide +kernel
theorem dX8_addFour_26 : decode cX8_addFour 26 = .ok (.dup, 1) := by decide +kernel
theorem dX8_addFour_27 : decode cX8_addFour 27 = .ok (.getfield 15, 3) := by decide +kernel
theorem dX8_addFour_30 : decode cX8_addFour 30 = .ok (.iconst 1, 1) := by decide +kernel
theorem dX8_addFour_31 : decode cX8_addFour 31 = .ok (.iadd, 1) := by decide +kernel
theorem dX8_addFour_32 : decode cX8_addFour 32 = .ok (.putfield 15, 3) := by decide +kernel
theorem dX8_addFour_35 : decode cX8_addFour 35 = .ok (.iinc 2 (-8), 3) := by decide +kernel
theorem dX8_addFour_38 : decode cX8_addFour 38 = .ok (.goto (-35), 3) := by decide +kernel
theorem dX8_addFour_41 : decode cX8_addFour 41 = .ok (.return_, 1) := by decide +kernel
theorem dX8_cut_0 : decode cX8_cut 0 = .ok (.iload_n 1, 1) := by decide +kernel
theorem dX8_cut_1 : decode cX8_cut 1 = .ok (.ifCond .lt 11, 3) := by decide +kernel
theorem dX8_cut_4 : decode cX8_cut 4 = .ok (.iload_n 1, 1) := by decide +kernel
theorem dX8_cut_5 : decode cX8_cut 5 = .ok (.aload_n 0, 1) := by decide +kernel
theorem dX8_cut_6 : decode cX8_cut 6 = .ok (.getfield 15, 3) := by decide +kernel
theorem dX8_cut_9 : decode cX8_cut 9 = .ok (.if_icmp .le 5, 3) := by decide +kernel
theorem dX8_cut_12 : decode cX8_cut 12 = .ok (.iconst 0, 1) := by decide +kernel
theorem dX8_cut_13 : decode cX8_cut 13 = .ok (.ireturn, 1) := by decide +kernel
theorem dX8_cut_14 : decode cX8_cut 14 = .ok (.aload_n 0, 1) := by decide +kernel
theorem dX8_cut_15 : decode cX8_cut 15 = .ok (.iload_n 1, 1) := by decide +kernel
theorem dX8_cut_16 : decode cX8_cut 16 = .ok (.putfield 15, 3) := by decide +kernel
theorem dX8_cut_19 : decode cX8_cut 19 = .ok (.iconst 1, 1) := by decide +kernel
theorem dX8_cut_20 : decode cX8_cut 20 = .ok (.ireturn, 1) := by decide +kernel
theorem dX8_pastBlanks_0 : decode cX8_pastBlanks 0 = .ok (.iload_n 1, 1) := by decide +kernel
theorem dX8_pastBlanks_1 : decode cX8_pastBlanks 1 = .ok (.istore_n 2, 1) := by decide +kernel
theorem dX8_pastBlanks_2 : decode cX8_pastBlanks 2 = .ok (.iload_n 2, 1) := by decide +kernel
theorem dX8_pastBlanks_3 : decode cX8_pastBlanks 3 = .ok (.aload_n 0, 1) := by decide +kernel
theorem dX8_pastBlanks_4 : decode cX8_pastBlanks 4 = .ok (.getfield 15, 3) := by decide +kernel
theorem dX8_pastBlanks_7 : decode cX8_pastBlanks 7 = .ok (.if_icmp .ge 31, 3) := by decide +kernel
theorem dX8_pastBlanks_10 : decode cX8_pastBlanks 10 = .ok (.aload_n 0, 1) := by decide +kernel
theorem dX8_pastBlanks_11 : decode cX8_pastBlanks 11 = .ok (.iload_n 2, 1) := by decide +kernel
theorem dX8_pastBlanks_12 : decode cX8_pastBlanks 12 = .ok (.invokevirtual 27, 3) := by decide +kernel
theorem dX8_pastBlanks_15 : decode cX8_pastBlanks 15 = .ok (.bipush 32, 2) := by decide +kernel
theorem dX8_pastBlanks_17 : decode cX8_pastBlanks 17 = .ok (.if_icmp .eq 15, 3) := by decide +kernel
theorem dX8_pastBlanks_20 : decode cX8_pastBlanks 20 = .ok (.aload_n 0, 1) := by decide +kernel
theorem dX8_pastBlanks_21 : decode cX8_pastBlanks 21 = .ok (.iload_n 2, 1) := by decide +kernel
theorem dX8_pastBlanks_22 : decode cX8_pastBlanks 22 = .ok (.invokevirtual 27, 3) := by decide +kernel
theorem dX8_pastBlanks_25 : decode cX8_pastBlanks 25 = .ok (.bipush 10, 2) := by decide +kernel
theorem dX8_pastBlanks_27 : decode cX8_pastBlanks 27 = .ok (.if_icmp .eq 5, 3) := by decide +kernel
theorem dX8_pastBlanks_30 : decode cX8_pastBlanks 30 = .ok (.iload_n 2, 1) := by decide +kernel
theorem dX8_pastBlanks_31 : decode cX8_pastBlanks 31 = .ok (.ireturn, 1) := by decide +kernel
theorem dX8_pastBlanks_32 : decode cX8_pastBlanks 32 = .ok (.iinc 2 1, 3) := by decide +kernel
theorem dX8_pastBlanks_35 : decode cX8_pastBlanks 35 = .ok (.goto (-33), 3) := by decide +kernel
theorem dX8_pastBlanks_38 : decode cX8_pastBlanks 38 = .ok (.aload_n 0, 1) := by decide +kernel
theorem dX8_pastBlanks_39 : decode cX8_pastBlanks 39 = .ok (.getfield 15, 3) := by decide +kernel
theorem dX8_pastBlanks_42 : decode cX8_pastBlanks 42 = .ok (.ireturn, 1) := by decide +kernel
theorem dX8_isLetter_0 : decode cX8_isLetter 0 = .ok (.iload_n 1, 1) := by decide +kernel
theorem dX8_isLetter_1 : decode cX8_isLetter 1 = .ok (.aload_n 0, 1) := by decide +kernel
theorem dX8_isLetter_2 : decode cX8_isLetter 2 = .ok (.getfield 15, 3) := by decide +kernel
theorem dX8_isLetter_5 : decode cX8_isLetter 5 = .ok (.if_icmp .ge 27, 3) := by decide +kernel
theorem dX8_isLetter_8 : decode cX8_isLetter 8 = .ok (.aload_n 0, 1) := by decide +kernel
theorem dX8_isLetter_9 : decode cX8_isLetter 9 = .ok (.iload_n 1, 1) := by decide +kernel
theorem dX8_isLetter_10 : decode cX8_isLetter 10 = .ok (.invokevirtual 27, 3) := by decide +kernel
theorem dX8_isLetter_13 : decode cX8_isLetter 13 = .ok (.bipush 97, 2) := by decide +kernel
theorem dX8_isLetter_15 : decode cX8_isLetter 15 = .ok (.if_icmp .lt 17, 3) := by decide +kernel
theorem dX8_isLetter_18 : decode cX8_isLetter 18 = .ok (.aload_n 0, 1) := by decide +kernel
theorem dX8_isLetter_19 : decode cX8_isLetter 19 = .ok (.iload_n 1, 1) := by decide +kernel
theorem dX8_isLetter_20 : decode cX8_isLetter 20 = .ok (.invokevirtual 27, 3) := by decide +kernel
theorem dX8_isLetter_23 : decode cX8_isLetter 23 = .ok (.bipush 122, 2) := by decide +kernel
theorem dX8_isLetter_25 : decode cX8_isLetter 25 = .ok (.if_icmp .gt 7, 3) := by decide +kernel
theorem dX8_isLetter_28 : decode cX8_isLetter 28 = .ok (.iconst 1, 1) := by decide +kernel
theorem dX8_isLetter_29 : decode cX8_isLetter 29 = .ok (.goto 4, 3) := by decide +kernel
theorem dX8_isLetter_32 : decode cX8_isLetter 32 = .ok (.iconst 0, 1) := by decide +kernel
theorem dX8_isLetter_33 : decode cX8_isLetter 33 = .ok (.ireturn, 1) := by decide +kernel
theorem dX8_pastLetters_0 : decode cX8_pastLetters 0 = .ok (.iload_n 1, 1) := by decide +kernel
theorem dX8_pastLetters_1 : decode cX8_pastLetters 1 = .ok (.istore_n 2, 1) := by decide +kernel
theorem dX8_pastLetters_2 : decode cX8_pastLetters 2 = .ok (.iload_n 2, 1) := by decide +kernel
theorem dX8_pastLetters_3 : decode cX8_pastLetters 3 = .ok (.aload_n 0, 1) := by decide +kernel
theorem dX8_pastLetters_4 : decode cX8_pastLetters 4 = .ok (.getfield 15, 3) := by decide +kernel
theorem dX8_pastLetters_7 : decode cX8_pastLetters 7 = .ok (.if_icmp .ge 19, 3) := by decide +kernel
theorem dX8_pastLetters_10 : decode cX8_pastLetters 10 = .ok (.aload_n 0, 1) := by decide +kernel
theorem dX8_pastLetters_11 : decode cX8_pastLetters 11 = .ok (.iload_n 2, 1) := by decide +kernel
theorem dX8_pastLetters_12 : decode cX8_pastLetters 12 = .ok (.invokevirtual 31, 3) := by decide +kernel
theorem dX8_pastLetters_15 : decode cX8_pastLetters 15 = .ok (.ifCond .ne 5, 3) := by decide +kernel
theorem dX8_pastLetters_18 : decode cX8_pastLetters 18 = .ok (.iload_n 2, 1) := by decide +kernel
theorem dX8_pastLetters_19 : decode cX8_pastLetters 19 = .ok (.ireturn, 1) := by decide +kernel
theorem dX8_pastLetters_20 : decode cX8_pastLetters 20 = .ok (.iinc 2 1, 3) := by decide +kernel
theorem dX8_pastLetters_23 : decode cX8_pastLetters 23 = .ok (.goto (-21), 3) := by decide +kernel
theorem dX8_pastLetters_26 : decode cX8_pastLetters 26 = .ok (.aload_n 0, 1) := by decide +kernel
theorem dX8_pastLetters_27 : decode cX8_pastLetters 27 = .ok (.getfield 15, 3) := by decide +kernel
theorem dX8_pastLetters_30 : decode cX8_pastLetters 30 = .ok (.ireturn, 1) := by decide +kernel
theorem dX9_init_0 : decode cX9_init 0 = .ok (.aload_n 0, 1) := by decide +kernel
theorem dX9_init_1 : decode cX9_init 1 = .ok (.invokespecial 1, 3) := by decide +kernel
theorem dX9_init_4 : decode cX9_init 4 = .ok (.aload_n 0, 1) := by decide +kernel
theorem dX9_init_5 : decode cX9_init 5 = .ok (.new 7, 3) := by decide +kernel
theorem dX9_init_8 : decode cX9_init 8 = .ok (.dup, 1) := by decide +kernel
theorem dX9_init_9 : decode cX9_init 9 = .ok (.invokespecial 9, 3) := by decide +kernel
theorem dX9_init_12 : decode cX9_init 12 = .ok (.putfield 10, 3) := by decide +kernel
theorem dX9_init_15 : decode cX9_init 15 = .ok (.aload_n 0, 1) := by decide +kernel
theorem dX9_init_16 : decode cX9_init 16 = .ok (.new 7, 3) := by decide +kernel
theorem dX9_init_19 : decode cX9_init 19 = .ok (.dup, 1) := by decide +kernel
theorem dX9_init_20 : decode cX9_init 20 = .ok (.invokespecial 9, 3) := by decide +kernel
theorem dX9_init_23 : decode cX9_init 23 = .ok (.putfield 16, 3) := by decide +kernel
theorem dX9_init_26 : decode cX9_init 26 = .ok (.aload_n 0, 1) := by decide +kernel
theorem dX9_init_27 : decode cX9_init 27 = .ok (.new 19, 3) := by decide +kernel
theorem dX9_init_30 : decode cX9_init 30 = .ok (.dup, 1) := by decide +kernel
theorem dX9_init_31 : decode cX9_init 31 = .ok (.invokespecial 21, 3) := by decide +kernel
theorem dX9_init_34 : decode cX9_init 34 = .ok (.putfield 22, 3) := by decide +kernel
theorem dX9_init_37 : decode cX9_init 37 = .ok (.aload_n 0, 1) := by decide +kernel
theorem dX9_init_38 : decode cX9_init 38 = .ok (.new 26, 3) := by decide +kernel
theorem dX9_init_41 : decode cX9_init 41 = .ok (.dup, 1) := by decide +kernel
theorem dX9_init_42 : decode cX9_init 42 = .ok (.invokespecial 28, 3) := by decide +kernel
theorem dX9_init_45 : decode cX9_init 45 = .ok (.putfield 29, 3) := by decide +kernel
theorem dX9_init_48 : decode cX9_init 48 = .ok (.aload_n 0, 1) := by decide +kernel
theorem dX9_init_49 : decode cX9_init 49 = .ok (.new 33, 3) := by decide +kernel
theorem dX9_init_52 : decode cX9_init 52 = .ok (.dup, 1) := by decide +kernel
theorem dX9_init_53 : decode cX9_init 53 = .ok (.invokespecial 35, 3) := by decide +kernel
theorem dX9_init_56 : decode cX9_init 56 = .ok (.putfield 36, 3) := by decide +kernel
theorem dX9_init_59 : decode cX9_init 59 = .ok (.aload_n 0, 1) := by decide +kernel
theorem dX9_init_60 : decode cX9_init 60 = .ok (.new 40, 3) := by decide +kernel
theorem dX9_init_63 : decode cX9_init 63 = .ok (.dup, 1) := by decide +kernel
theorem dX9_init_64 : decode cX9_init 64 = .ok (.invokespecial 42, 3) := by decide +kernel
theorem dX9_init_67 : decode cX9_init 67 = .ok (.putfield 43, 3) := by decide +kernel
theorem dX9_init_70 : decode cX9_init 70 = .ok (.aload_n 0, 1) := by decide +kernel
theorem dX9_init_71 : decode cX9_init 71 = .ok (.new 47, 3) := by decide +kernel
theorem dX9_init_74 : decode cX9_init 74 = .ok (.dup, 1) := by decide +kernel
theorem dX9_init_75 : decode cX9_init 75 = .ok (.invokespecial 49, 3) := by decide +kernel
theorem dX9_init_78 : decode cX9_init 78 = .ok (.putfield 50, 3) := by decide +kernel
theorem dX9_init_81 : decode cX9_init 81 = .ok (.aload_n 0, 1) := by decide +kernel
theorem dX9_init_82 : decode cX9_init 82 = .ok (.new 54, 3) := by decide +kernel
theorem dX9_init_85 : decode cX9_init 85 = .ok (.dup, 1) := by decide +kernel
theorem dX9_init_86 : decode cX9_init 86 = .ok (.invokespecial 56, 3) := by decide +kernel
theorem dX9_init_89 : decode cX9_init 89 = .ok (.putfield 57, 3) := by decide +kernel
theorem dX9_init_92 : decode cX9_init 92 = .ok (.aload_n 0, 1) := by decide +kernel
theorem dX9_init_93 : decode cX9_init 93 = .ok (.new 61, 3) := by decide +kernel
theorem dX9_init_96 : decode cX9_init 96 = .ok (.dup, 1) := by decide +kernel
theorem dX9_init_97 : decode cX9_init 97 = .ok (.invokespecial 63, 3) := by decide +kernel
theorem dX9_init_100 : decode cX9_init 100 = .ok (.putfield 64, 3) := by decide +kernel
theorem dX9_init_103 : decode cX9_init 103 = .ok (.aload_n 0, 1) := by decide +kernel
theorem dX9_init_104 : decode cX9_init 104 = .ok (.new 68, 3) := by decide +kernel
theorem dX9_init_107 : decode cX9_init 107 = .ok (.dup, 1) := by decide +kernel
theorem dX9_init_108 : decode cX9_init 108 = .ok (.invokespecial 70, 3) := by decide +kernel
theorem dX9_init_111 : decode cX9_init 111 = .ok (.putfield 71, 3) := by decide +kernel
theorem dX9_init_114 : decode cX9_init 114 = .ok (.return_, 1) := by decide +kernel
theorem dX9_feed_0 : decode cX9_feed 0 = .ok (.aload_n 0, 1) := by decide +kernel
theorem dX9_feed_1 : decode cX9_feed 1 = .ok (.getfield 22, 3) := by decide +kernel
theorem dX9_feed_4 : decode cX9_feed 4 = .ok (.invokevirtual 75, 3) := by decide +kernel
theorem dX9_feed_7 : decode cX9_feed 7 = .ok (.bipush 20, 2) := by decide +kernel
theorem dX9_feed_9 : decode cX9_feed 9 = .ok (.iadd, 1) := by decide +kernel
theorem dX9_feed_10 : decode cX9_feed 10 = .ok (.sipush 740, 3) := by decide +kernel
theorem dX9_feed_13 : decode cX9_feed 13 = .ok (.if_icmp .le 5, 3) := by decide +kernel
theorem dX9_feed_16 : decode cX9_feed 16 = .ok (.iconst (-1), 1) := by decide +kernel
theorem dX9_feed_17 : decode cX9_feed 17 = .ok (.ireturn, 1) := by decide +kernel
theorem dX9_feed_18 : decode cX9_feed 18 = .ok (.aload_n 0, 1) := by decide +kernel
theorem dX9_feed_19 : decode cX9_feed 19 = .ok (.getfield 22, 3) := by decide +kernel
theorem dX9_feed_22 : decode cX9_feed 22 = .ok (.iload_n 1, 1) := by decide +kernel
theorem dX9_feed_23 : decode cX9_feed 23 = .ok (.invokevirtual 79, 3) := by decide +kernel
theorem dX9_feed_26 : decode cX9_feed 26 = .ok (.aload_n 0, 1) := by decide +kernel
theorem dX9_feed_27 : decode cX9_feed 27 = .ok (.getfield 22, 3) := by decide +kernel
theorem dX9_feed_30 : decode cX9_feed 30 = .ok (.iload_n 2, 1) := by decide +kernel
theorem dX9_feed_31 : decode cX9_feed 31 = .ok (.invokevirtual 79, 3) := by decide +kernel
theorem dX9_feed_34 : decode cX9_feed 34 = .ok (.aload_n 0, 1) := by decide +kernel
theorem dX9_feed_35 : decode cX9_feed 35 = .ok (.getfield 22, 3) := by decide +kernel
theorem dX9_feed_38 : decode cX9_feed 38 = .ok (.iload_n 3, 1) := by decide +kernel
theorem dX9_feed_39 : decode cX9_feed 39 = .ok (.invokevirtual 79, 3) := by decide +kernel
theorem dX9_feed_42 : decode cX9_feed 42 = .ok (.aload_n 0, 1) := by decide +kernel
theorem dX9_feed_43 : decode cX9_feed 43 = .ok (.getfield 22, 3) := by decide +kernel
theorem dX9_feed_46 : decode cX9_feed 46 = .ok (.iload 4, 2) := by decide +kernel
theorem dX9_feed_48 : decode cX9_feed 48 = .ok (.invokevirtual 79, 3) := by decide +kernel
theorem dX9_feed_51 : decode cX9_feed 51 = .ok (.aload_n 0, 1) := by decide +kernel
theorem dX9_feed_52 : decode cX9_feed 52 = .ok (.getfield 22, 3) := by decide +kernel
theorem dX9_feed_55 : decode cX9_feed 55 = .ok (.iload 5, 2) := by decide +kernel
theorem dX9_feed_57 : decode cX9_feed 57 = .ok (.invokevirtual 79, 3) := by decide +kernel
theorem dX9_feed_60 : decode cX9_feed 60 = .ok (.aload_n 0, 1) := by decide +kernel
theorem dX9_feed_61 : decode cX9_feed 61 = .ok (.getfield 22, 3) := by decide +kernel
theorem dX9_feed_64 : decode cX9_feed 64 = .ok (.invokevirtual 75, 3) := by decide +kernel
theorem dX9_feed_67 : decode cX9_feed 67 = .ok (.ireturn, 1) := by decide +kernel
theorem dX9_end_0 : decode cX9_end 0 = .ok (.aload_n 0, 1) := by decide +kernel
theorem dX9_end_1 : decode cX9_end 1 = .ok (.getfield 22, 3) := by decide +kernel
theorem dX9_end_4 : decode cX9_end 4 = .ok (.iload_n 1, 1) := by decide +kernel
theorem dX9_end_5 : decode cX9_end 5 = .ok (.invokevirtual 83, 3) := by decide +kernel
theorem dX9_end_8 : decode cX9_end 8 = .ok (.ireturn, 1) := by decide +kernel
theorem dX9_net_0 : decode cX9_net 0 = .ok (.aload_n 0, 1) := by decide +kernel
theorem dX9_net_1 : decode cX9_net 1 = .ok (.getfield 29, 3) := by decide +kernel
theorem dX9_net_4 : decode cX9_net 4 = .ok (.aload_n 0, 1) := by decide +kernel
theorem dX9_net_5 : decode cX9_net 5 = .ok (.getfield 22, 3) := by decide +kernel
theorem dX9_net_8 : decode cX9_net 8 = .ok (.invokevirtual 87, 3) := by decide +kernel
theorem dX9_net_11 : decode cX9_net 11 = .ok (.istore_n 1, 1) := by decide +kernel
theorem dX9_net_12 : decode cX9_net 12 = .ok (.aload_n 0, 1) := by decide +kernel
theorem dX9_net_13 : decode cX9_net 13 = .ok (.getfield 22, 3) := by decide +kernel
theorem dX9_net_16 : decode cX9_net 16 = .ok (.iconst 0, 1) := by decide +kernel
theorem dX9_net_17 : decode cX9_net 17 = .ok (.invokevirtual 83, 3) := by decide +kernel
theorem dX9_net_20 : decode cX9_net 20 = .ok (.pop, 1) := by decide +kernel
theorem dX9_net_21 : decode cX9_net 21 = .ok (.aload_n 0, 1) := by decide +kernel
theorem dX9_net_22 : decode cX9_net 22 = .ok (.aload_n 0, 1) := by decide +kernel
theorem dX9_net_23 : decode cX9_net 23 = .ok (.getfield 29, 3) := by decide +kernel
theorem dX9_net_26 : decode cX9_net 26 = .ok (.invokevirtual 91, 3) := by decide +kernel
theorem dX9_net_29 : decode cX9_net 29 = .ok (.putfield 94, 3) := by decide +kernel
theorem dX9_net_32 : decode cX9_net 32 = .ok (.aload_n 0, 1) := by decide +kernel
theorem dX9_net_33 : decode cX9_net 33 = .ok (.getfield 94, 3) := by decide +kernel
theorem dX9_net_36 : decode cX9_net 36 = .ok (.ifCond .ne 24, 3) := by decide +kernel
theorem dX9_net_39 : decode cX9_net 39 = .ok (.aload_n 0, 1) := by decide +kernel
theorem dX9_net_40 : decode cX9_net 40 = .ok (.getfield 10, 3) := by decide +kernel
theorem dX9_net_43 : decode cX9_net 43 = .ok (.aload_n 0, 1) := by decide +kernel
theorem dX9_net_44 : decode cX9_net 44 = .ok (.getfield 29, 3) := by decide +kernel
theorem dX9_net_47 : decode cX9_net 47 = .ok (.invokevirtual 98, 3) := by decide +kernel
theorem dX9_net_50 : decode cX9_net 50 = .ok (.invokevirtual 102, 3) := by decide +kernel
theorem dX9_net_53 : decode cX9_net 53 = .ok (.aload_n 0, 1) := by decide +kernel
theorem dX9_net_54 : decode cX9_net 54 = .ok (.getfield 64, 3) := by decide +kernel
theorem dX9_net_57 : decode cX9_net 57 = .ok (.invokevirtual 106, 3) := by decide +kernel
theorem dX9_net_60 : decode cX9_net 60 = .ok (.iload_n 1, 1) := by decide +kernel
theorem dX9_net_61 : decode cX9_net 61 = .ok (.ireturn, 1) := by decide +kernel
theorem dX9_fault_0 : decode cX9_fault 0 = .ok (.aload_n 0, 1) := by decide +kernel
theorem dX9_fault_1 : decode cX9_fault 1 = .ok (.getfield 94, 3) := by decide +kernel
theorem dX9_fault_4 : decode cX9_fault 4 = .ok (.ireturn, 1) := by decide +kernel
theorem dX9_now_0 : decode cX9_now 0 = .ok (.iload_n 1, 1) := by decide +kernel
theorem dX9_now_1 : decode cX9_now 1 = .ok (.tableswitch 125 0 8 #[51, 59, 67, 75, 83, 92, 101, 109, 117], 51) := by decide +kernel
theorem dX9_now_52 : decode cX9_now 52 = .ok (.aload_n 0, 1) := by decide +kernel
theorem dX9_now_53 : decode cX9_now 53 = .ok (.getfield 10, 3) := by decide +kernel
theorem dX9_now_56 : decode cX9_now 56 = .ok (.invokevirtual 109, 3) := by decide +kernel
theorem dX9_now_59 : decode cX9_now 59 = .ok (.ireturn, 1) := by decide +kernel
theorem dX9_now_60 : decode cX9_now 60 = .ok (.aload_n 0, 1) := by decide +kernel
theorem dX9_now_61 : decode cX9_now 61 = .ok (.getfield 10, 3) := by decide +kernel
theorem dX9_now_64 : decode cX9_now 64 = .ok (.invokevirtual 110, 3) := by decide +kernel
theorem dX9_now_67 : decode cX9_now 67 = .ok (.ireturn, 1) := by decide +kernel
theorem dX9_now_68 : decode cX9_now 68 = .ok (.aload_n 0, 1) := by decide +kernel
theorem dX9_now_69 : decode cX9_now 69 = .ok (.getfield 10, 3) := by decide +kernel
theorem dX9_now_72 : decode cX9_now 72 = .ok (.invokevirtual 113, 3) := by decide +kernel
theorem dX9_now_75 : decode cX9_now 75 = .ok (.ireturn, 1) := by decide +kernel
theorem dX9_now_76 : decode cX9_now 76 = .ok (.aload_n 0, 1) := by decide +kernel
theorem dX9_now_77 : decode cX9_now 77 = .ok (.getfield 10, 3) := by decide +kernel
theorem dX9_now_80 : decode cX9_now 80 = .ok (.invokevirtual 116, 3) := by decide +kernel
theorem dX9_now_83 : decode cX9_now 83 = .ok (.ireturn, 1) := by decide +kernel
theorem dX9_now_84 : decode cX9_now 84 = .ok (.aload_n 0, 1) := by decide +kernel
theorem dX9_now_85 : decode cX9_now 85 = .ok (.getfield 10, 3) := by decide +kernel
theorem dX9_now_88 : decode cX9_now 88 = .ok (.iconst 0, 1) := by decide +kernel
theorem dX9_now_89 : decode cX9_now 89 = .ok (.invokevirtual 119, 3) := by decide +kernel
theorem dX9_now_92 : decode cX9_now 92 = .ok (.ireturn, 1) := by decide +kernel
theorem dX9_now_93 : decode cX9_now 93 = .ok (.aload_n 0, 1) := by decide +kernel
theorem dX9_now_94 : decode cX9_now 94 = .ok (.getfield 10, 3) := by decide +kernel
theorem dX9_now_97 : decode cX9_now 97 = .ok (.iconst 1, 1) := by decide +kernel
theorem dX9_now_98 : decode cX9_now 98 = .ok (.invokevirtual 119, 3) := by decide +kernel
theorem dX9_now_101 : decode cX9_now 101 = .ok (.ireturn, 1) := by decide +kernel
theorem dX9_now_102 : decode cX9_now 102 = .ok (.aload_n 0, 1) := by decide +kernel
theorem dX9_now_103 : decode cX9_now 103 = .ok (.getfield 10, 3) := by decide +kernel
theorem dX9_now_106 : decode cX9_now 106 = .ok (.invokevirtual 123, 3) := by decide +kernel
theorem dX9_now_109 : decode cX9_now 109 = .ok (.ireturn, 1) := by decide +kernel
theorem dX9_now_110 : decode cX9_now 110 = .ok (.aload_n 0, 1) := by decide +kernel
theorem dX9_now_111 : decode cX9_now 111 = .ok (.getfield 64, 3) := by decide +kernel
theorem dX9_now_114 : decode cX9_now 114 = .ok (.invokevirtual 126, 3) := by decide +kernel
theorem dX9_now_117 : decode cX9_now 117 = .ok (.ireturn, 1) := by decide +kernel
theorem dX9_now_118 : decode cX9_now 118 = .ok (.aload_n 0, 1) := by decide +kernel
theorem dX9_now_119 : decode cX9_now 119 = .ok (.getfield 22, 3) := by decide +kernel
theorem dX9_now_122 : decode cX9_now 122 = .ok (.invokevirtual 75, 3) := by decide +kernel
theorem dX9_now_125 : decode cX9_now 125 = .ok (.ireturn, 1) := by decide +kernel
theorem dX9_now_126 : decode cX9_now 126 = .ok (.iconst (-1), 1) := by decide +kernel
theorem dX9_now_127 : decode cX9_now 127 = .ok (.ireturn, 1) := by decide +kernel
theorem dX9_near_0 : decode cX9_near 0 = .ok (.aload_n 0, 1) := by decide +kernel
theorem dX9_near_1 : decode cX9_near 1 = .ok (.getfield 10, 3) := by decide +kernel
theorem dX9_near_4 : decode cX9_near 4 = .ok (.iload_n 1, 1) := by decide +kernel
theorem dX9_near_5 : decode cX9_near 5 = .ok (.invokevirtual 127, 3) := by decide +kernel
theorem dX9_near_8 : decode cX9_near 8 = .ok (.ifCond .ne 11, 3) := by decide +kernel
theorem dX9_near_11 : decode cX9_near 11 = .ok (.new 130, 3) := by decide +kernel
theorem dX9_near_14 : decode cX9_near 14 = .ok (.dup, 1) := by decide +kernel
theorem dX9_near_15 : decode cX9_near 15 = .ok (.invokespecial 132, 3) := by decide +kernel
theorem dX9_near_18 : decode cX9_near 18 = .ok (.athrow, 1) := by decide +kernel
theorem dX9_near_19 : decode cX9_near 19 = .ok (.aload_n 0, 1) := by decide +kernel
theorem dX9_near_20 : decode cX9_near 20 = .ok (.getfield 10, 3) := by decide +kernel
theorem dX9_near_23 : decode cX9_near 23 = .ok (.iload_n 1, 1) := by decide +kernel
theorem dX9_near_24 : decode cX9_near 24 = .ok (.invokevirtual 133, 3) := by decide +kernel
theorem dX9_near_27 : decode cX9_near 27 = .ok (.ireturn, 1) := by decide +kernel
theorem dX9_line_0 : decode cX9_line 0 = .ok (.aload_n 0, 1) := by decide +kernel
theorem dX9_line_1 : decode cX9_line 1 = .ok (.getfield 10, 3) := by decide +kernel
theorem dX9_line_4 : decode cX9_line 4 = .ok (.iload_n 1, 1) := by decide +kernel
theorem dX9_line_5 : decode cX9_line 5 = .ok (.invokevirtual 137, 3) := by decide +kernel
theorem dX9_line_8 : decode cX9_line 8 = .ok (.istore_n 3, 1) := by decide +kernel
theorem dX9_line_9 : decode cX9_line 9 = .ok (.iload_n 3, 1) := by decide +kernel
theorem dX9_line_10 : decode cX9_line 10 = .ok (.ifCond .eq 12, 3) := by decide +kernel
theorem dX9_line_13 : decode cX9_line 13 = .ok (.iload_n 2, 1) := by decide +kernel
theorem dX9_line_14 : decode cX9_line 14 = .ok (.ifCond .lt 8, 3) := by decide +kernel
theorem dX9_line_17 : decode cX9_line 17 = .ok (.iload_n 2, 1) := by decide +kernel
theorem dX9_line_18 : decode cX9_line 18 = .ok (.iconst 1, 1) := by decide +kernel
theorem dX9_line_19 : decode cX9_line 19 = .ok (.if_icmp .le 11, 3) := by decide +kernel
theorem dX9_line_22 : decode cX9_line 22 = .ok (.new 130, 3) := by decide +kernel
theorem dX9_line_25 : decode cX9_line 25 = .ok (.dup, 1) := by decide +kernel
theorem dX9_line_26 : decode cX9_line 26 = .ok (.invokespecial 132, 3) := by decide +kernel
theorem dX9_line_29 : decode cX9_line 29 = .ok (.athrow, 1) := by decide +kernel
theorem dX9_line_30 : decode cX9_line 30 = .ok (.iload_n 2, 1) := by decide +kernel
theorem dX9_line_31 : decode cX9_line 31 = .ok (.ifCond .ne 10, 3) := by decide +kernel
theorem dX9_line_34 : decode cX9_line 34 = .ok (.iload_n 3, 1) := by decide +kernel
theorem dX9_line_35 : decode cX9_line 35 = .ok (.invokestatic 140, 3) := by decide +kernel
theorem dX9_line_38 : decode cX9_line 38 = .ok (.goto 11, 3) := by decide +kernel
theorem dX9_line_41 : decode cX9_line 41 = .ok (.iload_n 3, 1) := by decide +kernel
theorem dX9_line_42 : decode cX9_line 42 = .ok (.iload_n 3, 1) := by decide +kernel
theorem dX9_line_43 : decode cX9_line 43 = .ok (.iconst 1, 1) := by decide +kernel
theorem dX9_line_44 : decode cX9_line 44 = .ok (.isub, 1) := by decide +kernel
theorem dX9_line_45 : decode cX9_line 45 = .ok (.iand, 1) := by decide +kernel
theorem dX9_line_46 : decode cX9_line 46 = .ok (.invokestatic 140, 3) := by decide +kernel
theorem dX9_line_49 : decode cX9_line 49 = .ok (.ireturn, 1) := by decide +kernel
theorem dX9_odd_0 : decode cX9_odd 0 = .ok (.aload_n 0, 1) := by decide +kernel
theorem dX9_odd_1 : decode cX9_odd 1 = .ok (.getfield 10, 3) := by decide +kernel
theorem dX9_odd_4 : decode cX9_odd 4 = .ok (.iload_n 1, 1) := by decide +kernel
theorem dX9_odd_5 : decode cX9_odd 5 = .ok (.iload_n 2, 1) := by decide +kernel
theorem dX9_odd_6 : decode cX9_odd 6 = .ok (.invokevirtual 143, 3) := by decide +kernel
theorem dX9_odd_9 : decode cX9_odd 9 = .ok (.ifCond .eq 27, 3) := by decide +kernel
theorem dX9_odd_12 : decode cX9_odd 12 = .ok (.aload_n 0, 1) := by decide +kernel
theorem dX9_odd_13 : decode cX9_odd 13 = .ok (.getfield 10, 3) := by decide +kernel
theorem dX9_odd_16 : decode cX9_odd 16 = .ok (.iload_n 1, 1) := by decide +kernel
theorem dX9_odd_17 : decode cX9_odd 17 = .ok (.iload_n 3, 1) := by decide +kernel
theorem dX9_odd_18 : decode cX9_odd 18 = .ok (.invokevirtual 143, 3) := by decide +kernel
theorem dX9_odd_21 : decode cX9_odd 21 = .ok (.ifCond .eq 15, 3) := by decide +kernel
theorem dX9_odd_24 : decode cX9_odd 24 = .ok (.aload_n 0, 1) := by decide +kernel
theorem dX9_odd_25 : decode cX9_odd 25 = .ok (.getfield 10, 3) := by decide +kernel
theorem dX9_odd_28 : decode cX9_odd 28 = .ok (.iload_n 2, 1) := by decide +kernel
theorem dX9_odd_29 : decode cX9_odd 29 = .ok (.iload_n 3, 1) := by decide +kernel
theorem dX9_odd_30 : decode cX9_odd 30 = .ok (.invokevirtual 143, 3) := by decide +kernel
theorem dX9_odd_33 : decode cX9_odd 33 = .ok (.ifCond .ne 5, 3) := by decide +kernel
theorem dX9_odd_36 : decode cX9_odd 36 = .ok (.iconst (-1), 1) := by decide +kernel
theorem dX9_odd_37 : decode cX9_odd 37 = .ok (.ireturn, 1) := by decide +kernel
theorem dX9_odd_38 : decode cX9_odd 38 = .ok (.aload_n 0, 1) := by decide +kernel
theorem dX9_odd_39 : decode cX9_odd 39 = .ok (.getfield 10, 3) := by decide +kernel
theorem dX9_odd_42 : decode cX9_odd 42 = .ok (.iload_n 1, 1) := by decide +kernel
theorem dX9_odd_43 : decode cX9_odd 43 = .ok (.iload_n 2, 1) := by decide +kernel
theorem dX9_odd_44 : decode cX9_odd 44 = .ok (.iload_n 3, 1) := by decide +kernel
theorem dX9_odd_45 : decode cX9_odd 45 = .ok (.invokevirtual 147, 3) := by decide +kernel
theorem dX9_odd_48 : decode cX9_odd 48 = .ok (.ifCond .eq 7, 3) := by decide +kernel
theorem dX9_odd_51 : decode cX9_odd 51 = .ok (.iconst 1, 1) := by decide +kernel
theorem dX9_odd_52 : decode cX9_odd 52 = .ok (.goto 4, 3) := by decide +kernel
theorem dX9_odd_55 : decode cX9_odd 55 = .ok (.iconst 0, 1) := by decide +kernel
theorem dX9_odd_56 : decode cX9_odd 56 = .ok (.ireturn, 1) := by decide +kernel
theorem dX9_claw_0 : decode cX9_claw 0 = .ok (.aload_n 0, 1) := by decide +kernel
theorem dX9_claw_1 : decode cX9_claw 1 = .ok (.getfield 10, 3) := by decide +kernel
theorem dX9_claw_4 : decode cX9_claw 4 = .ok (.invokevirtual 151, 3) := by decide +kernel
theorem dX9_claw_7 : decode cX9_claw 7 = .ok (.ireturn, 1) := by decide +kernel
theorem dX9_tie_0 : decode cX9_tie 0 = .ok (.aload_n 0, 1) := by decide +kernel
theorem dX9_tie_1 : decode cX9_tie 1 = .ok (.iload_n 1, 1) := by decide +kernel
theorem dX9_tie_2 : decode cX9_tie 2 = .ok (.iload_n 2, 1) := by decide +kernel
theorem dX9_tie_3 : decode cX9_tie 3 = .ok (.iconst 0, 1) := by decide +kernel
theorem dX9_tie_4 : decode cX9_tie 4 = .ok (.invokevirtual 154, 3) := by decide +kernel
