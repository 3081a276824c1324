theorem dX10_laysPieces_13 : decode cX10_laysPieces 13 = .ok (.bipush 14, 2) := by decide +kernel
theorem dX10_laysPieces_15 : decode cX10_laysPieces 15 = .ok (.if_icmp .ge 16, 3) := by decide +kernel
theorem dX10_laysPieces_18 : decode cX10_laysPieces 18 = .ok (.aload_n 0, 1) := by decide +kernel
theorem dX10_laysPieces_19 : decode cX10_laysPieces 19 = .ok (.getfield 126, 3) := by decide +kernel
theorem dX10_laysPieces_22 : decode cX10_laysPieces 22 = .ok (.iload_n 1, 1) := by decide +kernel
theorem dX10_laysPieces_23 : decode cX10_laysPieces 23 = .ok (.iconst 0, 1) := by decide +kernel
theorem dX10_laysPieces_24 : decode cX10_laysPieces 24 = .ok (.iastore, 1) := by decide +kernel
theorem dX10_laysPieces_25 : decode cX10_laysPieces 25 = .ok (.iinc 1 1, 3) := by decide +kernel
theorem dX10_laysPieces_28 : decode cX10_laysPieces 28 = .ok (.goto (-16), 3) := by decide +kernel
theorem dX10_laysPieces_31 : decode cX10_laysPieces 31 = .ok (.iconst 4, 1) := by decide +kernel
theorem dX10_laysPieces_32 : decode cX10_laysPieces 32 = .ok (.istore_n 1, 1) := by decide +kernel
theorem dX10_laysPieces_33 : decode cX10_laysPieces 33 = .ok (.iload_n 1, 1) := by decide +kernel
theorem dX10_laysPieces_34 : decode cX10_laysPieces 34 = .ok (.bipush 6, 2) := by decide +kernel
theorem dX10_laysPieces_36 : decode cX10_laysPieces 36 = .ok (.if_icmp .gt 108, 3) := by decide +kernel
theorem dX10_laysPieces_39 : decode cX10_laysPieces 39 = .ok (.iconst 1, 1) := by decide +kernel
theorem dX10_laysPieces_40 : decode cX10_laysPieces 40 = .ok (.istore_n 2, 1) := by decide +kernel
theorem dX10_laysPieces_41 : decode cX10_laysPieces 41 = .ok (.iload_n 2, 1) := by decide +kernel
theorem dX10_laysPieces_42 : decode cX10_laysPieces 42 = .ok (.aload_n 0, 1) := by decide +kernel
theorem dX10_laysPieces_43 : decode cX10_laysPieces 43 = .ok (.getfield 73, 3) := by decide +kernel
theorem dX10_laysPieces_46 : decode cX10_laysPieces 46 = .ok (.invokestatic 239, 3) := by decide +kernel
theorem dX10_laysPieces_49 : decode cX10_laysPieces 49 = .ok (.if_icmp .gt 89, 3) := by decide +kernel
theorem dX10_laysPieces_52 : decode cX10_laysPieces 52 = .ok (.iload_n 2, 1) := by decide +kernel
theorem dX10_laysPieces_53 : decode cX10_laysPieces 53 = .ok (.invokestatic 175, 3) := by decide +kernel
theorem dX10_laysPieces_56 : decode cX10_laysPieces 56 = .ok (.iload_n 1, 1) := by decide +kernel
theorem dX10_laysPieces_57 : decode cX10_laysPieces 57 = .ok (.if_icmp .ne 75, 3) := by decide +kernel
theorem dX10_laysPieces_60 : decode cX10_laysPieces 60 = .ok (.aload_n 0, 1) := by decide +kernel
theorem dX10_laysPieces_61 : decode cX10_laysPieces 61 = .ok (.getfield 73, 3) := by decide +kernel
theorem dX10_laysPieces_64 : decode cX10_laysPieces 64 = .ok (.iload_n 2, 1) := by decide +kernel
theorem dX10_laysPieces_65 : decode cX10_laysPieces 65 = .ok (.invokestatic 267, 3) := by decide +kernel
theorem dX10_laysPieces_68 : decode cX10_laysPieces 68 = .ok (.ifCond .ne 6, 3) := by decide +kernel
theorem dX10_laysPieces_71 : decode cX10_laysPieces 71 = .ok (.goto 61, 3) := by decide +kernel
theorem dX10_laysPieces_74 : decode cX10_laysPieces 74 = .ok (.aload_n 0, 1) := by decide +kernel
theorem dX10_laysPieces_75 : decode cX10_laysPieces 75 = .ok (.dup, 1) := by decide +kernel
theorem dX10_laysPieces_76 : decode cX10_laysPieces 76 = .ok (.getfield 261, 3) := by decide +kernel
theorem dX10_laysPieces_79 : decode cX10_laysPieces 79 = .ok (.iconst 1, 1) := by decide +kernel
theorem dX10_laysPieces_80 : decode cX10_laysPieces 80 = .ok (.iadd, 1) := by decide +kernel
theorem dX10_laysPieces_81 : decode cX10_laysPieces 81 = .ok (.putfield 261, 3) := by decide +kernel
theorem dX10_laysPieces_84 : decode cX10_laysPieces 84 = .ok (.aload_n 0, 1) := by decide +kernel
theorem dX10_laysPieces_85 : decode cX10_laysPieces 85 = .ok (.getfield 264, 3) := by decide +kernel
theorem dX10_laysPieces_88 : decode cX10_laysPieces 88 = .ok (.ifCond .ne 8, 3) := by decide +kernel
theorem dX10_laysPieces_91 : decode cX10_laysPieces 91 = .ok (.aload_n 0, 1) := by decide +kernel
theorem dX10_laysPieces_92 : decode cX10_laysPieces 92 = .ok (.iload_n 2, 1) := by decide +kernel
theorem dX10_laysPieces_93 : decode cX10_laysPieces 93 = .ok (.putfield 264, 3) := by decide +kernel
theorem dX10_laysPieces_96 : decode cX10_laysPieces 96 = .ok (.iconst 0, 1) := by decide +kernel
theorem dX10_laysPieces_97 : decode cX10_laysPieces 97 = .ok (.istore_n 3, 1) := by decide +kernel
theorem dX10_laysPieces_98 : decode cX10_laysPieces 98 = .ok (.iload_n 3, 1) := by decide +kernel
theorem dX10_laysPieces_99 : decode cX10_laysPieces 99 = .ok (.aload_n 0, 1) := by decide +kernel
theorem dX10_laysPieces_100 : decode cX10_laysPieces 100 = .ok (.getfield 73, 3) := by decide +kernel
theorem dX10_laysPieces_103 : decode cX10_laysPieces 103 = .ok (.iconst 0, 1) := by decide +kernel
theorem dX10_laysPieces_104 : decode cX10_laysPieces 104 = .ok (.iaload, 1) := by decide +kernel
theorem dX10_laysPieces_105 : decode cX10_laysPieces 105 = .ok (.if_icmp .ge 27, 3) := by decide +kernel
theorem dX10_laysPieces_108 : decode cX10_laysPieces 108 = .ok (.iload_n 2, 1) := by decide +kernel
theorem dX10_laysPieces_109 : decode cX10_laysPieces 109 = .ok (.iload_n 3, 1) := by decide +kernel
theorem dX10_laysPieces_110 : decode cX10_laysPieces 110 = .ok (.invokestatic 7, 3) := by decide +kernel
theorem dX10_laysPieces_113 : decode cX10_laysPieces 113 = .ok (.ifCond .eq 13, 3) := by decide +kernel
theorem dX10_laysPieces_116 : decode cX10_laysPieces 116 = .ok (.aload_n 0, 1) := by decide +kernel
theorem dX10_laysPieces_117 : decode cX10_laysPieces 117 = .ok (.getfield 126, 3) := by decide +kernel
theorem dX10_laysPieces_120 : decode cX10_laysPieces 120 = .ok (.iload_n 3, 1) := by decide +kernel
theorem dX10_laysPieces_121 : decode cX10_laysPieces 121 = .ok (.dup2, 1) := by decide +kernel
theorem dX10_laysPieces_122 : decode cX10_laysPieces 122 = .ok (.iaload, 1) := by decide +kernel
theorem dX10_laysPieces_123 : decode cX10_laysPieces 123 = .ok (.iconst 1, 1) := by decide +kernel
theorem dX10_laysPieces_124 : decode cX10_laysPieces 124 = .ok (.iadd, 1) := by decide +kernel
theorem dX10_laysPieces_125 : decode cX10_laysPieces 125 = .ok (.iastore, 1) := by decide +kernel
theorem dX10_laysPieces_126 : decode cX10_laysPieces 126 = .ok (.iinc 3 1, 3) := by decide +kernel
theorem dX10_laysPieces_129 : decode cX10_laysPieces 129 = .ok (.goto (-31), 3) := by decide +kernel
theorem dX10_laysPieces_132 : decode cX10_laysPieces 132 = .ok (.iinc 2 1, 3) := by decide +kernel
theorem dX10_laysPieces_135 : decode cX10_laysPieces 135 = .ok (.goto (-94), 3) := by decide +kernel
theorem dX10_laysPieces_138 : decode cX10_laysPieces 138 = .ok (.iinc 1 1, 3) := by decide +kernel
theorem dX10_laysPieces_141 : decode cX10_laysPieces 141 = .ok (.goto (-108), 3) := by decide +kernel
theorem dX10_laysPieces_144 : decode cX10_laysPieces 144 = .ok (.return_, 1) := by decide +kernel
theorem dX10_piece_0 : decode cX10_piece 0 = .ok (.aload_n 0, 1) := by decide +kernel
theorem dX10_piece_1 : decode cX10_piece 1 = .ok (.iconst 0, 1) := by decide +kernel
theorem dX10_piece_2 : decode cX10_piece 2 = .ok (.putfield 1, 3) := by decide +kernel
theorem dX10_piece_5 : decode cX10_piece 5 = .ok (.aload_n 0, 1) := by decide +kernel
theorem dX10_piece_6 : decode cX10_piece 6 = .ok (.invokevirtual 270, 3) := by decide +kernel
theorem dX10_piece_9 : decode cX10_piece 9 = .ok (.aload_n 0, 1) := by decide +kernel
theorem dX10_piece_10 : decode cX10_piece 10 = .ok (.getfield 264, 3) := by decide +kernel
theorem dX10_piece_13 : decode cX10_piece 13 = .ok (.ireturn, 1) := by decide +kernel
theorem dX10_pieces_0 : decode cX10_pieces 0 = .ok (.aload_n 0, 1) := by decide +kernel
theorem dX10_pieces_1 : decode cX10_pieces 1 = .ok (.iconst 0, 1) := by decide +kernel
theorem dX10_pieces_2 : decode cX10_pieces 2 = .ok (.putfield 1, 3) := by decide +kernel
theorem dX10_pieces_5 : decode cX10_pieces 5 = .ok (.aload_n 0, 1) := by decide +kernel
theorem dX10_pieces_6 : decode cX10_pieces 6 = .ok (.invokevirtual 270, 3) := by decide +kernel
theorem dX10_pieces_9 : decode cX10_pieces 9 = .ok (.aload_n 0, 1) := by decide +kernel
theorem dX10_pieces_10 : decode cX10_pieces 10 = .ok (.getfield 261, 3) := by decide +kernel
theorem dX10_pieces_13 : decode cX10_pieces 13 = .ok (.ireturn, 1) := by decide +kernel
theorem dX10_blamed_0 : decode cX10_blamed 0 = .ok (.aload_n 0, 1) := by decide +kernel
theorem dX10_blamed_1 : decode cX10_blamed 1 = .ok (.iconst 0, 1) := by decide +kernel
theorem dX10_blamed_2 : decode cX10_blamed 2 = .ok (.putfield 1, 3) := by decide +kernel
theorem dX10_blamed_5 : decode cX10_blamed 5 = .ok (.iload_n 1, 1) := by decide +kernel
theorem dX10_blamed_6 : decode cX10_blamed 6 = .ok (.iconst 0, 1) := by decide +kernel
theorem dX10_blamed_7 : decode cX10_blamed 7 = .ok (.aload_n 0, 1) := by decide +kernel
theorem dX10_blamed_8 : decode cX10_blamed 8 = .ok (.getfield 73, 3) := by decide +kernel
theorem dX10_blamed_11 : decode cX10_blamed 11 = .ok (.iconst 0, 1) := by decide +kernel
theorem dX10_blamed_12 : decode cX10_blamed 12 = .ok (.iaload, 1) := by decide +kernel
theorem dX10_blamed_13 : decode cX10_blamed 13 = .ok (.iconst 1, 1) := by decide +kernel
theorem dX10_blamed_14 : decode cX10_blamed 14 = .ok (.isub, 1) := by decide +kernel
theorem dX10_blamed_15 : decode cX10_blamed 15 = .ok (.invokestatic 228, 3) := by decide +kernel
theorem dX10_blamed_18 : decode cX10_blamed 18 = .ok (.ifCond .ne 5, 3) := by decide +kernel
theorem dX10_blamed_21 : decode cX10_blamed 21 = .ok (.iconst (-1), 1) := by decide +kernel
theorem dX10_blamed_22 : decode cX10_blamed 22 = .ok (.ireturn, 1) := by decide +kernel
theorem dX10_blamed_23 : decode cX10_blamed 23 = .ok (.aload_n 0, 1) := by decide +kernel
theorem dX10_blamed_24 : decode cX10_blamed 24 = .ok (.invokevirtual 270, 3) := by decide +kernel
theorem dX10_blamed_27 : decode cX10_blamed 27 = .ok (.aload_n 0, 1) := by decide +kernel
theorem dX10_blamed_28 : decode cX10_blamed 28 = .ok (.getfield 126, 3) := by decide +kernel
theorem dX10_blamed_31 : decode cX10_blamed 31 = .ok (.iload_n 1, 1) := by decide +kernel
theorem dX10_blamed_32 : decode cX10_blamed 32 = .ok (.iaload, 1) := by decide +kernel
theorem dX10_blamed_33 : decode cX10_blamed 33 = .ok (.ireturn, 1) := by decide +kernel
theorem dX10_areThree_0 : decode cX10_areThree 0 = .ok (.aload_n 0, 1) := by decide +kernel
theorem dX10_areThree_1 : decode cX10_areThree 1 = .ok (.iload_n 1, 1) := by decide +kernel
theorem dX10_areThree_2 : decode cX10_areThree 2 = .ok (.invokevirtual 273, 3) := by decide +kernel
theorem dX10_areThree_5 : decode cX10_areThree 5 = .ok (.ifCond .eq 36, 3) := by decide +kernel
theorem dX10_areThree_8 : decode cX10_areThree 8 = .ok (.aload_n 0, 1) := by decide +kernel
theorem dX10_areThree_9 : decode cX10_areThree 9 = .ok (.iload_n 2, 1) := by decide +kernel
theorem dX10_areThree_10 : decode cX10_areThree 10 = .ok (.invokevirtual 273, 3) := by decide +kernel
theorem dX10_areThree_13 : decode cX10_areThree 13 = .ok (.ifCond .eq 28, 3) := by decide +kernel
theorem dX10_areThree_16 : decode cX10_areThree 16 = .ok (.aload_n 0, 1) := by decide +kernel
theorem dX10_areThree_17 : decode cX10_areThree 17 = .ok (.iload_n 3, 1) := by decide +kernel
theorem dX10_areThree_18 : decode cX10_areThree 18 = .ok (.invokevirtual 273, 3) := by decide +kernel
theorem dX10_areThree_21 : decode cX10_areThree 21 = .ok (.ifCond .eq 20, 3) := by decide +kernel
theorem dX10_areThree_24 : decode cX10_areThree 24 = .ok (.aload_n 0, 1) := by decide +kernel
theorem dX10_areThree_25 : decode cX10_areThree 25 = .ok (.getfield 73, 3) := by decide +kernel
theorem dX10_areThree_28 : decode cX10_areThree 28 = .ok (.iload_n 1, 1) := by decide +kernel
theorem dX10_areThree_29 : decode cX10_areThree 29 = .ok (.iload_n 2, 1) := by decide +kernel
theorem dX10_areThree_30 : decode cX10_areThree 30 = .ok (.iload_n 3, 1) := by decide +kernel
theorem dX10_areThree_31 : decode cX10_areThree 31 = .ok (.invokestatic 276, 3) := by decide +kernel
theorem dX10_areThree_34 : decode cX10_areThree 34 = .ok (.ifCond .eq 7, 3) := by decide +kernel
theorem dX10_areThree_37 : decode cX10_areThree 37 = .ok (.iconst 1, 1) := by decide +kernel
theorem dX10_areThree_38 : decode cX10_areThree 38 = .ok (.goto 4, 3) := by decide +kernel
theorem dX10_areThree_41 : decode cX10_areThree 41 = .ok (.iconst 0, 1) := by decide +kernel
theorem dX10_areThree_42 : decode cX10_areThree 42 = .ok (.ireturn, 1) := by decide +kernel
theorem dX10_odd_0 : decode cX10_odd 0 = .ok (.aload_n 0, 1) := by decide +kernel
theorem dX10_odd_1 : decode cX10_odd 1 = .ok (.iconst 0, 1) := by decide +kernel
theorem dX10_odd_2 : decode cX10_odd 2 = .ok (.putfield 1, 3) := by decide +kernel
theorem dX10_odd_5 : decode cX10_odd 5 = .ok (.aload_n 0, 1) := by decide +kernel
theorem dX10_odd_6 : decode cX10_odd 6 = .ok (.iload_n 1, 1) := by decide +kernel
theorem dX10_odd_7 : decode cX10_odd 7 = .ok (.iload_n 2, 1) := by decide +kernel
theorem dX10_odd_8 : decode cX10_odd 8 = .ok (.iload_n 3, 1) := by decide +kernel
theorem dX10_odd_9 : decode cX10_odd 9 = .ok (.invokevirtual 279, 3) := by decide +kernel
theorem dX10_odd_12 : decode cX10_odd 12 = .ok (.ifCond .ne 5, 3) := by decide +kernel
theorem dX10_odd_15 : decode cX10_odd 15 = .ok (.iconst (-1), 1) := by decide +kernel
theorem dX10_odd_16 : decode cX10_odd 16 = .ok (.ireturn, 1) := by decide +kernel
theorem dX10_odd_17 : decode cX10_odd 17 = .ok (.aload_n 0, 1) := by decide +kernel
theorem dX10_odd_18 : decode cX10_odd 18 = .ok (.getfield 73, 3) := by decide +kernel
theorem dX10_odd_21 : decode cX10_odd 21 = .ok (.aload_n 0, 1) := by decide +kernel
theorem dX10_odd_22 : decode cX10_odd 22 = .ok (.getfield 73, 3) := by decide +kernel
theorem dX10_odd_25 : decode cX10_odd 25 = .ok (.invokestatic 239, 3) := by decide +kernel
theorem dX10_odd_28 : decode cX10_odd 28 = .ok (.iload_n 1, 1) := by decide +kernel
theorem dX10_odd_29 : decode cX10_odd 29 = .ok (.iload_n 2, 1) := by decide +kernel
theorem dX10_odd_30 : decode cX10_odd 30 = .ok (.iload_n 3, 1) := by decide +kernel
theorem dX10_odd_31 : decode cX10_odd 31 = .ok (.invokestatic 178, 3) := by decide +kernel
theorem dX10_odd_34 : decode cX10_odd 34 = .ok (.ifCond .eq 7, 3) := by decide +kernel
theorem dX10_odd_37 : decode cX10_odd 37 = .ok (.iconst 1, 1) := by decide +kernel
theorem dX10_odd_38 : decode cX10_odd 38 = .ok (.goto 4, 3) := by decide +kernel
theorem dX10_odd_41 : decode cX10_odd 41 = .ok (.iconst 0, 1) := by decide +kernel
theorem dX10_odd_42 : decode cX10_odd 42 = .ok (.ireturn, 1) := by decide +kernel
theorem dX10_isClawSet_0 : decode cX10_isClawSet 0 = .ok (.iconst 0, 1) := by decide +kernel
theorem dX10_isClawSet_1 : decode cX10_isClawSet 1 = .ok (.istore_n 2, 1) := by decide +kernel
theorem dX10_isClawSet_2 : decode cX10_isClawSet 2 = .ok (.iload_n 2, 1) := by decide +kernel
theorem dX10_isClawSet_3 : decode cX10_isClawSet 3 = .ok (.aload_n 0, 1) := by decide +kernel
theorem dX10_isClawSet_4 : decode cX10_isClawSet 4 = .ok (.getfield 73, 3) := by decide +kernel
theorem dX10_isClawSet_7 : decode cX10_isClawSet 7 = .ok (.iconst 0, 1) := by decide +kernel
theorem dX10_isClawSet_8 : decode cX10_isClawSet 8 = .ok (.iaload, 1) := by decide +kernel
theorem dX10_isClawSet_9 : decode cX10_isClawSet 9 = .ok (.if_icmp .ge 86, 3) := by decide +kernel
theorem dX10_isClawSet_12 : decode cX10_isClawSet 12 = .ok (.iload_n 1, 1) := by decide +kernel
theorem dX10_isClawSet_13 : decode cX10_isClawSet 13 = .ok (.iload_n 2, 1) := by decide +kernel
theorem dX10_isClawSet_14 : decode cX10_isClawSet 14 = .ok (.invokestatic 7, 3) := by decide +kernel
theorem dX10_isClawSet_17 : decode cX10_isClawSet 17 = .ok (.ifCond .ne 6, 3) := by decide +kernel
theorem dX10_isClawSet_20 : decode cX10_isClawSet 20 = .ok (.goto 69, 3) := by decide +kernel
theorem dX10_isClawSet_23 : decode cX10_isClawSet 23 = .ok (.iload_n 1, 1) := by decide +kernel
theorem dX10_isClawSet_24 : decode cX10_isClawSet 24 = .ok (.iconst 1, 1) := by decide +kernel
theorem dX10_isClawSet_25 : decode cX10_isClawSet 25 = .ok (.iload_n 2, 1) := by decide +kernel
theorem dX10_isClawSet_26 : decode cX10_isClawSet 26 = .ok (.ishl, 1) := by decide +kernel
theorem dX10_isClawSet_27 : decode cX10_isClawSet 27 = .ok (.iconst (-1), 1) := by decide +kernel
theorem dX10_isClawSet_28 : decode cX10_isClawSet 28 = .ok (.ixor, 1) := by decide +kernel
theorem dX10_isClawSet_29 : decode cX10_isClawSet 29 = .ok (.iand, 1) := by decide +kernel
theorem dX10_isClawSet_30 : decode cX10_isClawSet 30 = .ok (.istore_n 3, 1) := by decide +kernel
theorem dX10_isClawSet_31 : decode cX10_isClawSet 31 = .ok (.iload_n 3, 1) := by decide +kernel
theorem dX10_isClawSet_32 : decode cX10_isClawSet 32 = .ok (.invokestatic 242, 3) := by decide +kernel
theorem dX10_isClawSet_35 : decode cX10_isClawSet 35 = .ok (.istore 4, 2) := by decide +kernel
theorem dX10_isClawSet_37 : decode cX10_isClawSet 37 = .ok (.iload_n 3, 1) := by decide +kernel
theorem dX10_isClawSet_38 : decode cX10_isClawSet 38 = .ok (.iconst 1, 1) := by decide +kernel
theorem dX10_isClawSet_39 : decode cX10_isClawSet 39 = .ok (.iload 4, 2) := by decide +kernel
theorem dX10_isClawSet_41 : decode cX10_isClawSet 41 = .ok (.ishl, 1) := by decide +kernel
theorem dX10_isClawSet_42 : decode cX10_isClawSet 42 = .ok (.iconst (-1), 1) := by decide +kernel
theorem dX10_isClawSet_43 : decode cX10_isClawSet 43 = .ok (.ixor, 1) := by decide +kernel
theorem dX10_isClawSet_44 : decode cX10_isClawSet 44 = .ok (.iand, 1) := by decide +kernel
theorem dX10_isClawSet_45 : decode cX10_isClawSet 45 = .ok (.invokestatic 242, 3) := by decide +kernel
theorem dX10_isClawSet_48 : decode cX10_isClawSet 48 = .ok (.istore 5, 2) := by decide +kernel
theorem dX10_isClawSet_50 : decode cX10_isClawSet 50 = .ok (.iload_n 3, 1) := by decide +kernel
theorem dX10_isClawSet_51 : decode cX10_isClawSet 51 = .ok (.iconst 1, 1) := by decide +kernel
theorem dX10_isClawSet_52 : decode cX10_isClawSet 52 = .ok (.iload 4, 2) := by decide +kernel
theorem dX10_isClawSet_54 : decode cX10_isClawSet 54 = .ok (.ishl, 1) := by decide +kernel
theorem dX10_isClawSet_55 : decode cX10_isClawSet 55 = .ok (.iconst (-1), 1) := by decide +kernel
theorem dX10_isClawSet_56 : decode cX10_isClawSet 56 = .ok (.ixor, 1) := by decide +kernel
theorem dX10_isClawSet_57 : decode cX10_isClawSet 57 = .ok (.iand, 1) := by decide +kernel
theorem dX10_isClawSet_58 : decode cX10_isClawSet 58 = .ok (.iconst 1, 1) := by decide +kernel
theorem dX10_isClawSet_59 : decode cX10_isClawSet 59 = .ok (.iload 5, 2) := by decide +kernel
theorem dX10_isClawSet_61 : decode cX10_isClawSet 61 = .ok (.ishl, 1) := by decide +kernel
theorem dX10_isClawSet_62 : decode cX10_isClawSet 62 = .ok (.iconst (-1), 1) := by decide +kernel
theorem dX10_isClawSet_63 : decode cX10_isClawSet 63 = .ok (.ixor, 1) := by decide +kernel
theorem dX10_isClawSet_64 : decode cX10_isClawSet 64 = .ok (.iand, 1) := by decide +kernel
theorem dX10_isClawSet_65 : decode cX10_isClawSet 65 = .ok (.invokestatic 242, 3) := by decide +kernel
theorem dX10_isClawSet_68 : decode cX10_isClawSet 68 = .ok (.istore 6, 2) := by decide +kernel
theorem dX10_isClawSet_70 : decode cX10_isClawSet 70 = .ok (.aload_n 0, 1) := by decide +kernel
theorem dX10_isClawSet_71 : decode cX10_isClawSet 71 = .ok (.getfield 73, 3) := by decide +kernel
theorem dX10_isClawSet_74 : decode cX10_isClawSet 74 = .ok (.iload_n 2, 1) := by decide +kernel
theorem dX10_isClawSet_75 : decode cX10_isClawSet 75 = .ok (.iload 4, 2) := by decide +kernel
theorem dX10_isClawSet_77 : decode cX10_isClawSet 77 = .ok (.iload 5, 2) := by decide +kernel
theorem dX10_isClawSet_79 : decode cX10_isClawSet 79 = .ok (.iload 6, 2) := by decide +kernel
theorem dX10_isClawSet_81 : decode cX10_isClawSet 81 = .ok (.invokestatic 282, 3) := by decide +kernel
theorem dX10_isClawSet_84 : decode cX10_isClawSet 84 = .ok (.ifCond .eq 5, 3) := by decide +kernel
theorem dX10_isClawSet_87 : decode cX10_isClawSet 87 = .ok (.iconst 1, 1) := by decide +kernel
theorem dX10_isClawSet_88 : decode cX10_isClawSet 88 = .ok (.ireturn, 1) := by decide +kernel
theorem dX10_isClawSet_89 : decode cX10_isClawSet 89 = .ok (.iinc 2 1, 3) := by decide +kernel
theorem dX10_isClawSet_92 : decode cX10_isClawSet 92 = .ok (.goto (-90), 3) := by decide +kernel
theorem dX10_isClawSet_95 : decode cX10_isClawSet 95 = .ok (.iconst 0, 1) := by decide +kernel
theorem dX10_isClawSet_96 : decode cX10_isClawSet 96 = .ok (.ireturn, 1) := by decide +kernel
theorem dX10_claw_0 : decode cX10_claw 0 = .ok (.aload_n 0, 1) := by decide +kernel
theorem dX10_claw_1 : decode cX10_claw 1 = .ok (.iconst 0, 1) := by decide +kernel
theorem dX10_claw_2 : decode cX10_claw 2 = .ok (.putfield 1, 3) := by decide +kernel
theorem dX10_claw_5 : decode cX10_claw 5 = .ok (.bipush 15, 2) := by decide +kernel
theorem dX10_claw_7 : decode cX10_claw 7 = .ok (.istore_n 1, 1) := by decide +kernel
theorem dX10_claw_8 : decode cX10_claw 8 = .ok (.iload_n 1, 1) := by decide +kernel
theorem dX10_claw_9 : decode cX10_claw 9 = .ok (.aload_n 0, 1) := by decide +kernel
theorem dX10_claw_10 : decode cX10_claw 10 = .ok (.getfield 73, 3) := by decide +kernel
theorem dX10_claw_13 : decode cX10_claw 13 = .ok (.invokestatic 239, 3) := by decide +kernel
theorem dX10_claw_16 : decode cX10_claw 16 = .ok (.if_icmp .gt 27, 3) := by decide +kernel
theorem dX10_claw_19 : decode cX10_claw 19 = .ok (.iload_n 1, 1) := by decide +kernel
theorem dX10_claw_20 : decode cX10_claw 20 = .ok (.invokestatic 175, 3) := by decide +kernel
theorem dX10_claw_23 : decode cX10_claw 23 = .ok (.iconst 4, 1) := by decide +kernel
theorem dX10_claw_24 : decode cX10_claw 24 = .ok (.if_icmp .ne 13, 3) := by decide +kernel
theorem dX10_claw_27 : decode cX10_claw 27 = .ok (.aload_n 0, 1) := by decide +kernel
theorem dX10_claw_28 : decode cX10_claw 28 = .ok (.iload_n 1, 1) := by decide +kernel
theorem dX10_claw_29 : decode cX10_claw 29 = .ok (.invokevirtual 285, 3) := by decide +kernel
theorem dX10_claw_32 : decode cX10_claw 32 = .ok (.ifCond .eq 5, 3) := by decide +kernel
theorem dX10_claw_35 : decode cX10_claw 35 = .ok (.iload_n 1, 1) := by decide +kernel
theorem dX10_claw_36 : decode cX10_claw 36 = .ok (.ireturn, 1) := by decide +kernel
theorem dX10_claw_37 : decode cX10_claw 37 = .ok (.iinc 1 1, 3) := by decide +kernel
theorem dX10_claw_40 : decode cX10_claw 40 = .ok (.goto (-32), 3) := by decide +kernel
theorem dX10_claw_43 : decode cX10_claw 43 = .ok (.iconst 0, 1) := by decide +kernel
theorem dX10_claw_44 : decode cX10_claw 44 = .ok (.ireturn, 1) := by decide +kernel
theorem dX10_isPoint_0 : decode cX10_isPoint 0 = .ok (.iload_n 1, 1) := by decide +kernel
theorem dX10_isPoint_1 : decode cX10_isPoint 1 = .ok (.iconst 0, 1) := by decide +kernel
theorem dX10_isPoint_2 : decode cX10_isPoint 2 = .ok (.aload_n 0, 1) := by decide +kernel
theorem dX10_isPoint_3 : decode cX10_isPoint 3 = .ok (.getfield 73, 3) := by decide +kernel
theorem dX10_isPoint_6 : decode cX10_isPoint 6 = .ok (.iconst 0, 1) := by decide +kernel
theorem dX10_isPoint_7 : decode cX10_isPoint 7 = .ok (.iaload, 1) := by decide +kernel
theorem dX10_isPoint_8 : decode cX10_isPoint 8 = .ok (.iconst 1, 1) := by decide +kernel
theorem dX10_isPoint_9 : decode cX10_isPoint 9 = .ok (.isub, 1) := by decide +kernel
theorem dX10_isPoint_10 : decode cX10_isPoint 10 = .ok (.invokestatic 228, 3) := by decide +kernel
theorem dX10_isPoint_13 : decode cX10_isPoint 13 = .ok (.ireturn, 1) := by decide +kernel
theorem dX10_lineMany_0 : decode cX10_lineMany 0 = .ok (.iconst 0, 1) := by decide +kernel
theorem dX10_lineMany_1 : decode cX10_lineMany 1 = .ok (.istore_n 1, 1) := by decide +kernel
theorem dX10_lineMany_2 : decode cX10_lineMany 2 = .ok (.iconst 0, 1) := by decide +kernel
theorem dX10_lineMany_3 : decode cX10_lineMany 3 = .ok (.istore_n 2, 1) := by decide +kernel
theorem dX10_lineMany_4 : decode cX10_lineMany 4 = .ok (.iload_n 2, 1) := by decide +kernel
theorem dX10_lineMany_5 : decode cX10_lineMany 5 = .ok (.aload_n 0, 1) := by decide +kernel
theorem dX10_lineMany_6 : decode cX10_lineMany 6 = .ok (.iconst 0, 1) := by decide +kernel
theorem dX10_lineMany_7 : decode cX10_lineMany 7 = .ok (.iaload, 1) := by decide +kernel
theorem dX10_lineMany_8 : decode cX10_lineMany 8 = .ok (.if_icmp .ge 20, 3) := by decide +kernel
theorem dX10_lineMany_11 : decode cX10_lineMany 11 = .ok (.iload_n 1, 1) := by decide +kernel
theorem dX10_lineMany_12 : decode cX10_lineMany 12 = .ok (.aload_n 0, 1) := by decide +kernel
theorem dX10_lineMany_13 : decode cX10_lineMany 13 = .ok (.iconst 1, 1) := by decide +kernel
theorem dX10_lineMany_14 : decode cX10_lineMany 14 = .ok (.iload_n 2, 1) := by decide +kernel
theorem dX10_lineMany_15 : decode cX10_lineMany 15 = .ok (.iadd, 1) := by decide +kernel
theorem dX10_lineMany_16 : decode cX10_lineMany 16 = .ok (.iaload, 1) := by decide +kernel
theorem dX10_lineMany_17 : decode cX10_lineMany 17 = .ok (.invokestatic 175, 3) := by decide +kernel
theorem dX10_lineMany_20 : decode cX10_lineMany 20 = .ok (.iadd, 1) := by decide +kernel
theorem dX10_lineMany_21 : decode cX10_lineMany 21 = .ok (.istore_n 1, 1) := by decide +kernel
theorem dX10_lineMany_22 : decode cX10_lineMany 22 = .ok (.iinc 2 1, 3) := by decide +kernel
theorem dX10_lineMany_25 : decode cX10_lineMany 25 = .ok (.goto (-21), 3) := by decide +kernel
theorem dX10_lineMany_28 : decode cX10_lineMany 28 = .ok (.iload_n 1, 1) := by decide +kernel
theorem dX10_lineMany_29 : decode cX10_lineMany 29 = .ok (.iconst 2, 1) := by decide +kernel
theorem dX10_lineMany_30 : decode cX10_lineMany 30 = .ok (.idiv, 1) := by decide +kernel
theorem dX10_lineMany_31 : decode cX10_lineMany 31 = .ok (.ireturn, 1) := by decide +kernel
theorem dX10_triangles_0 : decode cX10_triangles 0 = .ok (.iconst 0, 1) := by decide +kernel
theorem dX10_triangles_1 : decode cX10_triangles 1 = .ok (.istore_n 2, 1) := by decide +kernel
theorem dX10_triangles_2 : decode cX10_triangles 2 = .ok (.iconst 0, 1) := by decide +kernel
theorem dX10_triangles_3 : decode cX10_triangles 3 = .ok (.istore_n 3, 1) := by decide +kernel
theorem dX10_triangles_4 : decode cX10_triangles 4 = .ok (.iload_n 3, 1) := by decide +kernel
theorem dX10_triangles_5 : decode cX10_triangles 5 = .ok (.aload_n 0, 1) := by decide +kernel
theorem dX10_triangles_6 : decode cX10_triangles 6 = .ok (.getfield 73, 3) := by decide +kernel
theorem dX10_triangles_9 : decode cX10_triangles 9 = .ok (.iconst 0, 1) := by decide +kernel
theorem dX10_triangles_10 : decode cX10_triangles 10 = .ok (.iaload, 1) := by decide +kernel
theorem dX10_triangles_11 : decode cX10_triangles 11 = .ok (.if_icmp .ge 98, 3) := by decide +kernel
theorem dX10_triangles_14 : decode cX10_triangles 14 = .ok (.iload_n 3, 1) := by decide +kernel
theorem dX10_triangles_15 : decode cX10_triangles 15 = .ok (.iconst 1, 1) := by decide +kernel
theorem dX10_triangles_16 : decode cX10_triangles 16 = .ok (.iadd, 1) := by decide +kernel
theorem dX10_triangles_17 : decode cX10_triangles 17 = .ok (.istore 4, 2) := by decide +kernel
theorem dX10_triangles_19 : decode cX10_triangles 19 = .ok (.iload 4, 2) := by decide +kernel
theorem dX10_triangles_21 : decode cX10_triangles 21 = .ok (.aload_n 0, 1) := by decide +kernel
theorem dX10_triangles_22 : decode cX10_triangles 22 = .ok (.getfield 73, 3) := by decide +kernel
theorem dX10_triangles_25 : decode cX10_triangles 25 = .ok (.iconst 0, 1) := by decide +kernel
theorem dX10_triangles_26 : decode cX10_triangles 26 = .ok (.iaload, 1) := by decide +kernel
theorem dX10_triangles_27 : decode cX10_triangles 27 = .ok (.if_icmp .ge 76, 3) := by decide +kernel
theorem dX10_triangles_30 : decode cX10_triangles 30 = .ok (.iload 4, 2) := by decide +kernel
theorem dX10_triangles_32 : decode cX10_triangles 32 = .ok (.iconst 1, 1) := by decide +kernel
theorem dX10_triangles_33 : decode cX10_triangles 33 = .ok (.iadd, 1) := by decide +kernel
theorem dX10_triangles_34 : decode cX10_triangles 34 = .ok (.istore 5, 2) := by decide +kernel
theorem dX10_triangles_36 : decode cX10_triangles 36 = .ok (.iload 5, 2) := by decide +kernel
theorem dX10_triangles_38 : decode cX10_triangles 38 = .ok (.aload_n 0, 1) := by decide +kernel
theorem dX10_triangles_39 : decode cX10_triangles 39 = .ok (.getfield 73, 3) := by decide +kernel
theorem dX10_triangles_42 : decode cX10_triangles 42 = .ok (.iconst 0, 1) := by decide +kernel
theorem dX10_triangles_43 : decode cX10_triangles 43 = .ok (.iaload, 1) := by decide +kernel
theorem dX10_triangles_44 : decode cX10_triangles 44 = .ok (.if_icmp .ge 53, 3) := by decide +kernel
theorem dX10_triangles_47 : decode cX10_triangles 47 = .ok (.aload_n 0, 1) := by decide +kernel
theorem dX10_triangles_48 : decode cX10_triangles 48 = .ok (.getfield 73, 3) := by decide +kernel
theorem dX10_triangles_51 : decode cX10_triangles 51 = .ok (.iload_n 3, 1) := by decide +kernel
theorem dX10_triangles_52 : decode cX10_triangles 52 = .ok (.iload 4, 2) := by decide +kernel
theorem dX10_triangles_54 : decode cX10_triangles 54 = .ok (.iload 5, 2) := by decide +kernel
theorem dX10_triangles_56 : decode cX10_triangles 56 = .ok (.invokestatic 276, 3) := by decide +kernel
theorem dX10_triangles_59 : decode cX10_triangles 59 = .ok (.ifCond .eq 32, 3) := by decide +kernel
theorem dX10_triangles_62 : decode cX10_triangles 62 = .ok (.iload_n 1, 1) := by decide +kernel
theorem dX10_triangles_63 : decode cX10_triangles 63 = .ok (.ifCond .eq 25, 3) := by decide +kernel
theorem dX10_triangles_66 : decode cX10_triangles 66 = .ok (.aload_n 0, 1) := by decide +kernel
theorem dX10_triangles_67 : decode cX10_triangles 67 = .ok (.getfield 73, 3) := by decide +kernel
theorem dX10_triangles_70 : decode cX10_triangles 70 = .ok (.aload_n 0, 1) := by decide +kernel
theorem dX10_triangles_71 : decode cX10_triangles 71 = .ok (.getfield 73, 3) := by decide +kernel
theorem dX10_triangles_74 : decode cX10_triangles 74 = .ok (.invokestatic 239, 3) := by decide +kernel
theorem dX10_triangles_77 : decode cX10_triangles 77 = .ok (.iload_n 3, 1) := by decide +kernel
theorem dX10_triangles_78 : decode cX10_triangles 78 = .ok (.iload 4, 2) := by decide +kernel
theorem dX10_triangles_80 : decode cX10_triangles 80 = .ok (.iload 5, 2) := by decide +kernel
theorem dX10_triangles_82 : decode cX10_triangles 82 = .ok (.invokestatic 178, 3) := by decide +kernel
theorem dX10_triangles_85 : decode cX10_triangles 85 = .ok (.ifCond .eq 6, 3) := by decide +kernel
theorem dX10_triangles_88 : decode cX10_triangles 88 = .ok (.iinc 2 1, 3) := by decide +kernel
theorem dX10_triangles_91 : decode cX10_triangles 91 = .ok (.iinc 5 1, 3) := by decide +kernel
theorem dX10_triangles_94 : decode cX10_triangles 94 = .ok (.goto (-58), 3) := by decide +kernel
theorem dX10_triangles_97 : decode cX10_triangles 97 = .ok (.iinc 4 1, 3) := by decide +kernel
theorem dX10_triangles_100 : decode cX10_triangles 100 = .ok (.goto (-81), 3) := by decide +kernel
theorem dX10_triangles_103 : decode cX10_triangles 103 = .ok (.iinc 3 1, 3) := by decide +kernel
theorem dX10_triangles_106 : decode cX10_triangles 106 = .ok (.goto (-102), 3) := by decide +kernel
theorem dX10_triangles_109 : decode cX10_triangles 109 = .ok (.iload_n 2, 1) := by decide +kernel
theorem dX10_triangles_110 : decode cX10_triangles 110 = .ok (.ireturn, 1) := by decide +kernel
theorem dX10_mostLines_0 : decode cX10_mostLines 0 = .ok (.iconst 0, 1) := by decide +kernel
theorem dX10_mostLines_1 : decode cX10_mostLines 1 = .ok (.istore_n 1, 1) := by decide +kernel
theorem dX10_mostLines_2 : decode cX10_mostLines 2 = .ok (.iconst 0, 1) := by decide +kernel
theorem dX10_mostLines_3 : decode cX10_mostLines 3 = .ok (.istore_n 2, 1) := by decide +kernel
theorem dX10_mostLines_4 : decode cX10_mostLines 4 = .ok (.iload_n 2, 1) := by decide +kernel
theorem dX10_mostLines_5 : decode cX10_mostLines 5 = .ok (.aload_n 0, 1) := by decide +kernel
theorem dX10_mostLines_6 : decode cX10_mostLines 6 = .ok (.getfield 73, 3) := by decide +kernel
theorem dX10_mostLines_9 : decode cX10_mostLines 9 = .ok (.iconst 0, 1) := by decide +kernel
theorem dX10_mostLines_10 : decode cX10_mostLines 10 = .ok (.iaload, 1) := by decide +kernel
theorem dX10_mostLines_11 : decode cX10_mostLines 11 = .ok (.if_icmp .ge 36, 3) := by decide +kernel
theorem dX10_mostLines_14 : decode cX10_mostLines 14 = .ok (.aload_n 0, 1) := by decide +kernel
theorem dX10_mostLines_15 : decode cX10_mostLines 15 = .ok (.getfield 73, 3) := by decide +kernel
theorem dX10_mostLines_18 : decode cX10_mostLines 18 = .ok (.iconst 1, 1) := by decide +kernel
theorem dX10_mostLines_19 : decode cX10_mostLines 19 = .ok (.iload_n 2, 1) := by decide +kernel
theorem dX10_mostLines_20 : decode cX10_mostLines 20 = .ok (.iadd, 1) := by decide +kernel
theorem dX10_mostLines_21 : decode cX10_mostLines 21 = .ok (.iaload, 1) := by decide +kernel
theorem dX10_mostLines_22 : decode cX10_mostLines 22 = .ok (.invokestatic 175, 3) := by decide +kernel
theorem dX10_mostLines_25 : decode cX10_mostLines 25 = .ok (.iload_n 1, 1) := by decide +kernel
theorem dX10_mostLines_26 : decode cX10_mostLines 26 = .ok (.if_icmp .le 15, 3) := by decide +kernel
theorem dX10_mostLines_29 : decode cX10_mostLines 29 = .ok (.aload_n 0, 1) := by decide +kernel
theorem dX10_mostLines_30 : decode cX10_mostLines 30 = .ok (.getfield 73, 3) := by decide +kernel
theorem dX10_mostLines_33 : decode cX10_mostLines 33 = .ok (.iconst 1, 1) := by decide +kernel
theorem dX10_mostLines_34 : decode cX10_mostLines 34 = .ok (.iload_n 2, 1) := by decide +kernel
theorem dX10_mostLines_35 : decode cX10_mostLines 35 = .ok (.iadd, 1) := by decide +kernel
theorem dX10_mostLines_36 : decode cX10_mostLines 36 = .ok (.iaload, 1) := by decide +kernel
theorem dX10_mostLines_37 : decode cX10_mostLines 37 = .ok (.invokestatic 175, 3) := by decide +kernel
theorem dX10_mostLines_40 : decode cX10_mostLines 40 = .ok (.istore_n 1, 1) := by decide +kernel
theorem dX10_mostLines_41 : decode cX10_mostLines 41 = .ok (.iinc 2 1, 3) := by decide +kernel
theorem dX10_mostLines_44 : decode cX10_mostLines 44 = .ok (.goto (-40), 3) := by decide +kernel
theorem dX10_mostLines_47 : decode cX10_mostLines 47 = .ok (.iload_n 1, 1) := by decide +kernel
theorem dX10_mostLines_48 : decode cX10_mostLines 48 = .ok (.ireturn, 1) := by decide +kernel
theorem dX10_claws_0 : decode cX10_claws 0 = .ok (.iconst 0, 1) := by decide +kernel
theorem dX10_claws_1 : decode cX10_claws 1 = .ok (.istore_n 1, 1) := by decide +kernel
theorem dX10_claws_2 : decode cX10_claws 2 = .ok (.iconst 0, 1) := by decide +kernel
theorem dX10_claws_3 : decode cX10_claws 3 = .ok (.istore_n 2, 1) := by decide +kernel
theorem dX10_claws_4 : decode cX10_claws 4 = .ok (.iload_n 2, 1) := by decide +kernel
theorem dX10_claws_5 : decode cX10_claws 5 = .ok (.aload_n 0, 1) := by decide +kernel
theorem dX10_claws_6 : decode cX10_claws 6 = .ok (.getfield 73, 3) := by decide +kernel
theorem dX10_claws_9 : decode cX10_claws 9 = .ok (.iconst 0, 1) := by decide +kernel
theorem dX10_claws_10 : decode cX10_claws 10 = .ok (.iaload, 1) := by decide +kernel
theorem dX10_claws_11 : decode cX10_claws 11 = .ok (.if_icmp .ge 91, 3) := by decide +kernel
theorem dX10_claws_14 : decode cX10_claws 14 = .ok (.iconst 0, 1) := by decide +kernel
theorem dX10_claws_15 : decode cX10_claws 15 = .ok (.istore_n 3, 1) := by decide +kernel
theorem dX10_claws_16 : decode cX10_claws 16 = .ok (.iload_n 3, 1) := by decide +kernel
theorem dX10_claws_17 : decode cX10_claws 17 = .ok (.aload_n 0, 1) := by decide +kernel
theorem dX10_claws_18 : decode cX10_claws 18 = .ok (.getfield 73, 3) := by decide +kernel
theorem dX10_claws_21 : decode cX10_claws 21 = .ok (.iconst 0, 1) := by decide +kernel
theorem dX10_claws_22 : decode cX10_claws 22 = .ok (.iaload, 1) := by decide +kernel
theorem dX10_claws_23 : decode cX10_claws 23 = .ok (.if_icmp .ge 73, 3) := by decide +kernel
theorem dX10_claws_26 : decode cX10_claws 26 = .ok (.iload_n 3, 1) := by decide +kernel
theorem dX10_claws_27 : decode cX10_claws 27 = .ok (.iconst 1, 1) := by decide +kernel
theorem dX10_claws_28 : decode cX10_claws 28 = .ok (.iadd, 1) := by decide +kernel
theorem dX10_claws_29 : decode cX10_claws 29 = .ok (.istore 4, 2) := by decide +kernel
theorem dX10_claws_31 : decode cX10_claws 31 = .ok (.iload 4, 2) := by decide +kernel
theorem dX10_claws_33 : decode cX10_claws 33 = .ok (.aload_n 0, 1) := by decide +kernel
theorem dX10_claws_34 : decode cX10_claws 34 = .ok (.getfield 73, 3) := by decide +kernel
theorem dX10_claws_37 : decode cX10_claws 37 = .ok (.iconst 0, 1) := by decide +kernel
theorem dX10_claws_38 : decode cX10_claws 38 = .ok (.iaload, 1) := by decide +kernel
theorem dX10_claws_39 : decode cX10_claws 39 = .ok (.if_icmp .ge 51, 3) := by decide +kernel
theorem dX10_claws_42 : decode cX10_claws 42 = .ok (.iload 4, 2) := by decide +kernel
theorem dX10_claws_44 : decode cX10_claws 44 = .ok (.iconst 1, 1) := by decide +kernel
theorem dX10_claws_45 : decode cX10_claws 45 = .ok (.iadd, 1) := by decide +kernel
theorem dX10_claws_46 : decode cX10_claws 46 = .ok (.istore 5, 2) := by decide +kernel
theorem dX10_claws_48 : decode cX10_claws 48 = .ok (.iload 5, 2) := by decide +kernel
theorem dX10_claws_50 : decode cX10_claws 50 = .ok (.aload_n 0, 1) := by decide +kernel
theorem dX10_claws_51 : decode cX10_claws 51 = .ok (.getfield 73, 3) := by decide +kernel
theorem dX10_claws_54 : decode cX10_claws 54 = .ok (.iconst 0, 1) := by decide +kernel
theorem dX10_claws_55 : decode cX10_claws 55 = .ok (.iaload, 1) := by decide +kernel
theorem dX10_claws_56 : decode cX10_claws 56 = .ok (.if_icmp .ge 28, 3) := by decide +kernel
theorem dX10_claws_59 : decode cX10_claws 59 = .ok (.aload_n 0, 1) := by decide +kernel
theorem dX10_claws_60 : decode cX10_claws 60 = .ok (.getfield 73, 3) := by decide +kernel
theorem dX10_claws_63 : decode cX10_claws 63 = .ok (.iload_n 2, 1) := by decide +kernel
theorem dX10_claws_64 : decode cX10_claws 64 = .ok (.iload_n 3, 1) := by decide +kernel
theorem dX10_claws_65 : decode cX10_claws 65 = .ok (.iload 4, 2) := by decide +kernel
theorem dX10_claws_67 : decode cX10_claws 67 = .ok (.iload 5, 2) := by decide +kernel
theorem dX10_claws_69 : decode cX10_claws 69 = .ok (.invokestatic 282, 3) := by decide +kernel
theorem dX10_claws_72 : decode cX10_claws 72 = .ok (.ifCond .eq 6, 3) := by decide +kernel
theorem dX10_claws_75 : decode cX10_claws 75 = .ok (.iinc 1 1, 3) := by decide +kernel
theorem dX10_claws_78 : decode cX10_claws 78 = .ok (.iinc 5 1, 3) := by decide +kernel
theorem dX10_claws_81 : decode cX10_claws 81 = .ok (.goto (-33), 3) := by decide +kernel
theorem dX10_claws_84 : decode cX10_claws 84 = .ok (.iinc 4 1, 3) := by decide +kernel
theorem dX10_claws_87 : decode cX10_claws 87 = .ok (.goto (-56), 3) := by decide +kernel
theorem dX10_claws_90 : decode cX10_claws 90 = .ok (.iinc 3 1, 3) := by decide +kernel
theorem dX10_claws_93 : decode cX10_claws 93 = .ok (.goto (-77), 3) := by decide +kernel
theorem dX10_claws_96 : decode cX10_claws 96 = .ok (.iinc 2 1, 3) := by decide +kernel
theorem dX10_claws_99 : decode cX10_claws 99 = .ok (.goto (-95), 3) := by decide +kernel
theorem dX10_claws_102 : decode cX10_claws 102 = .ok (.iload_n 1, 1) := by decide +kernel
theorem dX10_claws_103 : decode cX10_claws 103 = .ok (.ireturn, 1) := by decide +kernel
theorem dX10_now_0 : decode cX10_now 0 = .ok (.aload_n 0, 1) := by decide +kernel
theorem dX10_now_1 : decode cX10_now 1 = .ok (.iconst 0, 1) := by decide +kernel
theorem dX10_now_2 : decode cX10_now 2 = .ok (.putfield 1, 3) := by decide +kernel
theorem dX10_now_5 : decode cX10_now 5 = .ok (.iload_n 1, 1) := by decide +kernel
theorem dX10_now_6 : decode cX10_now 6 = .ok (.tableswitch 105 0 8 #[50, 57, 65, 73, 78, 84, 90, 95, 100], 50) := by decide +kernel
theorem dX10_now_56 : decode cX10_now 56 = .ok (.aload_n 0, 1) := by decide +kernel
theorem dX10_now_57 : decode cX10_now 57 = .ok (.getfield 73, 3) := by decide +kernel
theorem dX10_now_60 : decode cX10_now 60 = .ok (.iconst 0, 1) := by decide +kernel
theorem dX10_now_61 : decode cX10_now 61 = .ok (.iaload, 1) := by decide +kernel
theorem dX10_now_62 : decode cX10_now 62 = .ok (.ireturn, 1) := by decide +kernel
theorem dX10_now_63 : decode cX10_now 63 = .ok (.aload_n 0, 1) := by decide +kernel
theorem dX10_now_64 : decode cX10_now 64 = .ok (.getfield 73, 3) := by decide +kernel
theorem dX10_now_67 : decode cX10_now 67 = .ok (.invokestatic 288, 3) := by decide +kernel
theorem dX10_now_70 : decode cX10_now 70 = .ok (.ireturn, 1) := by decide +kernel
theorem dX10_now_71 : decode cX10_now 71 = .ok (.aload_n 0, 1) := by decide +kernel
theorem dX10_now_72 : decode cX10_now 72 = .ok (.getfield 73, 3) := by decide +kernel
theorem dX10_now_75 : decode cX10_now 75 = .ok (.invokestatic 249, 3) := by decide +kernel
theorem dX10_now_78 : decode cX10_now 78 = .ok (.ireturn, 1) := by decide +kernel
theorem dX10_now_79 : decode cX10_now 79 = .ok (.aload_n 0, 1) := by decide +kernel
theorem dX10_now_80 : decode cX10_now 80 = .ok (.invokevirtual 291, 3) := by decide +kernel
theorem dX10_now_83 : decode cX10_now 83 = .ok (.ireturn, 1) := by decide +kernel
theorem dX10_now_84 : decode cX10_now 84 = .ok (.aload_n 0, 1) := by decide +kernel
theorem dX10_now_85 : decode cX10_now 85 = .ok (.iconst 0, 1) := by decide +kernel
theorem dX10_now_86 : decode cX10_now 86 = .ok (.invokevirtual 294, 3) := by decide +kernel
theorem dX10_now_89 : decode cX10_now 89 = .ok (.ireturn, 1) := by decide +kernel
theorem dX10_now_90 : decode cX10_now 90 = .ok (.aload_n 0, 1) := by decide +kernel
theorem dX10_now_91 : decode cX10_now 91 = .ok (.iconst 1, 1) := by decide +kernel
theorem dX10_now_92 : decode cX10_now 92 = .ok (.invokevirtual 294, 3) := by decide +kernel
theorem dX10_now_95 : decode cX10_now 95 = .ok (.ireturn, 1) := by decide +kernel
theorem dX10_now_96 : decode cX10_now 96 = .ok (.aload_n 0, 1) := by decide +kernel
theorem dX10_now_97 : decode cX10_now 97 = .ok (.invokevirtual 298, 3) := by decide +kernel
theorem dX10_now_100 : decode cX10_now 100 = .ok (.ireturn, 1) := by decide +kernel
theorem dX10_now_101 : decode cX10_now 101 = .ok (.aload_n 0, 1) := by decide +kernel
theorem dX10_now_102 : decode cX10_now 102 = .ok (.getfield 172, 3) := by decide +kernel
theorem dX10_now_105 : decode cX10_now 105 = .ok (.ireturn, 1) := by decide +kernel
theorem dX10_now_106 : decode cX10_now 106 = .ok (.aload_n 0, 1) := by decide +kernel
theorem dX10_now_107 : decode cX10_now 107 = .ok (.getfield 15, 3) := by decide +kernel
theorem dX10_now_110 : decode cX10_now 110 = .ok (.ireturn, 1) := by decide +kernel
theorem dX10_now_111 : decode cX10_now 111 = .ok (.iconst (-1), 1) := by decide +kernel
theorem dX10_now_112 : decode cX10_now 112 = .ok (.ireturn, 1) := by decide +kernel
theorem dX10_near_0 : decode cX10_near 0 = .ok (.aload_n 0, 1) := by decide +kernel
theorem dX10_near_1 : decode cX10_near 1 = .ok (.iconst 0, 1) := by decide +kernel
theorem dX10_near_2 : decode cX10_near 2 = .ok (.putfield 1, 3) := by decide +kernel
theorem dX10_near_5 : decode cX10_near 5 = .ok (.aload_n 0, 1) := by decide +kernel
theorem dX10_near_6 : decode cX10_near 6 = .ok (.iload_n 1, 1) := by decide +kernel
theorem dX10_near_7 : decode cX10_near 7 = .ok (.invokevirtual 273, 3) := by decide +kernel
theorem dX10_near_10 : decode cX10_near 10 = .ok (.ifCond .eq 14, 3) := by decide +kernel
theorem dX10_near_13 : decode cX10_near 13 = .ok (.aload_n 0, 1) := by decide +kernel
theorem dX10_near_14 : decode cX10_near 14 = .ok (.getfield 73, 3) := by decide +kernel
theorem dX10_near_17 : decode cX10_near 17 = .ok (.iconst 1, 1) := by decide +kernel
theorem dX10_near_18 : decode cX10_near 18 = .ok (.iload_n 1, 1) := by decide +kernel
theorem dX10_near_19 : decode cX10_near 19 = .ok (.iadd, 1) := by decide +kernel
theorem dX10_near_20 : decode cX10_near 20 = .ok (.iaload, 1) := by decide +kernel
theorem dX10_near_21 : decode cX10_near 21 = .ok (.goto 7, 3) := by decide +kernel
theorem dX10_near_24 : decode cX10_near 24 = .ok (.aload_n 0, 1) := by decide +kernel
theorem dX10_near_25 : decode cX10_near 25 = .ok (.invokevirtual 255, 3) := by decide +kernel
theorem dX10_near_28 : decode cX10_near 28 = .ok (.ireturn, 1) := by decide +kernel
theorem dX10_laysLines_0 : decode cX10_laysLines 0 = .ok (.iconst 0, 1) := by decide +kernel
theorem dX10_laysLines_1 : decode cX10_laysLines 1 = .ok (.istore_n 2, 1) := by decide +kernel
theorem dX10_laysLines_2 : decode cX10_laysLines 2 = .ok (.iconst 0, 1) := by decide +kernel
theorem dX10_laysLines_3 : decode cX10_laysLines 3 = .ok (.istore_n 3, 1) := by decide +kernel
theorem dX10_laysLines_4 : decode cX10_laysLines 4 = .ok (.iload_n 3, 1) := by decide +kernel
theorem dX10_laysLines_5 : decode cX10_laysLines 5 = .ok (.aload_n 1, 1) := by decide +kernel
theorem dX10_laysLines_6 : decode cX10_laysLines 6 = .ok (.iconst 0, 1) := by decide +kernel
theorem dX10_laysLines_7 : decode cX10_laysLines 7 = .ok (.iaload, 1) := by decide +kernel
theorem dX10_laysLines_8 : decode cX10_laysLines 8 = .ok (.if_icmp .ge 59, 3) := by decide +kernel
theorem dX10_laysLines_11 : decode cX10_laysLines 11 = .ok (.iload_n 3, 1) := by decide +kernel
theorem dX10_laysLines_12 : decode cX10_laysLines 12 = .ok (.iconst 1, 1) := by decide +kernel
theorem dX10_laysLines_13 : decode cX10_laysLines 13 = .ok (.iadd, 1) := by decide +kernel
theorem dX10_laysLines_14 : decode cX10_laysLines 14 = .ok (.istore 4, 2) := by decide +kernel
theorem dX10_laysLines_16 : decode cX10_laysLines 16 = .ok (.iload 4, 2) := by decide +kernel
theorem dX10_laysLines_18 : decode cX10_laysLines 18 = .ok (.aload_n 1, 1) := by decide +kernel
theorem dX10_laysLines_19 : decode cX10_laysLines 19 = .ok (.iconst 0, 1) := by decide +kernel
theorem dX10_laysLines_20 : decode cX10_laysLines 20 = .ok (.iaload, 1) := by decide +kernel
theorem dX10_laysLines_21 : decode cX10_laysLines 21 = .ok (.if_icmp .ge 40, 3) := by decide +kernel
theorem dX10_laysLines_24 : decode cX10_laysLines 24 = .ok (.aload_n 1, 1) := by decide +kernel
theorem dX10_laysLines_25 : decode cX10_laysLines 25 = .ok (.iload_n 3, 1) := by decide +kernel
theorem dX10_laysLines_26 : decode cX10_laysLines 26 = .ok (.iload 4, 2) := by decide +kernel
theorem dX10_laysLines_28 : decode cX10_laysLines 28 = .ok (.invokestatic 151, 3) := by decide +kernel
theorem dX10_laysLines_31 : decode cX10_laysLines 31 = .ok (.ifCond .ne 6, 3) := by decide +kernel
theorem dX10_laysLines_34 : decode cX10_laysLines 34 = .ok (.goto 21, 3) := by decide +kernel
theorem dX10_laysLines_37 : decode cX10_laysLines 37 = .ok (.aload_n 0, 1) := by decide +kernel
theorem dX10_laysLines_38 : decode cX10_laysLines 38 = .ok (.getfield 129, 3) := by decide +kernel
theorem dX10_laysLines_41 : decode cX10_laysLines 41 = .ok (.iload_n 2, 1) := by decide +kernel
theorem dX10_laysLines_42 : decode cX10_laysLines 42 = .ok (.iload_n 3, 1) := by decide +kernel
theorem dX10_laysLines_43 : decode cX10_laysLines 43 = .ok (.iastore, 1) := by decide +kernel
theorem dX10_laysLines_44 : decode cX10_laysLines 44 = .ok (.aload_n 0, 1) := by decide +kernel
theorem dX10_laysLines_45 : decode cX10_laysLines 45 = .ok (.getfield 132, 3) := by decide +kernel
theorem dX10_laysLines_48 : decode cX10_laysLines 48 = .ok (.iload_n 2, 1) := by decide +kernel
theorem dX10_laysLines_49 : decode cX10_laysLines 49 = .ok (.iload 4, 2) := by decide +kernel
theorem dX10_laysLines_51 : decode cX10_laysLines 51 = .ok (.iastore, 1) := by decide +kernel
theorem dX10_laysLines_52 : decode cX10_laysLines 52 = .ok (.iinc 2 1, 3) := by decide +kernel
theorem dX10_laysLines_55 : decode cX10_laysLines 55 = .ok (.iinc 4 1, 3) := by decide +kernel
theorem dX10_laysLines_58 : decode cX10_laysLines 58 = .ok (.goto (-42), 3) := by decide +kernel
theorem dX10_laysLines_61 : decode cX10_laysLines 61 = .ok (.iinc 3 1, 3) := by decide +kernel
theorem dX10_laysLines_64 : decode cX10_laysLines 64 = .ok (.goto (-60), 3) := by decide +kernel
theorem dX10_laysLines_67 : decode cX10_laysLines 67 = .ok (.iload_n 2, 1) := by decide +kernel
theorem dX10_laysLines_68 : decode cX10_laysLines 68 = .ok (.ireturn, 1) := by decide +kernel
theorem dX10_line_0 : decode cX10_line 0 = .ok (.aload_n 0, 1) := by decide +kernel
theorem dX10_line_1 : decode cX10_line 1 = .ok (.iconst 0, 1) := by decide +kernel
theorem dX10_line_2 : decode cX10_line 2 = .ok (.putfield 1, 3) := by decide +kernel
theorem dX10_line_5 : decode cX10_line 5 = .ok (.iload_n 1, 1) := by decide +kernel
theorem dX10_line_6 : decode cX10_line 6 = .ok (.iconst 0, 1) := by decide +kernel
theorem dX10_line_7 : decode cX10_line 7 = .ok (.aload_n 0, 1) := by decide +kernel
theorem dX10_line_8 : decode cX10_line 8 = .ok (.aload_n 0, 1) := by decide +kernel
theorem dX10_line_9 : decode cX10_line 9 = .ok (.getfield 73, 3) := by decide +kernel
theorem dX10_line_12 : decode cX10_line 12 = .ok (.invokevirtual 301, 3) := by decide +kernel
theorem dX10_line_15 : decode cX10_line 15 = .ok (.iconst 1, 1) := by decide +kernel
theorem dX10_line_16 : decode cX10_line 16 = .ok (.isub, 1) := by decide +kernel
theorem dX10_line_17 : decode cX10_line 17 = .ok (.invokestatic 228, 3) := by decide +kernel
theorem dX10_line_20 : decode cX10_line 20 = .ok (.ifCond .eq 12, 3) := by decide +kernel
theorem dX10_line_23 : decode cX10_line 23 = .ok (.iload_n 2, 1) := by decide +kernel
theorem dX10_line_24 : decode cX10_line 24 = .ok (.iconst 0, 1) := by decide +kernel
theorem dX10_line_25 : decode cX10_line 25 = .ok (.iconst 1, 1) := by decide +kernel
theorem dX10_line_26 : decode cX10_line 26 = .ok (.invokestatic 228, 3) := by decide +kernel
theorem dX10_line_29 : decode cX10_line 29 = .ok (.ifCond .ne 8, 3) := by decide +kernel
theorem dX10_line_32 : decode cX10_line 32 = .ok (.aload_n 0, 1) := by decide +kernel
theorem dX10_line_33 : decode cX10_line 33 = .ok (.invokevirtual 255, 3) := by decide +kernel
theorem dX10_line_36 : decode cX10_line 36 = .ok (.ireturn, 1) := by decide +kernel
theorem dX10_line_37 : decode cX10_line 37 = .ok (.iload_n 2, 1) := by decide +kernel
theorem dX10_line_38 : decode cX10_line 38 = .ok (.ifCond .ne 12, 3) := by decide +kernel
theorem dX10_line_41 : decode cX10_line 41 = .ok (.aload_n 0, 1) := by decide +kernel
theorem dX10_line_42 : decode cX10_line 42 = .ok (.getfield 129, 3) := by decide +kernel
theorem dX10_line_45 : decode cX10_line 45 = .ok (.iload_n 1, 1) := by decide +kernel
theorem dX10_line_46 : decode cX10_line 46 = .ok (.iaload, 1) := by decide +kernel
theorem dX10_line_47 : decode cX10_line 47 = .ok (.goto 9, 3) := by decide +kernel
theorem dX10_line_50 : decode cX10_line 50 = .ok (.aload_n 0, 1) := by decide +kernel
theorem dX10_line_51 : decode cX10_line 51 = .ok (.getfield 132, 3) := by decide +kernel
theorem dX10_line_54 : decode cX10_line 54 = .ok (.iload_n 1, 1) := by decide +kernel
theorem dX10_line_55 : decode cX10_line 55 = .ok (.iaload, 1) := by decide +kernel
theorem dX10_line_56 : decode cX10_line 56 = .ok (.ireturn, 1) := by decide +kernel
theorem dX10_snap_0 : decode cX10_snap 0 = .ok (.aload_n 0, 1) := by decide +kernel
theorem dX10_snap_1 : decode cX10_snap 1 = .ok (.getfield 172, 3) := by decide +kernel
theorem dX10_snap_4 : decode cX10_snap 4 = .ok (.bipush 8, 2) := by decide +kernel
theorem dX10_snap_6 : decode cX10_snap 6 = .ok (.if_icmp .ne 42, 3) := by decide +kernel
theorem dX10_snap_9 : decode cX10_snap 9 = .ok (.iconst 0, 1) := by decide +kernel
theorem dX10_snap_10 : decode cX10_snap 10 = .ok (.istore_n 1, 1) := by decide +kernel
theorem dX10_snap_11 : decode cX10_snap 11 = .ok (.iload_n 1, 1) := by decide +kernel
theorem dX10_snap_12 : decode cX10_snap 12 = .ok (.bipush 105, 2) := by decide +kernel
theorem dX10_snap_14 : decode cX10_snap 14 = .ok (.if_icmp .ge 24, 3) := by decide +kernel
theorem dX10_snap_17 : decode cX10_snap 17 = .ok (.aload_n 0, 1) := by decide +kernel
theorem dX10_snap_18 : decode cX10_snap 18 = .ok (.getfield 82, 3) := by decide +kernel
theorem dX10_snap_21 : decode cX10_snap 21 = .ok (.iload_n 1, 1) := by decide +kernel
theorem dX10_snap_22 : decode cX10_snap 22 = .ok (.aload_n 0, 1) := by decide +kernel
theorem dX10_snap_23 : decode cX10_snap 23 = .ok (.getfield 82, 3) := by decide +kernel
theorem dX10_snap_26 : decode cX10_snap 26 = .ok (.iload_n 1, 1) := by decide +kernel
theorem dX10_snap_27 : decode cX10_snap 27 = .ok (.bipush 15, 2) := by decide +kernel
theorem dX10_snap_29 : decode cX10_snap 29 = .ok (.iadd, 1) := by decide +kernel
theorem dX10_snap_30 : decode cX10_snap 30 = .ok (.iaload, 1) := by decide +kernel
theorem dX10_snap_31 : decode cX10_snap 31 = .ok (.iastore, 1) := by decide +kernel
theorem dX10_snap_32 : decode cX10_snap 32 = .ok (.iinc 1 1, 3) := by decide +kernel
theorem dX10_snap_35 : decode cX10_snap 35 = .ok (.goto (-24), 3) := by decide +kernel
theorem dX10_snap_38 : decode cX10_snap 38 = .ok (.aload_n 0, 1) := by decide +kernel
theorem dX10_snap_39 : decode cX10_snap 39 = .ok (.dup, 1) := by decide +kernel
theorem dX10_snap_40 : decode cX10_snap 40 = .ok (.getfield 172, 3) := by decide +kernel
theorem dX10_snap_43 : decode cX10_snap 43 = .ok (.iconst 1, 1) := by decide +kernel
theorem dX10_snap_44 : decode cX10_snap 44 = .ok (.isub, 1) := by decide +kernel
theorem dX10_snap_45 : decode cX10_snap 45 = .ok (.putfield 172, 3) := by decide +kernel
theorem dX10_snap_48 : decode cX10_snap 48 = .ok (.aload_n 0, 1) := by decide +kernel
theorem dX10_snap_49 : decode cX10_snap 49 = .ok (.getfield 73, 3) := by decide +kernel
theorem dX10_snap_52 : decode cX10_snap 52 = .ok (.iconst 0, 1) := by decide +kernel
theorem dX10_snap_53 : decode cX10_snap 53 = .ok (.aload_n 0, 1) := by decide +kernel
theorem dX10_snap_54 : decode cX10_snap 54 = .ok (.getfield 82, 3) := by decide +kernel
theorem dX10_snap_57 : decode cX10_snap 57 = .ok (.bipush 15, 2) := by decide +kernel
theorem dX10_snap_59 : decode cX10_snap 59 = .ok (.aload_n 0, 1) := by decide +kernel
theorem dX10_snap_60 : decode cX10_snap 60 = .ok (.getfield 172, 3) := by decide +kernel
theorem dX10_snap_63 : decode cX10_snap 63 = .ok (.imul, 1) := by decide +kernel
theorem dX10_snap_64 : decode cX10_snap 64 = .ok (.invokestatic 168, 3) := by decide +kernel
theorem dX10_snap_67 : decode cX10_snap 67 = .ok (.aload_n 0, 1) := by decide +kernel
theorem dX10_snap_68 : decode cX10_snap 68 = .ok (.dup, 1) := by decide +kernel
theorem dX10_snap_69 : decode cX10_snap 69 = .ok (.getfield 172, 3) := by decide +kernel
theorem dX10_snap_72 : decode cX10_snap 72 = .ok (.iconst 1, 1) := by decide +kernel
theorem dX10_snap_73 : decode cX10_snap 73 = .ok (.iadd, 1) := by decide +kernel
theorem dX10_snap_74 : decode cX10_snap 74 = .ok (.putfield 172, 3) := by decide +kernel
theorem dX10_snap_77 : decode cX10_snap 77 = .ok (.return_, 1) := by decide +kernel
theorem dX10_stay_0 : decode cX10_stay 0 = .ok (.aload_n 0, 1) := by decide +kernel
theorem dX10_stay_1 : decode cX10_stay 1 = .ok (.getfield 73, 3) := by decide +kernel
theorem dX10_stay_4 : decode cX10_stay 4 = .ok (.iconst 0, 1) := by decide +kernel
theorem dX10_stay_5 : decode cX10_stay 5 = .ok (.aload_n 0, 1) := by decide +kernel
theorem dX10_stay_6 : decode cX10_stay 6 = .ok (.getfield 88, 3) := by decide +kernel
theorem dX10_stay_9 : decode cX10_stay 9 = .ok (.iconst 0, 1) := by decide +kernel
theorem dX10_stay_10 : decode cX10_stay 10 = .ok (.invokestatic 168, 3) := by decide +kernel
theorem dX10_stay_13 : decode cX10_stay 13 = .ok (.aload_n 0, 1) := by decide +kernel
theorem dX10_stay_14 : decode cX10_stay 14 = .ok (.getfield 85, 3) := by decide +kernel
theorem dX10_stay_17 : decode cX10_stay 17 = .ok (.iconst 0, 1) := by decide +kernel
theorem dX10_stay_18 : decode cX10_stay 18 = .ok (.aload_n 0, 1) := by decide +kernel
theorem dX10_stay_19 : decode cX10_stay 19 = .ok (.getfield 73, 3) := by decide +kernel
theorem dX10_stay_22 : decode cX10_stay 22 = .ok (.iconst 0, 1) := by decide +kernel
theorem dX10_stay_23 : decode cX10_stay 23 = .ok (.invokestatic 168, 3) := by decide +kernel
theorem dX10_stay_26 : decode cX10_stay 26 = .ok (.aload_n 0, 1) := by decide +kernel
theorem dX10_stay_27 : decode cX10_stay 27 = .ok (.invokevirtual 304, 3) := by decide +kernel
theorem dX10_stay_30 : decode cX10_stay 30 = .ok (.aload_n 0, 1) := by decide +kernel
theorem dX10_stay_31 : decode cX10_stay 31 = .ok (.getfield 88, 3) := by decide +kernel
theorem dX10_stay_34 : decode cX10_stay 34 = .ok (.iconst 0, 1) := by decide +kernel
theorem dX10_stay_35 : decode cX10_stay 35 = .ok (.aload_n 0, 1) := by decide +kernel
theorem dX10_stay_36 : decode cX10_stay 36 = .ok (.getfield 73, 3) := by decide +kernel
theorem dX10_stay_39 : decode cX10_stay 39 = .ok (.iconst 0, 1) := by decide +kernel
theorem dX10_stay_40 : decode cX10_stay 40 = .ok (.invokestatic 168, 3) := by decide +kernel
theorem dX10_stay_43 : decode cX10_stay 43 = .ok (.return_, 1) := by decide +kernel
theorem dX10_turnsIf_0 : decode cX10_turnsIf 0 = .ok (.aload_n 0, 1) := by decide +kernel
theorem dX10_turnsIf_1 : decode cX10_turnsIf 1 = .ok (.iconst 0, 1) := by decide +kernel
theorem dX10_turnsIf_2 : decode cX10_turnsIf 2 = .ok (.putfield 1, 3) := by decide +kernel
theorem dX10_turnsIf_5 : decode cX10_turnsIf 5 = .ok (.aload_n 0, 1) := by decide +kernel
theorem dX10_turnsIf_6 : decode cX10_turnsIf 6 = .ok (.iload_n 1, 1) := by decide +kernel
theorem dX10_turnsIf_7 : decode cX10_turnsIf 7 = .ok (.invokevirtual 273, 3) := by decide +kernel
theorem dX10_turnsIf_10 : decode cX10_turnsIf 10 = .ok (.ifCond .eq 16, 3) := by decide +kernel
theorem dX10_turnsIf_13 : decode cX10_turnsIf 13 = .ok (.aload_n 0, 1) := by decide +kernel
theorem dX10_turnsIf_14 : decode cX10_turnsIf 14 = .ok (.iload_n 2, 1) := by decide +kernel
theorem dX10_turnsIf_15 : decode cX10_turnsIf 15 = .ok (.invokevirtual 273, 3) := by decide +kernel
theorem dX10_turnsIf_18 : decode cX10_turnsIf 18 = .ok (.ifCond .eq 8, 3) := by decide +kernel
theorem dX10_turnsIf_21 : decode cX10_turnsIf 21 = .ok (.iload_n 1, 1) := by decide +kernel
theorem dX10_turnsIf_22 : decode cX10_turnsIf 22 = .ok (.iload_n 2, 1) := by decide +kernel
theorem dX10_turnsIf_23 : decode cX10_turnsIf 23 = .ok (.if_icmp .ne 5, 3) := by decide +kernel
theorem dX10_turnsIf_26 : decode cX10_turnsIf 26 = .ok (.iconst (-1), 1) := by decide +kernel
theorem dX10_turnsIf_27 : decode cX10_turnsIf 27 = .ok (.ireturn, 1) := by decide +kernel
theorem dX10_turnsIf_28 : decode cX10_turnsIf 28 = .ok (.aload_n 0, 1) := by decide +kernel
theorem dX10_turnsIf_29 : decode cX10_turnsIf 29 = .ok (.getfield 73, 3) := by decide +kernel
theorem dX10_turnsIf_32 : decode cX10_turnsIf 32 = .ok (.iload_n 1, 1) := by decide +kernel
theorem dX10_turnsIf_33 : decode cX10_turnsIf 33 = .ok (.iload_n 2, 1) := by decide +kernel
theorem dX10_turnsIf_34 : decode cX10_turnsIf 34 = .ok (.invokestatic 151, 3) := by decide +kernel
theorem dX10_turnsIf_37 : decode cX10_turnsIf 37 = .ok (.iload_n 3, 1) := by decide +kernel
theorem dX10_turnsIf_38 : decode cX10_turnsIf 38 = .ok (.if_icmp .eq 5, 3) := by decide +kernel
theorem dX10_turnsIf_41 : decode cX10_turnsIf 41 = .ok (.iconst 1, 1) := by decide +kernel
theorem dX10_turnsIf_42 : decode cX10_turnsIf 42 = .ok (.ireturn, 1) := by decide +kernel
theorem dX10_turnsIf_43 : decode cX10_turnsIf 43 = .ok (.aload_n 0, 1) := by decide +kernel
theorem dX10_turnsIf_44 : decode cX10_turnsIf 44 = .ok (.invokevirtual 304, 3) := by decide +kernel
theorem dX10_turnsIf_47 : decode cX10_turnsIf 47 = .ok (.aload_n 0, 1) := by decide +kernel
theorem dX10_turnsIf_48 : decode cX10_turnsIf 48 = .ok (.getfield 73, 3) := by decide +kernel
theorem dX10_turnsIf_51 : decode cX10_turnsIf 51 = .ok (.iload_n 1, 1) := by decide +kernel
theorem dX10_turnsIf_52 : decode cX10_turnsIf 52 = .ok (.iload_n 2, 1) := by decide +kernel
theorem dX10_turnsIf_53 : decode cX10_turnsIf 53 = .ok (.invokestatic 155, 3) := by decide +kernel
theorem dX10_turnsIf_56 : decode cX10_turnsIf 56 = .ok (.iconst 0, 1) := by decide +kernel
theorem dX10_turnsIf_57 : decode cX10_turnsIf 57 = .ok (.ireturn, 1) := by decide +kernel
theorem dX10_tie_0 : decode cX10_tie 0 = .ok (.aload_n 0, 1) := by decide +kernel
theorem dX10_tie_1 : decode cX10_tie 1 = .ok (.iload_n 1, 1) := by decide +kernel
theorem dX10_tie_2 : decode cX10_tie 2 = .ok (.iload_n 2, 1) := by decide +kernel
theorem dX10_tie_3 : decode cX10_tie 3 = .ok (.iconst 0, 1) := by decide +kernel
theorem dX10_tie_4 : decode cX10_tie 4 = .ok (.invokevirtual 307, 3) := by decide +kernel
theorem dX10_tie_7 : decode cX10_tie 7 = .ok (.ireturn, 1) := by decide +kernel
theorem dX10_part_0 : decode cX10_part 0 = .ok (.aload_n 0, 1) := by decide +kernel
theorem dX10_part_1 : decode cX10_part 1 = .ok (.iload_n 1, 1) := by decide +kernel
theorem dX10_part_2 : decode cX10_part 2 = .ok (.iload_n 2, 1) := by decide +kernel
theorem dX10_part_3 : decode cX10_part 3 = .ok (.iconst 1, 1) := by decide +kernel
theorem dX10_part_4 : decode cX10_part 4 = .ok (.invokevirtual 307, 3) := by decide +kernel
theorem dX10_part_7 : decode cX10_part 7 = .ok (.ireturn, 1) := by decide +kernel
theorem dX10_mayCome_0 : decode cX10_mayCome 0 = .ok (.aload_n 0, 1) := by decide +kernel
theorem dX10_mayCome_1 : decode cX10_mayCome 1 = .ok (.iconst 0, 1) := by decide +kernel
theorem dX10_mayCome_2 : decode cX10_mayCome 2 = .ok (.iaload, 1) := by decide +kernel
theorem dX10_mayCome_3 : decode cX10_mayCome 3 = .ok (.bipush 14, 2) := by decide +kernel
theorem dX10_mayCome_5 : decode cX10_mayCome 5 = .ok (.if_icmp .ge 19, 3) := by decide +kernel
theorem dX10_mayCome_8 : decode cX10_mayCome 8 = .ok (.iload_n 1, 1) := by decide +kernel
theorem dX10_mayCome_9 : decode cX10_mayCome 9 = .ok (.ifCond .lt 15, 3) := by decide +kernel
theorem dX10_mayCome_12 : decode cX10_mayCome 12 = .ok (.iload_n 1, 1) := by decide +kernel
theorem dX10_mayCome_13 : decode cX10_mayCome 13 = .ok (.aload_n 0, 1) := by decide +kernel
theorem dX10_mayCome_14 : decode cX10_mayCome 14 = .ok (.invokestatic 239, 3) := by decide +kernel
theorem dX10_mayCome_17 : decode cX10_mayCome 17 = .ok (.if_icmp .gt 7, 3) := by decide +kernel
theorem dX10_mayCome_20 : decode cX10_mayCome 20 = .ok (.iconst 1, 1) := by decide +kernel
theorem dX10_mayCome_21 : decode cX10_mayCome 21 = .ok (.goto 4, 3) := by decide +kernel
theorem dX10_mayCome_24 : decode cX10_mayCome 24 = .ok (.iconst 0, 1) := by decide +kernel
theorem dX10_mayCome_25 : decode cX10_mayCome 25 = .ok (.ireturn, 1) := by decide +kernel
theorem dX10_comes_0 : decode cX10_comes 0 = .ok (.aload_n 0, 1) := by decide +kernel
theorem dX10_comes_1 : decode cX10_comes 1 = .ok (.iconst 0, 1) := by decide +kernel
theorem dX10_comes_2 : decode cX10_comes 2 = .ok (.iaload, 1) := by decide +kernel
theorem dX10_comes_3 : decode cX10_comes 3 = .ok (.istore_n 2, 1) := by decide +kernel
theorem dX10_comes_4 : decode cX10_comes 4 = .ok (.aload_n 0, 1) := by decide +kernel
theorem dX10_comes_5 : decode cX10_comes 5 = .ok (.iconst 0, 1) := by decide +kernel
theorem dX10_comes_6 : decode cX10_comes 6 = .ok (.dup2, 1) := by decide +kernel
theorem dX10_comes_7 : decode cX10_comes 7 = .ok (.iaload, 1) := by decide +kernel
theorem dX10_comes_8 : decode cX10_comes 8 = .ok (.iconst 1, 1) := by decide +kernel
theorem dX10_comes_9 : decode cX10_comes 9 = .ok (.iadd, 1) := by decide +kernel
theorem dX10_comes_10 : decode cX10_comes 10 = .ok (.iastore, 1) := by decide +kernel
theorem dX10_comes_11 : decode cX10_comes 11 = .ok (.aload_n 0, 1) := by decide +kernel
theorem dX10_comes_12 : decode cX10_comes 12 = .ok (.iconst 1, 1) := by decide +kernel
theorem dX10_comes_13 : decode cX10_comes 13 = .ok (.iload_n 2, 1) := by decide +kernel
theorem dX10_comes_14 : decode cX10_comes 14 = .ok (.iadd, 1) := by decide +kernel
theorem dX10_comes_15 : decode cX10_comes 15 = .ok (.iconst 0, 1) := by decide +kernel
theorem dX10_comes_16 : decode cX10_comes 16 = .ok (.iastore, 1) := by decide +kernel
theorem dX10_comes_17 : decode cX10_comes 17 = .ok (.iconst 0, 1) := by decide +kernel
theorem dX10_comes_18 : decode cX10_comes 18 = .ok (.istore_n 3, 1) := by decide +kernel
theorem dX10_comes_19 : decode cX10_comes 19 = .ok (.iload_n 3, 1) := by decide +kernel
theorem dX10_comes_20 : decode cX10_comes 20 = .ok (.iload_n 2, 1) := by decide +kernel
theorem dX10_comes_21 : decode cX10_comes 21 = .ok (.if_icmp .ge 23, 3) := by decide +kernel
theorem dX10_comes_24 : decode cX10_comes 24 = .ok (.iload_n 1, 1) := by decide +kernel
theorem dX10_comes_25 : decode cX10_comes 25 = .ok (.iload_n 3, 1) := by decide +kernel
theorem dX10_comes_26 : decode cX10_comes 26 = .ok (.invokestatic 7, 3) := by decide +kernel
theorem dX10_comes_29 : decode cX10_comes 29 = .ok (.ifCond .eq 9, 3) := by decide +kernel
theorem dX10_comes_32 : decode cX10_comes 32 = .ok (.aload_n 0, 1) := by decide +kernel
theorem dX10_comes_33 : decode cX10_comes 33 = .ok (.iload_n 2, 1) := by decide +kernel
theorem dX10_comes_34 : decode cX10_comes 34 = .ok (.iload_n 3, 1) := by decide +kernel
theorem dX10_comes_35 : decode cX10_comes 35 = .ok (.invokestatic 155, 3) := by decide +kernel
theorem dX10_comes_38 : decode cX10_comes 38 = .ok (.iinc 3 1, 3) := by decide +kernel
theorem dX10_comes_41 : decode cX10_comes 41 = .ok (.goto (-22), 3) := by decide +kernel
theorem dX10_comes_44 : decode cX10_comes 44 = .ok (.return_, 1) := by decide +kernel
theorem dX10_without_0 : decode cX10_without 0 = .ok (.iload_n 0, 1) := by decide +kernel
theorem dX10_without_1 : decode cX10_without 1 = .ok (.iconst 1, 1) := by decide +kernel
theorem dX10_without_2 : decode cX10_without 2 = .ok (.iload_n 1, 1) := by decide +kernel
theorem dX10_without_3 : decode cX10_without 3 = .ok (.ishl, 1) := by decide +kernel
theorem dX10_without_4 : decode cX10_without 4 = .ok (.iconst 1, 1) := by decide +kernel
theorem dX10_without_5 : decode cX10_without 5 = .ok (.isub, 1) := by decide +kernel
theorem dX10_without_6 : decode cX10_without 6 = .ok (.iand, 1) := by decide +kernel
theorem dX10_without_7 : decode cX10_without 7 = .ok (.iload_n 0, 1) := by decide +kernel
theorem dX10_without_8 : decode cX10_without 8 = .ok (.iload_n 1, 1) := by decide +kernel
theorem dX10_without_9 : decode cX10_without 9 = .ok (.iconst 1, 1) := by decide +kernel
theorem dX10_without_10 : decode cX10_without 10 = .ok (.iadd, 1) := by decide +kernel
theorem dX10_without_11 : decode cX10_without 11 = .ok (.ishr, 1) := by decide +kernel
theorem dX10_without_12 : decode cX10_without 12 = .ok (.iload_n 1, 1) := by decide +kernel
theorem dX10_without_13 : decode cX10_without 13 = .ok (.ishl, 1) := by decide +kernel
theorem dX10_without_14 : decode cX10_without 14 = .ok (.ior, 1) := by decide +kernel
theorem dX10_without_15 : decode cX10_without 15 = .ok (.ireturn, 1) := by decide +kernel
theorem dX10_goes_0 : decode cX10_goes 0 = .ok (.iconst 0, 1) := by decide +kernel
theorem dX10_goes_1 : decode cX10_goes 1 = .ok (.istore_n 2, 1) := by decide +kernel
theorem dX10_goes_2 : decode cX10_goes 2 = .ok (.iload_n 2, 1) := by decide +kernel
theorem dX10_goes_3 : decode cX10_goes 3 = .ok (.aload_n 0, 1) := by decide +kernel
theorem dX10_goes_4 : decode cX10_goes 4 = .ok (.iconst 0, 1) := by decide +kernel
theorem dX10_goes_5 : decode cX10_goes 5 = .ok (.iaload, 1) := by decide +kernel
theorem dX10_goes_6 : decode cX10_goes 6 = .ok (.if_icmp .ge 23, 3) := by decide +kernel
theorem dX10_goes_9 : decode cX10_goes 9 = .ok (.aload_n 0, 1) := by decide +kernel
theorem dX10_goes_10 : decode cX10_goes 10 = .ok (.iconst 1, 1) := by decide +kernel
theorem dX10_goes_11 : decode cX10_goes 11 = .ok (.iload_n 2, 1) := by decide +kernel
theorem dX10_goes_12 : decode cX10_goes 12 = .ok (.iadd, 1) := by decide +kernel
theorem dX10_goes_13 : decode cX10_goes 13 = .ok (.aload_n 0, 1) := by decide +kernel
theorem dX10_goes_14 : decode cX10_goes 14 = .ok (.iconst 1, 1) := by decide +kernel
theorem dX10_goes_15 : decode cX10_goes 15 = .ok (.iload_n 2, 1) := by decide +kernel
theorem dX10_goes_16 : decode cX10_goes 16 = .ok (.iadd, 1) := by decide +kernel
theorem dX10_goes_17 : decode cX10_goes 17 = .ok (.iaload, 1) := by decide +kernel
theorem dX10_goes_18 : decode cX10_goes 18 = .ok (.iload_n 1, 1) := by decide +kernel
theorem dX10_goes_19 : decode cX10_goes 19 = .ok (.invokestatic 311, 3) := by decide +kernel
theorem dX10_goes_22 : decode cX10_goes 22 = .ok (.iastore, 1) := by decide +kernel
theorem dX10_goes_23 : decode cX10_goes 23 = .ok (.iinc 2 1, 3) := by decide +kernel
theorem dX10_goes_26 : decode cX10_goes 26 = .ok (.goto (-24), 3) := by decide +kernel
theorem dX10_goes_29 : decode cX10_goes 29 = .ok (.iload_n 1, 1) := by decide +kernel
theorem dX10_goes_30 : decode cX10_goes 30 = .ok (.istore_n 2, 1) := by decide +kernel
theorem dX10_goes_31 : decode cX10_goes 31 = .ok (.iload_n 2, 1) := by decide +kernel
theorem dX10_goes_32 : decode cX10_goes 32 = .ok (.aload_n 0, 1) := by decide +kernel
theorem dX10_goes_33 : decode cX10_goes 33 = .ok (.iconst 0, 1) := by decide +kernel
theorem dX10_goes_34 : decode cX10_goes 34 = .ok (.iaload, 1) := by decide +kernel
theorem dX10_goes_35 : decode cX10_goes 35 = .ok (.iconst 1, 1) := by decide +kernel
theorem dX10_goes_36 : decode cX10_goes 36 = .ok (.isub, 1) := by decide +kernel
theorem dX10_goes_37 : decode cX10_goes 37 = .ok (.if_icmp .ge 19, 3) := by decide +kernel
theorem dX10_goes_40 : decode cX10_goes 40 = .ok (.aload_n 0, 1) := by decide +kernel
theorem dX10_goes_41 : decode cX10_goes 41 = .ok (.iconst 1, 1) := by decide +kernel
theorem dX10_goes_42 : decode cX10_goes 42 = .ok (.iload_n 2, 1) := by decide +kernel
theorem dX10_goes_43 : decode cX10_goes 43 = .ok (.iadd, 1) := by decide +kernel
theorem dX10_goes_44 : decode cX10_goes 44 = .ok (.aload_n 0, 1) := by decide +kernel
theorem dX10_goes_45 : decode cX10_goes 45 = .ok (.iconst 2, 1) := by decide +kernel
theorem dX10_goes_46 : decode cX10_goes 46 = .ok (.iload_n 2, 1) := by decide +kernel
theorem dX10_goes_47 : decode cX10_goes 47 = .ok (.iadd, 1) := by decide +kernel
theorem dX10_goes_48 : decode cX10_goes 48 = .ok (.iaload, 1) := by decide +kernel
theorem dX10_goes_49 : decode cX10_goes 49 = .ok (.iastore, 1) := by decide +kernel
theorem dX10_goes_50 : decode cX10_goes 50 = .ok (.iinc 2 1, 3) := by decide +kernel
theorem dX10_goes_53 : decode cX10_goes 53 = .ok (.goto (-22), 3) := by decide +kernel
theorem dX10_goes_56 : decode cX10_goes 56 = .ok (.aload_n 0, 1) := by decide +kernel
theorem dX10_goes_57 : decode cX10_goes 57 = .ok (.aload_n 0, 1) := by decide +kernel
theorem dX10_goes_58 : decode cX10_goes 58 = .ok (.iconst 0, 1) := by decide +kernel
theorem dX10_goes_59 : decode cX10_goes 59 = .ok (.iaload, 1) := by decide +kernel
theorem dX10_goes_60 : decode cX10_goes 60 = .ok (.iconst 0, 1) := by decide +kernel
theorem dX10_goes_61 : decode cX10_goes 61 = .ok (.iastore, 1) := by decide +kernel
theorem dX10_goes_62 : decode cX10_goes 62 = .ok (.aload_n 0, 1) := by decide +kernel
theorem dX10_goes_63 : decode cX10_goes 63 = .ok (.iconst 0, 1) := by decide +kernel
theorem dX10_goes_64 : decode cX10_goes 64 = .ok (.dup2, 1) := by decide +kernel
theorem dX10_goes_65 : decode cX10_goes 65 = .ok (.iaload, 1) := by decide +kernel
theorem dX10_goes_66 : decode cX10_goes 66 = .ok (.iconst 1, 1) := by decide +kernel
theorem dX10_goes_67 : decode cX10_goes 67 = .ok (.isub, 1) := by decide +kernel
theorem dX10_goes_68 : decode cX10_goes 68 = .ok (.iastore, 1) := by decide +kernel
theorem dX10_goes_69 : decode cX10_goes 69 = .ok (.return_, 1) := by decide +kernel
theorem dX10_come_0 : decode cX10_come 0 = .ok (.aload_n 0, 1) := by decide +kernel
theorem dX10_come_1 : decode cX10_come 1 = .ok (.iconst 0, 1) := by decide +kernel
theorem dX10_come_2 : decode cX10_come 2 = .ok (.putfield 1, 3) := by decide +kernel
theorem dX10_come_5 : decode cX10_come 5 = .ok (.aload_n 0, 1) := by decide +kernel
theorem dX10_come_6 : decode cX10_come 6 = .ok (.getfield 73, 3) := by decide +kernel
theorem dX10_come_9 : decode cX10_come 9 = .ok (.iload_n 1, 1) := by decide +kernel
theorem dX10_come_10 : decode cX10_come 10 = .ok (.invokestatic 314, 3) := by decide +kernel
theorem dX10_come_13 : decode cX10_come 13 = .ok (.ifCond .ne 5, 3) := by decide +kernel
theorem dX10_come_16 : decode cX10_come 16 = .ok (.iconst (-1), 1) := by decide +kernel
theorem dX10_come_17 : decode cX10_come 17 = .ok (.ireturn, 1) := by decide +kernel
theorem dX10_come_18 : decode cX10_come 18 = .ok (.aload_n 0, 1) := by decide +kernel
theorem dX10_come_19 : decode cX10_come 19 = .ok (.invokevirtual 304, 3) := by decide +kernel
theorem dX10_come_22 : decode cX10_come 22 = .ok (.aload_n 0, 1) := by decide +kernel
theorem dX10_come_23 : decode cX10_come 23 = .ok (.getfield 73, 3) := by decide +kernel
theorem dX10_come_26 : decode cX10_come 26 = .ok (.iload_n 1, 1) := by decide +kernel
theorem dX10_come_27 : decode cX10_come 27 = .ok (.invokestatic 317, 3) := by decide +kernel
theorem dX10_come_30 : decode cX10_come 30 = .ok (.aload_n 0, 1) := by decide +kernel
theorem dX10_come_31 : decode cX10_come 31 = .ok (.getfield 73, 3) := by decide +kernel
theorem dX10_come_34 : decode cX10_come 34 = .ok (.iconst 0, 1) := by decide +kernel
theorem dX10_come_35 : decode cX10_come 35 = .ok (.iaload, 1) := by decide +kernel
theorem dX10_come_36 : decode cX10_come 36 = .ok (.iconst 1, 1) := by decide +kernel
theorem dX10_come_37 : decode cX10_come 37 = .ok (.isub, 1) := by decide +kernel
theorem dX10_come_38 : decode cX10_come 38 = .ok (.ireturn, 1) := by decide +kernel
theorem dX10_go_0 : decode cX10_go 0 = .ok (.aload_n 0, 1) := by decide +kernel
theorem dX10_go_1 : decode cX10_go 1 = .ok (.iconst 0, 1) := by decide +kernel
theorem dX10_go_2 : decode cX10_go 2 = .ok (.putfield 1, 3) := by decide +kernel
theorem dX10_go_5 : decode cX10_go 5 = .ok (.aload_n 0, 1) := by decide +kernel
theorem dX10_go_6 : decode cX10_go 6 = .ok (.iload_n 1, 1) := by decide +kernel
theorem dX10_go_7 : decode cX10_go 7 = .ok (.invokevirtual 273, 3) := by decide +kernel
theorem dX10_go_10 : decode cX10_go 10 = .ok (.ifCond .ne 5, 3) := by decide +kernel
theorem dX10_go_13 : decode cX10_go 13 = .ok (.iconst (-1), 1) := by decide +kernel
theorem dX10_go_14 : decode cX10_go 14 = .ok (.ireturn, 1) := by decide +kernel
theorem dX10_go_15 : decode cX10_go 15 = .ok (.aload_n 0, 1) := by decide +kernel
theorem dX10_go_16 : decode cX10_go 16 = .ok (.invokevirtual 304, 3) := by decide +kernel
theorem dX10_go_19 : decode cX10_go 19 = .ok (.aload_n 0, 1) := by decide +kernel
theorem dX10_go_20 : decode cX10_go 20 = .ok (.getfield 73, 3) := by decide +kernel
theorem dX10_go_23 : decode cX10_go 23 = .ok (.iload_n 1, 1) := by decide +kernel
theorem dX10_go_24 : decode cX10_go 24 = .ok (.invokestatic 320, 3) := by decide +kernel
theorem dX10_go_27 : decode cX10_go 27 = .ok (.aload_n 0, 1) := by decide +kernel
theorem dX10_go_28 : decode cX10_go 28 = .ok (.getfield 73, 3) := by decide +kernel
theorem dX10_go_31 : decode cX10_go 31 = .ok (.iconst 0, 1) := by decide +kernel
theorem dX10_go_32 : decode cX10_go 32 = .ok (.iaload, 1) := by decide +kernel
theorem dX10_go_33 : decode cX10_go 33 = .ok (.ireturn, 1) := by decide +kernel
theorem dX10_meet_0 : decode cX10_meet 0 = .ok (.aload_n 0, 1) := by decide +kernel
theorem dX10_meet_1 : decode cX10_meet 1 = .ok (.iconst 0, 1) := by decide +kernel
theorem dX10_meet_2 : decode cX10_meet 2 = .ok (.putfield 1, 3) := by decide +kernel
theorem dX10_meet_5 : decode cX10_meet 5 = .ok (.aload_n 0, 1) := by decide +kernel
theorem dX10_meet_6 : decode cX10_meet 6 = .ok (.aload_n 0, 1) := by decide +kernel
theorem dX10_meet_7 : decode cX10_meet 7 = .ok (.getfield 73, 3) := by decide +kernel
theorem dX10_meet_10 : decode cX10_meet 10 = .ok (.invokevirtual 301, 3) := by decide +kernel
theorem dX10_meet_13 : decode cX10_meet 13 = .ok (.istore_n 1, 1) := by decide +kernel
theorem dX10_meet_14 : decode cX10_meet 14 = .ok (.iload_n 1, 1) := by decide +kernel
theorem dX10_meet_15 : decode cX10_meet 15 = .ok (.bipush 14, 2) := by decide +kernel
theorem dX10_meet_17 : decode cX10_meet 17 = .ok (.if_icmp .le 5, 3) := by decide +kernel
theorem dX10_meet_20 : decode cX10_meet 20 = .ok (.iconst (-1), 1) := by decide +kernel
theorem dX10_meet_21 : decode cX10_meet 21 = .ok (.ireturn, 1) := by decide +kernel
theorem dX10_meet_22 : decode cX10_meet 22 = .ok (.aload_n 0, 1) := by decide +kernel
theorem dX10_meet_23 : decode cX10_meet 23 = .ok (.invokevirtual 304, 3) := by decide +kernel
theorem dX10_meet_26 : decode cX10_meet 26 = .ok (.iconst 0, 1) := by decide +kernel
theorem dX10_meet_27 : decode cX10_meet 27 = .ok (.istore_n 2, 1) := by decide +kernel
theorem dX10_meet_28 : decode cX10_meet 28 = .ok (.iload_n 2, 1) := by decide +kernel
theorem dX10_meet_29 : decode cX10_meet 29 = .ok (.bipush 15, 2) := by decide +kernel
theorem dX10_meet_31 : decode cX10_meet 31 = .ok (.if_icmp .ge 16, 3) := by decide +kernel
theorem dX10_meet_34 : decode cX10_meet 34 = .ok (.aload_n 0, 1) := by decide +kernel
theorem dX10_meet_35 : decode cX10_meet 35 = .ok (.getfield 73, 3) := by decide +kernel
theorem dX10_meet_38 : decode cX10_meet 38 = .ok (.iload_n 2, 1) := by decide +kernel
theorem dX10_meet_39 : decode cX10_meet 39 = .ok (.iconst 0, 1) := by decide +kernel
theorem dX10_meet_40 : decode cX10_meet 40 = .ok (.iastore, 1) := by decide +kernel
theorem dX10_meet_41 : decode cX10_meet 41 = .ok (.iinc 2 1, 3) := by decide +kernel
theorem dX10_meet_44 : decode cX10_meet 44 = .ok (.goto (-16), 3) := by decide +kernel
theorem dX10_meet_47 : decode cX10_meet 47 = .ok (.aload_n 0, 1) := by decide +kernel
theorem dX10_meet_48 : decode cX10_meet 48 = .ok (.getfield 73, 3) := by decide +kernel
theorem dX10_meet_51 : decode cX10_meet 51 = .ok (.iconst 0, 1) := by decide +kernel
theorem dX10_meet_52 : decode cX10_meet 52 = .ok (.iload_n 1, 1) := by decide +kernel
theorem dX10_meet_53 : decode cX10_meet 53 = .ok (.iastore, 1) := by decide +kernel
theorem dX10_meet_54 : decode cX10_meet 54 = .ok (.iconst 0, 1) := by decide +kernel
theorem dX10_meet_55 : decode cX10_meet 55 = .ok (.istore_n 2, 1) := by decide +kernel
theorem dX10_meet_56 : decode cX10_meet 56 = .ok (.iload_n 2, 1) := by decide +kernel
theorem dX10_meet_57 : decode cX10_meet 57 = .ok (.iload_n 1, 1) := by decide +kernel
theorem dX10_meet_58 : decode cX10_meet 58 = .ok (.if_icmp .ge 93, 3) := by decide +kernel
theorem dX10_meet_61 : decode cX10_meet 61 = .ok (.iload_n 2, 1) := by decide +kernel
theorem dX10_meet_62 : decode cX10_meet 62 = .ok (.iconst 1, 1) := by decide +kernel
theorem dX10_meet_63 : decode cX10_meet 63 = .ok (.iadd, 1) := by decide +kernel
theorem dX10_meet_64 : decode cX10_meet 64 = .ok (.istore_n 3, 1) := by decide +kernel
theorem dX10_meet_65 : decode cX10_meet 65 = .ok (.iload_n 3, 1) := by decide +kernel
theorem dX10_meet_66 : decode cX10_meet 66 = .ok (.iload_n 1, 1) := by decide +kernel
theorem dX10_meet_67 : decode cX10_meet 67 = .ok (.if_icmp .ge 78, 3) := by decide +kernel
theorem dX10_meet_70 : decode cX10_meet 70 = .ok (.aload_n 0, 1) := by decide +kernel
theorem dX10_meet_71 : decode cX10_meet 71 = .ok (.getfield 129, 3) := by decide +kernel
theorem dX10_meet_74 : decode cX10_meet 74 = .ok (.iload_n 2, 1) := by decide +kernel
theorem dX10_meet_75 : decode cX10_meet 75 = .ok (.iaload, 1) := by decide +kernel
theorem dX10_meet_76 : decode cX10_meet 76 = .ok (.aload_n 0, 1) := by decide +kernel
theorem dX10_meet_77 : decode cX10_meet 77 = .ok (.getfield 129, 3) := by decide +kernel
theorem dX10_meet_80 : decode cX10_meet 80 = .ok (.iload_n 3, 1) := by decide +kernel
theorem dX10_meet_81 : decode cX10_meet 81 = .ok (.iaload, 1) := by decide +kernel
theorem dX10_meet_82 : decode cX10_meet 82 = .ok (.if_icmp .eq 48, 3) := by decide +kernel
theorem dX10_meet_85 : decode cX10_meet 85 = .ok (.aload_n 0, 1) := by decide +kernel
theorem dX10_meet_86 : decode cX10_meet 86 = .ok (.getfield 129, 3) := by decide +kernel
theorem dX10_meet_89 : decode cX10_meet 89 = .ok (.iload_n 2, 1) := by decide +kernel
theorem dX10_meet_90 : decode cX10_meet 90 = .ok (.iaload, 1) := by decide +kernel
theorem dX10_meet_91 : decode cX10_meet 91 = .ok (.aload_n 0, 1) := by decide +kernel
theorem dX10_meet_92 : decode cX10_meet 92 = .ok (.getfield 132, 3) := by decide +kernel
theorem dX10_meet_95 : decode cX10_meet 95 = .ok (.iload_n 3, 1) := by decide +kernel
theorem dX10_meet_96 : decode cX10_meet 96 = .ok (.iaload, 1) := by decide +kernel
theorem dX10_meet_97 : decode cX10_meet 97 = .ok (.if_icmp .eq 33, 3) := by decide +kernel
theorem dX10_meet_100 : decode cX10_meet 100 = .ok (.aload_n 0, 1) := by decide +kernel
theorem dX10_meet_101 : decode cX10_meet 101 = .ok (.getfield 132, 3) := by decide +kernel
theorem dX10_meet_104 : decode cX10_meet 104 = .ok (.iload_n 2, 1) := by decide +kernel
theorem dX10_meet_105 : decode cX10_meet 105 = .ok (.iaload, 1) := by decide +kernel
theorem dX10_meet_106 : decode cX10_meet 106 = .ok (.aload_n 0, 1) := by decide +kernel
theorem dX10_meet_107 : decode cX10_meet 107 = .ok (.getfield 129, 3) := by decide +kernel
theorem dX10_meet_110 : decode cX10_meet 110 = .ok (.iload_n 3, 1) := by decide +kernel
theorem dX10_meet_111 : decode cX10_meet 111 = .ok (.iaload, 1) := by decide +kernel
theorem dX10_meet_112 : decode cX10_meet 112 = .ok (.if_icmp .eq 18, 3) := by decide +kernel
theorem dX10_meet_115 : decode cX10_meet 115 = .ok (.aload_n 0, 1) := by decide +kernel
theorem dX10_meet_116 : decode cX10_meet 116 = .ok (.getfield 132, 3) := by decide +kernel
theorem dX10_meet_119 : decode cX10_meet 119 = .ok (.iload_n 2, 1) := by decide +kernel
theorem dX10_meet_120 : decode cX10_meet 120 = .ok (.iaload, 1) := by decide +kernel
theorem dX10_meet_121 : decode cX10_meet 121 = .ok (.aload_n 0, 1) := by decide +kernel
theorem dX10_meet_122 : decode cX10_meet 122 = .ok (.getfield 132, 3) := by decide +kernel
theorem dX10_meet_125 : decode cX10_meet 125 = .ok (.iload_n 3, 1) := by decide +kernel
theorem dX10_meet_126 : decode cX10_meet 126 = .ok (.iaload, 1) := by decide +kernel
theorem dX10_meet_127 : decode cX10_meet 127 = .ok (.if_icmp .ne 12, 3) := by decide +kernel
theorem dX10_meet_130 : decode cX10_meet 130 = .ok (.aload_n 0, 1) := by decide +kernel
theorem dX10_meet_131 : decode cX10_meet 131 = .ok (.getfield 73, 3) := by decide +kernel
theorem dX10_meet_134 : decode cX10_meet 134 = .ok (.iload_n 2, 1) := by decide +kernel
theorem dX10_meet_135 : decode cX10_meet 135 = .ok (.iload_n 3, 1) := by decide +kernel
theorem dX10_meet_136 : decode cX10_meet 136 = .ok (.invokestatic 155, 3) := by decide +kernel
theorem dX10_meet_139 : decode cX10_meet 139 = .ok (.iinc 3 1, 3) := by decide +kernel
theorem dX10_meet_142 : decode cX10_meet 142 = .ok (.goto (-77), 3) := by decide +kernel
theorem dX10_meet_145 : decode cX10_meet 145 = .ok (.iinc 2 1, 3) := by decide +kernel
theorem dX10_meet_148 : decode cX10_meet 148 = .ok (.goto (-92), 3) := by decide +kernel
theorem dX10_meet_151 : decode cX10_meet 151 = .ok (.iload_n 1, 1) := by decide +kernel
theorem dX10_meet_152 : decode cX10_meet 152 = .ok (.ireturn, 1) := by decide +kernel
theorem dX10_goesBack_0 : decode cX10_goesBack 0 = .ok (.aload_n 0, 1) := by decide +kernel
theorem dX10_goesBack_1 : decode cX10_goesBack 1 = .ok (.aload_n 1, 1) := by decide +kernel
theorem dX10_goesBack_2 : decode cX10_goesBack 2 = .ok (.invokevirtual 245, 3) := by decide +kernel
theorem dX10_goesBack_5 : decode cX10_goesBack 5 = .ok (.ifCond .eq 12, 3) := by decide +kernel
theorem dX10_goesBack_8 : decode cX10_goesBack 8 = .ok (.aload_n 0, 1) := by decide +kernel
theorem dX10_goesBack_9 : decode cX10_goesBack 9 = .ok (.getfield 232, 3) := by decide +kernel
theorem dX10_goesBack_12 : decode cX10_goesBack 12 = .ok (.bipush 14, 2) := by decide +kernel
theorem dX10_goesBack_14 : decode cX10_goesBack 14 = .ok (.if_icmp .le 5, 3) := by decide +kernel
theorem dX10_goesBack_17 : decode cX10_goesBack 17 = .ok (.iconst 0, 1) := by decide +kernel
theorem dX10_goesBack_18 : decode cX10_goesBack 18 = .ok (.ireturn, 1) := by decide +kernel
theorem dX10_goesBack_19 : decode cX10_goesBack 19 = .ok (.iconst 0, 1) := by decide +kernel
theorem dX10_goesBack_20 : decode cX10_goesBack 20 = .ok (.istore_n 2, 1) := by decide +kernel
theorem dX10_goesBack_21 : decode cX10_goesBack 21 = .ok (.iload_n 2, 1) := by decide +kernel
theorem dX10_goesBack_22 : decode cX10_goesBack 22 = .ok (.bipush 15, 2) := by decide +kernel
theorem dX10_goesBack_24 : decode cX10_goesBack 24 = .ok (.if_icmp .ge 16, 3) := by decide +kernel
theorem dX10_goesBack_27 : decode cX10_goesBack 27 = .ok (.aload_n 0, 1) := by decide +kernel
theorem dX10_goesBack_28 : decode cX10_goesBack 28 = .ok (.getfield 94, 3) := by decide +kernel
theorem dX10_goesBack_31 : decode cX10_goesBack 31 = .ok (.iload_n 2, 1) := by decide +kernel
theorem dX10_goesBack_32 : decode cX10_goesBack 32 = .ok (.iconst 0, 1) := by decide +kernel
theorem dX10_goesBack_33 : decode cX10_goesBack 33 = .ok (.iastore, 1) := by decide +kernel
theorem dX10_goesBack_34 : decode cX10_goesBack 34 = .ok (.iinc 2 1, 3) := by decide +kernel
theorem dX10_goesBack_37 : decode cX10_goesBack 37 = .ok (.goto (-16), 3) := by decide +kernel
theorem dX10_goesBack_40 : decode cX10_goesBack 40 = .ok (.aload_n 0, 1) := by decide +kernel
theorem dX10_goesBack_41 : decode cX10_goesBack 41 = .ok (.getfield 94, 3) := by decide +kernel
theorem dX10_goesBack_44 : decode cX10_goesBack 44 = .ok (.iconst 0, 1) := by decide +kernel
theorem dX10_goesBack_45 : decode cX10_goesBack 45 = .ok (.aload_n 0, 1) := by decide +kernel
theorem dX10_goesBack_46 : decode cX10_goesBack 46 = .ok (.getfield 232, 3) := by decide +kernel
theorem dX10_goesBack_49 : decode cX10_goesBack 49 = .ok (.iastore, 1) := by decide +kernel
theorem dX10_goesBack_50 : decode cX10_goesBack 50 = .ok (.iconst 0, 1) := by decide +kernel
theorem dX10_goesBack_51 : decode cX10_goesBack 51 = .ok (.istore_n 2, 1) := by decide +kernel
theorem dX10_goesBack_52 : decode cX10_goesBack 52 = .ok (.iload_n 2, 1) := by decide +kernel
theorem dX10_goesBack_53 : decode cX10_goesBack 53 = .ok (.aload_n 1, 1) := by decide +kernel
theorem dX10_goesBack_54 : decode cX10_goesBack 54 = .ok (.iconst 0, 1) := by decide +kernel
theorem dX10_goesBack_55 : decode cX10_goesBack 55 = .ok (.iaload, 1) := by decide +kernel
theorem dX10_goesBack_56 : decode cX10_goesBack 56 = .ok (.if_icmp .ge 28, 3) := by decide +kernel
theorem dX10_goesBack_59 : decode cX10_goesBack 59 = .ok (.aload_n 0, 1) := by decide +kernel
theorem dX10_goesBack_60 : decode cX10_goesBack 60 = .ok (.getfield 94, 3) := by decide +kernel
theorem dX10_goesBack_63 : decode cX10_goesBack 63 = .ok (.aload_n 0, 1) := by decide +kernel
theorem dX10_goesBack_64 : decode cX10_goesBack 64 = .ok (.getfield 120, 3) := by decide +kernel
theorem dX10_goesBack_67 : decode cX10_goesBack 67 = .ok (.iload_n 2, 1) := by decide +kernel
theorem dX10_goesBack_68 : decode cX10_goesBack 68 = .ok (.iaload, 1) := by decide +kernel
theorem dX10_goesBack_69 : decode cX10_goesBack 69 = .ok (.aload_n 0, 1) := by decide +kernel
theorem dX10_goesBack_70 : decode cX10_goesBack 70 = .ok (.getfield 123, 3) := by decide +kernel
theorem dX10_goesBack_73 : decode cX10_goesBack 73 = .ok (.iload_n 2, 1) := by decide +kernel
theorem dX10_goesBack_74 : decode cX10_goesBack 74 = .ok (.iaload, 1) := by decide +kernel
theorem dX10_goesBack_75 : decode cX10_goesBack 75 = .ok (.invokestatic 155, 3) := by decide +kernel
theorem dX10_goesBack_78 : decode cX10_goesBack 78 = .ok (.iinc 2 1, 3) := by decide +kernel
theorem dX10_goesBack_81 : decode cX10_goesBack 81 = .ok (.goto (-29), 3) := by decide +kernel
theorem dX10_goesBack_84 : decode cX10_goesBack 84 = .ok (.aload_n 0, 1) := by decide +kernel
theorem dX10_goesBack_85 : decode cX10_goesBack 85 = .ok (.getfield 94, 3) := by decide +kernel
theorem dX10_goesBack_88 : decode cX10_goesBack 88 = .ok (.iconst 0, 1) := by decide +kernel
theorem dX10_goesBack_89 : decode cX10_goesBack 89 = .ok (.aload_n 1, 1) := by decide +kernel
theorem dX10_goesBack_90 : decode cX10_goesBack 90 = .ok (.iconst 0, 1) := by decide +kernel
theorem dX10_goesBack_91 : decode cX10_goesBack 91 = .ok (.invokestatic 168, 3) := by decide +kernel
theorem dX10_goesBack_94 : decode cX10_goesBack 94 = .ok (.iconst 1, 1) := by decide +kernel
theorem dX10_goesBack_95 : decode cX10_goesBack 95 = .ok (.ireturn, 1) := by decide +kernel
theorem dX10_back_0 : decode cX10_back 0 = .ok (.aload_n 0, 1) := by decide +kernel
theorem dX10_back_1 : decode cX10_back 1 = .ok (.iconst 0, 1) := by decide +kernel
theorem dX10_back_2 : decode cX10_back 2 = .ok (.putfield 1, 3) := by decide +kernel
theorem dX10_back_5 : decode cX10_back 5 = .ok (.aload_n 0, 1) := by decide +kernel
theorem dX10_back_6 : decode cX10_back 6 = .ok (.getfield 73, 3) := by decide +kernel
theorem dX10_back_9 : decode cX10_back 9 = .ok (.iconst 0, 1) := by decide +kernel
theorem dX10_back_10 : decode cX10_back 10 = .ok (.aload_n 0, 1) := by decide +kernel
theorem dX10_back_11 : decode cX10_back 11 = .ok (.getfield 91, 3) := by decide +kernel
theorem dX10_back_14 : decode cX10_back 14 = .ok (.iconst 0, 1) := by decide +kernel
theorem dX10_back_15 : decode cX10_back 15 = .ok (.invokestatic 168, 3) := by decide +kernel
theorem dX10_back_18 : decode cX10_back 18 = .ok (.aload_n 0, 1) := by decide +kernel
theorem dX10_back_19 : decode cX10_back 19 = .ok (.aload_n 0, 1) := by decide +kernel
theorem dX10_back_20 : decode cX10_back 20 = .ok (.getfield 91, 3) := by decide +kernel
theorem dX10_back_23 : decode cX10_back 23 = .ok (.invokevirtual 323, 3) := by decide +kernel
theorem dX10_back_26 : decode cX10_back 26 = .ok (.ifCond .ne 5, 3) := by decide +kernel
theorem dX10_back_29 : decode cX10_back 29 = .ok (.iconst (-1), 1) := by decide +kernel
theorem dX10_back_30 : decode cX10_back 30 = .ok (.ireturn, 1) := by decide +kernel
theorem dX10_back_31 : decode cX10_back 31 = .ok (.aload_n 0, 1) := by decide +kernel
theorem dX10_back_32 : decode cX10_back 32 = .ok (.invokevirtual 304, 3) := by decide +kernel
theorem dX10_back_35 : decode cX10_back 35 = .ok (.aload_n 0, 1) := by decide +kernel
theorem dX10_back_36 : decode cX10_back 36 = .ok (.getfield 91, 3) := by decide +kernel
theorem dX10_back_39 : decode cX10_back 39 = .ok (.iconst 0, 1) := by decide +kernel
theorem dX10_back_40 : decode cX10_back 40 = .ok (.aload_n 0, 1) := by decide +kernel
theorem dX10_back_41 : decode cX10_back 41 = .ok (.getfield 73, 3) := by decide +kernel
theorem dX10_back_44 : decode cX10_back 44 = .ok (.iconst 0, 1) := by decide +kernel
theorem dX10_back_45 : decode cX10_back 45 = .ok (.invokestatic 168, 3) := by decide +kernel
theorem dX10_back_48 : decode cX10_back 48 = .ok (.aload_n 0, 1) := by decide +kernel
theorem dX10_back_49 : decode cX10_back 49 = .ok (.getfield 73, 3) := by decide +kernel
theorem dX10_back_52 : decode cX10_back 52 = .ok (.iconst 0, 1) := by decide +kernel
theorem dX10_back_53 : decode cX10_back 53 = .ok (.iaload, 1) := by decide +kernel
theorem dX10_back_54 : decode cX10_back 54 = .ok (.ireturn, 1) := by decide +kernel
theorem dX10_depth_0 : decode cX10_depth 0 = .ok (.aload_n 0, 1) := by decide +kernel
theorem dX10_depth_1 : decode cX10_depth 1 = .ok (.iconst 0, 1) := by decide +kernel
theorem dX10_depth_2 : decode cX10_depth 2 = .ok (.putfield 1, 3) := by decide +kernel
theorem dX10_depth_5 : decode cX10_depth 5 = .ok (.aload_n 0, 1) := by decide +kernel
theorem dX10_depth_6 : decode cX10_depth 6 = .ok (.getfield 73, 3) := by decide +kernel
theorem dX10_depth_9 : decode cX10_depth 9 = .ok (.iconst 0, 1) := by decide +kernel
theorem dX10_depth_10 : decode cX10_depth 10 = .ok (.aload_n 0, 1) := by decide +kernel
theorem dX10_depth_11 : decode cX10_depth 11 = .ok (.getfield 91, 3) := by decide +kernel
theorem dX10_depth_14 : decode cX10_depth 14 = .ok (.iconst 0, 1) := by decide +kernel
theorem dX10_depth_15 : decode cX10_depth 15 = .ok (.invokestatic 168, 3) := by decide +kernel
theorem dX10_depth_18 : decode cX10_depth 18 = .ok (.iconst 0, 1) := by decide +kernel
theorem dX10_depth_19 : decode cX10_depth 19 = .ok (.istore_n 1, 1) := by decide +kernel
theorem dX10_depth_20 : decode cX10_depth 20 = .ok (.iload_n 1, 1) := by decide +kernel
theorem dX10_depth_21 : decode cX10_depth 21 = .ok (.bipush 20, 2) := by decide +kernel
theorem dX10_depth_23 : decode cX10_depth 23 = .ok (.if_icmp .ge 20, 3) := by decide +kernel
theorem dX10_depth_26 : decode cX10_depth 26 = .ok (.aload_n 0, 1) := by decide +kernel
theorem dX10_depth_27 : decode cX10_depth 27 = .ok (.aload_n 0, 1) := by decide +kernel
theorem dX10_depth_28 : decode cX10_depth 28 = .ok (.getfield 91, 3) := by decide +kernel
theorem dX10_depth_31 : decode cX10_depth 31 = .ok (.invokevirtual 323, 3) := by decide +kernel
theorem dX10_depth_34 : decode cX10_depth 34 = .ok (.ifCond .eq 9, 3) := by decide +kernel
theorem dX10_depth_37 : decode cX10_depth 37 = .ok (.iinc 1 1, 3) := by decide +kernel
theorem dX10_depth_40 : decode cX10_depth 40 = .ok (.goto (-20), 3) := by decide +kernel
theorem dX10_depth_43 : decode cX10_depth 43 = .ok (.iload_n 1, 1) := by decide +kernel
theorem dX10_depth_44 : decode cX10_depth 44 = .ok (.ireturn, 1) := by decide +kernel
theorem dX10_mending_0 : decode cX10_mending 0 = .ok (.aload_n 0, 1) := by decide +kernel
theorem dX10_mending_1 : decode cX10_mending 1 = .ok (.iconst 0, 1) := by decide +kernel
theorem dX10_mending_2 : decode cX10_mending 2 = .ok (.putfield 1, 3) := by decide +kernel
theorem dX10_mending_5 : decode cX10_mending 5 = .ok (.iload_n 1, 1) := by decide +kernel
theorem dX10_mending_6 : decode cX10_mending 6 = .ok (.iconst 0, 1) := by decide +kernel
theorem dX10_mending_7 : decode cX10_mending 7 = .ok (.iconst 2, 1) := by decide +kernel
theorem dX10_mending_8 : decode cX10_mending 8 = .ok (.invokestatic 228, 3) := by decide +kernel
theorem dX10_mending_11 : decode cX10_mending 11 = .ok (.ifCond .ne 5, 3) := by decide +kernel
theorem dX10_mending_14 : decode cX10_mending 14 = .ok (.iconst (-1), 1) := by decide +kernel
theorem dX10_mending_15 : decode cX10_mending 15 = .ok (.ireturn, 1) := by decide +kernel
theorem dX10_mending_16 : decode cX10_mending 16 = .ok (.iconst 0, 1) := by decide +kernel
theorem dX10_mending_17 : decode cX10_mending 17 = .ok (.istore_n 2, 1) := by decide +kernel
theorem dX10_mending_18 : decode cX10_mending 18 = .ok (.iconst (-1), 1) := by decide +kernel
theorem dX10_mending_19 : decode cX10_mending 19 = .ok (.istore_n 3, 1) := by decide +kernel
theorem dX10_mending_20 : decode cX10_mending 20 = .ok (.iconst (-1), 1) := by decide +kernel
theorem dX10_mending_21 : decode cX10_mending 21 = .ok (.istore 4, 2) := by decide +kernel
theorem dX10_mending_23 : decode cX10_mending 23 = .ok (.aload_n 0, 1) := by decide +kernel
theorem dX10_mending_24 : decode cX10_mending 24 = .ok (.getfield 73, 3) := by decide +kernel
theorem dX10_mending_27 : decode cX10_mending 27 = .ok (.iconst 0, 1) := by decide +kernel
theorem dX10_mending_28 : decode cX10_mending 28 = .ok (.aload_n 0, 1) := by decide +kernel
theorem dX10_mending_29 : decode cX10_mending 29 = .ok (.getfield 97, 3) := by decide +kernel
theorem dX10_mending_32 : decode cX10_mending 32 = .ok (.iconst 0, 1) := by decide +kernel
theorem dX10_mending_33 : decode cX10_mending 33 = .ok (.invokestatic 168, 3) := by decide +kernel
theorem dX10_mending_36 : decode cX10_mending 36 = .ok (.iconst 0, 1) := by decide +kernel
theorem dX10_mending_37 : decode cX10_mending 37 = .ok (.istore 5, 2) := by decide +kernel
theorem dX10_mending_39 : decode cX10_mending 39 = .ok (.iload 5, 2) := by decide +kernel
theorem dX10_mending_41 : decode cX10_mending 41 = .ok (.aload_n 0, 1) := by decide +kernel
theorem dX10_mending_42 : decode cX10_mending 42 = .ok (.getfield 73, 3) := by decide +kernel
theorem dX10_mending_45 : decode cX10_mending 45 = .ok (.iconst 0, 1) := by decide +kernel
theorem dX10_mending_46 : decode cX10_mending 46 = .ok (.iaload, 1) := by decide +kernel
theorem dX10_mending_47 : decode cX10_mending 47 = .ok (.if_icmp .ge 102, 3) := by decide +kernel
theorem dX10_mending_50 : decode cX10_mending 50 = .ok (.aload_n 0, 1) := by decide +kernel
theorem dX10_mending_51 : decode cX10_mending 51 = .ok (.getfield 73, 3) := by decide +kernel
theorem dX10_mending_54 : decode cX10_mending 54 = .ok (.aload_n 0, 1) := by decide +kernel
theorem dX10_mending_55 : decode cX10_mending 55 = .ok (.getfield 73, 3) := by decide +kernel
theorem dX10_mending_58 : decode cX10_mending 58 = .ok (.invokestatic 239, 3) := by decide +kernel
theorem dX10_mending_61 : decode cX10_mending 61 = .ok (.invokestatic 258, 3) := by decide +kernel
theorem dX10_mending_64 : decode cX10_mending 64 = .ok (.ifCond .ne 85, 3) := by decide +kernel
theorem dX10_mending_67 : decode cX10_mending 67 = .ok (.iload 5, 2) := by decide +kernel
theorem dX10_mending_69 : decode cX10_mending 69 = .ok (.iconst 1, 1) := by decide +kernel
theorem dX10_mending_70 : decode cX10_mending 70 = .ok (.iadd, 1) := by decide +kernel
theorem dX10_mending_71 : decode cX10_mending 71 = .ok (.istore 6, 2) := by decide +kernel
theorem dX10_mending_73 : decode cX10_mending 73 = .ok (.iload 6, 2) := by decide +kernel
theorem dX10_mending_75 : decode cX10_mending 75 = .ok (.aload_n 0, 1) := by decide +kernel
theorem dX10_mending_76 : decode cX10_mending 76 = .ok (.getfield 73, 3) := by decide +kernel
theorem dX10_mending_79 : decode cX10_mending 79 = .ok (.iconst 0, 1) := by decide +kernel
theorem dX10_mending_80 : decode cX10_mending 80 = .ok (.iaload, 1) := by decide +kernel
theorem dX10_mending_81 : decode cX10_mending 81 = .ok (.if_icmp .ge 62, 3) := by decide +kernel
theorem dX10_mending_84 : decode cX10_mending 84 = .ok (.aload_n 0, 1) := by decide +kernel
theorem dX10_mending_85 : decode cX10_mending 85 = .ok (.getfield 97, 3) := by decide +kernel
theorem dX10_mending_88 : decode cX10_mending 88 = .ok (.iload 5, 2) := by decide +kernel
theorem dX10_mending_90 : decode cX10_mending 90 = .ok (.iload 6, 2) := by decide +kernel
theorem dX10_mending_92 : decode cX10_mending 92 = .ok (.invokestatic 155, 3) := by decide +kernel
theorem dX10_mending_95 : decode cX10_mending 95 = .ok (.aload_n 0, 1) := by decide +kernel
theorem dX10_mending_96 : decode cX10_mending 96 = .ok (.getfield 97, 3) := by decide +kernel
theorem dX10_mending_99 : decode cX10_mending 99 = .ok (.aload_n 0, 1) := by decide +kernel
theorem dX10_mending_100 : decode cX10_mending 100 = .ok (.getfield 97, 3) := by decide +kernel
theorem dX10_mending_103 : decode cX10_mending 103 = .ok (.invokestatic 239, 3) := by decide +kernel
theorem dX10_mending_106 : decode cX10_mending 106 = .ok (.invokestatic 258, 3) := by decide +kernel
theorem dX10_mending_109 : decode cX10_mending 109 = .ok (.ifCond .eq 17, 3) := by decide +kernel
theorem dX10_mending_112 : decode cX10_mending 112 = .ok (.iload_n 2, 1) := by decide +kernel
theorem dX10_mending_113 : decode cX10_mending 113 = .ok (.ifCond .ne 10, 3) := by decide +kernel
theorem dX10_mending_116 : decode cX10_mending 116 = .ok (.iload 5, 2) := by decide +kernel
theorem dX10_mending_118 : decode cX10_mending 118 = .ok (.istore_n 3, 1) := by decide +kernel
theorem dX10_mending_119 : decode cX10_mending 119 = .ok (.iload 6, 2) := by decide +kernel
theorem dX10_mending_121 : decode cX10_mending 121 = .ok (.istore 4, 2) := by decide +kernel
theorem dX10_mending_123 : decode cX10_mending 123 = .ok (.iinc 2 1, 3) := by decide +kernel
theorem dX10_mending_126 : decode cX10_mending 126 = .ok (.aload_n 0, 1) := by decide +kernel
theorem dX10_mending_127 : decode cX10_mending 127 = .ok (.getfield 97, 3) := by decide +kernel
theorem dX10_mending_130 : decode cX10_mending 130 = .ok (.iload 5, 2) := by decide +kernel
theorem dX10_mending_132 : decode cX10_mending 132 = .ok (.iload 6, 2) := by decide +kernel
theorem dX10_mending_134 : decode cX10_mending 134 = .ok (.invokestatic 155, 3) := by decide +kernel
theorem dX10_mending_137 : decode cX10_mending 137 = .ok (.iinc 6 1, 3) := by decide +kernel
theorem dX10_mending_140 : decode cX10_mending 140 = .ok (.goto (-67), 3) := by decide +kernel
theorem dX10_mending_143 : decode cX10_mending 143 = .ok (.iinc 5 1, 3) := by decide +kernel
theorem dX10_mending_146 : decode cX10_mending 146 = .ok (.goto (-107), 3) := by decide +kernel
theorem dX10_mending_149 : decode cX10_mending 149 = .ok (.iload_n 1, 1) := by decide +kernel
theorem dX10_mending_150 : decode cX10_mending 150 = .ok (.ifCond .ne 7, 3) := by decide +kernel
theorem dX10_mending_153 : decode cX10_mending 153 = .ok (.iload_n 2, 1) := by decide +kernel
theorem dX10_mending_154 : decode cX10_mending 154 = .ok (.goto 14, 3) := by decide +kernel
theorem dX10_mending_157 : decode cX10_mending 157 = .ok (.iload_n 1, 1) := by decide +kernel
theorem dX10_mending_158 : decode cX10_mending 158 = .ok (.iconst 1, 1) := by decide +kernel
theorem dX10_mending_159 : decode cX10_mending 159 = .ok (.if_icmp .ne 7, 3) := by decide +kernel
theorem dX10_mending_162 : decode cX10_mending 162 = .ok (.iload_n 3, 1) := by decide +kernel
theorem dX10_mending_163 : decode cX10_mending 163 = .ok (.goto 5, 3) := by decide +kernel
theorem dX10_mending_166 : decode cX10_mending 166 = .ok (.iload 4, 2) := by decide +kernel
theorem dX10_mending_168 : decode cX10_mending 168 = .ok (.ireturn, 1) := by decide +kernel
theorem dX10_isMay_0 : decode cX10_isMay 0 = .ok (.aload_n 0, 1) := by decide +kernel
theorem dX10_isMay_1 : decode cX10_isMay 1 = .ok (.getfield 73, 3) := by decide +kernel
theorem dX10_isMay_4 : decode cX10_isMay 4 = .ok (.iconst 0, 1) := by decide +kernel
theorem dX10_isMay_5 : decode cX10_isMay 5 = .ok (.aload_n 0, 1) := by decide +kernel
theorem dX10_isMay_6 : decode cX10_isMay 6 = .ok (.getfield 97, 3) := by decide +kernel
theorem dX10_isMay_9 : decode cX10_isMay 9 = .ok (.iconst 0, 1) := by decide +kernel
theorem dX10_isMay_10 : decode cX10_isMay 10 = .ok (.invokestatic 168, 3) := by decide +kernel
theorem dX10_isMay_13 : decode cX10_isMay 13 = .ok (.aload_n 0, 1) := by decide +kernel
theorem dX10_isMay_14 : decode cX10_isMay 14 = .ok (.getfield 97, 3) := by decide +kernel
theorem dX10_isMay_17 : decode cX10_isMay 17 = .ok (.iload_n 1, 1) := by decide +kernel
theorem dX10_isMay_18 : decode cX10_isMay 18 = .ok (.invokestatic 317, 3) := by decide +kernel
theorem dX10_isMay_21 : decode cX10_isMay 21 = .ok (.aload_n 0, 1) := by decide +kernel
theorem dX10_isMay_22 : decode cX10_isMay 22 = .ok (.getfield 97, 3) := by decide +kernel
theorem dX10_isMay_25 : decode cX10_isMay 25 = .ok (.aload_n 0, 1) := by decide +kernel
theorem dX10_isMay_26 : decode cX10_isMay 26 = .ok (.getfield 97, 3) := by decide +kernel
theorem dX10_isMay_29 : decode cX10_isMay 29 = .ok (.invokestatic 239, 3) := by decide +kernel
theorem dX10_isMay_32 : decode cX10_isMay 32 = .ok (.invokestatic 258, 3) := by decide +kernel
theorem dX10_isMay_35 : decode cX10_isMay 35 = .ok (.ireturn, 1) := by decide +kernel
theorem dX10_may_0 : decode cX10_may 0 = .ok (.aload_n 0, 1) := by decide +kernel
theorem dX10_may_1 : decode cX10_may 1 = .ok (.iconst 0, 1) := by decide +kernel
theorem dX10_may_2 : decode cX10_may 2 = .ok (.putfield 1, 3) := by decide +kernel
theorem dX10_may_5 : decode cX10_may 5 = .ok (.aload_n 0, 1) := by decide +kernel
theorem dX10_may_6 : decode cX10_may 6 = .ok (.getfield 73, 3) := by decide +kernel
theorem dX10_may_9 : decode cX10_may 9 = .ok (.iload_n 1, 1) := by decide +kernel
theorem dX10_may_10 : decode cX10_may 10 = .ok (.invokestatic 314, 3) := by decide +kernel
theorem dX10_may_13 : decode cX10_may 13 = .ok (.ifCond .ne 7, 3) := by decide +kernel
theorem dX10_may_16 : decode cX10_may 16 = .ok (.iconst (-1), 1) := by decide +kernel
theorem dX10_may_17 : decode cX10_may 17 = .ok (.goto 16, 3) := by decide +kernel
theorem dX10_may_20 : decode cX10_may 20 = .ok (.aload_n 0, 1) := by decide +kernel
theorem dX10_may_21 : decode cX10_may 21 = .ok (.iload_n 1, 1) := by decide +kernel
theorem dX10_may_22 : decode cX10_may 22 = .ok (.invokevirtual 326, 3) := by decide +kernel
theorem dX10_may_25 : decode cX10_may 25 = .ok (.ifCond .eq 7, 3) := by decide +kernel
theorem dX10_may_28 : decode cX10_may 28 = .ok (.iconst 1, 1) := by decide +kernel
theorem dX10_may_29 : decode cX10_may 29 = .ok (.goto 4, 3) := by decide +kernel
theorem dX10_may_32 : decode cX10_may 32 = .ok (.iconst 0, 1) := by decide +kernel
theorem dX10_may_33 : decode cX10_may 33 = .ok (.ireturn, 1) := by decide +kernel
theorem dX10_mays_0 : decode cX10_mays 0 = .ok (.aload_n 0, 1) := by decide +kernel
theorem dX10_mays_1 : decode cX10_mays 1 = .ok (.iconst 0, 1) := by decide +kernel
theorem dX10_mays_2 : decode cX10_mays 2 = .ok (.putfield 1, 3) := by decide +kernel
theorem dX10_mays_5 : decode cX10_mays 5 = .ok (.aload_n 0, 1) := by decide +kernel
theorem dX10_mays_6 : decode cX10_mays 6 = .ok (.getfield 73, 3) := by decide +kernel
theorem dX10_mays_9 : decode cX10_mays 9 = .ok (.iconst 0, 1) := by decide +kernel
theorem dX10_mays_10 : decode cX10_mays 10 = .ok (.iaload, 1) := by decide +kernel
theorem dX10_mays_11 : decode cX10_mays 11 = .ok (.bipush 8, 2) := by decide +kernel
theorem dX10_mays_13 : decode cX10_mays 13 = .ok (.if_icmp .le 5, 3) := by decide +kernel
theorem dX10_mays_16 : decode cX10_mays 16 = .ok (.iconst (-1), 1) := by decide +kernel
theorem dX10_mays_17 : decode cX10_mays 17 = .ok (.ireturn, 1) := by decide +kernel
theorem dX10_mays_18 : decode cX10_mays 18 = .ok (.iconst 0, 1) := by decide +kernel
theorem dX10_mays_19 : decode cX10_mays 19 = .ok (.istore_n 1, 1) := by decide +kernel
theorem dX10_mays_20 : decode cX10_mays 20 = .ok (.iconst 0, 1) := by decide +kernel
theorem dX10_mays_21 : decode cX10_mays 21 = .ok (.istore_n 2, 1) := by decide +kernel
theorem dX10_mays_22 : decode cX10_mays 22 = .ok (.iload_n 2, 1) := by decide +kernel
theorem dX10_mays_23 : decode cX10_mays 23 = .ok (.aload_n 0, 1) := by decide +kernel
theorem dX10_mays_24 : decode cX10_mays 24 = .ok (.getfield 73, 3) := by decide +kernel
theorem dX10_mays_27 : decode cX10_mays 27 = .ok (.invokestatic 239, 3) := by decide +kernel
theorem dX10_mays_30 : decode cX10_mays 30 = .ok (.if_icmp .gt 20, 3) := by decide +kernel
theorem dX10_mays_33 : decode cX10_mays 33 = .ok (.aload_n 0, 1) := by decide +kernel
theorem dX10_mays_34 : decode cX10_mays 34 = .ok (.iload_n 2, 1) := by decide +kernel
theorem dX10_mays_35 : decode cX10_mays 35 = .ok (.invokevirtual 326, 3) := by decide +kernel
theorem dX10_mays_38 : decode cX10_mays 38 = .ok (.ifCond .eq 6, 3) := by decide +kernel
theorem dX10_mays_41 : decode cX10_mays 41 = .ok (.iinc 1 1, 3) := by decide +kernel
theorem dX10_mays_44 : decode cX10_mays 44 = .ok (.iinc 2 1, 3) := by decide +kernel
theorem dX10_mays_47 : decode cX10_mays 47 = .ok (.goto (-25), 3) := by decide +kernel
theorem dX10_mays_50 : decode cX10_mays 50 = .ok (.iload_n 1, 1) := by decide +kernel
theorem dX10_mays_51 : decode cX10_mays 51 = .ok (.ireturn, 1) := by decide +kernel
theorem dX10_mayBe_0 : decode cX10_mayBe 0 = .ok (.iconst 0, 1) := by decide +kernel
theorem dX10_mayBe_1 : decode cX10_mayBe 1 = .ok (.istore_n 3, 1) := by decide +kernel
theorem dX10_mayBe_2 : decode cX10_mayBe 2 = .ok (.iload_n 3, 1) := by decide +kernel
theorem dX10_mayBe_3 : decode cX10_mayBe 3 = .ok (.iload_n 1, 1) := by decide +kernel
theorem dX10_mayBe_4 : decode cX10_mayBe 4 = .ok (.if_icmp .ge 33, 3) := by decide +kernel
theorem dX10_mayBe_7 : decode cX10_mayBe 7 = .ok (.aload_n 0, 1) := by decide +kernel
theorem dX10_mayBe_8 : decode cX10_mayBe 8 = .ok (.getfield 73, 3) := by decide +kernel
theorem dX10_mayBe_11 : decode cX10_mayBe 11 = .ok (.iload_n 1, 1) := by decide +kernel
theorem dX10_mayBe_12 : decode cX10_mayBe 12 = .ok (.iload_n 3, 1) := by decide +kernel
theorem dX10_mayBe_13 : decode cX10_mayBe 13 = .ok (.invokestatic 151, 3) := by decide +kernel
theorem dX10_mayBe_16 : decode cX10_mayBe 16 = .ok (.ifCond .eq 15, 3) := by decide +kernel
theorem dX10_mayBe_19 : decode cX10_mayBe 19 = .ok (.aload_n 0, 1) := by decide +kernel
theorem dX10_mayBe_20 : decode cX10_mayBe 20 = .ok (.getfield 135, 3) := by decide +kernel
theorem dX10_mayBe_23 : decode cX10_mayBe 23 = .ok (.iload_n 3, 1) := by decide +kernel
theorem dX10_mayBe_24 : decode cX10_mayBe 24 = .ok (.iaload, 1) := by decide +kernel
theorem dX10_mayBe_25 : decode cX10_mayBe 25 = .ok (.iload_n 2, 1) := by decide +kernel
theorem dX10_mayBe_26 : decode cX10_mayBe 26 = .ok (.if_icmp .ne 5, 3) := by decide +kernel
theorem dX10_mayBe_29 : decode cX10_mayBe 29 = .ok (.iconst 0, 1) := by decide +kernel
theorem dX10_mayBe_30 : decode cX10_mayBe 30 = .ok (.ireturn, 1) := by decide +kernel
theorem dX10_mayBe_31 : decode cX10_mayBe 31 = .ok (.iinc 3 1, 3) := by decide +kernel
theorem dX10_mayBe_34 : decode cX10_mayBe 34 = .ok (.goto (-32), 3) := by decide +kernel
theorem dX10_mayBe_37 : decode cX10_mayBe 37 = .ok (.iconst 1, 1) := by decide +kernel
theorem dX10_mayBe_38 : decode cX10_mayBe 38 = .ok (.ireturn, 1) := by decide +kernel
theorem dX10_colours_0 : decode cX10_colours 0 = .ok (.iload_n 1, 1) := by decide +kernel
theorem dX10_colours_1 : decode cX10_colours 1 = .ok (.aload_n 0, 1) := by decide +kernel
theorem dX10_colours_2 : decode cX10_colours 2 = .ok (.getfield 73, 3) := by decide +kernel
theorem dX10_colours_5 : decode cX10_colours 5 = .ok (.iconst 0, 1) := by decide +kernel
theorem dX10_colours_6 : decode cX10_colours 6 = .ok (.iaload, 1) := by decide +kernel
theorem dX10_colours_7 : decode cX10_colours 7 = .ok (.if_icmp .ne 5, 3) := by decide +kernel
theorem dX10_colours_10 : decode cX10_colours 10 = .ok (.iconst 1, 1) := by decide +kernel
theorem dX10_colours_11 : decode cX10_colours 11 = .ok (.ireturn, 1) := by decide +kernel
theorem dX10_colours_12 : decode cX10_colours 12 = .ok (.iconst 0, 1) := by decide +kernel
theorem dX10_colours_13 : decode cX10_colours 13 = .ok (.istore_n 3, 1) := by decide +kernel
theorem dX10_colours_14 : decode cX10_colours 14 = .ok (.iload_n 3, 1) := by decide +kernel
theorem dX10_colours_15 : decode cX10_colours 15 = .ok (.iload_n 2, 1) := by decide +kernel
theorem dX10_colours_16 : decode cX10_colours 16 = .ok (.if_icmp .ge 38, 3) := by decide +kernel
theorem dX10_colours_19 : decode cX10_colours 19 = .ok (.aload_n 0, 1) := by decide +kernel
theorem dX10_colours_20 : decode cX10_colours 20 = .ok (.getfield 135, 3) := by decide +kernel
theorem dX10_colours_23 : decode cX10_colours 23 = .ok (.iload_n 1, 1) := by decide +kernel
theorem dX10_colours_24 : decode cX10_colours 24 = .ok (.iload_n 3, 1) := by decide +kernel
theorem dX10_colours_25 : decode cX10_colours 25 = .ok (.iastore, 1) := by decide +kernel
theorem dX10_colours_26 : decode cX10_colours 26 = .ok (.aload_n 0, 1) := by decide +kernel
theorem dX10_colours_27 : decode cX10_colours 27 = .ok (.iload_n 1, 1) := by decide +kernel
theorem dX10_colours_28 : decode cX10_colours 28 = .ok (.iload_n 3, 1) := by decide +kernel
theorem dX10_colours_29 : decode cX10_colours 29 = .ok (.invokevirtual 329, 3) := by decide +kernel
theorem dX10_colours_32 : decode cX10_colours 32 = .ok (.ifCond .eq 16, 3) := by decide +kernel
theorem dX10_colours_35 : decode cX10_colours 35 = .ok (.aload_n 0, 1) := by decide +kernel
theorem dX10_colours_36 : decode cX10_colours 36 = .ok (.iload_n 1, 1) := by decide +kernel
theorem dX10_colours_37 : decode cX10_colours 37 = .ok (.iconst 1, 1) := by decide +kernel
theorem dX10_colours_38 : decode cX10_colours 38 = .ok (.iadd, 1) := by decide +kernel
theorem dX10_colours_39 : decode cX10_colours 39 = .ok (.iload_n 2, 1) := by decide +kernel
theorem dX10_colours_40 : decode cX10_colours 40 = .ok (.invokevirtual 332, 3) := by decide +kernel
theorem dX10_colours_43 : decode cX10_colours 43 = .ok (.ifCond .eq 5, 3) := by decide +kernel
theorem dX10_colours_46 : decode cX10_colours 46 = .ok (.iconst 1, 1) := by decide +kernel
theorem dX10_colours_47 : decode cX10_colours 47 = .ok (.ireturn, 1) := by decide +kernel
theorem dX10_colours_48 : decode cX10_colours 48 = .ok (.iinc 3 1, 3) := by decide +kernel
theorem dX10_colours_51 : decode cX10_colours 51 = .ok (.goto (-37), 3) := by decide +kernel
theorem dX10_colours_54 : decode cX10_colours 54 = .ok (.iconst 0, 1) := by decide +kernel
theorem dX10_colours_55 : decode cX10_colours 55 = .ok (.ireturn, 1) := by decide +kernel
theorem dX10_laysColours_0 : decode cX10_laysColours 0 = .ok (.iconst 0, 1) := by decide +kernel
theorem dX10_laysColours_1 : decode cX10_laysColours 1 = .ok (.istore_n 1, 1) := by decide +kernel
theorem dX10_laysColours_2 : decode cX10_laysColours 2 = .ok (.aload_n 0, 1) := by decide +kernel
theorem dX10_laysColours_3 : decode cX10_laysColours 3 = .ok (.iconst 0, 1) := by decide +kernel
theorem dX10_laysColours_4 : decode cX10_laysColours 4 = .ok (.iload_n 1, 1) := by decide +kernel
theorem dX10_laysColours_5 : decode cX10_laysColours 5 = .ok (.invokevirtual 332, 3) := by decide +kernel
theorem dX10_laysColours_8 : decode cX10_laysColours 8 = .ok (.ifCond .ne 9, 3) := by decide +kernel
theorem dX10_laysColours_11 : decode cX10_laysColours 11 = .ok (.iinc 1 1, 3) := by decide +kernel
theorem dX10_laysColours_14 : decode cX10_laysColours 14 = .ok (.goto (-12), 3) := by decide +kernel
theorem dX10_laysColours_17 : decode cX10_laysColours 17 = .ok (.iload_n 1, 1) := by decide +kernel
theorem dX10_laysColours_18 : decode cX10_laysColours 18 = .ok (.ireturn, 1) := by decide +kernel
theorem dX10_colours__0 : decode cX10_colours_ 0 = .ok (.aload_n 0, 1) := by decide +kernel
theorem dX10_colours__1 : decode cX10_colours_ 1 = .ok (.iconst 0, 1) := by decide +kernel
theorem dX10_colours__2 : decode cX10_colours_ 2 = .ok (.putfield 1, 3) := by decide +kernel
theorem dX10_colours__5 : decode cX10_colours_ 5 = .ok (.aload_n 0, 1) := by decide +kernel
theorem dX10_colours__6 : decode cX10_colours_ 6 = .ok (.invokevirtual 335, 3) := by decide +kernel
theorem dX10_colours__9 : decode cX10_colours_ 9 = .ok (.ireturn, 1) := by decide +kernel
theorem dX10_colourAt_0 : decode cX10_colourAt 0 = .ok (.aload_n 0, 1) := by decide +kernel
theorem dX10_colourAt_1 : decode cX10_colourAt 1 = .ok (.iconst 0, 1) := by decide +kernel
theorem dX10_colourAt_2 : decode cX10_colourAt 2 = .ok (.putfield 1, 3) := by decide +kernel
theorem dX10_colourAt_5 : decode cX10_colourAt 5 = .ok (.aload_n 0, 1) := by decide +kernel
theorem dX10_colourAt_6 : decode cX10_colourAt 6 = .ok (.iload_n 1, 1) := by decide +kernel
theorem dX10_colourAt_7 : decode cX10_colourAt 7 = .ok (.invokevirtual 273, 3) := by decide +kernel
theorem dX10_colourAt_10 : decode cX10_colourAt 10 = .ok (.ifCond .ne 5, 3) := by decide +kernel
theorem dX10_colourAt_13 : decode cX10_colourAt 13 = .ok (.iconst (-1), 1) := by decide +kernel
theorem dX10_colourAt_14 : decode cX10_colourAt 14 = .ok (.ireturn, 1) := by decide +kernel
theorem dX10_colourAt_15 : decode cX10_colourAt 15 = .ok (.aload_n 0, 1) := by decide +kernel
theorem dX10_colourAt_16 : decode cX10_colourAt 16 = .ok (.invokevirtual 335, 3) := by decide +kernel
theorem dX10_colourAt_19 : decode cX10_colourAt 19 = .ok (.istore_n 2, 1) := by decide +kernel
theorem dX10_colourAt_20 : decode cX10_colourAt 20 = .ok (.iload_n 2, 1) := by decide +kernel
theorem dX10_colourAt_21 : decode cX10_colourAt 21 = .ok (.ifCond .ne 7, 3) := by decide +kernel
theorem dX10_colourAt_24 : decode cX10_colourAt 24 = .ok (.iconst (-1), 1) := by decide +kernel
theorem dX10_colourAt_25 : decode cX10_colourAt 25 = .ok (.goto 9, 3) := by decide +kernel
theorem dX10_colourAt_28 : decode cX10_colourAt 28 = .ok (.aload_n 0, 1) := by decide +kernel
theorem dX10_colourAt_29 : decode cX10_colourAt 29 = .ok (.getfield 135, 3) := by decide +kernel
theorem dX10_colourAt_32 : decode cX10_colourAt 32 = .ok (.iload_n 1, 1) := by decide +kernel
theorem dX10_colourAt_33 : decode cX10_colourAt 33 = .ok (.iaload, 1) := by decide +kernel
theorem dX10_colourAt_34 : decode cX10_colourAt 34 = .ok (.ireturn, 1) := by decide +kernel
theorem dX10_isAlike_0 : decode cX10_isAlike 0 = .ok (.iconst 0, 1) := by decide +kernel
theorem dX10_isAlike_1 : decode cX10_isAlike 1 = .ok (.istore_n 3, 1) := by decide +kernel
theorem dX10_isAlike_2 : decode cX10_isAlike 2 = .ok (.iload_n 3, 1) := by decide +kernel
theorem dX10_isAlike_3 : decode cX10_isAlike 3 = .ok (.aload_n 0, 1) := by decide +kernel
theorem dX10_isAlike_4 : decode cX10_isAlike 4 = .ok (.getfield 73, 3) := by decide +kernel
theorem dX10_isAlike_7 : decode cX10_isAlike 7 = .ok (.iconst 0, 1) := by decide +kernel
theorem dX10_isAlike_8 : decode cX10_isAlike 8 = .ok (.iaload, 1) := by decide +kernel
theorem dX10_isAlike_9 : decode cX10_isAlike 9 = .ok (.if_icmp .ge 55, 3) := by decide +kernel
theorem dX10_isAlike_12 : decode cX10_isAlike 12 = .ok (.iload_n 1, 1) := by decide +kernel
theorem dX10_isAlike_13 : decode cX10_isAlike 13 = .ok (.iload_n 3, 1) := by decide +kernel
theorem dX10_isAlike_14 : decode cX10_isAlike 14 = .ok (.invokestatic 7, 3) := by decide +kernel
theorem dX10_isAlike_17 : decode cX10_isAlike 17 = .ok (.ifCond .ne 6, 3) := by decide +kernel
theorem dX10_isAlike_20 : decode cX10_isAlike 20 = .ok (.goto 38, 3) := by decide +kernel
theorem dX10_isAlike_23 : decode cX10_isAlike 23 = .ok (.iload_n 1, 1) := by decide +kernel
theorem dX10_isAlike_24 : decode cX10_isAlike 24 = .ok (.iconst 1, 1) := by decide +kernel
theorem dX10_isAlike_25 : decode cX10_isAlike 25 = .ok (.iload_n 3, 1) := by decide +kernel
theorem dX10_isAlike_26 : decode cX10_isAlike 26 = .ok (.ishl, 1) := by decide +kernel
theorem dX10_isAlike_27 : decode cX10_isAlike 27 = .ok (.iconst (-1), 1) := by decide +kernel
theorem dX10_isAlike_28 : decode cX10_isAlike 28 = .ok (.ixor, 1) := by decide +kernel
theorem dX10_isAlike_29 : decode cX10_isAlike 29 = .ok (.iand, 1) := by decide +kernel
theorem dX10_isAlike_30 : decode cX10_isAlike 30 = .ok (.istore 4, 2) := by decide +kernel
theorem dX10_isAlike_32 : decode cX10_isAlike 32 = .ok (.aload_n 0, 1) := by decide +kernel
theorem dX10_isAlike_33 : decode cX10_isAlike 33 = .ok (.getfield 73, 3) := by decide +kernel
theorem dX10_isAlike_36 : decode cX10_isAlike 36 = .ok (.iconst 1, 1) := by decide +kernel
theorem dX10_isAlike_37 : decode cX10_isAlike 37 = .ok (.iload_n 3, 1) := by decide +kernel
theorem dX10_isAlike_38 : decode cX10_isAlike 38 = .ok (.iadd, 1) := by decide +kernel
theorem dX10_isAlike_39 : decode cX10_isAlike 39 = .ok (.iaload, 1) := by decide +kernel
theorem dX10_isAlike_40 : decode cX10_isAlike 40 = .ok (.iload 4, 2) := by decide +kernel
theorem dX10_isAlike_42 : decode cX10_isAlike 42 = .ok (.iand, 1) := by decide +kernel
theorem dX10_isAlike_43 : decode cX10_isAlike 43 = .ok (.iload_n 2, 1) := by decide +kernel
theorem dX10_isAlike_44 : decode cX10_isAlike 44 = .ok (.ifCond .eq 8, 3) := by decide +kernel
theorem dX10_isAlike_47 : decode cX10_isAlike 47 = .ok (.iload 4, 2) := by decide +kernel
theorem dX10_isAlike_49 : decode cX10_isAlike 49 = .ok (.goto 4, 3) := by decide +kernel
theorem dX10_isAlike_52 : decode cX10_isAlike 52 = .ok (.iconst 0, 1) := by decide +kernel
theorem dX10_isAlike_53 : decode cX10_isAlike 53 = .ok (.if_icmp .eq 5, 3) := by decide +kernel
theorem dX10_isAlike_56 : decode cX10_isAlike 56 = .ok (.iconst 0, 1) := by decide +kernel
theorem dX10_isAlike_57 : decode cX10_isAlike 57 = .ok (.ireturn, 1) := by decide +kernel
theorem dX10_isAlike_58 : decode cX10_isAlike 58 = .ok (.iinc 3 1, 3) := by decide +kernel
theorem dX10_isAlike_61 : decode cX10_isAlike 61 = .ok (.goto (-59), 3) := by decide +kernel
theorem dX10_isAlike_64 : decode cX10_isAlike 64 = .ok (.iconst 1, 1) := by decide +kernel
theorem dX10_isAlike_65 : decode cX10_isAlike 65 = .ok (.ireturn, 1) := by decide +kernel
theorem dX10_most_0 : decode cX10_most 0 = .ok (.aload_n 0, 1) := by decide +kernel
theorem dX10_most_1 : decode cX10_most 1 = .ok (.iconst 0, 1) := by decide +kernel
theorem dX10_most_2 : decode cX10_most 2 = .ok (.putfield 1, 3) := by decide +kernel
theorem dX10_most_5 : decode cX10_most 5 = .ok (.iload_n 2, 1) := by decide +kernel
theorem dX10_most_6 : decode cX10_most 6 = .ok (.iconst 0, 1) := by decide +kernel
theorem dX10_most_7 : decode cX10_most 7 = .ok (.iconst 1, 1) := by decide +kernel
theorem dX10_most_8 : decode cX10_most 8 = .ok (.invokestatic 228, 3) := by decide +kernel
theorem dX10_most_11 : decode cX10_most 11 = .ok (.ifCond .ne 5, 3) := by decide +kernel
theorem dX10_most_14 : decode cX10_most 14 = .ok (.iconst (-1), 1) := by decide +kernel
theorem dX10_most_15 : decode cX10_most 15 = .ok (.ireturn, 1) := by decide +kernel
theorem dX10_most_16 : decode cX10_most 16 = .ok (.iconst 0, 1) := by decide +kernel
theorem dX10_most_17 : decode cX10_most 17 = .ok (.istore_n 3, 1) := by decide +kernel
theorem dX10_most_18 : decode cX10_most 18 = .ok (.iconst 1, 1) := by decide +kernel
theorem dX10_most_19 : decode cX10_most 19 = .ok (.istore 4, 2) := by decide +kernel
theorem dX10_most_21 : decode cX10_most 21 = .ok (.iload 4, 2) := by decide +kernel
theorem dX10_most_23 : decode cX10_most 23 = .ok (.aload_n 0, 1) := by decide +kernel
theorem dX10_most_24 : decode cX10_most 24 = .ok (.getfield 73, 3) := by decide +kernel
theorem dX10_most_27 : decode cX10_most 27 = .ok (.invokestatic 239, 3) := by decide +kernel
theorem dX10_most_30 : decode cX10_most 30 = .ok (.if_icmp .gt 34, 3) := by decide +kernel
theorem dX10_most_33 : decode cX10_most 33 = .ok (.iload 4, 2) := by decide +kernel
theorem dX10_most_35 : decode cX10_most 35 = .ok (.invokestatic 175, 3) := by decide +kernel
theorem dX10_most_38 : decode cX10_most 38 = .ok (.iload_n 3, 1) := by decide +kernel
theorem dX10_most_39 : decode cX10_most 39 = .ok (.invokestatic 175, 3) := by decide +kernel
theorem dX10_most_42 : decode cX10_most 42 = .ok (.if_icmp .le 16, 3) := by decide +kernel
theorem dX10_most_45 : decode cX10_most 45 = .ok (.aload_n 0, 1) := by decide +kernel
theorem dX10_most_46 : decode cX10_most 46 = .ok (.iload 4, 2) := by decide +kernel
theorem dX10_most_48 : decode cX10_most 48 = .ok (.iload_n 1, 1) := by decide +kernel
theorem dX10_most_49 : decode cX10_most 49 = .ok (.invokevirtual 338, 3) := by decide +kernel
theorem dX10_most_52 : decode cX10_most 52 = .ok (.ifCond .eq 6, 3) := by decide +kernel
theorem dX10_most_55 : decode cX10_most 55 = .ok (.iload 4, 2) := by decide +kernel
theorem dX10_most_57 : decode cX10_most 57 = .ok (.istore_n 3, 1) := by decide +kernel
theorem dX10_most_58 : decode cX10_most 58 = .ok (.iinc 4 1, 3) := by decide +kernel
theorem dX10_most_61 : decode cX10_most 61 = .ok (.goto (-40), 3) := by decide +kernel
theorem dX10_most_64 : decode cX10_most 64 = .ok (.iload_n 2, 1) := by decide +kernel
theorem dX10_most_65 : decode cX10_most 65 = .ok (.ifCond .ne 10, 3) := by decide +kernel
theorem dX10_most_68 : decode cX10_most 68 = .ok (.iload_n 3, 1) := by decide +kernel
theorem dX10_most_69 : decode cX10_most 69 = .ok (.invokestatic 175, 3) := by decide +kernel
theorem dX10_most_72 : decode cX10_most 72 = .ok (.goto 4, 3) := by decide +kernel
theorem dX10_most_75 : decode cX10_most 75 = .ok (.iload_n 3, 1) := by decide +kernel
theorem dX10_most_76 : decode cX10_most 76 = .ok (.ireturn, 1) := by decide +kernel
theorem dX10_apart_0 : decode cX10_apart 0 = .ok (.aload_n 0, 1) := by decide +kernel
theorem dX10_apart_1 : decode cX10_apart 1 = .ok (.iconst 0, 1) := by decide +kernel
theorem dX10_apart_2 : decode cX10_apart 2 = .ok (.iload_n 1, 1) := by decide +kernel
theorem dX10_apart_3 : decode cX10_apart 3 = .ok (.invokevirtual 342, 3) := by decide +kernel
theorem dX10_apart_6 : decode cX10_apart 6 = .ok (.ireturn, 1) := by decide +kernel
theorem dX10_clump_0 : decode cX10_clump 0 = .ok (.aload_n 0, 1) := by decide +kernel
theorem dX10_clump_1 : decode cX10_clump 1 = .ok (.iconst 1, 1) := by decide +kernel
theorem dX10_clump_2 : decode cX10_clump 2 = .ok (.iload_n 1, 1) := by decide +kernel
theorem dX10_clump_3 : decode cX10_clump 3 = .ok (.invokevirtual 342, 3) := by decide +kernel
theorem dX10_clump_6 : decode cX10_clump 6 = .ok (.ireturn, 1) := by decide +kernel
theorem dX10_draw_0 : decode cX10_draw 0 = .ok (.aload_n 0, 1) := by decide +kernel
theorem dX10_draw_1 : decode cX10_draw 1 = .ok (.aload_n 0, 1) := by decide +kernel
theorem dX10_draw_2 : decode cX10_draw 2 = .ok (.getfield 346, 3) := by decide +kernel
theorem dX10_draw_5 : decode cX10_draw 5 = .ok (.ldc_w 349, 3) := by decide +kernel
theorem dX10_draw_8 : decode cX10_draw 8 = .ok (.imul, 1) := by decide +kernel
theorem dX10_draw_9 : decode cX10_draw 9 = .ok (.sipush 12345, 3) := by decide +kernel
theorem dX10_draw_12 : decode cX10_draw 12 = .ok (.iadd, 1) := by decide +kernel
theorem dX10_draw_13 : decode cX10_draw 13 = .ok (.putfield 346, 3) := by decide +kernel
theorem dX10_draw_16 : decode cX10_draw 16 = .ok (.aload_n 0, 1) := by decide +kernel
theorem dX10_draw_17 : decode cX10_draw 17 = .ok (.getfield 346, 3) := by decide +kernel
theorem dX10_draw_20 : decode cX10_draw 20 = .ok (.bipush 8, 2) := by decide +kernel
theorem dX10_draw_22 : decode cX10_draw 22 = .ok (.iushr, 1) := by decide +kernel
theorem dX10_draw_23 : decode cX10_draw 23 = .ok (.iload_n 1, 1) := by decide +kernel
theorem dX10_draw_24 : decode cX10_draw 24 = .ok (.irem, 1) := by decide +kernel
theorem dX10_draw_25 : decode cX10_draw 25 = .ok (.ireturn, 1) := by decide +kernel
theorem dX10_drawsOne_0 : decode cX10_drawsOne 0 = .ok (.aload_n 0, 1) := by decide +kernel
theorem dX10_drawsOne_1 : decode cX10_drawsOne 1 = .ok (.bipush 6, 2) := by decide +kernel
theorem dX10_drawsOne_3 : decode cX10_drawsOne 3 = .ok (.invokevirtual 350, 3) := by decide +kernel
theorem dX10_drawsOne_6 : decode cX10_drawsOne 6 = .ok (.istore_n 1, 1) := by decide +kernel
theorem dX10_drawsOne_7 : decode cX10_drawsOne 7 = .ok (.iload_n 1, 1) := by decide +kernel
theorem dX10_drawsOne_8 : decode cX10_drawsOne 8 = .ok (.ifCond .ne 33, 3) := by decide +kernel
theorem dX10_drawsOne_11 : decode cX10_drawsOne 11 = .ok (.aload_n 0, 1) := by decide +kernel
theorem dX10_drawsOne_12 : decode cX10_drawsOne 12 = .ok (.getfield 73, 3) := by decide +kernel
theorem dX10_drawsOne_15 : decode cX10_drawsOne 15 = .ok (.iconst 0, 1) := by decide +kernel
theorem dX10_drawsOne_16 : decode cX10_drawsOne 16 = .ok (.iaload, 1) := by decide +kernel
theorem dX10_drawsOne_17 : decode cX10_drawsOne 17 = .ok (.ifCond .ne 5, 3) := by decide +kernel
theorem dX10_drawsOne_20 : decode cX10_drawsOne 20 = .ok (.iconst 0, 1) := by decide +kernel
theorem dX10_drawsOne_21 : decode cX10_drawsOne 21 = .ok (.ireturn, 1) := by decide +kernel
theorem dX10_drawsOne_22 : decode cX10_drawsOne 22 = .ok (.aload_n 0, 1) := by decide +kernel
theorem dX10_drawsOne_23 : decode cX10_drawsOne 23 = .ok (.getfield 73, 3) := by decide +kernel
theorem dX10_drawsOne_26 : decode cX10_drawsOne 26 = .ok (.aload_n 0, 1) := by decide +kernel
theorem dX10_drawsOne_27 : decode cX10_drawsOne 27 = .ok (.aload_n 0, 1) := by decide +kernel
theorem dX10_drawsOne_28 : decode cX10_drawsOne 28 = .ok (.getfield 73, 3) := by decide +kernel
theorem dX10_drawsOne_31 : decode cX10_drawsOne 31 = .ok (.iconst 0, 1) := by decide +kernel
theorem dX10_drawsOne_32 : decode cX10_drawsOne 32 = .ok (.iaload, 1) := by decide +kernel
theorem dX10_drawsOne_33 : decode cX10_drawsOne 33 = .ok (.invokevirtual 350, 3) := by decide +kernel
theorem dX10_drawsOne_36 : decode cX10_drawsOne 36 = .ok (.invokestatic 320, 3) := by decide +kernel
theorem dX10_drawsOne_39 : decode cX10_drawsOne 39 = .ok (.iconst 1, 1) := by decide +kernel
theorem dX10_drawsOne_40 : decode cX10_drawsOne 40 = .ok (.ireturn, 1) := by decide +kernel
theorem dX10_drawsOne_41 : decode cX10_drawsOne 41 = .ok (.iload_n 1, 1) := by decide +kernel
theorem dX10_drawsOne_42 : decode cX10_drawsOne 42 = .ok (.iconst 1, 1) := by decide +kernel
theorem dX10_drawsOne_43 : decode cX10_drawsOne 43 = .ok (.if_icmp .ne 60, 3) := by decide +kernel
theorem dX10_drawsOne_46 : decode cX10_drawsOne 46 = .ok (.aload_n 0, 1) := by decide +kernel
theorem dX10_drawsOne_47 : decode cX10_drawsOne 47 = .ok (.getfield 73, 3) := by decide +kernel
theorem dX10_drawsOne_50 : decode cX10_drawsOne 50 = .ok (.iconst 0, 1) := by decide +kernel
theorem dX10_drawsOne_51 : decode cX10_drawsOne 51 = .ok (.iaload, 1) := by decide +kernel
theorem dX10_drawsOne_52 : decode cX10_drawsOne 52 = .ok (.bipush 14, 2) := by decide +kernel
theorem dX10_drawsOne_54 : decode cX10_drawsOne 54 = .ok (.if_icmp .ne 5, 3) := by decide +kernel
theorem dX10_drawsOne_57 : decode cX10_drawsOne 57 = .ok (.iconst 0, 1) := by decide +kernel
theorem dX10_drawsOne_58 : decode cX10_drawsOne 58 = .ok (.ireturn, 1) := by decide +kernel
theorem dX10_drawsOne_59 : decode cX10_drawsOne 59 = .ok (.iconst 0, 1) := by decide +kernel
theorem dX10_drawsOne_60 : decode cX10_drawsOne 60 = .ok (.istore_n 2, 1) := by decide +kernel
theorem dX10_drawsOne_61 : decode cX10_drawsOne 61 = .ok (.iconst 0, 1) := by decide +kernel
theorem dX10_drawsOne_62 : decode cX10_drawsOne 62 = .ok (.istore_n 3, 1) := by decide +kernel
theorem dX10_drawsOne_63 : decode cX10_drawsOne 63 = .ok (.iload_n 3, 1) := by decide +kernel
theorem dX10_drawsOne_64 : decode cX10_drawsOne 64 = .ok (.aload_n 0, 1) := by decide +kernel
theorem dX10_drawsOne_65 : decode cX10_drawsOne 65 = .ok (.getfield 73, 3) := by decide +kernel
theorem dX10_drawsOne_68 : decode cX10_drawsOne 68 = .ok (.iconst 0, 1) := by decide +kernel
theorem dX10_drawsOne_69 : decode cX10_drawsOne 69 = .ok (.iaload, 1) := by decide +kernel
theorem dX10_drawsOne_70 : decode cX10_drawsOne 70 = .ok (.if_icmp .ge 23, 3) := by decide +kernel
theorem dX10_drawsOne_73 : decode cX10_drawsOne 73 = .ok (.aload_n 0, 1) := by decide +kernel
theorem dX10_drawsOne_74 : decode cX10_drawsOne 74 = .ok (.iconst 3, 1) := by decide +kernel
theorem dX10_drawsOne_75 : decode cX10_drawsOne 75 = .ok (.invokevirtual 350, 3) := by decide +kernel
theorem dX10_drawsOne_78 : decode cX10_drawsOne 78 = .ok (.ifCond .ne 9, 3) := by decide +kernel
theorem dX10_drawsOne_81 : decode cX10_drawsOne 81 = .ok (.iload_n 2, 1) := by decide +kernel
theorem dX10_drawsOne_82 : decode cX10_drawsOne 82 = .ok (.iconst 1, 1) := by decide +kernel
theorem dX10_drawsOne_83 : decode cX10_drawsOne 83 = .ok (.iload_n 3, 1) := by decide +kernel
theorem dX10_drawsOne_84 : decode cX10_drawsOne 84 = .ok (.ishl, 1) := by decide +kernel
theorem dX10_drawsOne_85 : decode cX10_drawsOne 85 = .ok (.ior, 1) := by decide +kernel
theorem dX10_drawsOne_86 : decode cX10_drawsOne 86 = .ok (.istore_n 2, 1) := by decide +kernel
theorem dX10_drawsOne_87 : decode cX10_drawsOne 87 = .ok (.iinc 3 1, 3) := by decide +kernel
theorem dX10_drawsOne_90 : decode cX10_drawsOne 90 = .ok (.goto (-27), 3) := by decide +kernel
theorem dX10_drawsOne_93 : decode cX10_drawsOne 93 = .ok (.aload_n 0, 1) := by decide +kernel
theorem dX10_drawsOne_94 : decode cX10_drawsOne 94 = .ok (.getfield 73, 3) := by decide +kernel
theorem dX10_drawsOne_97 : decode cX10_drawsOne 97 = .ok (.iload_n 2, 1) := by decide +kernel
theorem dX10_drawsOne_98 : decode cX10_drawsOne 98 = .ok (.invokestatic 317, 3) := by decide +kernel
theorem dX10_drawsOne_101 : decode cX10_drawsOne 101 = .ok (.iconst 1, 1) := by decide +kernel
theorem dX10_drawsOne_102 : decode cX10_drawsOne 102 = .ok (.ireturn, 1) := by decide +kernel
theorem dX10_drawsOne_103 : decode cX10_drawsOne 103 = .ok (.aload_n 0, 1) := by decide +kernel
theorem dX10_drawsOne_104 : decode cX10_drawsOne 104 = .ok (.getfield 73, 3) := by decide +kernel
theorem dX10_drawsOne_107 : decode cX10_drawsOne 107 = .ok (.iconst 0, 1) := by decide +kernel
theorem dX10_drawsOne_108 : decode cX10_drawsOne 108 = .ok (.iaload, 1) := by decide +kernel
theorem dX10_drawsOne_109 : decode cX10_drawsOne 109 = .ok (.iconst 2, 1) := by decide +kernel
theorem dX10_drawsOne_110 : decode cX10_drawsOne 110 = .ok (.if_icmp .ge 5, 3) := by decide +kernel
theorem dX10_drawsOne_113 : decode cX10_drawsOne 113 = .ok (.iconst 0, 1) := by decide +kernel
theorem dX10_drawsOne_114 : decode cX10_drawsOne 114 = .ok (.ireturn, 1) := by decide +kernel
theorem dX10_drawsOne_115 : decode cX10_drawsOne 115 = .ok (.aload_n 0, 1) := by decide +kernel
theorem dX10_drawsOne_116 : decode cX10_drawsOne 116 = .ok (.aload_n 0, 1) := by decide +kernel
theorem dX10_drawsOne_117 : decode cX10_drawsOne 117 = .ok (.getfield 73, 3) := by decide +kernel
theorem dX10_drawsOne_120 : decode cX10_drawsOne 120 = .ok (.iconst 0, 1) := by decide +kernel
theorem dX10_drawsOne_121 : decode cX10_drawsOne 121 = .ok (.iaload, 1) := by decide +kernel
theorem dX10_drawsOne_122 : decode cX10_drawsOne 122 = .ok (.invokevirtual 350, 3) := by decide +kernel
theorem dX10_drawsOne_125 : decode cX10_drawsOne 125 = .ok (.istore_n 2, 1) := by decide +kernel
theorem dX10_drawsOne_126 : decode cX10_drawsOne 126 = .ok (.aload_n 0, 1) := by decide +kernel
theorem dX10_drawsOne_127 : decode cX10_drawsOne 127 = .ok (.aload_n 0, 1) := by decide +kernel
theorem dX10_drawsOne_128 : decode cX10_drawsOne 128 = .ok (.getfield 73, 3) := by decide +kernel
theorem dX10_drawsOne_131 : decode cX10_drawsOne 131 = .ok (.iconst 0, 1) := by decide +kernel
theorem dX10_drawsOne_132 : decode cX10_drawsOne 132 = .ok (.iaload, 1) := by decide +kernel
theorem dX10_drawsOne_133 : decode cX10_drawsOne 133 = .ok (.iconst 1, 1) := by decide +kernel
theorem dX10_drawsOne_134 : decode cX10_drawsOne 134 = .ok (.isub, 1) := by decide +kernel
theorem dX10_drawsOne_135 : decode cX10_drawsOne 135 = .ok (.invokevirtual 350, 3) := by decide +kernel
theorem dX10_drawsOne_138 : decode cX10_drawsOne 138 = .ok (.istore_n 3, 1) := by decide +kernel
theorem dX10_drawsOne_139 : decode cX10_drawsOne 139 = .ok (.aload_n 0, 1) := by decide +kernel
theorem dX10_drawsOne_140 : decode cX10_drawsOne 140 = .ok (.getfield 73, 3) := by decide +kernel
theorem dX10_drawsOne_143 : decode cX10_drawsOne 143 = .ok (.iload_n 2, 1) := by decide +kernel
theorem dX10_drawsOne_144 : decode cX10_drawsOne 144 = .ok (.iload_n 3, 1) := by decide +kernel
theorem dX10_drawsOne_145 : decode cX10_drawsOne 145 = .ok (.iload_n 2, 1) := by decide +kernel
theorem dX10_drawsOne_146 : decode cX10_drawsOne 146 = .ok (.if_icmp .ge 7, 3) := by decide +kernel
theorem dX10_drawsOne_149 : decode cX10_drawsOne 149 = .ok (.iload_n 3, 1) := by decide +kernel
theorem dX10_drawsOne_150 : decode cX10_drawsOne 150 = .ok (.goto 6, 3) := by decide +kernel
theorem dX10_drawsOne_153 : decode cX10_drawsOne 153 = .ok (.iload_n 3, 1) := by decide +kernel
theorem dX10_drawsOne_154 : decode cX10_drawsOne 154 = .ok (.iconst 1, 1) := by decide +kernel
theorem dX10_drawsOne_155 : decode cX10_drawsOne 155 = .ok (.iadd, 1) := by decide +kernel
theorem dX10_drawsOne_156 : decode cX10_drawsOne 156 = .ok (.invokestatic 155, 3) := by decide +kernel
theorem dX10_drawsOne_159 : decode cX10_drawsOne 159 = .ok (.iconst 1, 1) := by decide +kernel
theorem dX10_drawsOne_160 : decode cX10_drawsOne 160 = .ok (.ireturn, 1) := by decide +kernel
theorem dX10_drawn_0 : decode cX10_drawn 0 = .ok (.aload_n 0, 1) := by decide +kernel
theorem dX10_drawn_1 : decode cX10_drawn 1 = .ok (.iconst 0, 1) := by decide +kernel
theorem dX10_drawn_2 : decode cX10_drawn 2 = .ok (.putfield 1, 3) := by decide +kernel
theorem dX10_drawn_5 : decode cX10_drawn 5 = .ok (.iload_n 1, 1) := by decide +kernel
theorem dX10_drawn_6 : decode cX10_drawn 6 = .ok (.iconst 1, 1) := by decide +kernel
theorem dX10_drawn_7 : decode cX10_drawn 7 = .ok (.bipush 60, 2) := by decide +kernel
theorem dX10_drawn_9 : decode cX10_drawn 9 = .ok (.invokestatic 228, 3) := by decide +kernel
theorem dX10_drawn_12 : decode cX10_drawn 12 = .ok (.ifCond .ne 5, 3) := by decide +kernel
theorem dX10_drawn_15 : decode cX10_drawn 15 = .ok (.iconst (-1), 1) := by decide +kernel
theorem dX10_drawn_16 : decode cX10_drawn 16 = .ok (.ireturn, 1) := by decide +kernel
theorem dX10_drawn_17 : decode cX10_drawn 17 = .ok (.aload_n 0, 1) := by decide +kernel
theorem dX10_drawn_18 : decode cX10_drawn 18 = .ok (.getfield 73, 3) := by decide +kernel
theorem dX10_drawn_21 : decode cX10_drawn 21 = .ok (.iconst 0, 1) := by decide +kernel
theorem dX10_drawn_22 : decode cX10_drawn 22 = .ok (.aload_n 0, 1) := by decide +kernel
theorem dX10_drawn_23 : decode cX10_drawn 23 = .ok (.getfield 85, 3) := by decide +kernel
theorem dX10_drawn_26 : decode cX10_drawn 26 = .ok (.iconst 0, 1) := by decide +kernel
theorem dX10_drawn_27 : decode cX10_drawn 27 = .ok (.invokestatic 168, 3) := by decide +kernel
theorem dX10_drawn_30 : decode cX10_drawn 30 = .ok (.aload_n 0, 1) := by decide +kernel
theorem dX10_drawn_31 : decode cX10_drawn 31 = .ok (.iload_n 2, 1) := by decide +kernel
theorem dX10_drawn_32 : decode cX10_drawn 32 = .ok (.putfield 346, 3) := by decide +kernel
theorem dX10_drawn_35 : decode cX10_drawn 35 = .ok (.iconst 0, 1) := by decide +kernel
theorem dX10_drawn_36 : decode cX10_drawn 36 = .ok (.istore_n 3, 1) := by decide +kernel
theorem dX10_drawn_37 : decode cX10_drawn 37 = .ok (.iconst 0, 1) := by decide +kernel
theorem dX10_drawn_38 : decode cX10_drawn 38 = .ok (.istore 4, 2) := by decide +kernel
theorem dX10_drawn_40 : decode cX10_drawn 40 = .ok (.iload 4, 2) := by decide +kernel
theorem dX10_drawn_42 : decode cX10_drawn 42 = .ok (.iload_n 1, 1) := by decide +kernel
theorem dX10_drawn_43 : decode cX10_drawn 43 = .ok (.if_icmp .ge 19, 3) := by decide +kernel
theorem dX10_drawn_46 : decode cX10_drawn 46 = .ok (.aload_n 0, 1) := by decide +kernel
theorem dX10_drawn_47 : decode cX10_drawn 47 = .ok (.invokevirtual 353, 3) := by decide +kernel
theorem dX10_drawn_50 : decode cX10_drawn 50 = .ok (.ifCond .eq 6, 3) := by decide +kernel
theorem dX10_drawn_53 : decode cX10_drawn 53 = .ok (.iinc 3 1, 3) := by decide +kernel
theorem dX10_drawn_56 : decode cX10_drawn 56 = .ok (.iinc 4 1, 3) := by decide +kernel
theorem dX10_drawn_59 : decode cX10_drawn 59 = .ok (.goto (-19), 3) := by decide +kernel
theorem dX10_drawn_62 : decode cX10_drawn 62 = .ok (.iload_n 3, 1) := by decide +kernel
theorem dX10_drawn_63 : decode cX10_drawn 63 = .ok (.ifCond .le 7, 3) := by decide +kernel
theorem dX10_drawn_66 : decode cX10_drawn 66 = .ok (.aload_n 0, 1) := by decide +kernel
theorem dX10_drawn_67 : decode cX10_drawn 67 = .ok (.invokevirtual 356, 3) := by decide +kernel
theorem dX10_drawn_70 : decode cX10_drawn 70 = .ok (.iload_n 3, 1) := by decide +kernel
theorem dX10_drawn_71 : decode cX10_drawn 71 = .ok (.ireturn, 1) := by decide +kernel
theorem dX10_undo_0 : decode cX10_undo 0 = .ok (.aload_n 0, 1) := by decide +kernel
theorem dX10_undo_1 : decode cX10_undo 1 = .ok (.iconst 0, 1) := by decide +kernel
theorem dX10_undo_2 : decode cX10_undo 2 = .ok (.putfield 1, 3) := by decide +kernel
theorem dX10_undo_5 : decode cX10_undo 5 = .ok (.aload_n 0, 1) := by decide +kernel
theorem dX10_undo_6 : decode cX10_undo 6 = .ok (.getfield 172, 3) := by decide +kernel
theorem dX10_undo_9 : decode cX10_undo 9 = .ok (.ifCond .ne 5, 3) := by decide +kernel
theorem dX10_undo_12 : decode cX10_undo 12 = .ok (.iconst (-1), 1) := by decide +kernel
theorem dX10_undo_13 : decode cX10_undo 13 = .ok (.ireturn, 1) := by decide +kernel
theorem dX10_undo_14 : decode cX10_undo 14 = .ok (.aload_n 0, 1) := by decide +kernel
theorem dX10_undo_15 : decode cX10_undo 15 = .ok (.dup, 1) := by decide +kernel
theorem dX10_undo_16 : decode cX10_undo 16 = .ok (.getfield 172, 3) := by decide +kernel
theorem dX10_undo_19 : decode cX10_undo 19 = .ok (.iconst 1, 1) := by decide +kernel
theorem dX10_undo_20 : decode cX10_undo 20 = .ok (.isub, 1) := by decide +kernel
theorem dX10_undo_21 : decode cX10_undo 21 = .ok (.putfield 172, 3) := by decide +kernel
theorem dX10_undo_24 : decode cX10_undo 24 = .ok (.aload_n 0, 1) := by decide +kernel
theorem dX10_undo_25 : decode cX10_undo 25 = .ok (.getfield 82, 3) := by decide +kernel
theorem dX10_undo_28 : decode cX10_undo 28 = .ok (.bipush 15, 2) := by decide +kernel
theorem dX10_undo_30 : decode cX10_undo 30 = .ok (.aload_n 0, 1) := by decide +kernel
theorem dX10_undo_31 : decode cX10_undo 31 = .ok (.getfield 172, 3) := by decide +kernel
theorem dX10_undo_34 : decode cX10_undo 34 = .ok (.imul, 1) := by decide +kernel
theorem dX10_undo_35 : decode cX10_undo 35 = .ok (.aload_n 0, 1) := by decide +kernel
theorem dX10_undo_36 : decode cX10_undo 36 = .ok (.getfield 73, 3) := by decide +kernel
theorem dX10_undo_39 : decode cX10_undo 39 = .ok (.iconst 0, 1) := by decide +kernel
theorem dX10_undo_40 : decode cX10_undo 40 = .ok (.invokestatic 168, 3) := by decide +kernel
theorem dX10_undo_43 : decode cX10_undo 43 = .ok (.aload_n 0, 1) := by decide +kernel
theorem dX10_undo_44 : decode cX10_undo 44 = .ok (.getfield 172, 3) := by decide +kernel
theorem dX10_undo_47 : decode cX10_undo 47 = .ok (.ireturn, 1) := by decide +kernel
theorem dX10_image_0 : decode cX10_image 0 = .ok (.aload_n 0, 1) := by decide +kernel
theorem dX10_image_1 : decode cX10_image 1 = .ok (.iconst 0, 1) := by decide +kernel
theorem dX10_image_2 : decode cX10_image 2 = .ok (.putfield 1, 3) := by decide +kernel
theorem dX10_image_5 : decode cX10_image 5 = .ok (.iload_n 1, 1) := by decide +kernel
theorem dX10_image_6 : decode cX10_image 6 = .ok (.iconst 0, 1) := by decide +kernel
theorem dX10_image_7 : decode cX10_image 7 = .ok (.iconst 1, 1) := by decide +kernel
theorem dX10_image_8 : decode cX10_image 8 = .ok (.invokestatic 228, 3) := by decide +kernel
theorem dX10_image_11 : decode cX10_image 11 = .ok (.ifCond .ne 5, 3) := by decide +kernel
theorem dX10_image_14 : decode cX10_image 14 = .ok (.iconst 0, 1) := by decide +kernel
theorem dX10_image_15 : decode cX10_image 15 = .ok (.ireturn, 1) := by decide +kernel
theorem dX10_image_16 : decode cX10_image 16 = .ok (.aload_n 0, 1) := by decide +kernel
theorem dX10_image_17 : decode cX10_image 17 = .ok (.getfield 73, 3) := by decide +kernel
theorem dX10_image_20 : decode cX10_image 20 = .ok (.iconst 0, 1) := by decide +kernel
theorem dX10_image_21 : decode cX10_image 21 = .ok (.aload_n 0, 1) := by decide +kernel
theorem dX10_image_22 : decode cX10_image 22 = .ok (.getfield 79, 3) := by decide +kernel
theorem dX10_image_25 : decode cX10_image 25 = .ok (.bipush 15, 2) := by decide +kernel
theorem dX10_image_27 : decode cX10_image 27 = .ok (.iload_n 1, 1) := by decide +kernel
theorem dX10_image_28 : decode cX10_image 28 = .ok (.imul, 1) := by decide +kernel
theorem dX10_image_29 : decode cX10_image 29 = .ok (.invokestatic 168, 3) := by decide +kernel
theorem dX10_image_32 : decode cX10_image 32 = .ok (.aload_n 0, 1) := by decide +kernel
theorem dX10_image_33 : decode cX10_image 33 = .ok (.getfield 104, 3) := by decide +kernel
theorem dX10_image_36 : decode cX10_image 36 = .ok (.iload_n 1, 1) := by decide +kernel
theorem dX10_image_37 : decode cX10_image 37 = .ok (.iconst 1, 1) := by decide +kernel
theorem dX10_image_38 : decode cX10_image 38 = .ok (.bastore, 1) := by decide +kernel
theorem dX10_image_39 : decode cX10_image 39 = .ok (.iconst 1, 1) := by decide +kernel
theorem dX10_image_40 : decode cX10_image 40 = .ok (.ireturn, 1) := by decide +kernel
theorem dX10_restore_0 : decode cX10_restore 0 = .ok (.aload_n 0, 1) := by decide +kernel
theorem dX10_restore_1 : decode cX10_restore 1 = .ok (.iconst 0, 1) := by decide +kernel
theorem dX10_restore_2 : decode cX10_restore 2 = .ok (.putfield 1, 3) := by decide +kernel
theorem dX10_restore_5 : decode cX10_restore 5 = .ok (.iload_n 1, 1) := by decide +kernel
theorem dX10_restore_6 : decode cX10_restore 6 = .ok (.iconst 0, 1) := by decide +kernel
theorem dX10_restore_7 : decode cX10_restore 7 = .ok (.iconst 1, 1) := by decide +kernel
theorem dX10_restore_8 : decode cX10_restore 8 = .ok (.invokestatic 228, 3) := by decide +kernel
theorem dX10_restore_11 : decode cX10_restore 11 = .ok (.ifCond .eq 12, 3) := by decide +kernel
theorem dX10_restore_14 : decode cX10_restore 14 = .ok (.aload_n 0, 1) := by decide +kernel
theorem dX10_restore_15 : decode cX10_restore 15 = .ok (.getfield 104, 3) := by decide +kernel
theorem dX10_restore_18 : decode cX10_restore 18 = .ok (.iload_n 1, 1) := by decide +kernel
theorem dX10_restore_19 : decode cX10_restore 19 = .ok (.baload, 1) := by decide +kernel
theorem dX10_restore_20 : decode cX10_restore 20 = .ok (.ifCond .ne 5, 3) := by decide +kernel
theorem dX10_restore_23 : decode cX10_restore 23 = .ok (.iconst 0, 1) := by decide +kernel
theorem dX10_restore_24 : decode cX10_restore 24 = .ok (.ireturn, 1) := by decide +kernel
theorem dX10_restore_25 : decode cX10_restore 25 = .ok (.aload_n 0, 1) := by decide +kernel
theorem dX10_restore_26 : decode cX10_restore 26 = .ok (.getfield 79, 3) := by decide +kernel
theorem dX10_restore_29 : decode cX10_restore 29 = .ok (.bipush 15, 2) := by decide +kernel
theorem dX10_restore_31 : decode cX10_restore 31 = .ok (.iload_n 1, 1) := by decide +kernel
theorem dX10_restore_32 : decode cX10_restore 32 = .ok (.imul, 1) := by decide +kernel
theorem dX10_restore_33 : decode cX10_restore 33 = .ok (.aload_n 0, 1) := by decide +kernel
theorem dX10_restore_34 : decode cX10_restore 34 = .ok (.getfield 73, 3) := by decide +kernel
theorem dX10_restore_37 : decode cX10_restore 37 = .ok (.iconst 0, 1) := by decide +kernel
theorem dX10_restore_38 : decode cX10_restore 38 = .ok (.invokestatic 168, 3) := by decide +kernel
theorem dX10_restore_41 : decode cX10_restore 41 = .ok (.aload_n 0, 1) := by decide +kernel
theorem dX10_restore_42 : decode cX10_restore 42 = .ok (.iconst 0, 1) := by decide +kernel
theorem dX10_restore_43 : decode cX10_restore 43 = .ok (.putfield 172, 3) := by decide +kernel
theorem dX10_restore_46 : decode cX10_restore 46 = .ok (.iconst 1, 1) := by decide +kernel
theorem dX10_restore_47 : decode cX10_restore 47 = .ok (.ireturn, 1) := by decide +kernel
theorem dJ6_bitCount_0f7a4_0 : decode cJ6_bitCount_0f7a4 0 = .ok (.iload_n 0, 1) := by decide +kernel
theorem dJ6_bitCount_0f7a4_1 : decode cJ6_bitCount_0f7a4 1 = .ok (.iload_n 0, 1) := by decide +kernel
theorem dJ6_bitCount_0f7a4_2 : decode cJ6_bitCount_0f7a4 2 = .ok (.iconst 1, 1) := by decide +kernel
theorem dJ6_bitCount_0f7a4_3 : decode cJ6_bitCount_0f7a4 3 = .ok (.iushr, 1) := by decide +kernel
theorem dJ6_bitCount_0f7a4_4 : decode cJ6_bitCount_0f7a4 4 = .ok (.ldc_w 265, 3) := by decide +kernel
theorem dJ6_bitCount_0f7a4_7 : decode cJ6_bitCount_0f7a4 7 = .ok (.iand, 1) := by decide +kernel
theorem dJ6_bitCount_0f7a4_8 : decode cJ6_bitCount_0f7a4 8 = .ok (.isub, 1) := by decide +kernel
theorem dJ6_bitCount_0f7a4_9 : decode cJ6_bitCount_0f7a4 9 = .ok (.istore_n 0, 1) := by decide +kernel
theorem dJ6_bitCount_0f7a4_10 : decode cJ6_bitCount_0f7a4 10 = .ok (.iload_n 0, 1) := by decide +kernel
theorem dJ6_bitCount_0f7a4_11 : decode cJ6_bitCount_0f7a4 11 = .ok (.ldc_w 266, 3) := by decide +kernel
theorem dJ6_bitCount_0f7a4_14 : decode cJ6_bitCount_0f7a4 14 = .ok (.iand, 1) := by decide +kernel
theorem dJ6_bitCount_0f7a4_15 : decode cJ6_bitCount_0f7a4 15 = .ok (.iload_n 0, 1) := by decide +kernel
theorem dJ6_bitCount_0f7a4_16 : decode cJ6_bitCount_0f7a4 16 = .ok (.iconst 2, 1) := by decide +kernel
theorem dJ6_bitCount_0f7a4_17 : decode cJ6_bitCount_0f7a4 17 = .ok (.iushr, 1) := by decide +kernel
theorem dJ6_bitCount_0f7a4_18 : decode cJ6_bitCount_0f7a4 18 = .ok (.ldc_w 266, 3) := by decide +kernel
theorem dJ6_bitCount_0f7a4_21 : decode cJ6_bitCount_0f7a4 21 = .ok (.iand, 1) := by decide +kernel
theorem dJ6_bitCount_0f7a4_22 : decode cJ6_bitCount_0f7a4 22 = .ok (.iadd, 1) := by decide +kernel
theorem dJ6_bitCount_0f7a4_23 : decode cJ6_bitCount_0f7a4 23 = .ok (.istore_n 0, 1) := by decide +kernel
theorem dJ6_bitCount_0f7a4_24 : decode cJ6_bitCount_0f7a4 24 = .ok (.iload_n 0, 1) := by decide +kernel
theorem dJ6_bitCount_0f7a4_25 : decode cJ6_bitCount_0f7a4 25 = .ok (.iload_n 0, 1) := by decide +kernel
theorem dJ6_bitCount_0f7a4_26 : decode cJ6_bitCount_0f7a4 26 = .ok (.iconst 4, 1) := by decide +kernel
theorem dJ6_bitCount_0f7a4_27 : decode cJ6_bitCount_0f7a4 27 = .ok (.iushr, 1) := by decide +kernel
theorem dJ6_bitCount_0f7a4_28 : decode cJ6_bitCount_0f7a4 28 = .ok (.iadd, 1) := by decide +kernel
theorem dJ6_bitCount_0f7a4_29 : decode cJ6_bitCount_0f7a4 29 = .ok (.ldc_w 267, 3) := by decide +kernel
theorem dJ6_bitCount_0f7a4_32 : decode cJ6_bitCount_0f7a4 32 = .ok (.iand, 1) := by decide +kernel
theorem dJ6_bitCount_0f7a4_33 : decode cJ6_bitCount_0f7a4 33 = .ok (.istore_n 0, 1) := by decide +kernel
theorem dJ6_bitCount_0f7a4_34 : decode cJ6_bitCount_0f7a4 34 = .ok (.iload_n 0, 1) := by decide +kernel
theorem dJ6_bitCount_0f7a4_35 : decode cJ6_bitCount_0f7a4 35 = .ok (.iload_n 0, 1) := by decide +kernel
theorem dJ6_bitCount_0f7a4_36 : decode cJ6_bitCount_0f7a4 36 = .ok (.bipush 8, 2) := by decide +kernel
theorem dJ6_bitCount_0f7a4_38 : decode cJ6_bitCount_0f7a4 38 = .ok (.iushr, 1) := by decide +kernel
theorem dJ6_bitCount_0f7a4_39 : decode cJ6_bitCount_0f7a4 39 = .ok (.iadd, 1) := by decide +kernel
theorem dJ6_bitCount_0f7a4_40 : decode cJ6_bitCount_0f7a4 40 = .ok (.istore_n 0, 1) := by decide +kernel
theorem dJ6_bitCount_0f7a4_41 : decode cJ6_bitCount_0f7a4 41 = .ok (.iload_n 0, 1) := by decide +kernel
theorem dJ6_bitCount_0f7a4_42 : decode cJ6_bitCount_0f7a4 42 = .ok (.iload_n 0, 1) := by decide +kernel
theorem dJ6_bitCount_0f7a4_43 : decode cJ6_bitCount_0f7a4 43 = .ok (.bipush 16, 2) := by decide +kernel
theorem dJ6_bitCount_0f7a4_45 : decode cJ6_bitCount_0f7a4 45 = .ok (.iushr, 1) := by decide +kernel
theorem dJ6_bitCount_0f7a4_46 : decode cJ6_bitCount_0f7a4 46 = .ok (.iadd, 1) := by decide +kernel
theorem dJ6_bitCount_0f7a4_47 : decode cJ6_bitCount_0f7a4 47 = .ok (.istore_n 0, 1) := by decide +kernel
theorem dJ6_bitCount_0f7a4_48 : decode cJ6_bitCount_0f7a4 48 = .ok (.iload_n 0, 1) := by decide +kernel
theorem dJ6_bitCount_0f7a4_49 : decode cJ6_bitCount_0f7a4 49 = .ok (.bipush 63, 2) := by decide +kernel
theorem dJ6_bitCount_0f7a4_51 : decode cJ6_bitCount_0f7a4 51 = .ok (.iand, 1) := by decide +kernel
theorem dJ6_bitCount_0f7a4_52 : decode cJ6_bitCount_0f7a4 52 = .ok (.ireturn, 1) := by decide +kernel
theorem dJ9_max_7cf53_0 : decode cJ9_max_7cf53 0 = .ok (.iload_n 0, 1) := by decide +kernel
theorem dJ9_max_7cf53_1 : decode cJ9_max_7cf53 1 = .ok (.iload_n 1, 1) := by decide +kernel
theorem dJ9_max_7cf53_2 : decode cJ9_max_7cf53 2 = .ok (.if_icmp .lt 7, 3) := by decide +kernel
theorem dJ9_max_7cf53_5 : decode cJ9_max_7cf53 5 = .ok (.iload_n 0, 1) := by decide +kernel
theorem dJ9_max_7cf53_6 : decode cJ9_max_7cf53 6 = .ok (.goto 4, 3) := by decide +kernel
theorem dJ9_max_7cf53_9 : decode cJ9_max_7cf53 9 = .ok (.iload_n 1, 1) := by decide +kernel
theorem dJ9_max_7cf53_10 : decode cJ9_max_7cf53 10 = .ok (.ireturn, 1) := by decide +kernel
theorem dJ9_min_7cf53_0 : decode cJ9_min_7cf53 0 = .ok (.iload_n 0, 1) := by decide +kernel
theorem dJ9_min_7cf53_1 : decode cJ9_min_7cf53 1 = .ok (.iload_n 1, 1) := by decide +kernel
theorem dJ9_min_7cf53_2 : decode cJ9_min_7cf53 2 = .ok (.if_icmp .gt 7, 3) := by decide +kernel
theorem dJ9_min_7cf53_5 : decode cJ9_min_7cf53 5 = .ok (.iload_n 0, 1) := by decide +kernel
theorem dJ9_min_7cf53_6 : decode cJ9_min_7cf53 6 = .ok (.goto 4, 3) := by decide +kernel
theorem dJ9_min_7cf53_9 : decode cJ9_min_7cf53 9 = .ok (.iload_n 1, 1) := by decide +kernel
theorem dJ9_min_7cf53_10 : decode cJ9_min_7cf53 10 = .ok (.ireturn, 1) := by decide +kernel
theorem dL_near_0 : decode cL_near 0 = .ok (.aload_n 2, 1) := by decide +kernel
theorem dL_near_1 : decode cL_near 1 = .ok (.iconst 0, 1) := by decide +kernel
theorem dL_near_2 : decode cL_near 2 = .ok (.aload_n 0, 1) := by decide +kernel
theorem dL_near_3 : decode cL_near 3 = .ok (.iload_n 1, 1) := by decide +kernel
theorem dL_near_4 : decode cL_near 4 = .ok (.invokevirtual 7, 3) := by decide +kernel
theorem dL_near_7 : decode cL_near 7 = .ok (.i2l, 1) := by decide +kernel
theorem dL_near_8 : decode cL_near 8 = .ok (.lastore, 1) := by decide +kernel
theorem dL_near_9 : decode cL_near 9 = .ok (.goto 6, 3) := by decide +kernel
theorem dL_near_12 : decode cL_near 12 = .ok (.astore_n 3, 1) := by decide +kernel
theorem dL_near_13 : decode cL_near 13 = .ok (.iconst 1, 1) := by decide +kernel
theorem dL_near_14 : decode cL_near 14 = .ok (.ireturn, 1) := by decide +kernel
theorem dL_near_15 : decode cL_near 15 = .ok (.iconst 0, 1) := by decide +kernel
theorem dL_near_16 : decode cL_near 16 = .ok (.ireturn, 1) := by decide +kernel
theorem dL_line_0 : decode cL_line 0 = .ok (.aload_n 3, 1) := by decide +kernel
theorem dL_line_1 : decode cL_line 1 = .ok (.iconst 0, 1) := by decide +kernel
theorem dL_line_2 : decode cL_line 2 = .ok (.aload_n 0, 1) := by decide +kernel
theorem dL_line_3 : decode cL_line 3 = .ok (.iload_n 1, 1) := by decide +kernel
theorem dL_line_4 : decode cL_line 4 = .ok (.iload_n 2, 1) := by decide +kernel
theorem dL_line_5 : decode cL_line 5 = .ok (.invokevirtual 15, 3) := by decide +kernel
theorem dL_line_8 : decode cL_line 8 = .ok (.i2l, 1) := by decide +kernel
theorem dL_line_9 : decode cL_line 9 = .ok (.lastore, 1) := by decide +kernel
theorem dL_line_10 : decode cL_line 10 = .ok (.goto 7, 3) := by decide +kernel
theorem dL_line_13 : decode cL_line 13 = .ok (.astore 4, 2) := by decide +kernel
theorem dL_line_15 : decode cL_line 15 = .ok (.iconst 1, 1) := by decide +kernel
theorem dL_line_16 : decode cL_line 16 = .ok (.ireturn, 1) := by decide +kernel
theorem dL_line_17 : decode cL_line 17 = .ok (.iconst 0, 1) := by decide +kernel
theorem dL_line_18 : decode cL_line 18 = .ok (.ireturn, 1) := by decide +kernel
theorem dL_rootLine_0 : decode cL_rootLine 0 = .ok (.aload_n 3, 1) := by decide +kernel
theorem dL_rootLine_1 : decode cL_rootLine 1 = .ok (.iconst 0, 1) := by decide +kernel
theorem dL_rootLine_2 : decode cL_rootLine 2 = .ok (.aload_n 0, 1) := by decide +kernel
theorem dL_rootLine_3 : decode cL_rootLine 3 = .ok (.iload_n 1, 1) := by decide +kernel
theorem dL_rootLine_4 : decode cL_rootLine 4 = .ok (.iload_n 2, 1) := by decide +kernel
theorem dL_rootLine_5 : decode cL_rootLine 5 = .ok (.invokevirtual 19, 3) := by decide +kernel
theorem dL_rootLine_8 : decode cL_rootLine 8 = .ok (.i2l, 1) := by decide +kernel
theorem dL_rootLine_9 : decode cL_rootLine 9 = .ok (.lastore, 1) := by decide +kernel
theorem dL_rootLine_10 : decode cL_rootLine 10 = .ok (.goto 7, 3) := by decide +kernel
theorem dL_rootLine_13 : decode cL_rootLine 13 = .ok (.astore 4, 2) := by decide +kernel
theorem dL_rootLine_15 : decode cL_rootLine 15 = .ok (.iconst 1, 1) := by decide +kernel
theorem dL_rootLine_16 : decode cL_rootLine 16 = .ok (.ireturn, 1) := by decide +kernel
theorem dL_rootLine_17 : decode cL_rootLine 17 = .ok (.iconst 0, 1) := by decide +kernel
theorem dL_rootLine_18 : decode cL_rootLine 18 = .ok (.ireturn, 1) := by decide +kernel
theorem dL_law_0 : decode cL_law 0 = .ok (.new 8, 3) := by decide +kernel
theorem dL_law_3 : decode cL_law 3 = .ok (.dup, 1) := by decide +kernel
theorem dL_law_4 : decode cL_law 4 = .ok (.invokespecial 22, 3) := by decide +kernel
theorem dL_law_7 : decode cL_law 7 = .ok (.astore_n 1, 1) := by decide +kernel
theorem dL_law_8 : decode cL_law 8 = .ok (.new 23, 3) := by decide +kernel
theorem dL_law_11 : decode cL_law 11 = .ok (.dup, 1) := by decide +kernel
theorem dL_law_12 : decode cL_law 12 = .ok (.invokespecial 25, 3) := by decide +kernel
theorem dL_law_15 : decode cL_law 15 = .ok (.astore_n 2, 1) := by decide +kernel
theorem dL_law_16 : decode cL_law 16 = .ok (.iconst 1, 1) := by decide +kernel
theorem dL_law_17 : decode cL_law 17 = .ok (.newarray .long, 2) := by decide +kernel
theorem dL_law_19 : decode cL_law 19 = .ok (.astore_n 3, 1) := by decide +kernel
theorem dL_law_20 : decode cL_law 20 = .ok (.iconst 0, 1) := by decide +kernel
theorem dL_law_21 : decode cL_law 21 = .ok (.istore 4, 2) := by decide +kernel
theorem dL_law_23 : decode cL_law 23 = .ok (.iload 4, 2) := by decide +kernel
theorem dL_law_25 : decode cL_law 25 = .ok (.aload_n 0, 1) := by decide +kernel
theorem dL_law_26 : decode cL_law 26 = .ok (.arraylength, 1) := by decide +kernel
theorem dL_law_27 : decode cL_law 27 = .ok (.bipush 6, 2) := by decide +kernel
theorem dL_law_29 : decode cL_law 29 = .ok (.isub, 1) := by decide +kernel
theorem dL_law_30 : decode cL_law 30 = .ok (.if_icmp .gt 1116, 3) := by decide +kernel
theorem dL_law_33 : decode cL_law 33 = .ok (.aload_n 0, 1) := by decide +kernel
theorem dL_law_34 : decode cL_law 34 = .ok (.iload 4, 2) := by decide +kernel
theorem dL_law_36 : decode cL_law 36 = .ok (.iaload, 1) := by decide +kernel
theorem dL_law_37 : decode cL_law 37 = .ok (.bipush 63, 2) := by decide +kernel
theorem dL_law_39 : decode cL_law 39 = .ok (.iand, 1) := by decide +kernel
theorem dL_law_40 : decode cL_law 40 = .ok (.tableswitch 1100 0 34 #[156, 229, 254, 267, 280, 305, 361, 429, 466, 503, 528, 553, 566, 579, 604, 629, 697, 710, 723, 748, 797, 810, 823, 836, 849, 874, 899, 912, 925, 950, 975, 1000, 1037, 1050, 1075], 156) := by decide +kernel
theorem dL_law_196 : decode cL_law 196 = .ok (.aload_n 1, 1) := by decide +kernel
theorem dL_law_197 : decode cL_law 197 = .ok (.aload_n 0, 1) := by decide +kernel
theorem dL_law_198 : decode cL_law 198 = .ok (.iload 4, 2) := by decide +kernel
theorem dL_law_200 : decode cL_law 200 = .ok (.iconst 1, 1) := by decide +kernel
theorem dL_law_201 : decode cL_law 201 = .ok (.iadd, 1) := by decide +kernel
theorem dL_law_202 : decode cL_law 202 = .ok (.iaload, 1) := by decide +kernel
theorem dL_law_203 : decode cL_law 203 = .ok (.aload_n 0, 1) := by decide +kernel
theorem dL_law_204 : decode cL_law 204 = .ok (.iload 4, 2) := by decide +kernel
theorem dL_law_206 : decode cL_law 206 = .ok (.iconst 2, 1) := by decide +kernel
theorem dL_law_207 : decode cL_law 207 = .ok (.iadd, 1) := by decide +kernel
theorem dL_law_208 : decode cL_law 208 = .ok (.iaload, 1) := by decide +kernel
theorem dL_law_209 : decode cL_law 209 = .ok (.aload_n 0, 1) := by decide +kernel
theorem dL_law_210 : decode cL_law 210 = .ok (.iload 4, 2) := by decide +kernel
theorem dL_law_212 : decode cL_law 212 = .ok (.iconst 3, 1) := by decide +kernel
theorem dL_law_213 : decode cL_law 213 = .ok (.iadd, 1) := by decide +kernel
theorem dL_law_214 : decode cL_law 214 = .ok (.iaload, 1) := by decide +kernel
theorem dL_law_215 : decode cL_law 215 = .ok (.aload_n 0, 1) := by decide +kernel
theorem dL_law_216 : decode cL_law 216 = .ok (.iload 4, 2) := by decide +kernel
theorem dL_law_218 : decode cL_law 218 = .ok (.iconst 4, 1) := by decide +kernel
theorem dL_law_219 : decode cL_law 219 = .ok (.iadd, 1) := by decide +kernel
theorem dL_law_220 : decode cL_law 220 = .ok (.iaload, 1) := by decide +kernel
theorem dL_law_221 : decode cL_law 221 = .ok (.aload_n 0, 1) := by decide +kernel
theorem dL_law_222 : decode cL_law 222 = .ok (.iload 4, 2) := by decide +kernel
theorem dL_law_224 : decode cL_law 224 = .ok (.iconst 5, 1) := by decide +kernel
theorem dL_law_225 : decode cL_law 225 = .ok (.iadd, 1) := by decide +kernel
theorem dL_law_226 : decode cL_law 226 = .ok (.iaload, 1) := by decide +kernel
theorem dL_law_227 : decode cL_law 227 = .ok (.invokevirtual 26, 3) := by decide +kernel
theorem dL_law_230 : decode cL_law 230 = .ok (.aload_n 2, 1) := by decide +kernel
theorem dL_law_231 : decode cL_law 231 = .ok (.aload_n 0, 1) := by decide +kernel
theorem dL_law_232 : decode cL_law 232 = .ok (.iload 4, 2) := by decide +kernel
theorem dL_law_234 : decode cL_law 234 = .ok (.iconst 1, 1) := by decide +kernel
theorem dL_law_235 : decode cL_law 235 = .ok (.iadd, 1) := by decide +kernel
theorem dL_law_236 : decode cL_law 236 = .ok (.iaload, 1) := by decide +kernel
theorem dL_law_237 : decode cL_law 237 = .ok (.aload_n 0, 1) := by decide +kernel
theorem dL_law_238 : decode cL_law 238 = .ok (.iload 4, 2) := by decide +kernel
theorem dL_law_240 : decode cL_law 240 = .ok (.iconst 2, 1) := by decide +kernel
theorem dL_law_241 : decode cL_law 241 = .ok (.iadd, 1) := by decide +kernel
theorem dL_law_242 : decode cL_law 242 = .ok (.iaload, 1) := by decide +kernel
theorem dL_law_243 : decode cL_law 243 = .ok (.aload_n 0, 1) := by decide +kernel
theorem dL_law_244 : decode cL_law 244 = .ok (.iload 4, 2) := by decide +kernel
theorem dL_law_246 : decode cL_law 246 = .ok (.iconst 3, 1) := by decide +kernel
theorem dL_law_247 : decode cL_law 247 = .ok (.iadd, 1) := by decide +kernel
theorem dL_law_248 : decode cL_law 248 = .ok (.iaload, 1) := by decide +kernel
theorem dL_law_249 : decode cL_law 249 = .ok (.aload_n 0, 1) := by decide +kernel
theorem dL_law_250 : decode cL_law 250 = .ok (.iload 4, 2) := by decide +kernel
theorem dL_law_252 : decode cL_law 252 = .ok (.iconst 4, 1) := by decide +kernel
theorem dL_law_253 : decode cL_law 253 = .ok (.iadd, 1) := by decide +kernel
theorem dL_law_254 : decode cL_law 254 = .ok (.iaload, 1) := by decide +kernel
theorem dL_law_255 : decode cL_law 255 = .ok (.aload_n 0, 1) := by decide +kernel
theorem dL_law_256 : decode cL_law 256 = .ok (.iload 4, 2) := by decide +kernel
theorem dL_law_258 : decode cL_law 258 = .ok (.iconst 5, 1) := by decide +kernel
theorem dL_law_259 : decode cL_law 259 = .ok (.iadd, 1) := by decide +kernel
theorem dL_law_260 : decode cL_law 260 = .ok (.iaload, 1) := by decide +kernel
theorem dL_law_261 : decode cL_law 261 = .ok (.invokevirtual 30, 3) := by decide +kernel
theorem dL_law_264 : decode cL_law 264 = .ok (.if_icmp .eq 876, 3) := by decide +kernel
theorem dL_law_267 : decode cL_law 267 = .ok (.iconst 0, 1) := by decide +kernel
theorem dL_law_268 : decode cL_law 268 = .ok (.ireturn, 1) := by decide +kernel
theorem dL_law_269 : decode cL_law 269 = .ok (.aload_n 1, 1) := by decide +kernel
theorem dL_law_270 : decode cL_law 270 = .ok (.aload_n 0, 1) := by decide +kernel
theorem dL_law_271 : decode cL_law 271 = .ok (.iload 4, 2) := by decide +kernel
theorem dL_law_273 : decode cL_law 273 = .ok (.iconst 1, 1) := by decide +kernel
theorem dL_law_274 : decode cL_law 274 = .ok (.iadd, 1) := by decide +kernel
theorem dL_law_275 : decode cL_law 275 = .ok (.iaload, 1) := by decide +kernel
theorem dL_law_276 : decode cL_law 276 = .ok (.invokevirtual 31, 3) := by decide +kernel
theorem dL_law_279 : decode cL_law 279 = .ok (.aload_n 2, 1) := by decide +kernel
theorem dL_law_280 : decode cL_law 280 = .ok (.aload_n 0, 1) := by decide +kernel
theorem dL_law_281 : decode cL_law 281 = .ok (.iload 4, 2) := by decide +kernel
theorem dL_law_283 : decode cL_law 283 = .ok (.iconst 1, 1) := by decide +kernel
theorem dL_law_284 : decode cL_law 284 = .ok (.iadd, 1) := by decide +kernel
theorem dL_law_285 : decode cL_law 285 = .ok (.iaload, 1) := by decide +kernel
theorem dL_law_286 : decode cL_law 286 = .ok (.invokevirtual 35, 3) := by decide +kernel
theorem dL_law_289 : decode cL_law 289 = .ok (.if_icmp .eq 851, 3) := by decide +kernel
theorem dL_law_292 : decode cL_law 292 = .ok (.iconst 0, 1) := by decide +kernel
theorem dL_law_293 : decode cL_law 293 = .ok (.ireturn, 1) := by decide +kernel
theorem dL_law_294 : decode cL_law 294 = .ok (.aload_n 1, 1) := by decide +kernel
theorem dL_law_295 : decode cL_law 295 = .ok (.invokevirtual 36, 3) := by decide +kernel
theorem dL_law_298 : decode cL_law 298 = .ok (.aload_n 2, 1) := by decide +kernel
theorem dL_law_299 : decode cL_law 299 = .ok (.invokevirtual 40, 3) := by decide +kernel
theorem dL_law_302 : decode cL_law 302 = .ok (.if_icmp .eq 838, 3) := by decide +kernel
theorem dL_law_305 : decode cL_law 305 = .ok (.iconst 0, 1) := by decide +kernel
theorem dL_law_306 : decode cL_law 306 = .ok (.ireturn, 1) := by decide +kernel
theorem dL_law_307 : decode cL_law 307 = .ok (.aload_n 1, 1) := by decide +kernel
theorem dL_law_308 : decode cL_law 308 = .ok (.invokevirtual 41, 3) := by decide +kernel
theorem dL_law_311 : decode cL_law 311 = .ok (.aload_n 2, 1) := by decide +kernel
theorem dL_law_312 : decode cL_law 312 = .ok (.invokevirtual 44, 3) := by decide +kernel
theorem dL_law_315 : decode cL_law 315 = .ok (.if_icmp .eq 825, 3) := by decide +kernel
theorem dL_law_318 : decode cL_law 318 = .ok (.iconst 0, 1) := by decide +kernel
theorem dL_law_319 : decode cL_law 319 = .ok (.ireturn, 1) := by decide +kernel
theorem dL_law_320 : decode cL_law 320 = .ok (.aload_n 1, 1) := by decide +kernel
theorem dL_law_321 : decode cL_law 321 = .ok (.aload_n 0, 1) := by decide +kernel
theorem dL_law_322 : decode cL_law 322 = .ok (.iload 4, 2) := by decide +kernel
theorem dL_law_324 : decode cL_law 324 = .ok (.iconst 1, 1) := by decide +kernel
theorem dL_law_325 : decode cL_law 325 = .ok (.iadd, 1) := by decide +kernel
theorem dL_law_326 : decode cL_law 326 = .ok (.iaload, 1) := by decide +kernel
theorem dL_law_327 : decode cL_law 327 = .ok (.invokevirtual 45, 3) := by decide +kernel
theorem dL_law_330 : decode cL_law 330 = .ok (.aload_n 2, 1) := by decide +kernel
theorem dL_law_331 : decode cL_law 331 = .ok (.aload_n 0, 1) := by decide +kernel
theorem dL_law_332 : decode cL_law 332 = .ok (.iload 4, 2) := by decide +kernel
theorem dL_law_334 : decode cL_law 334 = .ok (.iconst 1, 1) := by decide +kernel
theorem dL_law_335 : decode cL_law 335 = .ok (.iadd, 1) := by decide +kernel
theorem dL_law_336 : decode cL_law 336 = .ok (.iaload, 1) := by decide +kernel
theorem dL_law_337 : decode cL_law 337 = .ok (.invokevirtual 48, 3) := by decide +kernel
theorem dL_law_340 : decode cL_law 340 = .ok (.if_icmp .eq 800, 3) := by decide +kernel
theorem dL_law_343 : decode cL_law 343 = .ok (.iconst 0, 1) := by decide +kernel
theorem dL_law_344 : decode cL_law 344 = .ok (.ireturn, 1) := by decide +kernel
theorem dL_law_345 : decode cL_law 345 = .ok (.aload_n 1, 1) := by decide +kernel
theorem dL_law_346 : decode cL_law 346 = .ok (.aload_n 0, 1) := by decide +kernel
theorem dL_law_347 : decode cL_law 347 = .ok (.iload 4, 2) := by decide +kernel
theorem dL_law_349 : decode cL_law 349 = .ok (.iconst 1, 1) := by decide +kernel
theorem dL_law_350 : decode cL_law 350 = .ok (.iadd, 1) := by decide +kernel
theorem dL_law_351 : decode cL_law 351 = .ok (.iaload, 1) := by decide +kernel
theorem dL_law_352 : decode cL_law 352 = .ok (.aload_n 3, 1) := by decide +kernel
theorem dL_law_353 : decode cL_law 353 = .ok (.invokestatic 49, 3) := by decide +kernel
theorem dL_law_356 : decode cL_law 356 = .ok (.istore 5, 2) := by decide +kernel
theorem dL_law_358 : decode cL_law 358 = .ok (.aload_n 2, 1) := by decide +kernel
theorem dL_law_359 : decode cL_law 359 = .ok (.aload_n 0, 1) := by decide +kernel
theorem dL_law_360 : decode cL_law 360 = .ok (.iload 4, 2) := by decide +kernel
theorem dL_law_362 : decode cL_law 362 = .ok (.iconst 1, 1) := by decide +kernel
theorem dL_law_363 : decode cL_law 363 = .ok (.iadd, 1) := by decide +kernel
theorem dL_law_364 : decode cL_law 364 = .ok (.iaload, 1) := by decide +kernel
theorem dL_law_365 : decode cL_law 365 = .ok (.invokevirtual 54, 3) := by decide +kernel
theorem dL_law_368 : decode cL_law 368 = .ok (.istore 6, 2) := by decide +kernel
theorem dL_law_370 : decode cL_law 370 = .ok (.aload_n 2, 1) := by decide +kernel
theorem dL_law_371 : decode cL_law 371 = .ok (.invokevirtual 55, 3) := by decide +kernel
theorem dL_law_374 : decode cL_law 374 = .ok (.iload 5, 2) := by decide +kernel
theorem dL_law_376 : decode cL_law 376 = .ok (.if_icmp .eq 5, 3) := by decide +kernel
theorem dL_law_379 : decode cL_law 379 = .ok (.iconst 0, 1) := by decide +kernel
theorem dL_law_380 : decode cL_law 380 = .ok (.ireturn, 1) := by decide +kernel
theorem dL_law_381 : decode cL_law 381 = .ok (.iload 5, 2) := by decide +kernel
theorem dL_law_383 : decode cL_law 383 = .ok (.ifCond .ne 15, 3) := by decide +kernel
theorem dL_law_386 : decode cL_law 386 = .ok (.aload_n 3, 1) := by decide +kernel
theorem dL_law_387 : decode cL_law 387 = .ok (.iconst 0, 1) := by decide +kernel
theorem dL_law_388 : decode cL_law 388 = .ok (.laload, 1) := by decide +kernel
theorem dL_law_389 : decode cL_law 389 = .ok (.iload 6, 2) := by decide +kernel
theorem dL_law_391 : decode cL_law 391 = .ok (.i2l, 1) := by decide +kernel
theorem dL_law_392 : decode cL_law 392 = .ok (.lcmp, 1) := by decide +kernel
theorem dL_law_393 : decode cL_law 393 = .ok (.ifCond .eq 5, 3) := by decide +kernel
theorem dL_law_396 : decode cL_law 396 = .ok (.iconst 0, 1) := by decide +kernel
theorem dL_law_397 : decode cL_law 397 = .ok (.ireturn, 1) := by decide +kernel
theorem dL_law_398 : decode cL_law 398 = .ok (.goto 742, 3) := by decide +kernel
theorem dL_law_401 : decode cL_law 401 = .ok (.aload_n 1, 1) := by decide +kernel
theorem dL_law_402 : decode cL_law 402 = .ok (.aload_n 0, 1) := by decide +kernel
theorem dL_law_403 : decode cL_law 403 = .ok (.iload 4, 2) := by decide +kernel
theorem dL_law_405 : decode cL_law 405 = .ok (.iconst 1, 1) := by decide +kernel
theorem dL_law_406 : decode cL_law 406 = .ok (.iadd, 1) := by decide +kernel
theorem dL_law_407 : decode cL_law 407 = .ok (.iaload, 1) := by decide +kernel
theorem dL_law_408 : decode cL_law 408 = .ok (.aload_n 0, 1) := by decide +kernel
theorem dL_law_409 : decode cL_law 409 = .ok (.iload 4, 2) := by decide +kernel
theorem dL_law_411 : decode cL_law 411 = .ok (.iconst 2, 1) := by decide +kernel
theorem dL_law_412 : decode cL_law 412 = .ok (.iadd, 1) := by decide +kernel
theorem dL_law_413 : decode cL_law 413 = .ok (.iaload, 1) := by decide +kernel
theorem dL_law_414 : decode cL_law 414 = .ok (.aload_n 3, 1) := by decide +kernel
theorem dL_law_415 : decode cL_law 415 = .ok (.invokestatic 58, 3) := by decide +kernel
theorem dL_law_418 : decode cL_law 418 = .ok (.istore 5, 2) := by decide +kernel
theorem dL_law_420 : decode cL_law 420 = .ok (.aload_n 2, 1) := by decide +kernel
theorem dL_law_421 : decode cL_law 421 = .ok (.aload_n 0, 1) := by decide +kernel
theorem dL_law_422 : decode cL_law 422 = .ok (.iload 4, 2) := by decide +kernel
theorem dL_law_424 : decode cL_law 424 = .ok (.iconst 1, 1) := by decide +kernel
theorem dL_law_425 : decode cL_law 425 = .ok (.iadd, 1) := by decide +kernel
theorem dL_law_426 : decode cL_law 426 = .ok (.iaload, 1) := by decide +kernel
theorem dL_law_427 : decode cL_law 427 = .ok (.aload_n 0, 1) := by decide +kernel
theorem dL_law_428 : decode cL_law 428 = .ok (.iload 4, 2) := by decide +kernel
theorem dL_law_430 : decode cL_law 430 = .ok (.iconst 2, 1) := by decide +kernel
theorem dL_law_431 : decode cL_law 431 = .ok (.iadd, 1) := by decide +kernel
theorem dL_law_432 : decode cL_law 432 = .ok (.iaload, 1) := by decide +kernel
theorem dL_law_433 : decode cL_law 433 = .ok (.invokevirtual 61, 3) := by decide +kernel
theorem dL_law_436 : decode cL_law 436 = .ok (.istore 6, 2) := by decide +kernel
theorem dL_law_438 : decode cL_law 438 = .ok (.aload_n 2, 1) := by decide +kernel
theorem dL_law_439 : decode cL_law 439 = .ok (.invokevirtual 55, 3) := by decide +kernel
theorem dL_law_442 : decode cL_law 442 = .ok (.iload 5, 2) := by decide +kernel
theorem dL_law_444 : decode cL_law 444 = .ok (.if_icmp .eq 5, 3) := by decide +kernel
theorem dL_law_447 : decode cL_law 447 = .ok (.iconst 0, 1) := by decide +kernel
theorem dL_law_448 : decode cL_law 448 = .ok (.ireturn, 1) := by decide +kernel
theorem dL_law_449 : decode cL_law 449 = .ok (.iload 5, 2) := by decide +kernel
theorem dL_law_451 : decode cL_law 451 = .ok (.ifCond .ne 15, 3) := by decide +kernel
theorem dL_law_454 : decode cL_law 454 = .ok (.aload_n 3, 1) := by decide +kernel
theorem dL_law_455 : decode cL_law 455 = .ok (.iconst 0, 1) := by decide +kernel
theorem dL_law_456 : decode cL_law 456 = .ok (.laload, 1) := by decide +kernel
theorem dL_law_457 : decode cL_law 457 = .ok (.iload 6, 2) := by decide +kernel
theorem dL_law_459 : decode cL_law 459 = .ok (.i2l, 1) := by decide +kernel
theorem dL_law_460 : decode cL_law 460 = .ok (.lcmp, 1) := by decide +kernel
theorem dL_law_461 : decode cL_law 461 = .ok (.ifCond .eq 5, 3) := by decide +kernel
theorem dL_law_464 : decode cL_law 464 = .ok (.iconst 0, 1) := by decide +kernel
theorem dL_law_465 : decode cL_law 465 = .ok (.ireturn, 1) := by decide +kernel
theorem dL_law_466 : decode cL_law 466 = .ok (.goto 674, 3) := by decide +kernel
theorem dL_law_469 : decode cL_law 469 = .ok (.aload_n 1, 1) := by decide +kernel
theorem dL_law_470 : decode cL_law 470 = .ok (.aload_n 0, 1) := by decide +kernel
theorem dL_law_471 : decode cL_law 471 = .ok (.iload 4, 2) := by decide +kernel
theorem dL_law_473 : decode cL_law 473 = .ok (.iconst 1, 1) := by decide +kernel
theorem dL_law_474 : decode cL_law 474 = .ok (.iadd, 1) := by decide +kernel
theorem dL_law_475 : decode cL_law 475 = .ok (.iaload, 1) := by decide +kernel
theorem dL_law_476 : decode cL_law 476 = .ok (.aload_n 0, 1) := by decide +kernel
theorem dL_law_477 : decode cL_law 477 = .ok (.iload 4, 2) := by decide +kernel
theorem dL_law_479 : decode cL_law 479 = .ok (.iconst 2, 1) := by decide +kernel
theorem dL_law_480 : decode cL_law 480 = .ok (.iadd, 1) := by decide +kernel
theorem dL_law_481 : decode cL_law 481 = .ok (.iaload, 1) := by decide +kernel
theorem dL_law_482 : decode cL_law 482 = .ok (.invokevirtual 62, 3) := by decide +kernel
theorem dL_law_485 : decode cL_law 485 = .ok (.aload_n 2, 1) := by decide +kernel
theorem dL_law_486 : decode cL_law 486 = .ok (.aload_n 0, 1) := by decide +kernel
theorem dL_law_487 : decode cL_law 487 = .ok (.iload 4, 2) := by decide +kernel
theorem dL_law_489 : decode cL_law 489 = .ok (.iconst 1, 1) := by decide +kernel
theorem dL_law_490 : decode cL_law 490 = .ok (.iadd, 1) := by decide +kernel
theorem dL_law_491 : decode cL_law 491 = .ok (.iaload, 1) := by decide +kernel
theorem dL_law_492 : decode cL_law 492 = .ok (.aload_n 0, 1) := by decide +kernel
theorem dL_law_493 : decode cL_law 493 = .ok (.iload 4, 2) := by decide +kernel
theorem dL_law_495 : decode cL_law 495 = .ok (.iconst 2, 1) := by decide +kernel
theorem dL_law_496 : decode cL_law 496 = .ok (.iadd, 1) := by decide +kernel
theorem dL_law_497 : decode cL_law 497 = .ok (.iaload, 1) := by decide +kernel
theorem dL_law_498 : decode cL_law 498 = .ok (.invokevirtual 65, 3) := by decide +kernel
theorem dL_law_501 : decode cL_law 501 = .ok (.if_icmp .eq 639, 3) := by decide +kernel
theorem dL_law_504 : decode cL_law 504 = .ok (.iconst 0, 1) := by decide +kernel
theorem dL_law_505 : decode cL_law 505 = .ok (.ireturn, 1) := by decide +kernel
theorem dL_law_506 : decode cL_law 506 = .ok (.aload_n 1, 1) := by decide +kernel
theorem dL_law_507 : decode cL_law 507 = .ok (.aload_n 0, 1) := by decide +kernel
theorem dL_law_508 : decode cL_law 508 = .ok (.iload 4, 2) := by decide +kernel
theorem dL_law_510 : decode cL_law 510 = .ok (.iconst 1, 1) := by decide +kernel
theorem dL_law_511 : decode cL_law 511 = .ok (.iadd, 1) := by decide +kernel
theorem dL_law_512 : decode cL_law 512 = .ok (.iaload, 1) := by decide +kernel
theorem dL_law_513 : decode cL_law 513 = .ok (.aload_n 0, 1) := by decide +kernel
theorem dL_law_514 : decode cL_law 514 = .ok (.iload 4, 2) := by decide +kernel
theorem dL_law_516 : decode cL_law 516 = .ok (.iconst 2, 1) := by decide +kernel
theorem dL_law_517 : decode cL_law 517 = .ok (.iadd, 1) := by decide +kernel
theorem dL_law_518 : decode cL_law 518 = .ok (.iaload, 1) := by decide +kernel
theorem dL_law_519 : decode cL_law 519 = .ok (.invokevirtual 66, 3) := by decide +kernel
theorem dL_law_522 : decode cL_law 522 = .ok (.aload_n 2, 1) := by decide +kernel
theorem dL_law_523 : decode cL_law 523 = .ok (.aload_n 0, 1) := by decide +kernel
theorem dL_law_524 : decode cL_law 524 = .ok (.iload 4, 2) := by decide +kernel
theorem dL_law_526 : decode cL_law 526 = .ok (.iconst 1, 1) := by decide +kernel
theorem dL_law_527 : decode cL_law 527 = .ok (.iadd, 1) := by decide +kernel
theorem dL_law_528 : decode cL_law 528 = .ok (.iaload, 1) := by decide +kernel
theorem dL_law_529 : decode cL_law 529 = .ok (.aload_n 0, 1) := by decide +kernel
theorem dL_law_530 : decode cL_law 530 = .ok (.iload 4, 2) := by decide +kernel
theorem dL_law_532 : decode cL_law 532 = .ok (.iconst 2, 1) := by decide +kernel
theorem dL_law_533 : decode cL_law 533 = .ok (.iadd, 1) := by decide +kernel
theorem dL_law_534 : decode cL_law 534 = .ok (.iaload, 1) := by decide +kernel
theorem dL_law_535 : decode cL_law 535 = .ok (.invokevirtual 69, 3) := by decide +kernel
theorem dL_law_538 : decode cL_law 538 = .ok (.if_icmp .eq 602, 3) := by decide +kernel
theorem dL_law_541 : decode cL_law 541 = .ok (.iconst 0, 1) := by decide +kernel
theorem dL_law_542 : decode cL_law 542 = .ok (.ireturn, 1) := by decide +kernel
theorem dL_law_543 : decode cL_law 543 = .ok (.aload_n 1, 1) := by decide +kernel
theorem dL_law_544 : decode cL_law 544 = .ok (.aload_n 0, 1) := by decide +kernel
theorem dL_law_545 : decode cL_law 545 = .ok (.iload 4, 2) := by decide +kernel
theorem dL_law_547 : decode cL_law 547 = .ok (.iconst 1, 1) := by decide +kernel
theorem dL_law_548 : decode cL_law 548 = .ok (.iadd, 1) := by decide +kernel
theorem dL_law_549 : decode cL_law 549 = .ok (.iaload, 1) := by decide +kernel
theorem dL_law_550 : decode cL_law 550 = .ok (.invokevirtual 70, 3) := by decide +kernel
theorem dL_law_553 : decode cL_law 553 = .ok (.aload_n 2, 1) := by decide +kernel
theorem dL_law_554 : decode cL_law 554 = .ok (.aload_n 0, 1) := by decide +kernel
theorem dL_law_555 : decode cL_law 555 = .ok (.iload 4, 2) := by decide +kernel
theorem dL_law_557 : decode cL_law 557 = .ok (.iconst 1, 1) := by decide +kernel
theorem dL_law_558 : decode cL_law 558 = .ok (.iadd, 1) := by decide +kernel
theorem dL_law_559 : decode cL_law 559 = .ok (.iaload, 1) := by decide +kernel
theorem dL_law_560 : decode cL_law 560 = .ok (.invokevirtual 73, 3) := by decide +kernel
theorem dL_law_563 : decode cL_law 563 = .ok (.if_icmp .eq 577, 3) := by decide +kernel
theorem dL_law_566 : decode cL_law 566 = .ok (.iconst 0, 1) := by decide +kernel
theorem dL_law_567 : decode cL_law 567 = .ok (.ireturn, 1) := by decide +kernel
theorem dL_law_568 : decode cL_law 568 = .ok (.aload_n 1, 1) := by decide +kernel
theorem dL_law_569 : decode cL_law 569 = .ok (.aload_n 0, 1) := by decide +kernel
theorem dL_law_570 : decode cL_law 570 = .ok (.iload 4, 2) := by decide +kernel
theorem dL_law_572 : decode cL_law 572 = .ok (.iconst 1, 1) := by decide +kernel
theorem dL_law_573 : decode cL_law 573 = .ok (.iadd, 1) := by decide +kernel
theorem dL_law_574 : decode cL_law 574 = .ok (.iaload, 1) := by decide +kernel
theorem dL_law_575 : decode cL_law 575 = .ok (.invokevirtual 74, 3) := by decide +kernel
theorem dL_law_578 : decode cL_law 578 = .ok (.aload_n 2, 1) := by decide +kernel
theorem dL_law_579 : decode cL_law 579 = .ok (.aload_n 0, 1) := by decide +kernel
theorem dL_law_580 : decode cL_law 580 = .ok (.iload 4, 2) := by decide +kernel
theorem dL_law_582 : decode cL_law 582 = .ok (.iconst 1, 1) := by decide +kernel
theorem dL_law_583 : decode cL_law 583 = .ok (.iadd, 1) := by decide +kernel
theorem dL_law_584 : decode cL_law 584 = .ok (.iaload, 1) := by decide +kernel
theorem dL_law_585 : decode cL_law 585 = .ok (.invokevirtual 77, 3) := by decide +kernel
theorem dL_law_588 : decode cL_law 588 = .ok (.if_icmp .eq 552, 3) := by decide +kernel
theorem dL_law_591 : decode cL_law 591 = .ok (.iconst 0, 1) := by decide +kernel
theorem dL_law_592 : decode cL_law 592 = .ok (.ireturn, 1) := by decide +kernel
theorem dL_law_593 : decode cL_law 593 = .ok (.aload_n 1, 1) := by decide +kernel
theorem dL_law_594 : decode cL_law 594 = .ok (.invokevirtual 78, 3) := by decide +kernel
theorem dL_law_597 : decode cL_law 597 = .ok (.aload_n 2, 1) := by decide +kernel
theorem dL_law_598 : decode cL_law 598 = .ok (.invokevirtual 81, 3) := by decide +kernel
theorem dL_law_601 : decode cL_law 601 = .ok (.if_icmp .eq 539, 3) := by decide +kernel
theorem dL_law_604 : decode cL_law 604 = .ok (.iconst 0, 1) := by decide +kernel
theorem dL_law_605 : decode cL_law 605 = .ok (.ireturn, 1) := by decide +kernel
theorem dL_law_606 : decode cL_law 606 = .ok (.aload_n 1, 1) := by decide +kernel
theorem dL_law_607 : decode cL_law 607 = .ok (.invokevirtual 82, 3) := by decide +kernel
theorem dL_law_610 : decode cL_law 610 = .ok (.aload_n 2, 1) := by decide +kernel
theorem dL_law_611 : decode cL_law 611 = .ok (.invokevirtual 85, 3) := by decide +kernel
theorem dL_law_614 : decode cL_law 614 = .ok (.if_icmp .eq 526, 3) := by decide +kernel
theorem dL_law_617 : decode cL_law 617 = .ok (.iconst 0, 1) := by decide +kernel
theorem dL_law_618 : decode cL_law 618 = .ok (.ireturn, 1) := by decide +kernel
theorem dL_law_619 : decode cL_law 619 = .ok (.aload_n 1, 1) := by decide +kernel
theorem dL_law_620 : decode cL_law 620 = .ok (.aload_n 0, 1) := by decide +kernel
theorem dL_law_621 : decode cL_law 621 = .ok (.iload 4, 2) := by decide +kernel
theorem dL_law_623 : decode cL_law 623 = .ok (.iconst 1, 1) := by decide +kernel
theorem dL_law_624 : decode cL_law 624 = .ok (.iadd, 1) := by decide +kernel
theorem dL_law_625 : decode cL_law 625 = .ok (.iaload, 1) := by decide +kernel
theorem dL_law_626 : decode cL_law 626 = .ok (.invokevirtual 86, 3) := by decide +kernel
theorem dL_law_629 : decode cL_law 629 = .ok (.aload_n 2, 1) := by decide +kernel
theorem dL_law_630 : decode cL_law 630 = .ok (.aload_n 0, 1) := by decide +kernel
theorem dL_law_631 : decode cL_law 631 = .ok (.iload 4, 2) := by decide +kernel
theorem dL_law_633 : decode cL_law 633 = .ok (.iconst 1, 1) := by decide +kernel
theorem dL_law_634 : decode cL_law 634 = .ok (.iadd, 1) := by decide +kernel
theorem dL_law_635 : decode cL_law 635 = .ok (.iaload, 1) := by decide +kernel
theorem dL_law_636 : decode cL_law 636 = .ok (.invokevirtual 89, 3) := by decide +kernel
theorem dL_law_639 : decode cL_law 639 = .ok (.if_icmp .eq 501, 3) := by decide +kernel
theorem dL_law_642 : decode cL_law 642 = .ok (.iconst 0, 1) := by decide +kernel
theorem dL_law_643 : decode cL_law 643 = .ok (.ireturn, 1) := by decide +kernel
theorem dL_law_644 : decode cL_law 644 = .ok (.aload_n 1, 1) := by decide +kernel
theorem dL_law_645 : decode cL_law 645 = .ok (.aload_n 0, 1) := by decide +kernel
theorem dL_law_646 : decode cL_law 646 = .ok (.iload 4, 2) := by decide +kernel
theorem dL_law_648 : decode cL_law 648 = .ok (.iconst 1, 1) := by decide +kernel
theorem dL_law_649 : decode cL_law 649 = .ok (.iadd, 1) := by decide +kernel
theorem dL_law_650 : decode cL_law 650 = .ok (.iaload, 1) := by decide +kernel
theorem dL_law_651 : decode cL_law 651 = .ok (.invokevirtual 90, 3) := by decide +kernel
theorem dL_law_654 : decode cL_law 654 = .ok (.aload_n 2, 1) := by decide +kernel
theorem dL_law_655 : decode cL_law 655 = .ok (.aload_n 0, 1) := by decide +kernel
theorem dL_law_656 : decode cL_law 656 = .ok (.iload 4, 2) := by decide +kernel
theorem dL_law_658 : decode cL_law 658 = .ok (.iconst 1, 1) := by decide +kernel
theorem dL_law_659 : decode cL_law 659 = .ok (.iadd, 1) := by decide +kernel
theorem dL_law_660 : decode cL_law 660 = .ok (.iaload, 1) := by decide +kernel
theorem dL_law_661 : decode cL_law 661 = .ok (.invokevirtual 93, 3) := by decide +kernel
theorem dL_law_664 : decode cL_law 664 = .ok (.if_icmp .eq 476, 3) := by decide +kernel
theorem dL_law_667 : decode cL_law 667 = .ok (.iconst 0, 1) := by decide +kernel
theorem dL_law_668 : decode cL_law 668 = .ok (.ireturn, 1) := by decide +kernel
theorem dL_law_669 : decode cL_law 669 = .ok (.aload_n 1, 1) := by decide +kernel
theorem dL_law_670 : decode cL_law 670 = .ok (.aload_n 0, 1) := by decide +kernel
theorem dL_law_671 : decode cL_law 671 = .ok (.iload 4, 2) := by decide +kernel
theorem dL_law_673 : decode cL_law 673 = .ok (.iconst 1, 1) := by decide +kernel
theorem dL_law_674 : decode cL_law 674 = .ok (.iadd, 1) := by decide +kernel
theorem dL_law_675 : decode cL_law 675 = .ok (.iaload, 1) := by decide +kernel
theorem dL_law_676 : decode cL_law 676 = .ok (.aload_n 0, 1) := by decide +kernel
theorem dL_law_677 : decode cL_law 677 = .ok (.iload 4, 2) := by decide +kernel
theorem dL_law_679 : decode cL_law 679 = .ok (.iconst 2, 1) := by decide +kernel
theorem dL_law_680 : decode cL_law 680 = .ok (.iadd, 1) := by decide +kernel
theorem dL_law_681 : decode cL_law 681 = .ok (.iaload, 1) := by decide +kernel
theorem dL_law_682 : decode cL_law 682 = .ok (.aload_n 3, 1) := by decide +kernel
theorem dL_law_683 : decode cL_law 683 = .ok (.invokestatic 94, 3) := by decide +kernel
theorem dL_law_686 : decode cL_law 686 = .ok (.istore 5, 2) := by decide +kernel
theorem dL_law_688 : decode cL_law 688 = .ok (.aload_n 2, 1) := by decide +kernel
theorem dL_law_689 : decode cL_law 689 = .ok (.aload_n 0, 1) := by decide +kernel
theorem dL_law_690 : decode cL_law 690 = .ok (.iload 4, 2) := by decide +kernel
theorem dL_law_692 : decode cL_law 692 = .ok (.iconst 1, 1) := by decide +kernel
theorem dL_law_693 : decode cL_law 693 = .ok (.iadd, 1) := by decide +kernel
theorem dL_law_694 : decode cL_law 694 = .ok (.iaload, 1) := by decide +kernel
theorem dL_law_695 : decode cL_law 695 = .ok (.aload_n 0, 1) := by decide +kernel
theorem dL_law_696 : decode cL_law 696 = .ok (.iload 4, 2) := by decide +kernel
theorem dL_law_698 : decode cL_law 698 = .ok (.iconst 2, 1) := by decide +kernel
theorem dL_law_699 : decode cL_law 699 = .ok (.iadd, 1) := by decide +kernel
theorem dL_law_700 : decode cL_law 700 = .ok (.iaload, 1) := by decide +kernel
theorem dL_law_701 : decode cL_law 701 = .ok (.invokevirtual 96, 3) := by decide +kernel
theorem dL_law_704 : decode cL_law 704 = .ok (.istore 6, 2) := by decide +kernel
theorem dL_law_706 : decode cL_law 706 = .ok (.aload_n 2, 1) := by decide +kernel
theorem dL_law_707 : decode cL_law 707 = .ok (.invokevirtual 55, 3) := by decide +kernel
theorem dL_law_710 : decode cL_law 710 = .ok (.iload 5, 2) := by decide +kernel
theorem dL_law_712 : decode cL_law 712 = .ok (.if_icmp .eq 5, 3) := by decide +kernel
theorem dL_law_715 : decode cL_law 715 = .ok (.iconst 0, 1) := by decide +kernel
theorem dL_law_716 : decode cL_law 716 = .ok (.ireturn, 1) := by decide +kernel
theorem dL_law_717 : decode cL_law 717 = .ok (.iload 5, 2) := by decide +kernel
theorem dL_law_719 : decode cL_law 719 = .ok (.ifCond .ne 15, 3) := by decide +kernel
theorem dL_law_722 : decode cL_law 722 = .ok (.aload_n 3, 1) := by decide +kernel
theorem dL_law_723 : decode cL_law 723 = .ok (.iconst 0, 1) := by decide +kernel
theorem dL_law_724 : decode cL_law 724 = .ok (.laload, 1) := by decide +kernel
theorem dL_law_725 : decode cL_law 725 = .ok (.iload 6, 2) := by decide +kernel
theorem dL_law_727 : decode cL_law 727 = .ok (.i2l, 1) := by decide +kernel
theorem dL_law_728 : decode cL_law 728 = .ok (.lcmp, 1) := by decide +kernel
theorem dL_law_729 : decode cL_law 729 = .ok (.ifCond .eq 5, 3) := by decide +kernel
theorem dL_law_732 : decode cL_law 732 = .ok (.iconst 0, 1) := by decide +kernel
theorem dL_law_733 : decode cL_law 733 = .ok (.ireturn, 1) := by decide +kernel
theorem dL_law_734 : decode cL_law 734 = .ok (.goto 406, 3) := by decide +kernel
theorem dL_law_737 : decode cL_law 737 = .ok (.aload_n 1, 1) := by decide +kernel
theorem dL_law_738 : decode cL_law 738 = .ok (.invokevirtual 97, 3) := by decide +kernel
theorem dL_law_741 : decode cL_law 741 = .ok (.aload_n 2, 1) := by decide +kernel
theorem dL_law_742 : decode cL_law 742 = .ok (.invokevirtual 100, 3) := by decide +kernel
theorem dL_law_745 : decode cL_law 745 = .ok (.if_icmp .eq 395, 3) := by decide +kernel
theorem dL_law_748 : decode cL_law 748 = .ok (.iconst 0, 1) := by decide +kernel
theorem dL_law_749 : decode cL_law 749 = .ok (.ireturn, 1) := by decide +kernel
theorem dL_law_750 : decode cL_law 750 = .ok (.aload_n 1, 1) := by decide +kernel
theorem dL_law_751 : decode cL_law 751 = .ok (.invokevirtual 101, 3) := by decide +kernel
theorem dL_law_754 : decode cL_law 754 = .ok (.aload_n 2, 1) := by decide +kernel
theorem dL_law_755 : decode cL_law 755 = .ok (.invokevirtual 104, 3) := by decide +kernel
theorem dL_law_758 : decode cL_law 758 = .ok (.if_icmp .eq 382, 3) := by decide +kernel
theorem dL_law_761 : decode cL_law 761 = .ok (.iconst 0, 1) := by decide +kernel
theorem dL_law_762 : decode cL_law 762 = .ok (.ireturn, 1) := by decide +kernel
theorem dL_law_763 : decode cL_law 763 = .ok (.aload_n 1, 1) := by decide +kernel
theorem dL_law_764 : decode cL_law 764 = .ok (.aload_n 0, 1) := by decide +kernel
theorem dL_law_765 : decode cL_law 765 = .ok (.iload 4, 2) := by decide +kernel
theorem dL_law_767 : decode cL_law 767 = .ok (.iconst 1, 1) := by decide +kernel
theorem dL_law_768 : decode cL_law 768 = .ok (.iadd, 1) := by decide +kernel
theorem dL_law_769 : decode cL_law 769 = .ok (.iaload, 1) := by decide +kernel
theorem dL_law_770 : decode cL_law 770 = .ok (.invokevirtual 105, 3) := by decide +kernel
theorem dL_law_773 : decode cL_law 773 = .ok (.aload_n 2, 1) := by decide +kernel
theorem dL_law_774 : decode cL_law 774 = .ok (.aload_n 0, 1) := by decide +kernel
theorem dL_law_775 : decode cL_law 775 = .ok (.iload 4, 2) := by decide +kernel
theorem dL_law_777 : decode cL_law 777 = .ok (.iconst 1, 1) := by decide +kernel
theorem dL_law_778 : decode cL_law 778 = .ok (.iadd, 1) := by decide +kernel
theorem dL_law_779 : decode cL_law 779 = .ok (.iaload, 1) := by decide +kernel
theorem dL_law_780 : decode cL_law 780 = .ok (.invokevirtual 108, 3) := by decide +kernel
theorem dL_law_783 : decode cL_law 783 = .ok (.if_icmp .eq 357, 3) := by decide +kernel
theorem dL_law_786 : decode cL_law 786 = .ok (.iconst 0, 1) := by decide +kernel
theorem dL_law_787 : decode cL_law 787 = .ok (.ireturn, 1) := by decide +kernel
theorem dL_law_788 : decode cL_law 788 = .ok (.aload_n 1, 1) := by decide +kernel
theorem dL_law_789 : decode cL_law 789 = .ok (.aload_n 0, 1) := by decide +kernel
theorem dL_law_790 : decode cL_law 790 = .ok (.iload 4, 2) := by decide +kernel
theorem dL_law_792 : decode cL_law 792 = .ok (.iconst 1, 1) := by decide +kernel
theorem dL_law_793 : decode cL_law 793 = .ok (.iadd, 1) := by decide +kernel
theorem dL_law_794 : decode cL_law 794 = .ok (.iaload, 1) := by decide +kernel
theorem dL_law_795 : decode cL_law 795 = .ok (.aload_n 0, 1) := by decide +kernel
theorem dL_law_796 : decode cL_law 796 = .ok (.iload 4, 2) := by decide +kernel
theorem dL_law_798 : decode cL_law 798 = .ok (.iconst 2, 1) := by decide +kernel
theorem dL_law_799 : decode cL_law 799 = .ok (.iadd, 1) := by decide +kernel
theorem dL_law_800 : decode cL_law 800 = .ok (.iaload, 1) := by decide +kernel
theorem dL_law_801 : decode cL_law 801 = .ok (.aload_n 0, 1) := by decide +kernel
theorem dL_law_802 : decode cL_law 802 = .ok (.iload 4, 2) := by decide +kernel
theorem dL_law_804 : decode cL_law 804 = .ok (.iconst 3, 1) := by decide +kernel
theorem dL_law_805 : decode cL_law 805 = .ok (.iadd, 1) := by decide +kernel
theorem dL_law_806 : decode cL_law 806 = .ok (.iaload, 1) := by decide +kernel
theorem dL_law_807 : decode cL_law 807 = .ok (.invokevirtual 109, 3) := by decide +kernel
theorem dL_law_810 : decode cL_law 810 = .ok (.aload_n 2, 1) := by decide +kernel
theorem dL_law_811 : decode cL_law 811 = .ok (.aload_n 0, 1) := by decide +kernel
theorem dL_law_812 : decode cL_law 812 = .ok (.iload 4, 2) := by decide +kernel
theorem dL_law_814 : decode cL_law 814 = .ok (.iconst 1, 1) := by decide +kernel
theorem dL_law_815 : decode cL_law 815 = .ok (.iadd, 1) := by decide +kernel
theorem dL_law_816 : decode cL_law 816 = .ok (.iaload, 1) := by decide +kernel
theorem dL_law_817 : decode cL_law 817 = .ok (.aload_n 0, 1) := by decide +kernel
theorem dL_law_818 : decode cL_law 818 = .ok (.iload 4, 2) := by decide +kernel
theorem dL_law_820 : decode cL_law 820 = .ok (.iconst 2, 1) := by decide +kernel
theorem dL_law_821 : decode cL_law 821 = .ok (.iadd, 1) := by decide +kernel
theorem dL_law_822 : decode cL_law 822 = .ok (.iaload, 1) := by decide +kernel
theorem dL_law_823 : decode cL_law 823 = .ok (.aload_n 0, 1) := by decide +kernel
theorem dL_law_824 : decode cL_law 824 = .ok (.iload 4, 2) := by decide +kernel
theorem dL_law_826 : decode cL_law 826 = .ok (.iconst 3, 1) := by decide +kernel
theorem dL_law_827 : decode cL_law 827 = .ok (.iadd, 1) := by decide +kernel
theorem dL_law_828 : decode cL_law 828 = .ok (.iaload, 1) := by decide +kernel
theorem dL_law_829 : decode cL_law 829 = .ok (.invokevirtual 113, 3) := by decide +kernel
theorem dL_law_832 : decode cL_law 832 = .ok (.if_icmp .eq 308, 3) := by decide +kernel
theorem dL_law_835 : decode cL_law 835 = .ok (.iconst 0, 1) := by decide +kernel
theorem dL_law_836 : decode cL_law 836 = .ok (.ireturn, 1) := by decide +kernel
theorem dL_law_837 : decode cL_law 837 = .ok (.aload_n 1, 1) := by decide +kernel
theorem dL_law_838 : decode cL_law 838 = .ok (.invokevirtual 114, 3) := by decide +kernel
theorem dL_law_841 : decode cL_law 841 = .ok (.aload_n 2, 1) := by decide +kernel
theorem dL_law_842 : decode cL_law 842 = .ok (.invokevirtual 117, 3) := by decide +kernel
theorem dL_law_845 : decode cL_law 845 = .ok (.if_icmp .eq 295, 3) := by decide +kernel
theorem dL_law_848 : decode cL_law 848 = .ok (.iconst 0, 1) := by decide +kernel
theorem dL_law_849 : decode cL_law 849 = .ok (.ireturn, 1) := by decide +kernel
theorem dL_law_850 : decode cL_law 850 = .ok (.aload_n 1, 1) := by decide +kernel
theorem dL_law_851 : decode cL_law 851 = .ok (.invokevirtual 118, 3) := by decide +kernel
theorem dL_law_854 : decode cL_law 854 = .ok (.aload_n 2, 1) := by decide +kernel
theorem dL_law_855 : decode cL_law 855 = .ok (.invokevirtual 121, 3) := by decide +kernel
theorem dL_law_858 : decode cL_law 858 = .ok (.if_icmp .eq 282, 3) := by decide +kernel
theorem dL_law_861 : decode cL_law 861 = .ok (.iconst 0, 1) := by decide +kernel
theorem dL_law_862 : decode cL_law 862 = .ok (.ireturn, 1) := by decide +kernel
theorem dL_law_863 : decode cL_law 863 = .ok (.aload_n 1, 1) := by decide +kernel
theorem dL_law_864 : decode cL_law 864 = .ok (.invokevirtual 122, 3) := by decide +kernel
theorem dL_law_867 : decode cL_law 867 = .ok (.aload_n 2, 1) := by decide +kernel
theorem dL_law_868 : decode cL_law 868 = .ok (.invokevirtual 125, 3) := by decide +kernel
theorem dL_law_871 : decode cL_law 871 = .ok (.if_icmp .eq 269, 3) := by decide +kernel
theorem dL_law_874 : decode cL_law 874 = .ok (.iconst 0, 1) := by decide +kernel
theorem dL_law_875 : decode cL_law 875 = .ok (.ireturn, 1) := by decide +kernel
theorem dL_law_876 : decode cL_law 876 = .ok (.aload_n 1, 1) := by decide +kernel
theorem dL_law_877 : decode cL_law 877 = .ok (.invokevirtual 126, 3) := by decide +kernel
theorem dL_law_880 : decode cL_law 880 = .ok (.aload_n 2, 1) := by decide +kernel
theorem dL_law_881 : decode cL_law 881 = .ok (.invokevirtual 129, 3) := by decide +kernel
theorem dL_law_884 : decode cL_law 884 = .ok (.if_icmp .eq 256, 3) := by decide +kernel
theorem dL_law_887 : decode cL_law 887 = .ok (.iconst 0, 1) := by decide +kernel
theorem dL_law_888 : decode cL_law 888 = .ok (.ireturn, 1) := by decide +kernel
theorem dL_law_889 : decode cL_law 889 = .ok (.aload_n 1, 1) := by decide +kernel
theorem dL_law_890 : decode cL_law 890 = .ok (.aload_n 0, 1) := by decide +kernel
theorem dL_law_891 : decode cL_law 891 = .ok (.iload 4, 2) := by decide +kernel
theorem dL_law_893 : decode cL_law 893 = .ok (.iconst 1, 1) := by decide +kernel
theorem dL_law_894 : decode cL_law 894 = .ok (.iadd, 1) := by decide +kernel
theorem dL_law_895 : decode cL_law 895 = .ok (.iaload, 1) := by decide +kernel
theorem dL_law_896 : decode cL_law 896 = .ok (.invokevirtual 130, 3) := by decide +kernel
theorem dL_law_899 : decode cL_law 899 = .ok (.aload_n 2, 1) := by decide +kernel
theorem dL_law_900 : decode cL_law 900 = .ok (.aload_n 0, 1) := by decide +kernel
theorem dL_law_901 : decode cL_law 901 = .ok (.iload 4, 2) := by decide +kernel
theorem dL_law_903 : decode cL_law 903 = .ok (.iconst 1, 1) := by decide +kernel
theorem dL_law_904 : decode cL_law 904 = .ok (.iadd, 1) := by decide +kernel
theorem dL_law_905 : decode cL_law 905 = .ok (.iaload, 1) := by decide +kernel
theorem dL_law_906 : decode cL_law 906 = .ok (.invokevirtual 133, 3) := by decide +kernel
theorem dL_law_909 : decode cL_law 909 = .ok (.if_icmp .eq 231, 3) := by decide +kernel
theorem dL_law_912 : decode cL_law 912 = .ok (.iconst 0, 1) := by decide +kernel
theorem dL_law_913 : decode cL_law 913 = .ok (.ireturn, 1) := by decide +kernel
theorem dL_law_914 : decode cL_law 914 = .ok (.aload_n 1, 1) := by decide +kernel
theorem dL_law_915 : decode cL_law 915 = .ok (.aload_n 0, 1) := by decide +kernel
theorem dL_law_916 : decode cL_law 916 = .ok (.iload 4, 2) := by decide +kernel
theorem dL_law_918 : decode cL_law 918 = .ok (.iconst 1, 1) := by decide +kernel
theorem dL_law_919 : decode cL_law 919 = .ok (.iadd, 1) := by decide +kernel
theorem dL_law_920 : decode cL_law 920 = .ok (.iaload, 1) := by decide +kernel
theorem dL_law_921 : decode cL_law 921 = .ok (.invokevirtual 134, 3) := by decide +kernel
theorem dL_law_924 : decode cL_law 924 = .ok (.aload_n 2, 1) := by decide +kernel
theorem dL_law_925 : decode cL_law 925 = .ok (.aload_n 0, 1) := by decide +kernel
theorem dL_law_926 : decode cL_law 926 = .ok (.iload 4, 2) := by decide +kernel
theorem dL_law_928 : decode cL_law 928 = .ok (.iconst 1, 1) := by decide +kernel
theorem dL_law_929 : decode cL_law 929 = .ok (.iadd, 1) := by decide +kernel
theorem dL_law_930 : decode cL_law 930 = .ok (.iaload, 1) := by decide +kernel
theorem dL_law_931 : decode cL_law 931 = .ok (.invokevirtual 137, 3) := by decide +kernel
theorem dL_law_934 : decode cL_law 934 = .ok (.if_icmp .eq 206, 3) := by decide +kernel
theorem dL_law_937 : decode cL_law 937 = .ok (.iconst 0, 1) := by decide +kernel
theorem dL_law_938 : decode cL_law 938 = .ok (.ireturn, 1) := by decide +kernel
theorem dL_law_939 : decode cL_law 939 = .ok (.aload_n 1, 1) := by decide +kernel
theorem dL_law_940 : decode cL_law 940 = .ok (.invokevirtual 138, 3) := by decide +kernel
theorem dL_law_943 : decode cL_law 943 = .ok (.aload_n 2, 1) := by decide +kernel
theorem dL_law_944 : decode cL_law 944 = .ok (.invokevirtual 141, 3) := by decide +kernel
theorem dL_law_947 : decode cL_law 947 = .ok (.if_icmp .eq 193, 3) := by decide +kernel
theorem dL_law_950 : decode cL_law 950 = .ok (.iconst 0, 1) := by decide +kernel
theorem dL_law_951 : decode cL_law 951 = .ok (.ireturn, 1) := by decide +kernel
theorem dL_law_952 : decode cL_law 952 = .ok (.aload_n 1, 1) := by decide +kernel
theorem dL_law_953 : decode cL_law 953 = .ok (.invokevirtual 142, 3) := by decide +kernel
theorem dL_law_956 : decode cL_law 956 = .ok (.aload_n 2, 1) := by decide +kernel
theorem dL_law_957 : decode cL_law 957 = .ok (.invokevirtual 145, 3) := by decide +kernel
theorem dL_law_960 : decode cL_law 960 = .ok (.if_icmp .eq 180, 3) := by decide +kernel
theorem dL_law_963 : decode cL_law 963 = .ok (.iconst 0, 1) := by decide +kernel
theorem dL_law_964 : decode cL_law 964 = .ok (.ireturn, 1) := by decide +kernel
theorem dL_law_965 : decode cL_law 965 = .ok (.aload_n 1, 1) := by decide +kernel
theorem dL_law_966 : decode cL_law 966 = .ok (.aload_n 0, 1) := by decide +kernel
theorem dL_law_967 : decode cL_law 967 = .ok (.iload 4, 2) := by decide +kernel
theorem dL_law_969 : decode cL_law 969 = .ok (.iconst 1, 1) := by decide +kernel
theorem dL_law_970 : decode cL_law 970 = .ok (.iadd, 1) := by decide +kernel
theorem dL_law_971 : decode cL_law 971 = .ok (.iaload, 1) := by decide +kernel
theorem dL_law_972 : decode cL_law 972 = .ok (.invokevirtual 146, 3) := by decide +kernel
theorem dL_law_975 : decode cL_law 975 = .ok (.aload_n 2, 1) := by decide +kernel
theorem dL_law_976 : decode cL_law 976 = .ok (.aload_n 0, 1) := by decide +kernel
theorem dL_law_977 : decode cL_law 977 = .ok (.iload 4, 2) := by decide +kernel
theorem dL_law_979 : decode cL_law 979 = .ok (.iconst 1, 1) := by decide +kernel
theorem dL_law_980 : decode cL_law 980 = .ok (.iadd, 1) := by decide +kernel
theorem dL_law_981 : decode cL_law 981 = .ok (.iaload, 1) := by decide +kernel
theorem dL_law_982 : decode cL_law 982 = .ok (.invokevirtual 149, 3) := by decide +kernel
theorem dL_law_985 : decode cL_law 985 = .ok (.if_icmp .eq 155, 3) := by decide +kernel
theorem dL_law_988 : decode cL_law 988 = .ok (.iconst 0, 1) := by decide +kernel
theorem dL_law_989 : decode cL_law 989 = .ok (.ireturn, 1) := by decide +kernel
theorem dL_law_990 : decode cL_law 990 = .ok (.aload_n 1, 1) := by decide +kernel
theorem dL_law_991 : decode cL_law 991 = .ok (.aload_n 0, 1) := by decide +kernel
theorem dL_law_992 : decode cL_law 992 = .ok (.iload 4, 2) := by decide +kernel
theorem dL_law_994 : decode cL_law 994 = .ok (.iconst 1, 1) := by decide +kernel
theorem dL_law_995 : decode cL_law 995 = .ok (.iadd, 1) := by decide +kernel
theorem dL_law_996 : decode cL_law 996 = .ok (.iaload, 1) := by decide +kernel
theorem dL_law_997 : decode cL_law 997 = .ok (.invokevirtual 150, 3) := by decide +kernel
theorem dL_law_1000 : decode cL_law 1000 = .ok (.aload_n 2, 1) := by decide +kernel
theorem dL_law_1001 : decode cL_law 1001 = .ok (.aload_n 0, 1) := by decide +kernel
theorem dL_law_1002 : decode cL_law 1002 = .ok (.iload 4, 2) := by decide +kernel
theorem dL_law_1004 : decode cL_law 1004 = .ok (.iconst 1, 1) := by decide +kernel
theorem dL_law_1005 : decode cL_law 1005 = .ok (.iadd, 1) := by decide +kernel
theorem dL_law_1006 : decode cL_law 1006 = .ok (.iaload, 1) := by decide +kernel
theorem dL_law_1007 : decode cL_law 1007 = .ok (.invokevirtual 153, 3) := by decide +kernel
theorem dL_law_1010 : decode cL_law 1010 = .ok (.if_icmp .eq 130, 3) := by decide +kernel
theorem dL_law_1013 : decode cL_law 1013 = .ok (.iconst 0, 1) := by decide +kernel
theorem dL_law_1014 : decode cL_law 1014 = .ok (.ireturn, 1) := by decide +kernel
theorem dL_law_1015 : decode cL_law 1015 = .ok (.aload_n 1, 1) := by decide +kernel
theorem dL_law_1016 : decode cL_law 1016 = .ok (.aload_n 0, 1) := by decide +kernel
theorem dL_law_1017 : decode cL_law 1017 = .ok (.iload 4, 2) := by decide +kernel
theorem dL_law_1019 : decode cL_law 1019 = .ok (.iconst 1, 1) := by decide +kernel
theorem dL_law_1020 : decode cL_law 1020 = .ok (.iadd, 1) := by decide +kernel
theorem dL_law_1021 : decode cL_law 1021 = .ok (.iaload, 1) := by decide +kernel
theorem dL_law_1022 : decode cL_law 1022 = .ok (.invokevirtual 154, 3) := by decide +kernel
theorem dL_law_1025 : decode cL_law 1025 = .ok (.aload_n 2, 1) := by decide +kernel
theorem dL_law_1026 : decode cL_law 1026 = .ok (.aload_n 0, 1) := by decide +kernel
theorem dL_law_1027 : decode cL_law 1027 = .ok (.iload 4, 2) := by decide +kernel
theorem dL_law_1029 : decode cL_law 1029 = .ok (.iconst 1, 1) := by decide +kernel
theorem dL_law_1030 : decode cL_law 1030 = .ok (.iadd, 1) := by decide +kernel
theorem dL_law_1031 : decode cL_law 1031 = .ok (.iaload, 1) := by decide +kernel
theorem dL_law_1032 : decode cL_law 1032 = .ok (.invokevirtual 157, 3) := by decide +kernel
theorem dL_law_1035 : decode cL_law 1035 = .ok (.if_icmp .eq 105, 3) := by decide +kernel
theorem dL_law_1038 : decode cL_law 1038 = .ok (.iconst 0, 1) := by decide +kernel
theorem dL_law_1039 : decode cL_law 1039 = .ok (.ireturn, 1) := by decide +kernel
theorem dL_law_1040 : decode cL_law 1040 = .ok (.aload_n 1, 1) := by decide +kernel
theorem dL_law_1041 : decode cL_law 1041 = .ok (.aload_n 0, 1) := by decide +kernel
theorem dL_law_1042 : decode cL_law 1042 = .ok (.iload 4, 2) := by decide +kernel
theorem dL_law_1044 : decode cL_law 1044 = .ok (.iconst 1, 1) := by decide +kernel
theorem dL_law_1045 : decode cL_law 1045 = .ok (.iadd, 1) := by decide +kernel
theorem dL_law_1046 : decode cL_law 1046 = .ok (.iaload, 1) := by decide +kernel
theorem dL_law_1047 : decode cL_law 1047 = .ok (.aload_n 0, 1) := by decide +kernel
theorem dL_law_1048 : decode cL_law 1048 = .ok (.iload 4, 2) := by decide +kernel
theorem dL_law_1050 : decode cL_law 1050 = .ok (.iconst 2, 1) := by decide +kernel
theorem dL_law_1051 : decode cL_law 1051 = .ok (.iadd, 1) := by decide +kernel
theorem dL_law_1052 : decode cL_law 1052 = .ok (.iaload, 1) := by decide +kernel
theorem dL_law_1053 : decode cL_law 1053 = .ok (.invokevirtual 158, 3) := by decide +kernel
theorem dL_law_1056 : decode cL_law 1056 = .ok (.aload_n 2, 1) := by decide +kernel
theorem dL_law_1057 : decode cL_law 1057 = .ok (.aload_n 0, 1) := by decide +kernel
theorem dL_law_1058 : decode cL_law 1058 = .ok (.iload 4, 2) := by decide +kernel
theorem dL_law_1060 : decode cL_law 1060 = .ok (.iconst 1, 1) := by decide +kernel
theorem dL_law_1061 : decode cL_law 1061 = .ok (.iadd, 1) := by decide +kernel
theorem dL_law_1062 : decode cL_law 1062 = .ok (.iaload, 1) := by decide +kernel
theorem dL_law_1063 : decode cL_law 1063 = .ok (.aload_n 0, 1) := by decide +kernel
theorem dL_law_1064 : decode cL_law 1064 = .ok (.iload 4, 2) := by decide +kernel
theorem dL_law_1066 : decode cL_law 1066 = .ok (.iconst 2, 1) := by decide +kernel
theorem dL_law_1067 : decode cL_law 1067 = .ok (.iadd, 1) := by decide +kernel
theorem dL_law_1068 : decode cL_law 1068 = .ok (.iaload, 1) := by decide +kernel
theorem dL_law_1069 : decode cL_law 1069 = .ok (.invokevirtual 161, 3) := by decide +kernel
theorem dL_law_1072 : decode cL_law 1072 = .ok (.if_icmp .eq 68, 3) := by decide +kernel
theorem dL_law_1075 : decode cL_law 1075 = .ok (.iconst 0, 1) := by decide +kernel
theorem dL_law_1076 : decode cL_law 1076 = .ok (.ireturn, 1) := by decide +kernel
theorem dL_law_1077 : decode cL_law 1077 = .ok (.aload_n 1, 1) := by decide +kernel
theorem dL_law_1078 : decode cL_law 1078 = .ok (.invokevirtual 162, 3) := by decide +kernel
theorem dL_law_1081 : decode cL_law 1081 = .ok (.aload_n 2, 1) := by decide +kernel
theorem dL_law_1082 : decode cL_law 1082 = .ok (.invokevirtual 165, 3) := by decide +kernel
theorem dL_law_1085 : decode cL_law 1085 = .ok (.if_icmp .eq 55, 3) := by decide +kernel
theorem dL_law_1088 : decode cL_law 1088 = .ok (.iconst 0, 1) := by decide +kernel
theorem dL_law_1089 : decode cL_law 1089 = .ok (.ireturn, 1) := by decide +kernel
theorem dL_law_1090 : decode cL_law 1090 = .ok (.aload_n 1, 1) := by decide +kernel
theorem dL_law_1091 : decode cL_law 1091 = .ok (.aload_n 0, 1) := by decide +kernel
theorem dL_law_1092 : decode cL_law 1092 = .ok (.iload 4, 2) := by decide +kernel
theorem dL_law_1094 : decode cL_law 1094 = .ok (.iconst 1, 1) := by decide +kernel
theorem dL_law_1095 : decode cL_law 1095 = .ok (.iadd, 1) := by decide +kernel
theorem dL_law_1096 : decode cL_law 1096 = .ok (.iaload, 1) := by decide +kernel
theorem dL_law_1097 : decode cL_law 1097 = .ok (.invokevirtual 166, 3) := by decide +kernel
theorem dL_law_1100 : decode cL_law 1100 = .ok (.aload_n 2, 1) := by decide +kernel
theorem dL_law_1101 : decode cL_law 1101 = .ok (.aload_n 0, 1) := by decide +kernel
theorem dL_law_1102 : decode cL_law 1102 = .ok (.iload 4, 2) := by decide +kernel
theorem dL_law_1104 : decode cL_law 1104 = .ok (.iconst 1, 1) := by decide +kernel
theorem dL_law_1105 : decode cL_law 1105 = .ok (.iadd, 1) := by decide +kernel
theorem dL_law_1106 : decode cL_law 1106 = .ok (.iaload, 1) := by decide +kernel
theorem dL_law_1107 : decode cL_law 1107 = .ok (.invokevirtual 169, 3) := by decide +kernel
theorem dL_law_1110 : decode cL_law 1110 = .ok (.if_icmp .eq 30, 3) := by decide +kernel
theorem dL_law_1113 : decode cL_law 1113 = .ok (.iconst 0, 1) := by decide +kernel
theorem dL_law_1114 : decode cL_law 1114 = .ok (.ireturn, 1) := by decide +kernel
theorem dL_law_1115 : decode cL_law 1115 = .ok (.aload_n 1, 1) := by decide +kernel
theorem dL_law_1116 : decode cL_law 1116 = .ok (.aload_n 0, 1) := by decide +kernel
theorem dL_law_1117 : decode cL_law 1117 = .ok (.iload 4, 2) := by decide +kernel
theorem dL_law_1119 : decode cL_law 1119 = .ok (.iconst 1, 1) := by decide +kernel
theorem dL_law_1120 : decode cL_law 1120 = .ok (.iadd, 1) := by decide +kernel
theorem dL_law_1121 : decode cL_law 1121 = .ok (.iaload, 1) := by decide +kernel
theorem dL_law_1122 : decode cL_law 1122 = .ok (.invokevirtual 170, 3) := by decide +kernel
theorem dL_law_1125 : decode cL_law 1125 = .ok (.aload_n 2, 1) := by decide +kernel
theorem dL_law_1126 : decode cL_law 1126 = .ok (.aload_n 0, 1) := by decide +kernel
theorem dL_law_1127 : decode cL_law 1127 = .ok (.iload 4, 2) := by decide +kernel
theorem dL_law_1129 : decode cL_law 1129 = .ok (.iconst 1, 1) := by decide +kernel
theorem dL_law_1130 : decode cL_law 1130 = .ok (.iadd, 1) := by decide +kernel
theorem dL_law_1131 : decode cL_law 1131 = .ok (.iaload, 1) := by decide +kernel
theorem dL_law_1132 : decode cL_law 1132 = .ok (.invokevirtual 173, 3) := by decide +kernel
theorem dL_law_1135 : decode cL_law 1135 = .ok (.if_icmp .eq 5, 3) := by decide +kernel
theorem dL_law_1138 : decode cL_law 1138 = .ok (.iconst 0, 1) := by decide +kernel
theorem dL_law_1139 : decode cL_law 1139 = .ok (.ireturn, 1) := by decide +kernel
theorem dL_law_1140 : decode cL_law 1140 = .ok (.iinc 4 6, 3) := by decide +kernel
theorem dL_law_1143 : decode cL_law 1143 = .ok (.goto (-1120), 3) := by decide +kernel
theorem dL_law_1146 : decode cL_law 1146 = .ok (.iconst 1, 1) := by decide +kernel
theorem dL_law_1147 : decode cL_law 1147 = .ok (.ireturn, 1) := by decide +kernel
