theorem dX9_tie_7 : decode cX9_tie 7 = .ok (.ireturn, 1) := by decide +kernel
theorem dX9_part_0 : decode cX9_part 0 = .ok (.aload_n 0, 1) := by decide +kernel
theorem dX9_part_1 : decode cX9_part 1 = .ok (.iload_n 1, 1) := by decide +kernel
theorem dX9_part_2 : decode cX9_part 2 = .ok (.iload_n 2, 1) := by decide +kernel
theorem dX9_part_3 : decode cX9_part 3 = .ok (.iconst 1, 1) := by decide +kernel
theorem dX9_part_4 : decode cX9_part 4 = .ok (.invokevirtual 154, 3) := by decide +kernel
theorem dX9_part_7 : decode cX9_part 7 = .ok (.ireturn, 1) := by decide +kernel
theorem dX9_come_0 : decode cX9_come 0 = .ok (.aload_n 0, 1) := by decide +kernel
theorem dX9_come_1 : decode cX9_come 1 = .ok (.getfield 10, 3) := by decide +kernel
theorem dX9_come_4 : decode cX9_come 4 = .ok (.iload_n 1, 1) := by decide +kernel
theorem dX9_come_5 : decode cX9_come 5 = .ok (.invokevirtual 158, 3) := by decide +kernel
theorem dX9_come_8 : decode cX9_come 8 = .ok (.ifCond .ne 5, 3) := by decide +kernel
theorem dX9_come_11 : decode cX9_come 11 = .ok (.iconst (-1), 1) := by decide +kernel
theorem dX9_come_12 : decode cX9_come 12 = .ok (.ireturn, 1) := by decide +kernel
theorem dX9_come_13 : decode cX9_come 13 = .ok (.aload_n 0, 1) := by decide +kernel
theorem dX9_come_14 : decode cX9_come 14 = .ok (.getfield 64, 3) := by decide +kernel
theorem dX9_come_17 : decode cX9_come 17 = .ok (.aload_n 0, 1) := by decide +kernel
theorem dX9_come_18 : decode cX9_come 18 = .ok (.getfield 10, 3) := by decide +kernel
theorem dX9_come_21 : decode cX9_come 21 = .ok (.invokevirtual 161, 3) := by decide +kernel
theorem dX9_come_24 : decode cX9_come 24 = .ok (.aload_n 0, 1) := by decide +kernel
theorem dX9_come_25 : decode cX9_come 25 = .ok (.getfield 10, 3) := by decide +kernel
theorem dX9_come_28 : decode cX9_come 28 = .ok (.iload_n 1, 1) := by decide +kernel
theorem dX9_come_29 : decode cX9_come 29 = .ok (.invokevirtual 164, 3) := by decide +kernel
theorem dX9_come_32 : decode cX9_come 32 = .ok (.aload_n 0, 1) := by decide +kernel
theorem dX9_come_33 : decode cX9_come 33 = .ok (.getfield 10, 3) := by decide +kernel
theorem dX9_come_36 : decode cX9_come 36 = .ok (.invokevirtual 109, 3) := by decide +kernel
theorem dX9_come_39 : decode cX9_come 39 = .ok (.iconst 1, 1) := by decide +kernel
theorem dX9_come_40 : decode cX9_come 40 = .ok (.isub, 1) := by decide +kernel
theorem dX9_come_41 : decode cX9_come 41 = .ok (.ireturn, 1) := by decide +kernel
theorem dX9_go_0 : decode cX9_go 0 = .ok (.aload_n 0, 1) := by decide +kernel
theorem dX9_go_1 : decode cX9_go 1 = .ok (.getfield 10, 3) := by decide +kernel
theorem dX9_go_4 : decode cX9_go 4 = .ok (.iload_n 1, 1) := by decide +kernel
theorem dX9_go_5 : decode cX9_go 5 = .ok (.invokevirtual 127, 3) := by decide +kernel
theorem dX9_go_8 : decode cX9_go 8 = .ok (.ifCond .ne 5, 3) := by decide +kernel
theorem dX9_go_11 : decode cX9_go 11 = .ok (.iconst (-1), 1) := by decide +kernel
theorem dX9_go_12 : decode cX9_go 12 = .ok (.ireturn, 1) := by decide +kernel
theorem dX9_go_13 : decode cX9_go 13 = .ok (.aload_n 0, 1) := by decide +kernel
theorem dX9_go_14 : decode cX9_go 14 = .ok (.getfield 64, 3) := by decide +kernel
theorem dX9_go_17 : decode cX9_go 17 = .ok (.aload_n 0, 1) := by decide +kernel
theorem dX9_go_18 : decode cX9_go 18 = .ok (.getfield 10, 3) := by decide +kernel
theorem dX9_go_21 : decode cX9_go 21 = .ok (.invokevirtual 161, 3) := by decide +kernel
theorem dX9_go_24 : decode cX9_go 24 = .ok (.aload_n 0, 1) := by decide +kernel
theorem dX9_go_25 : decode cX9_go 25 = .ok (.getfield 10, 3) := by decide +kernel
theorem dX9_go_28 : decode cX9_go 28 = .ok (.iload_n 1, 1) := by decide +kernel
theorem dX9_go_29 : decode cX9_go 29 = .ok (.invokevirtual 167, 3) := by decide +kernel
theorem dX9_go_32 : decode cX9_go 32 = .ok (.aload_n 0, 1) := by decide +kernel
theorem dX9_go_33 : decode cX9_go 33 = .ok (.getfield 10, 3) := by decide +kernel
theorem dX9_go_36 : decode cX9_go 36 = .ok (.invokevirtual 109, 3) := by decide +kernel
theorem dX9_go_39 : decode cX9_go 39 = .ok (.ireturn, 1) := by decide +kernel
theorem dX9_meet_0 : decode cX9_meet 0 = .ok (.aload_n 0, 1) := by decide +kernel
theorem dX9_meet_1 : decode cX9_meet 1 = .ok (.getfield 10, 3) := by decide +kernel
theorem dX9_meet_4 : decode cX9_meet 4 = .ok (.invokevirtual 110, 3) := by decide +kernel
theorem dX9_meet_7 : decode cX9_meet 7 = .ok (.bipush 14, 2) := by decide +kernel
theorem dX9_meet_9 : decode cX9_meet 9 = .ok (.if_icmp .le 5, 3) := by decide +kernel
theorem dX9_meet_12 : decode cX9_meet 12 = .ok (.iconst (-1), 1) := by decide +kernel
theorem dX9_meet_13 : decode cX9_meet 13 = .ok (.ireturn, 1) := by decide +kernel
theorem dX9_meet_14 : decode cX9_meet 14 = .ok (.aload_n 0, 1) := by decide +kernel
theorem dX9_meet_15 : decode cX9_meet 15 = .ok (.getfield 64, 3) := by decide +kernel
theorem dX9_meet_18 : decode cX9_meet 18 = .ok (.aload_n 0, 1) := by decide +kernel
theorem dX9_meet_19 : decode cX9_meet 19 = .ok (.getfield 10, 3) := by decide +kernel
theorem dX9_meet_22 : decode cX9_meet 22 = .ok (.invokevirtual 161, 3) := by decide +kernel
theorem dX9_meet_25 : decode cX9_meet 25 = .ok (.aload_n 0, 1) := by decide +kernel
theorem dX9_meet_26 : decode cX9_meet 26 = .ok (.getfield 16, 3) := by decide +kernel
theorem dX9_meet_29 : decode cX9_meet 29 = .ok (.aload_n 0, 1) := by decide +kernel
theorem dX9_meet_30 : decode cX9_meet 30 = .ok (.getfield 10, 3) := by decide +kernel
theorem dX9_meet_33 : decode cX9_meet 33 = .ok (.invokevirtual 170, 3) := by decide +kernel
theorem dX9_meet_36 : decode cX9_meet 36 = .ok (.aload_n 0, 1) := by decide +kernel
theorem dX9_meet_37 : decode cX9_meet 37 = .ok (.getfield 10, 3) := by decide +kernel
theorem dX9_meet_40 : decode cX9_meet 40 = .ok (.aload_n 0, 1) := by decide +kernel
theorem dX9_meet_41 : decode cX9_meet 41 = .ok (.getfield 16, 3) := by decide +kernel
theorem dX9_meet_44 : decode cX9_meet 44 = .ok (.invokevirtual 102, 3) := by decide +kernel
theorem dX9_meet_47 : decode cX9_meet 47 = .ok (.aload_n 0, 1) := by decide +kernel
theorem dX9_meet_48 : decode cX9_meet 48 = .ok (.getfield 10, 3) := by decide +kernel
theorem dX9_meet_51 : decode cX9_meet 51 = .ok (.invokevirtual 109, 3) := by decide +kernel
theorem dX9_meet_54 : decode cX9_meet 54 = .ok (.ireturn, 1) := by decide +kernel
theorem dX9_back_0 : decode cX9_back 0 = .ok (.aload_n 0, 1) := by decide +kernel
theorem dX9_back_1 : decode cX9_back 1 = .ok (.getfield 36, 3) := by decide +kernel
theorem dX9_back_4 : decode cX9_back 4 = .ok (.aload_n 0, 1) := by decide +kernel
theorem dX9_back_5 : decode cX9_back 5 = .ok (.getfield 10, 3) := by decide +kernel
theorem dX9_back_8 : decode cX9_back 8 = .ok (.invokevirtual 173, 3) := by decide +kernel
theorem dX9_back_11 : decode cX9_back 11 = .ok (.aload_n 0, 1) := by decide +kernel
theorem dX9_back_12 : decode cX9_back 12 = .ok (.getfield 36, 3) := by decide +kernel
theorem dX9_back_15 : decode cX9_back 15 = .ok (.invokevirtual 176, 3) := by decide +kernel
theorem dX9_back_18 : decode cX9_back 18 = .ok (.ifCond .ne 5, 3) := by decide +kernel
theorem dX9_back_21 : decode cX9_back 21 = .ok (.iconst (-1), 1) := by decide +kernel
theorem dX9_back_22 : decode cX9_back 22 = .ok (.ireturn, 1) := by decide +kernel
theorem dX9_back_23 : decode cX9_back 23 = .ok (.aload_n 0, 1) := by decide +kernel
theorem dX9_back_24 : decode cX9_back 24 = .ok (.getfield 64, 3) := by decide +kernel
theorem dX9_back_27 : decode cX9_back 27 = .ok (.aload_n 0, 1) := by decide +kernel
theorem dX9_back_28 : decode cX9_back 28 = .ok (.getfield 10, 3) := by decide +kernel
theorem dX9_back_31 : decode cX9_back 31 = .ok (.invokevirtual 161, 3) := by decide +kernel
theorem dX9_back_34 : decode cX9_back 34 = .ok (.aload_n 0, 1) := by decide +kernel
theorem dX9_back_35 : decode cX9_back 35 = .ok (.getfield 36, 3) := by decide +kernel
theorem dX9_back_38 : decode cX9_back 38 = .ok (.aload_n 0, 1) := by decide +kernel
theorem dX9_back_39 : decode cX9_back 39 = .ok (.getfield 10, 3) := by decide +kernel
theorem dX9_back_42 : decode cX9_back 42 = .ok (.invokevirtual 180, 3) := by decide +kernel
theorem dX9_back_45 : decode cX9_back 45 = .ok (.aload_n 0, 1) := by decide +kernel
theorem dX9_back_46 : decode cX9_back 46 = .ok (.getfield 10, 3) := by decide +kernel
theorem dX9_back_49 : decode cX9_back 49 = .ok (.invokevirtual 109, 3) := by decide +kernel
theorem dX9_back_52 : decode cX9_back 52 = .ok (.ireturn, 1) := by decide +kernel
theorem dX9_drawn_0 : decode cX9_drawn 0 = .ok (.iload_n 1, 1) := by decide +kernel
theorem dX9_drawn_1 : decode cX9_drawn 1 = .ok (.iconst 1, 1) := by decide +kernel
theorem dX9_drawn_2 : decode cX9_drawn 2 = .ok (.if_icmp .lt 9, 3) := by decide +kernel
theorem dX9_drawn_5 : decode cX9_drawn 5 = .ok (.iload_n 1, 1) := by decide +kernel
theorem dX9_drawn_6 : decode cX9_drawn 6 = .ok (.bipush 60, 2) := by decide +kernel
theorem dX9_drawn_8 : decode cX9_drawn 8 = .ok (.if_icmp .le 5, 3) := by decide +kernel
theorem dX9_drawn_11 : decode cX9_drawn 11 = .ok (.iconst (-1), 1) := by decide +kernel
theorem dX9_drawn_12 : decode cX9_drawn 12 = .ok (.ireturn, 1) := by decide +kernel
theorem dX9_drawn_13 : decode cX9_drawn 13 = .ok (.aload_n 0, 1) := by decide +kernel
theorem dX9_drawn_14 : decode cX9_drawn 14 = .ok (.iload_n 2, 1) := by decide +kernel
theorem dX9_drawn_15 : decode cX9_drawn 15 = .ok (.putfield 183, 3) := by decide +kernel
theorem dX9_drawn_18 : decode cX9_drawn 18 = .ok (.aload_n 0, 1) := by decide +kernel
theorem dX9_drawn_19 : decode cX9_drawn 19 = .ok (.getfield 16, 3) := by decide +kernel
theorem dX9_drawn_22 : decode cX9_drawn 22 = .ok (.aload_n 0, 1) := by decide +kernel
theorem dX9_drawn_23 : decode cX9_drawn 23 = .ok (.getfield 10, 3) := by decide +kernel
theorem dX9_drawn_26 : decode cX9_drawn 26 = .ok (.invokevirtual 102, 3) := by decide +kernel
theorem dX9_drawn_29 : decode cX9_drawn 29 = .ok (.iconst 0, 1) := by decide +kernel
theorem dX9_drawn_30 : decode cX9_drawn 30 = .ok (.istore_n 3, 1) := by decide +kernel
theorem dX9_drawn_31 : decode cX9_drawn 31 = .ok (.iconst 0, 1) := by decide +kernel
theorem dX9_drawn_32 : decode cX9_drawn 32 = .ok (.istore 4, 2) := by decide +kernel
theorem dX9_drawn_34 : decode cX9_drawn 34 = .ok (.iload 4, 2) := by decide +kernel
theorem dX9_drawn_36 : decode cX9_drawn 36 = .ok (.iload_n 1, 1) := by decide +kernel
theorem dX9_drawn_37 : decode cX9_drawn 37 = .ok (.if_icmp .ge 19, 3) := by decide +kernel
theorem dX9_drawn_40 : decode cX9_drawn 40 = .ok (.aload_n 0, 1) := by decide +kernel
theorem dX9_drawn_41 : decode cX9_drawn 41 = .ok (.invokevirtual 186, 3) := by decide +kernel
theorem dX9_drawn_44 : decode cX9_drawn 44 = .ok (.ifCond .eq 6, 3) := by decide +kernel
theorem dX9_drawn_47 : decode cX9_drawn 47 = .ok (.iinc 3 1, 3) := by decide +kernel
theorem dX9_drawn_50 : decode cX9_drawn 50 = .ok (.iinc 4 1, 3) := by decide +kernel
theorem dX9_drawn_53 : decode cX9_drawn 53 = .ok (.goto (-19), 3) := by decide +kernel
theorem dX9_drawn_56 : decode cX9_drawn 56 = .ok (.iload_n 3, 1) := by decide +kernel
theorem dX9_drawn_57 : decode cX9_drawn 57 = .ok (.ifCond .le 14, 3) := by decide +kernel
theorem dX9_drawn_60 : decode cX9_drawn 60 = .ok (.aload_n 0, 1) := by decide +kernel
theorem dX9_drawn_61 : decode cX9_drawn 61 = .ok (.getfield 64, 3) := by decide +kernel
theorem dX9_drawn_64 : decode cX9_drawn 64 = .ok (.aload_n 0, 1) := by decide +kernel
theorem dX9_drawn_65 : decode cX9_drawn 65 = .ok (.getfield 16, 3) := by decide +kernel
theorem dX9_drawn_68 : decode cX9_drawn 68 = .ok (.invokevirtual 161, 3) := by decide +kernel
theorem dX9_drawn_71 : decode cX9_drawn 71 = .ok (.iload_n 3, 1) := by decide +kernel
theorem dX9_drawn_72 : decode cX9_drawn 72 = .ok (.ireturn, 1) := by decide +kernel
theorem dX9_undo_0 : decode cX9_undo 0 = .ok (.aload_n 0, 1) := by decide +kernel
theorem dX9_undo_1 : decode cX9_undo 1 = .ok (.getfield 64, 3) := by decide +kernel
theorem dX9_undo_4 : decode cX9_undo 4 = .ok (.aload_n 0, 1) := by decide +kernel
theorem dX9_undo_5 : decode cX9_undo 5 = .ok (.getfield 10, 3) := by decide +kernel
theorem dX9_undo_8 : decode cX9_undo 8 = .ok (.invokevirtual 189, 3) := by decide +kernel
theorem dX9_undo_11 : decode cX9_undo 11 = .ok (.ireturn, 1) := by decide +kernel
theorem dX9_image_0 : decode cX9_image 0 = .ok (.iload_n 1, 1) := by decide +kernel
theorem dX9_image_1 : decode cX9_image 1 = .ok (.ifCond .lt 8, 3) := by decide +kernel
theorem dX9_image_4 : decode cX9_image 4 = .ok (.iload_n 1, 1) := by decide +kernel
theorem dX9_image_5 : decode cX9_image 5 = .ok (.iconst 2, 1) := by decide +kernel
theorem dX9_image_6 : decode cX9_image 6 = .ok (.if_icmp .lt 5, 3) := by decide +kernel
theorem dX9_image_9 : decode cX9_image 9 = .ok (.iconst 0, 1) := by decide +kernel
theorem dX9_image_10 : decode cX9_image 10 = .ok (.ireturn, 1) := by decide +kernel
theorem dX9_image_11 : decode cX9_image 11 = .ok (.aload_n 0, 1) := by decide +kernel
theorem dX9_image_12 : decode cX9_image 12 = .ok (.getfield 71, 3) := by decide +kernel
theorem dX9_image_15 : decode cX9_image 15 = .ok (.iload_n 1, 1) := by decide +kernel
theorem dX9_image_16 : decode cX9_image 16 = .ok (.aload_n 0, 1) := by decide +kernel
theorem dX9_image_17 : decode cX9_image 17 = .ok (.getfield 10, 3) := by decide +kernel
theorem dX9_image_20 : decode cX9_image 20 = .ok (.invokevirtual 193, 3) := by decide +kernel
theorem dX9_image_23 : decode cX9_image 23 = .ok (.aload_n 0, 1) := by decide +kernel
theorem dX9_image_24 : decode cX9_image 24 = .ok (.dup, 1) := by decide +kernel
theorem dX9_image_25 : decode cX9_image 25 = .ok (.getfield 197, 3) := by decide +kernel
theorem dX9_image_28 : decode cX9_image 28 = .ok (.iconst 1, 1) := by decide +kernel
theorem dX9_image_29 : decode cX9_image 29 = .ok (.iload_n 1, 1) := by decide +kernel
theorem dX9_image_30 : decode cX9_image 30 = .ok (.ishl, 1) := by decide +kernel
theorem dX9_image_31 : decode cX9_image 31 = .ok (.ior, 1) := by decide +kernel
theorem dX9_image_32 : decode cX9_image 32 = .ok (.putfield 197, 3) := by decide +kernel
theorem dX9_image_35 : decode cX9_image 35 = .ok (.iconst 1, 1) := by decide +kernel
theorem dX9_image_36 : decode cX9_image 36 = .ok (.ireturn, 1) := by decide +kernel
theorem dX9_restore_0 : decode cX9_restore 0 = .ok (.iload_n 1, 1) := by decide +kernel
theorem dX9_restore_1 : decode cX9_restore 1 = .ok (.ifCond .lt 19, 3) := by decide +kernel
theorem dX9_restore_4 : decode cX9_restore 4 = .ok (.iload_n 1, 1) := by decide +kernel
theorem dX9_restore_5 : decode cX9_restore 5 = .ok (.iconst 2, 1) := by decide +kernel
theorem dX9_restore_6 : decode cX9_restore 6 = .ok (.if_icmp .ge 14, 3) := by decide +kernel
theorem dX9_restore_9 : decode cX9_restore 9 = .ok (.aload_n 0, 1) := by decide +kernel
theorem dX9_restore_10 : decode cX9_restore 10 = .ok (.getfield 197, 3) := by decide +kernel
theorem dX9_restore_13 : decode cX9_restore 13 = .ok (.iload_n 1, 1) := by decide +kernel
theorem dX9_restore_14 : decode cX9_restore 14 = .ok (.invokestatic 200, 3) := by decide +kernel
theorem dX9_restore_17 : decode cX9_restore 17 = .ok (.ifCond .ne 5, 3) := by decide +kernel
theorem dX9_restore_20 : decode cX9_restore 20 = .ok (.iconst 0, 1) := by decide +kernel
theorem dX9_restore_21 : decode cX9_restore 21 = .ok (.ireturn, 1) := by decide +kernel
theorem dX9_restore_22 : decode cX9_restore 22 = .ok (.aload_n 0, 1) := by decide +kernel
theorem dX9_restore_23 : decode cX9_restore 23 = .ok (.getfield 71, 3) := by decide +kernel
theorem dX9_restore_26 : decode cX9_restore 26 = .ok (.iload_n 1, 1) := by decide +kernel
theorem dX9_restore_27 : decode cX9_restore 27 = .ok (.aload_n 0, 1) := by decide +kernel
theorem dX9_restore_28 : decode cX9_restore 28 = .ok (.getfield 10, 3) := by decide +kernel
theorem dX9_restore_31 : decode cX9_restore 31 = .ok (.invokevirtual 203, 3) := by decide +kernel
theorem dX9_restore_34 : decode cX9_restore 34 = .ok (.aload_n 0, 1) := by decide +kernel
theorem dX9_restore_35 : decode cX9_restore 35 = .ok (.getfield 64, 3) := by decide +kernel
theorem dX9_restore_38 : decode cX9_restore 38 = .ok (.invokevirtual 106, 3) := by decide +kernel
theorem dX9_restore_41 : decode cX9_restore 41 = .ok (.iconst 1, 1) := by decide +kernel
theorem dX9_restore_42 : decode cX9_restore 42 = .ok (.ireturn, 1) := by decide +kernel
theorem dX9_covers_0 : decode cX9_covers 0 = .ok (.aload_n 0, 1) := by decide +kernel
theorem dX9_covers_1 : decode cX9_covers 1 = .ok (.getfield 36, 3) := by decide +kernel
theorem dX9_covers_4 : decode cX9_covers 4 = .ok (.aload_n 0, 1) := by decide +kernel
theorem dX9_covers_5 : decode cX9_covers 5 = .ok (.getfield 10, 3) := by decide +kernel
theorem dX9_covers_8 : decode cX9_covers 8 = .ok (.invokevirtual 173, 3) := by decide +kernel
theorem dX9_covers_11 : decode cX9_covers 11 = .ok (.aload_n 0, 1) := by decide +kernel
theorem dX9_covers_12 : decode cX9_covers 12 = .ok (.getfield 36, 3) := by decide +kernel
theorem dX9_covers_15 : decode cX9_covers 15 = .ok (.invokevirtual 206, 3) := by decide +kernel
theorem dX9_covers_18 : decode cX9_covers 18 = .ok (.ireturn, 1) := by decide +kernel
theorem dX9_cliques_0 : decode cX9_cliques 0 = .ok (.aload_n 0, 1) := by decide +kernel
theorem dX9_cliques_1 : decode cX9_cliques 1 = .ok (.getfield 36, 3) := by decide +kernel
theorem dX9_cliques_4 : decode cX9_cliques 4 = .ok (.aload_n 0, 1) := by decide +kernel
theorem dX9_cliques_5 : decode cX9_cliques 5 = .ok (.getfield 10, 3) := by decide +kernel
theorem dX9_cliques_8 : decode cX9_cliques 8 = .ok (.invokevirtual 173, 3) := by decide +kernel
theorem dX9_cliques_11 : decode cX9_cliques 11 = .ok (.aload_n 0, 1) := by decide +kernel
theorem dX9_cliques_12 : decode cX9_cliques 12 = .ok (.getfield 36, 3) := by decide +kernel
theorem dX9_cliques_15 : decode cX9_cliques 15 = .ok (.invokevirtual 206, 3) := by decide +kernel
theorem dX9_cliques_18 : decode cX9_cliques 18 = .ok (.ifCond .ne 7, 3) := by decide +kernel
theorem dX9_cliques_21 : decode cX9_cliques 21 = .ok (.iconst (-1), 1) := by decide +kernel
theorem dX9_cliques_22 : decode cX9_cliques 22 = .ok (.goto 10, 3) := by decide +kernel
theorem dX9_cliques_25 : decode cX9_cliques 25 = .ok (.aload_n 0, 1) := by decide +kernel
theorem dX9_cliques_26 : decode cX9_cliques 26 = .ok (.getfield 36, 3) := by decide +kernel
theorem dX9_cliques_29 : decode cX9_cliques 29 = .ok (.invokevirtual 209, 3) := by decide +kernel
theorem dX9_cliques_32 : decode cX9_cliques 32 = .ok (.ireturn, 1) := by decide +kernel
theorem dX9_clique_0 : decode cX9_clique 0 = .ok (.aload_n 0, 1) := by decide +kernel
theorem dX9_clique_1 : decode cX9_clique 1 = .ok (.getfield 36, 3) := by decide +kernel
theorem dX9_clique_4 : decode cX9_clique 4 = .ok (.aload_n 0, 1) := by decide +kernel
theorem dX9_clique_5 : decode cX9_clique 5 = .ok (.getfield 10, 3) := by decide +kernel
theorem dX9_clique_8 : decode cX9_clique 8 = .ok (.invokevirtual 173, 3) := by decide +kernel
theorem dX9_clique_11 : decode cX9_clique 11 = .ok (.aload_n 0, 1) := by decide +kernel
theorem dX9_clique_12 : decode cX9_clique 12 = .ok (.getfield 36, 3) := by decide +kernel
theorem dX9_clique_15 : decode cX9_clique 15 = .ok (.invokevirtual 206, 3) := by decide +kernel
theorem dX9_clique_18 : decode cX9_clique 18 = .ok (.ifCond .eq 18, 3) := by decide +kernel
theorem dX9_clique_21 : decode cX9_clique 21 = .ok (.iload_n 1, 1) := by decide +kernel
theorem dX9_clique_22 : decode cX9_clique 22 = .ok (.ifCond .lt 14, 3) := by decide +kernel
theorem dX9_clique_25 : decode cX9_clique 25 = .ok (.iload_n 1, 1) := by decide +kernel
theorem dX9_clique_26 : decode cX9_clique 26 = .ok (.aload_n 0, 1) := by decide +kernel
theorem dX9_clique_27 : decode cX9_clique 27 = .ok (.getfield 36, 3) := by decide +kernel
theorem dX9_clique_30 : decode cX9_clique 30 = .ok (.invokevirtual 209, 3) := by decide +kernel
theorem dX9_clique_33 : decode cX9_clique 33 = .ok (.if_icmp .lt 5, 3) := by decide +kernel
theorem dX9_clique_36 : decode cX9_clique 36 = .ok (.iconst (-1), 1) := by decide +kernel
theorem dX9_clique_37 : decode cX9_clique 37 = .ok (.ireturn, 1) := by decide +kernel
theorem dX9_clique_38 : decode cX9_clique 38 = .ok (.aload_n 0, 1) := by decide +kernel
theorem dX9_clique_39 : decode cX9_clique 39 = .ok (.getfield 36, 3) := by decide +kernel
theorem dX9_clique_42 : decode cX9_clique 42 = .ok (.iload_n 1, 1) := by decide +kernel
theorem dX9_clique_43 : decode cX9_clique 43 = .ok (.invokevirtual 210, 3) := by decide +kernel
theorem dX9_clique_46 : decode cX9_clique 46 = .ok (.ireturn, 1) := by decide +kernel
theorem dX9_root_0 : decode cX9_root 0 = .ok (.aload_n 0, 1) := by decide +kernel
theorem dX9_root_1 : decode cX9_root 1 = .ok (.getfield 36, 3) := by decide +kernel
theorem dX9_root_4 : decode cX9_root 4 = .ok (.aload_n 0, 1) := by decide +kernel
theorem dX9_root_5 : decode cX9_root 5 = .ok (.getfield 10, 3) := by decide +kernel
theorem dX9_root_8 : decode cX9_root 8 = .ok (.invokevirtual 173, 3) := by decide +kernel
theorem dX9_root_11 : decode cX9_root 11 = .ok (.aload_n 0, 1) := by decide +kernel
theorem dX9_root_12 : decode cX9_root 12 = .ok (.getfield 36, 3) := by decide +kernel
theorem dX9_root_15 : decode cX9_root 15 = .ok (.invokevirtual 206, 3) := by decide +kernel
theorem dX9_root_18 : decode cX9_root 18 = .ok (.ifCond .ne 5, 3) := by decide +kernel
theorem dX9_root_21 : decode cX9_root 21 = .ok (.iconst (-1), 1) := by decide +kernel
theorem dX9_root_22 : decode cX9_root 22 = .ok (.ireturn, 1) := by decide +kernel
theorem dX9_root_23 : decode cX9_root 23 = .ok (.iload_n 1, 1) := by decide +kernel
theorem dX9_root_24 : decode cX9_root 24 = .ok (.tableswitch 52 0 2 #[28, 36, 44], 28) := by decide +kernel
theorem dX9_root_52 : decode cX9_root 52 = .ok (.aload_n 0, 1) := by decide +kernel
theorem dX9_root_53 : decode cX9_root 53 = .ok (.getfield 36, 3) := by decide +kernel
theorem dX9_root_56 : decode cX9_root 56 = .ok (.invokevirtual 213, 3) := by decide +kernel
theorem dX9_root_59 : decode cX9_root 59 = .ok (.ireturn, 1) := by decide +kernel
theorem dX9_root_60 : decode cX9_root 60 = .ok (.aload_n 0, 1) := by decide +kernel
theorem dX9_root_61 : decode cX9_root 61 = .ok (.getfield 36, 3) := by decide +kernel
theorem dX9_root_64 : decode cX9_root 64 = .ok (.invokevirtual 216, 3) := by decide +kernel
theorem dX9_root_67 : decode cX9_root 67 = .ok (.ireturn, 1) := by decide +kernel
theorem dX9_root_68 : decode cX9_root 68 = .ok (.aload_n 0, 1) := by decide +kernel
theorem dX9_root_69 : decode cX9_root 69 = .ok (.getfield 10, 3) := by decide +kernel
theorem dX9_root_72 : decode cX9_root 72 = .ok (.invokevirtual 113, 3) := by decide +kernel
theorem dX9_root_75 : decode cX9_root 75 = .ok (.ireturn, 1) := by decide +kernel
theorem dX9_root_76 : decode cX9_root 76 = .ok (.iconst (-1), 1) := by decide +kernel
theorem dX9_root_77 : decode cX9_root 77 = .ok (.ireturn, 1) := by decide +kernel
theorem dX9_rootLine_0 : decode cX9_rootLine 0 = .ok (.aload_n 0, 1) := by decide +kernel
theorem dX9_rootLine_1 : decode cX9_rootLine 1 = .ok (.getfield 36, 3) := by decide +kernel
theorem dX9_rootLine_4 : decode cX9_rootLine 4 = .ok (.aload_n 0, 1) := by decide +kernel
theorem dX9_rootLine_5 : decode cX9_rootLine 5 = .ok (.getfield 10, 3) := by decide +kernel
theorem dX9_rootLine_8 : decode cX9_rootLine 8 = .ok (.invokevirtual 173, 3) := by decide +kernel
theorem dX9_rootLine_11 : decode cX9_rootLine 11 = .ok (.aload_n 0, 1) := by decide +kernel
theorem dX9_rootLine_12 : decode cX9_rootLine 12 = .ok (.getfield 36, 3) := by decide +kernel
theorem dX9_rootLine_15 : decode cX9_rootLine 15 = .ok (.invokevirtual 206, 3) := by decide +kernel
theorem dX9_rootLine_18 : decode cX9_rootLine 18 = .ok (.ifCond .eq 23, 3) := by decide +kernel
theorem dX9_rootLine_21 : decode cX9_rootLine 21 = .ok (.aload_n 0, 1) := by decide +kernel
theorem dX9_rootLine_22 : decode cX9_rootLine 22 = .ok (.getfield 10, 3) := by decide +kernel
theorem dX9_rootLine_25 : decode cX9_rootLine 25 = .ok (.iload_n 1, 1) := by decide +kernel
theorem dX9_rootLine_26 : decode cX9_rootLine 26 = .ok (.invokevirtual 127, 3) := by decide +kernel
theorem dX9_rootLine_29 : decode cX9_rootLine 29 = .ok (.ifCond .eq 12, 3) := by decide +kernel
theorem dX9_rootLine_32 : decode cX9_rootLine 32 = .ok (.iload_n 2, 1) := by decide +kernel
theorem dX9_rootLine_33 : decode cX9_rootLine 33 = .ok (.ifCond .lt 8, 3) := by decide +kernel
theorem dX9_rootLine_36 : decode cX9_rootLine 36 = .ok (.iload_n 2, 1) := by decide +kernel
theorem dX9_rootLine_37 : decode cX9_rootLine 37 = .ok (.iconst 1, 1) := by decide +kernel
theorem dX9_rootLine_38 : decode cX9_rootLine 38 = .ok (.if_icmp .le 11, 3) := by decide +kernel
theorem dX9_rootLine_41 : decode cX9_rootLine 41 = .ok (.new 130, 3) := by decide +kernel
theorem dX9_rootLine_44 : decode cX9_rootLine 44 = .ok (.dup, 1) := by decide +kernel
theorem dX9_rootLine_45 : decode cX9_rootLine 45 = .ok (.invokespecial 132, 3) := by decide +kernel
theorem dX9_rootLine_48 : decode cX9_rootLine 48 = .ok (.athrow, 1) := by decide +kernel
theorem dX9_rootLine_49 : decode cX9_rootLine 49 = .ok (.aload_n 0, 1) := by decide +kernel
theorem dX9_rootLine_50 : decode cX9_rootLine 50 = .ok (.getfield 36, 3) := by decide +kernel
theorem dX9_rootLine_53 : decode cX9_rootLine 53 = .ok (.iload_n 1, 1) := by decide +kernel
theorem dX9_rootLine_54 : decode cX9_rootLine 54 = .ok (.iload_n 2, 1) := by decide +kernel
theorem dX9_rootLine_55 : decode cX9_rootLine 55 = .ok (.invokevirtual 219, 3) := by decide +kernel
theorem dX9_rootLine_58 : decode cX9_rootLine 58 = .ok (.ireturn, 1) := by decide +kernel
theorem dX9_piece_0 : decode cX9_piece 0 = .ok (.aload_n 0, 1) := by decide +kernel
theorem dX9_piece_1 : decode cX9_piece 1 = .ok (.getfield 43, 3) := by decide +kernel
theorem dX9_piece_4 : decode cX9_piece 4 = .ok (.aload_n 0, 1) := by decide +kernel
theorem dX9_piece_5 : decode cX9_piece 5 = .ok (.getfield 10, 3) := by decide +kernel
theorem dX9_piece_8 : decode cX9_piece 8 = .ok (.invokevirtual 223, 3) := by decide +kernel
theorem dX9_piece_11 : decode cX9_piece 11 = .ok (.aload_n 0, 1) := by decide +kernel
theorem dX9_piece_12 : decode cX9_piece 12 = .ok (.getfield 43, 3) := by decide +kernel
theorem dX9_piece_15 : decode cX9_piece 15 = .ok (.invokevirtual 224, 3) := by decide +kernel
theorem dX9_piece_18 : decode cX9_piece 18 = .ok (.ireturn, 1) := by decide +kernel
theorem dX9_pieces_0 : decode cX9_pieces 0 = .ok (.aload_n 0, 1) := by decide +kernel
theorem dX9_pieces_1 : decode cX9_pieces 1 = .ok (.getfield 43, 3) := by decide +kernel
theorem dX9_pieces_4 : decode cX9_pieces 4 = .ok (.aload_n 0, 1) := by decide +kernel
theorem dX9_pieces_5 : decode cX9_pieces 5 = .ok (.getfield 10, 3) := by decide +kernel
theorem dX9_pieces_8 : decode cX9_pieces 8 = .ok (.invokevirtual 223, 3) := by decide +kernel
theorem dX9_pieces_11 : decode cX9_pieces 11 = .ok (.aload_n 0, 1) := by decide +kernel
theorem dX9_pieces_12 : decode cX9_pieces 12 = .ok (.getfield 43, 3) := by decide +kernel
theorem dX9_pieces_15 : decode cX9_pieces 15 = .ok (.invokevirtual 227, 3) := by decide +kernel
theorem dX9_pieces_18 : decode cX9_pieces 18 = .ok (.ireturn, 1) := by decide +kernel
theorem dX9_blamed_0 : decode cX9_blamed 0 = .ok (.aload_n 0, 1) := by decide +kernel
theorem dX9_blamed_1 : decode cX9_blamed 1 = .ok (.getfield 10, 3) := by decide +kernel
theorem dX9_blamed_4 : decode cX9_blamed 4 = .ok (.iload_n 1, 1) := by decide +kernel
theorem dX9_blamed_5 : decode cX9_blamed 5 = .ok (.invokevirtual 127, 3) := by decide +kernel
theorem dX9_blamed_8 : decode cX9_blamed 8 = .ok (.ifCond .ne 5, 3) := by decide +kernel
theorem dX9_blamed_11 : decode cX9_blamed 11 = .ok (.iconst (-1), 1) := by decide +kernel
theorem dX9_blamed_12 : decode cX9_blamed 12 = .ok (.ireturn, 1) := by decide +kernel
theorem dX9_blamed_13 : decode cX9_blamed 13 = .ok (.aload_n 0, 1) := by decide +kernel
theorem dX9_blamed_14 : decode cX9_blamed 14 = .ok (.getfield 43, 3) := by decide +kernel
theorem dX9_blamed_17 : decode cX9_blamed 17 = .ok (.aload_n 0, 1) := by decide +kernel
theorem dX9_blamed_18 : decode cX9_blamed 18 = .ok (.getfield 10, 3) := by decide +kernel
theorem dX9_blamed_21 : decode cX9_blamed 21 = .ok (.invokevirtual 223, 3) := by decide +kernel
theorem dX9_blamed_24 : decode cX9_blamed 24 = .ok (.aload_n 0, 1) := by decide +kernel
theorem dX9_blamed_25 : decode cX9_blamed 25 = .ok (.getfield 43, 3) := by decide +kernel
theorem dX9_blamed_28 : decode cX9_blamed 28 = .ok (.iload_n 1, 1) := by decide +kernel
theorem dX9_blamed_29 : decode cX9_blamed 29 = .ok (.invokevirtual 230, 3) := by decide +kernel
theorem dX9_blamed_32 : decode cX9_blamed 32 = .ok (.ireturn, 1) := by decide +kernel
theorem dX9_depth_0 : decode cX9_depth 0 = .ok (.aload_n 0, 1) := by decide +kernel
theorem dX9_depth_1 : decode cX9_depth 1 = .ok (.getfield 16, 3) := by decide +kernel
theorem dX9_depth_4 : decode cX9_depth 4 = .ok (.aload_n 0, 1) := by decide +kernel
theorem dX9_depth_5 : decode cX9_depth 5 = .ok (.getfield 10, 3) := by decide +kernel
theorem dX9_depth_8 : decode cX9_depth 8 = .ok (.invokevirtual 102, 3) := by decide +kernel
theorem dX9_depth_11 : decode cX9_depth 11 = .ok (.iconst 0, 1) := by decide +kernel
theorem dX9_depth_12 : decode cX9_depth 12 = .ok (.istore_n 1, 1) := by decide +kernel
theorem dX9_depth_13 : decode cX9_depth 13 = .ok (.iconst 0, 1) := by decide +kernel
theorem dX9_depth_14 : decode cX9_depth 14 = .ok (.istore_n 2, 1) := by decide +kernel
theorem dX9_depth_15 : decode cX9_depth 15 = .ok (.iload_n 2, 1) := by decide +kernel
theorem dX9_depth_16 : decode cX9_depth 16 = .ok (.bipush 20, 2) := by decide +kernel
theorem dX9_depth_18 : decode cX9_depth 18 = .ok (.if_icmp .ge 47, 3) := by decide +kernel
theorem dX9_depth_21 : decode cX9_depth 21 = .ok (.aload_n 0, 1) := by decide +kernel
theorem dX9_depth_22 : decode cX9_depth 22 = .ok (.getfield 36, 3) := by decide +kernel
theorem dX9_depth_25 : decode cX9_depth 25 = .ok (.aload_n 0, 1) := by decide +kernel
theorem dX9_depth_26 : decode cX9_depth 26 = .ok (.getfield 16, 3) := by decide +kernel
theorem dX9_depth_29 : decode cX9_depth 29 = .ok (.invokevirtual 173, 3) := by decide +kernel
theorem dX9_depth_32 : decode cX9_depth 32 = .ok (.aload_n 0, 1) := by decide +kernel
theorem dX9_depth_33 : decode cX9_depth 33 = .ok (.getfield 36, 3) := by decide +kernel
theorem dX9_depth_36 : decode cX9_depth 36 = .ok (.invokevirtual 176, 3) := by decide +kernel
theorem dX9_depth_39 : decode cX9_depth 39 = .ok (.ifCond .ne 6, 3) := by decide +kernel
theorem dX9_depth_42 : decode cX9_depth 42 = .ok (.goto 23, 3) := by decide +kernel
theorem dX9_depth_45 : decode cX9_depth 45 = .ok (.aload_n 0, 1) := by decide +kernel
theorem dX9_depth_46 : decode cX9_depth 46 = .ok (.getfield 36, 3) := by decide +kernel
theorem dX9_depth_49 : decode cX9_depth 49 = .ok (.aload_n 0, 1) := by decide +kernel
theorem dX9_depth_50 : decode cX9_depth 50 = .ok (.getfield 16, 3) := by decide +kernel
theorem dX9_depth_53 : decode cX9_depth 53 = .ok (.invokevirtual 180, 3) := by decide +kernel
theorem dX9_depth_56 : decode cX9_depth 56 = .ok (.iinc 1 1, 3) := by decide +kernel
theorem dX9_depth_59 : decode cX9_depth 59 = .ok (.iinc 2 1, 3) := by decide +kernel
theorem dX9_depth_62 : decode cX9_depth 62 = .ok (.goto (-47), 3) := by decide +kernel
theorem dX9_depth_65 : decode cX9_depth 65 = .ok (.iload_n 1, 1) := by decide +kernel
theorem dX9_depth_66 : decode cX9_depth 66 = .ok (.ireturn, 1) := by decide +kernel
theorem dX9_mending_0 : decode cX9_mending 0 = .ok (.iload_n 1, 1) := by decide +kernel
theorem dX9_mending_1 : decode cX9_mending 1 = .ok (.ifCond .lt 8, 3) := by decide +kernel
theorem dX9_mending_4 : decode cX9_mending 4 = .ok (.iload_n 1, 1) := by decide +kernel
theorem dX9_mending_5 : decode cX9_mending 5 = .ok (.iconst 2, 1) := by decide +kernel
theorem dX9_mending_6 : decode cX9_mending 6 = .ok (.if_icmp .le 5, 3) := by decide +kernel
theorem dX9_mending_9 : decode cX9_mending 9 = .ok (.iconst (-1), 1) := by decide +kernel
theorem dX9_mending_10 : decode cX9_mending 10 = .ok (.ireturn, 1) := by decide +kernel
theorem dX9_mending_11 : decode cX9_mending 11 = .ok (.iconst 0, 1) := by decide +kernel
theorem dX9_mending_12 : decode cX9_mending 12 = .ok (.istore_n 2, 1) := by decide +kernel
theorem dX9_mending_13 : decode cX9_mending 13 = .ok (.iconst 0, 1) := by decide +kernel
theorem dX9_mending_14 : decode cX9_mending 14 = .ok (.istore_n 3, 1) := by decide +kernel
theorem dX9_mending_15 : decode cX9_mending 15 = .ok (.aload_n 0, 1) := by decide +kernel
theorem dX9_mending_16 : decode cX9_mending 16 = .ok (.getfield 10, 3) := by decide +kernel
theorem dX9_mending_19 : decode cX9_mending 19 = .ok (.aload_n 0, 1) := by decide +kernel
theorem dX9_mending_20 : decode cX9_mending 20 = .ok (.getfield 10, 3) := by decide +kernel
theorem dX9_mending_23 : decode cX9_mending 23 = .ok (.invokevirtual 233, 3) := by decide +kernel
theorem dX9_mending_26 : decode cX9_mending 26 = .ok (.invokevirtual 236, 3) := by decide +kernel
theorem dX9_mending_29 : decode cX9_mending 29 = .ok (.ifCond .ne 91, 3) := by decide +kernel
theorem dX9_mending_32 : decode cX9_mending 32 = .ok (.aload_n 0, 1) := by decide +kernel
theorem dX9_mending_33 : decode cX9_mending 33 = .ok (.getfield 16, 3) := by decide +kernel
theorem dX9_mending_36 : decode cX9_mending 36 = .ok (.aload_n 0, 1) := by decide +kernel
theorem dX9_mending_37 : decode cX9_mending 37 = .ok (.getfield 10, 3) := by decide +kernel
theorem dX9_mending_40 : decode cX9_mending 40 = .ok (.invokevirtual 102, 3) := by decide +kernel
theorem dX9_mending_43 : decode cX9_mending 43 = .ok (.iconst 0, 1) := by decide +kernel
theorem dX9_mending_44 : decode cX9_mending 44 = .ok (.istore 4, 2) := by decide +kernel
theorem dX9_mending_46 : decode cX9_mending 46 = .ok (.iload 4, 2) := by decide +kernel
theorem dX9_mending_48 : decode cX9_mending 48 = .ok (.aload_n 0, 1) := by decide +kernel
theorem dX9_mending_49 : decode cX9_mending 49 = .ok (.getfield 10, 3) := by decide +kernel
theorem dX9_mending_52 : decode cX9_mending 52 = .ok (.invokevirtual 109, 3) := by decide +kernel
theorem dX9_mending_55 : decode cX9_mending 55 = .ok (.if_icmp .ge 65, 3) := by decide +kernel
theorem dX9_mending_58 : decode cX9_mending 58 = .ok (.iload 4, 2) := by decide +kernel
theorem dX9_mending_60 : decode cX9_mending 60 = .ok (.iconst 1, 1) := by decide +kernel
theorem dX9_mending_61 : decode cX9_mending 61 = .ok (.iadd, 1) := by decide +kernel
theorem dX9_mending_62 : decode cX9_mending 62 = .ok (.istore 5, 2) := by decide +kernel
theorem dX9_mending_64 : decode cX9_mending 64 = .ok (.iload 5, 2) := by decide +kernel
theorem dX9_mending_66 : decode cX9_mending 66 = .ok (.aload_n 0, 1) := by decide +kernel
theorem dX9_mending_67 : decode cX9_mending 67 = .ok (.getfield 10, 3) := by decide +kernel
theorem dX9_mending_70 : decode cX9_mending 70 = .ok (.invokevirtual 109, 3) := by decide +kernel
theorem dX9_mending_73 : decode cX9_mending 73 = .ok (.if_icmp .ge 41, 3) := by decide +kernel
theorem dX9_mending_76 : decode cX9_mending 76 = .ok (.aload_n 0, 1) := by decide +kernel
theorem dX9_mending_77 : decode cX9_mending 77 = .ok (.iload 4, 2) := by decide +kernel
theorem dX9_mending_79 : decode cX9_mending 79 = .ok (.iload 5, 2) := by decide +kernel
theorem dX9_mending_81 : decode cX9_mending 81 = .ok (.invokevirtual 239, 3) := by decide +kernel
theorem dX9_mending_84 : decode cX9_mending 84 = .ok (.ifCond .eq 24, 3) := by decide +kernel
theorem dX9_mending_87 : decode cX9_mending 87 = .ok (.iload_n 2, 1) := by decide +kernel
theorem dX9_mending_88 : decode cX9_mending 88 = .ok (.ifCond .ne 15, 3) := by decide +kernel
theorem dX9_mending_91 : decode cX9_mending 91 = .ok (.iconst 1, 1) := by decide +kernel
theorem dX9_mending_92 : decode cX9_mending 92 = .ok (.iload 4, 2) := by decide +kernel
theorem dX9_mending_94 : decode cX9_mending 94 = .ok (.ishl, 1) := by decide +kernel
theorem dX9_mending_95 : decode cX9_mending 95 = .ok (.iconst 1, 1) := by decide +kernel
theorem dX9_mending_96 : decode cX9_mending 96 = .ok (.iload 5, 2) := by decide +kernel
theorem dX9_mending_98 : decode cX9_mending 98 = .ok (.ishl, 1) := by decide +kernel
theorem dX9_mending_99 : decode cX9_mending 99 = .ok (.ior, 1) := by decide +kernel
theorem dX9_mending_100 : decode cX9_mending 100 = .ok (.goto 4, 3) := by decide +kernel
theorem dX9_mending_103 : decode cX9_mending 103 = .ok (.iload_n 3, 1) := by decide +kernel
theorem dX9_mending_104 : decode cX9_mending 104 = .ok (.istore_n 3, 1) := by decide +kernel
theorem dX9_mending_105 : decode cX9_mending 105 = .ok (.iinc 2 1, 3) := by decide +kernel
theorem dX9_mending_108 : decode cX9_mending 108 = .ok (.iinc 5 1, 3) := by decide +kernel
theorem dX9_mending_111 : decode cX9_mending 111 = .ok (.goto (-47), 3) := by decide +kernel
theorem dX9_mending_114 : decode cX9_mending 114 = .ok (.iinc 4 1, 3) := by decide +kernel
theorem dX9_mending_117 : decode cX9_mending 117 = .ok (.goto (-71), 3) := by decide +kernel
theorem dX9_mending_120 : decode cX9_mending 120 = .ok (.iload_n 1, 1) := by decide +kernel
theorem dX9_mending_121 : decode cX9_mending 121 = .ok (.ifCond .ne 5, 3) := by decide +kernel
theorem dX9_mending_124 : decode cX9_mending 124 = .ok (.iload_n 2, 1) := by decide +kernel
theorem dX9_mending_125 : decode cX9_mending 125 = .ok (.ireturn, 1) := by decide +kernel
theorem dX9_mending_126 : decode cX9_mending 126 = .ok (.iload_n 2, 1) := by decide +kernel
theorem dX9_mending_127 : decode cX9_mending 127 = .ok (.ifCond .ne 5, 3) := by decide +kernel
theorem dX9_mending_130 : decode cX9_mending 130 = .ok (.iconst (-1), 1) := by decide +kernel
theorem dX9_mending_131 : decode cX9_mending 131 = .ok (.ireturn, 1) := by decide +kernel
theorem dX9_mending_132 : decode cX9_mending 132 = .ok (.iload_n 1, 1) := by decide +kernel
theorem dX9_mending_133 : decode cX9_mending 133 = .ok (.iconst 1, 1) := by decide +kernel
theorem dX9_mending_134 : decode cX9_mending 134 = .ok (.if_icmp .ne 10, 3) := by decide +kernel
theorem dX9_mending_137 : decode cX9_mending 137 = .ok (.iload_n 3, 1) := by decide +kernel
theorem dX9_mending_138 : decode cX9_mending 138 = .ok (.invokestatic 140, 3) := by decide +kernel
theorem dX9_mending_141 : decode cX9_mending 141 = .ok (.goto 11, 3) := by decide +kernel
theorem dX9_mending_144 : decode cX9_mending 144 = .ok (.iload_n 3, 1) := by decide +kernel
theorem dX9_mending_145 : decode cX9_mending 145 = .ok (.iload_n 3, 1) := by decide +kernel
theorem dX9_mending_146 : decode cX9_mending 146 = .ok (.iconst 1, 1) := by decide +kernel
theorem dX9_mending_147 : decode cX9_mending 147 = .ok (.isub, 1) := by decide +kernel
theorem dX9_mending_148 : decode cX9_mending 148 = .ok (.iand, 1) := by decide +kernel
theorem dX9_mending_149 : decode cX9_mending 149 = .ok (.invokestatic 140, 3) := by decide +kernel
theorem dX9_mending_152 : decode cX9_mending 152 = .ok (.ireturn, 1) := by decide +kernel
theorem dX9_may_0 : decode cX9_may 0 = .ok (.aload_n 0, 1) := by decide +kernel
theorem dX9_may_1 : decode cX9_may 1 = .ok (.getfield 10, 3) := by decide +kernel
theorem dX9_may_4 : decode cX9_may 4 = .ok (.iload_n 1, 1) := by decide +kernel
theorem dX9_may_5 : decode cX9_may 5 = .ok (.invokevirtual 158, 3) := by decide +kernel
theorem dX9_may_8 : decode cX9_may 8 = .ok (.ifCond .ne 5, 3) := by decide +kernel
theorem dX9_may_11 : decode cX9_may 11 = .ok (.iconst (-1), 1) := by decide +kernel
theorem dX9_may_12 : decode cX9_may 12 = .ok (.ireturn, 1) := by decide +kernel
theorem dX9_may_13 : decode cX9_may 13 = .ok (.aload_n 0, 1) := by decide +kernel
theorem dX9_may_14 : decode cX9_may 14 = .ok (.iload_n 1, 1) := by decide +kernel
theorem dX9_may_15 : decode cX9_may 15 = .ok (.invokevirtual 242, 3) := by decide +kernel
theorem dX9_may_18 : decode cX9_may 18 = .ok (.ifCond .eq 7, 3) := by decide +kernel
theorem dX9_may_21 : decode cX9_may 21 = .ok (.iconst 1, 1) := by decide +kernel
theorem dX9_may_22 : decode cX9_may 22 = .ok (.goto 4, 3) := by decide +kernel
theorem dX9_may_25 : decode cX9_may 25 = .ok (.iconst 0, 1) := by decide +kernel
theorem dX9_may_26 : decode cX9_may 26 = .ok (.ireturn, 1) := by decide +kernel
theorem dX9_mays_0 : decode cX9_mays 0 = .ok (.aload_n 0, 1) := by decide +kernel
theorem dX9_mays_1 : decode cX9_mays 1 = .ok (.getfield 10, 3) := by decide +kernel
theorem dX9_mays_4 : decode cX9_mays 4 = .ok (.invokevirtual 109, 3) := by decide +kernel
theorem dX9_mays_7 : decode cX9_mays 7 = .ok (.bipush 8, 2) := by decide +kernel
theorem dX9_mays_9 : decode cX9_mays 9 = .ok (.if_icmp .le 5, 3) := by decide +kernel
theorem dX9_mays_12 : decode cX9_mays 12 = .ok (.iconst (-1), 1) := by decide +kernel
theorem dX9_mays_13 : decode cX9_mays 13 = .ok (.ireturn, 1) := by decide +kernel
theorem dX9_mays_14 : decode cX9_mays 14 = .ok (.iconst 0, 1) := by decide +kernel
theorem dX9_mays_15 : decode cX9_mays 15 = .ok (.istore_n 1, 1) := by decide +kernel
theorem dX9_mays_16 : decode cX9_mays 16 = .ok (.iconst 0, 1) := by decide +kernel
theorem dX9_mays_17 : decode cX9_mays 17 = .ok (.istore_n 2, 1) := by decide +kernel
theorem dX9_mays_18 : decode cX9_mays 18 = .ok (.iload_n 2, 1) := by decide +kernel
theorem dX9_mays_19 : decode cX9_mays 19 = .ok (.aload_n 0, 1) := by decide +kernel
theorem dX9_mays_20 : decode cX9_mays 20 = .ok (.getfield 10, 3) := by decide +kernel
theorem dX9_mays_23 : decode cX9_mays 23 = .ok (.invokevirtual 233, 3) := by decide +kernel
theorem dX9_mays_26 : decode cX9_mays 26 = .ok (.if_icmp .gt 20, 3) := by decide +kernel
theorem dX9_mays_29 : decode cX9_mays 29 = .ok (.aload_n 0, 1) := by decide +kernel
theorem dX9_mays_30 : decode cX9_mays 30 = .ok (.iload_n 2, 1) := by decide +kernel
theorem dX9_mays_31 : decode cX9_mays 31 = .ok (.invokevirtual 242, 3) := by decide +kernel
theorem dX9_mays_34 : decode cX9_mays 34 = .ok (.ifCond .eq 6, 3) := by decide +kernel
theorem dX9_mays_37 : decode cX9_mays 37 = .ok (.iinc 1 1, 3) := by decide +kernel
theorem dX9_mays_40 : decode cX9_mays 40 = .ok (.iinc 2 1, 3) := by decide +kernel
theorem dX9_mays_43 : decode cX9_mays 43 = .ok (.goto (-25), 3) := by decide +kernel
theorem dX9_mays_46 : decode cX9_mays 46 = .ok (.iload_n 1, 1) := by decide +kernel
theorem dX9_mays_47 : decode cX9_mays 47 = .ok (.ireturn, 1) := by decide +kernel
theorem dX9_colours_0 : decode cX9_colours 0 = .ok (.aload_n 0, 1) := by decide +kernel
theorem dX9_colours_1 : decode cX9_colours 1 = .ok (.getfield 50, 3) := by decide +kernel
theorem dX9_colours_4 : decode cX9_colours 4 = .ok (.aload_n 0, 1) := by decide +kernel
theorem dX9_colours_5 : decode cX9_colours 5 = .ok (.getfield 10, 3) := by decide +kernel
theorem dX9_colours_8 : decode cX9_colours 8 = .ok (.aload_n 0, 1) := by decide +kernel
theorem dX9_colours_9 : decode cX9_colours 9 = .ok (.getfield 57, 3) := by decide +kernel
theorem dX9_colours_12 : decode cX9_colours 12 = .ok (.invokevirtual 245, 3) := by decide +kernel
theorem dX9_colours_15 : decode cX9_colours 15 = .ok (.ireturn, 1) := by decide +kernel
theorem dX9_colourAt_0 : decode cX9_colourAt 0 = .ok (.aload_n 0, 1) := by decide +kernel
theorem dX9_colourAt_1 : decode cX9_colourAt 1 = .ok (.getfield 10, 3) := by decide +kernel
theorem dX9_colourAt_4 : decode cX9_colourAt 4 = .ok (.iload_n 1, 1) := by decide +kernel
theorem dX9_colourAt_5 : decode cX9_colourAt 5 = .ok (.invokevirtual 127, 3) := by decide +kernel
theorem dX9_colourAt_8 : decode cX9_colourAt 8 = .ok (.ifCond .ne 5, 3) := by decide +kernel
theorem dX9_colourAt_11 : decode cX9_colourAt 11 = .ok (.iconst (-1), 1) := by decide +kernel
theorem dX9_colourAt_12 : decode cX9_colourAt 12 = .ok (.ireturn, 1) := by decide +kernel
theorem dX9_colourAt_13 : decode cX9_colourAt 13 = .ok (.aload_n 0, 1) := by decide +kernel
theorem dX9_colourAt_14 : decode cX9_colourAt 14 = .ok (.getfield 50, 3) := by decide +kernel
theorem dX9_colourAt_17 : decode cX9_colourAt 17 = .ok (.aload_n 0, 1) := by decide +kernel
theorem dX9_colourAt_18 : decode cX9_colourAt 18 = .ok (.getfield 10, 3) := by decide +kernel
theorem dX9_colourAt_21 : decode cX9_colourAt 21 = .ok (.aload_n 0, 1) := by decide +kernel
theorem dX9_colourAt_22 : decode cX9_colourAt 22 = .ok (.getfield 57, 3) := by decide +kernel
theorem dX9_colourAt_25 : decode cX9_colourAt 25 = .ok (.invokevirtual 245, 3) := by decide +kernel
theorem dX9_colourAt_28 : decode cX9_colourAt 28 = .ok (.pop, 1) := by decide +kernel
theorem dX9_colourAt_29 : decode cX9_colourAt 29 = .ok (.aload_n 0, 1) := by decide +kernel
theorem dX9_colourAt_30 : decode cX9_colourAt 30 = .ok (.getfield 50, 3) := by decide +kernel
theorem dX9_colourAt_33 : decode cX9_colourAt 33 = .ok (.iload_n 1, 1) := by decide +kernel
theorem dX9_colourAt_34 : decode cX9_colourAt 34 = .ok (.invokevirtual 249, 3) := by decide +kernel
theorem dX9_colourAt_37 : decode cX9_colourAt 37 = .ok (.ireturn, 1) := by decide +kernel
theorem dX9_apart_0 : decode cX9_apart 0 = .ok (.aload_n 0, 1) := by decide +kernel
theorem dX9_apart_1 : decode cX9_apart 1 = .ok (.getfield 57, 3) := by decide +kernel
theorem dX9_apart_4 : decode cX9_apart 4 = .ok (.aload_n 0, 1) := by decide +kernel
theorem dX9_apart_5 : decode cX9_apart 5 = .ok (.getfield 10, 3) := by decide +kernel
theorem dX9_apart_8 : decode cX9_apart 8 = .ok (.invokevirtual 252, 3) := by decide +kernel
theorem dX9_apart_11 : decode cX9_apart 11 = .ok (.aload_n 0, 1) := by decide +kernel
theorem dX9_apart_12 : decode cX9_apart 12 = .ok (.iload_n 1, 1) := by decide +kernel
theorem dX9_apart_13 : decode cX9_apart 13 = .ok (.invokevirtual 255, 3) := by decide +kernel
theorem dX9_apart_16 : decode cX9_apart 16 = .ok (.ireturn, 1) := by decide +kernel
theorem dX9_clump_0 : decode cX9_clump 0 = .ok (.aload_n 0, 1) := by decide +kernel
theorem dX9_clump_1 : decode cX9_clump 1 = .ok (.getfield 57, 3) := by decide +kernel
theorem dX9_clump_4 : decode cX9_clump 4 = .ok (.aload_n 0, 1) := by decide +kernel
theorem dX9_clump_5 : decode cX9_clump 5 = .ok (.getfield 10, 3) := by decide +kernel
theorem dX9_clump_8 : decode cX9_clump 8 = .ok (.invokevirtual 258, 3) := by decide +kernel
theorem dX9_clump_11 : decode cX9_clump 11 = .ok (.aload_n 0, 1) := by decide +kernel
theorem dX9_clump_12 : decode cX9_clump 12 = .ok (.iload_n 1, 1) := by decide +kernel
theorem dX9_clump_13 : decode cX9_clump 13 = .ok (.invokevirtual 255, 3) := by decide +kernel
theorem dX9_clump_16 : decode cX9_clump 16 = .ok (.ireturn, 1) := by decide +kernel
theorem dX9_change_0 : decode cX9_change 0 = .ok (.aload_n 0, 1) := by decide +kernel
theorem dX9_change_1 : decode cX9_change 1 = .ok (.getfield 10, 3) := by decide +kernel
theorem dX9_change_4 : decode cX9_change 4 = .ok (.iload_n 1, 1) := by decide +kernel
theorem dX9_change_5 : decode cX9_change 5 = .ok (.iload_n 2, 1) := by decide +kernel
theorem dX9_change_6 : decode cX9_change 6 = .ok (.invokevirtual 261, 3) := by decide +kernel
theorem dX9_change_9 : decode cX9_change 9 = .ok (.ifCond .ne 5, 3) := by decide +kernel
theorem dX9_change_12 : decode cX9_change 12 = .ok (.iconst (-1), 1) := by decide +kernel
theorem dX9_change_13 : decode cX9_change 13 = .ok (.ireturn, 1) := by decide +kernel
theorem dX9_change_14 : decode cX9_change 14 = .ok (.aload_n 0, 1) := by decide +kernel
theorem dX9_change_15 : decode cX9_change 15 = .ok (.getfield 10, 3) := by decide +kernel
theorem dX9_change_18 : decode cX9_change 18 = .ok (.iload_n 1, 1) := by decide +kernel
theorem dX9_change_19 : decode cX9_change 19 = .ok (.iload_n 2, 1) := by decide +kernel
theorem dX9_change_20 : decode cX9_change 20 = .ok (.invokevirtual 143, 3) := by decide +kernel
theorem dX9_change_23 : decode cX9_change 23 = .ok (.iload_n 3, 1) := by decide +kernel
theorem dX9_change_24 : decode cX9_change 24 = .ok (.if_icmp .eq 5, 3) := by decide +kernel
theorem dX9_change_27 : decode cX9_change 27 = .ok (.iconst 1, 1) := by decide +kernel
theorem dX9_change_28 : decode cX9_change 28 = .ok (.ireturn, 1) := by decide +kernel
theorem dX9_change_29 : decode cX9_change 29 = .ok (.aload_n 0, 1) := by decide +kernel
theorem dX9_change_30 : decode cX9_change 30 = .ok (.getfield 64, 3) := by decide +kernel
theorem dX9_change_33 : decode cX9_change 33 = .ok (.aload_n 0, 1) := by decide +kernel
theorem dX9_change_34 : decode cX9_change 34 = .ok (.getfield 10, 3) := by decide +kernel
theorem dX9_change_37 : decode cX9_change 37 = .ok (.invokevirtual 161, 3) := by decide +kernel
theorem dX9_change_40 : decode cX9_change 40 = .ok (.aload_n 0, 1) := by decide +kernel
theorem dX9_change_41 : decode cX9_change 41 = .ok (.getfield 10, 3) := by decide +kernel
theorem dX9_change_44 : decode cX9_change 44 = .ok (.iload_n 1, 1) := by decide +kernel
theorem dX9_change_45 : decode cX9_change 45 = .ok (.iload_n 2, 1) := by decide +kernel
theorem dX9_change_46 : decode cX9_change 46 = .ok (.invokevirtual 264, 3) := by decide +kernel
theorem dX9_change_49 : decode cX9_change 49 = .ok (.iconst 0, 1) := by decide +kernel
theorem dX9_change_50 : decode cX9_change 50 = .ok (.ireturn, 1) := by decide +kernel
theorem dX9_chosen_0 : decode cX9_chosen 0 = .ok (.iload_n 1, 1) := by decide +kernel
theorem dX9_chosen_1 : decode cX9_chosen 1 = .ok (.ifCond .ne 11, 3) := by decide +kernel
theorem dX9_chosen_4 : decode cX9_chosen 4 = .ok (.aload_n 0, 1) := by decide +kernel
theorem dX9_chosen_5 : decode cX9_chosen 5 = .ok (.getfield 57, 3) := by decide +kernel
theorem dX9_chosen_8 : decode cX9_chosen 8 = .ok (.invokevirtual 268, 3) := by decide +kernel
theorem dX9_chosen_11 : decode cX9_chosen 11 = .ok (.ireturn, 1) := by decide +kernel
theorem dX9_chosen_12 : decode cX9_chosen 12 = .ok (.iload_n 1, 1) := by decide +kernel
theorem dX9_chosen_13 : decode cX9_chosen 13 = .ok (.iconst 1, 1) := by decide +kernel
theorem dX9_chosen_14 : decode cX9_chosen 14 = .ok (.if_icmp .ne 13, 3) := by decide +kernel
theorem dX9_chosen_17 : decode cX9_chosen 17 = .ok (.aload_n 0, 1) := by decide +kernel
theorem dX9_chosen_18 : decode cX9_chosen 18 = .ok (.getfield 57, 3) := by decide +kernel
theorem dX9_chosen_21 : decode cX9_chosen 21 = .ok (.invokevirtual 271, 3) := by decide +kernel
theorem dX9_chosen_24 : decode cX9_chosen 24 = .ok (.goto 4, 3) := by decide +kernel
theorem dX9_chosen_27 : decode cX9_chosen 27 = .ok (.iconst (-1), 1) := by decide +kernel
theorem dX9_chosen_28 : decode cX9_chosen 28 = .ok (.ireturn, 1) := by decide +kernel
theorem dX9_mendsByFlipping_0 : decode cX9_mendsByFlipping 0 = .ok (.aload_n 0, 1) := by decide +kernel
theorem dX9_mendsByFlipping_1 : decode cX9_mendsByFlipping 1 = .ok (.getfield 16, 3) := by decide +kernel
theorem dX9_mendsByFlipping_4 : decode cX9_mendsByFlipping 4 = .ok (.iload_n 1, 1) := by decide +kernel
theorem dX9_mendsByFlipping_5 : decode cX9_mendsByFlipping 5 = .ok (.iload_n 2, 1) := by decide +kernel
theorem dX9_mendsByFlipping_6 : decode cX9_mendsByFlipping 6 = .ok (.invokevirtual 264, 3) := by decide +kernel
theorem dX9_mendsByFlipping_9 : decode cX9_mendsByFlipping 9 = .ok (.aload_n 0, 1) := by decide +kernel
theorem dX9_mendsByFlipping_10 : decode cX9_mendsByFlipping 10 = .ok (.getfield 16, 3) := by decide +kernel
theorem dX9_mendsByFlipping_13 : decode cX9_mendsByFlipping 13 = .ok (.aload_n 0, 1) := by decide +kernel
theorem dX9_mendsByFlipping_14 : decode cX9_mendsByFlipping 14 = .ok (.getfield 16, 3) := by decide +kernel
theorem dX9_mendsByFlipping_17 : decode cX9_mendsByFlipping 17 = .ok (.invokevirtual 233, 3) := by decide +kernel
theorem dX9_mendsByFlipping_20 : decode cX9_mendsByFlipping 20 = .ok (.invokevirtual 236, 3) := by decide +kernel
theorem dX9_mendsByFlipping_23 : decode cX9_mendsByFlipping 23 = .ok (.istore_n 3, 1) := by decide +kernel
theorem dX9_mendsByFlipping_24 : decode cX9_mendsByFlipping 24 = .ok (.aload_n 0, 1) := by decide +kernel
theorem dX9_mendsByFlipping_25 : decode cX9_mendsByFlipping 25 = .ok (.getfield 16, 3) := by decide +kernel
theorem dX9_mendsByFlipping_28 : decode cX9_mendsByFlipping 28 = .ok (.iload_n 1, 1) := by decide +kernel
theorem dX9_mendsByFlipping_29 : decode cX9_mendsByFlipping 29 = .ok (.iload_n 2, 1) := by decide +kernel
theorem dX9_mendsByFlipping_30 : decode cX9_mendsByFlipping 30 = .ok (.invokevirtual 264, 3) := by decide +kernel
theorem dX9_mendsByFlipping_33 : decode cX9_mendsByFlipping 33 = .ok (.iload_n 3, 1) := by decide +kernel
theorem dX9_mendsByFlipping_34 : decode cX9_mendsByFlipping 34 = .ok (.ireturn, 1) := by decide +kernel
theorem dX9_coversWith_0 : decode cX9_coversWith 0 = .ok (.aload_n 0, 1) := by decide +kernel
theorem dX9_coversWith_1 : decode cX9_coversWith 1 = .ok (.getfield 16, 3) := by decide +kernel
theorem dX9_coversWith_4 : decode cX9_coversWith 4 = .ok (.aload_n 0, 1) := by decide +kernel
theorem dX9_coversWith_5 : decode cX9_coversWith 5 = .ok (.getfield 10, 3) := by decide +kernel
theorem dX9_coversWith_8 : decode cX9_coversWith 8 = .ok (.invokevirtual 102, 3) := by decide +kernel
theorem dX9_coversWith_11 : decode cX9_coversWith 11 = .ok (.aload_n 0, 1) := by decide +kernel
theorem dX9_coversWith_12 : decode cX9_coversWith 12 = .ok (.getfield 16, 3) := by decide +kernel
theorem dX9_coversWith_15 : decode cX9_coversWith 15 = .ok (.iload_n 1, 1) := by decide +kernel
theorem dX9_coversWith_16 : decode cX9_coversWith 16 = .ok (.invokevirtual 164, 3) := by decide +kernel
theorem dX9_coversWith_19 : decode cX9_coversWith 19 = .ok (.aload_n 0, 1) := by decide +kernel
theorem dX9_coversWith_20 : decode cX9_coversWith 20 = .ok (.getfield 16, 3) := by decide +kernel
theorem dX9_coversWith_23 : decode cX9_coversWith 23 = .ok (.aload_n 0, 1) := by decide +kernel
theorem dX9_coversWith_24 : decode cX9_coversWith 24 = .ok (.getfield 16, 3) := by decide +kernel
theorem dX9_coversWith_27 : decode cX9_coversWith 27 = .ok (.invokevirtual 233, 3) := by decide +kernel
theorem dX9_coversWith_30 : decode cX9_coversWith 30 = .ok (.invokevirtual 236, 3) := by decide +kernel
theorem dX9_coversWith_33 : decode cX9_coversWith 33 = .ok (.ireturn, 1) := by decide +kernel
theorem dX9_draw_0 : decode cX9_draw 0 = .ok (.aload_n 0, 1) := by decide +kernel
theorem dX9_draw_1 : decode cX9_draw 1 = .ok (.aload_n 0, 1) := by decide +kernel
theorem dX9_draw_2 : decode cX9_draw 2 = .ok (.getfield 183, 3) := by decide +kernel
theorem dX9_draw_5 : decode cX9_draw 5 = .ok (.ldc_w 274, 3) := by decide +kernel
theorem dX9_draw_8 : decode cX9_draw 8 = .ok (.imul, 1) := by decide +kernel
theorem dX9_draw_9 : decode cX9_draw 9 = .ok (.sipush 12345, 3) := by decide +kernel
theorem dX9_draw_12 : decode cX9_draw 12 = .ok (.iadd, 1) := by decide +kernel
theorem dX9_draw_13 : decode cX9_draw 13 = .ok (.putfield 183, 3) := by decide +kernel
theorem dX9_draw_16 : decode cX9_draw 16 = .ok (.iload_n 1, 1) := by decide +kernel
theorem dX9_draw_17 : decode cX9_draw 17 = .ok (.ifCond .le 15, 3) := by decide +kernel
theorem dX9_draw_20 : decode cX9_draw 20 = .ok (.aload_n 0, 1) := by decide +kernel
theorem dX9_draw_21 : decode cX9_draw 21 = .ok (.getfield 183, 3) := by decide +kernel
theorem dX9_draw_24 : decode cX9_draw 24 = .ok (.bipush 8, 2) := by decide +kernel
theorem dX9_draw_26 : decode cX9_draw 26 = .ok (.iushr, 1) := by decide +kernel
theorem dX9_draw_27 : decode cX9_draw 27 = .ok (.iload_n 1, 1) := by decide +kernel
theorem dX9_draw_28 : decode cX9_draw 28 = .ok (.irem, 1) := by decide +kernel
theorem dX9_draw_29 : decode cX9_draw 29 = .ok (.goto 4, 3) := by decide +kernel
theorem dX9_draw_32 : decode cX9_draw 32 = .ok (.iconst 0, 1) := by decide +kernel
theorem dX9_draw_33 : decode cX9_draw 33 = .ok (.ireturn, 1) := by decide +kernel
theorem dX9_didDeed_0 : decode cX9_didDeed 0 = .ok (.aload_n 0, 1) := by decide +kernel
theorem dX9_didDeed_1 : decode cX9_didDeed 1 = .ok (.bipush 6, 2) := by decide +kernel
theorem dX9_didDeed_3 : decode cX9_didDeed 3 = .ok (.invokevirtual 275, 3) := by decide +kernel
theorem dX9_didDeed_6 : decode cX9_didDeed 6 = .ok (.istore_n 1, 1) := by decide +kernel
theorem dX9_didDeed_7 : decode cX9_didDeed 7 = .ok (.iload_n 1, 1) := by decide +kernel
theorem dX9_didDeed_8 : decode cX9_didDeed 8 = .ok (.ifCond .ne 8, 3) := by decide +kernel
theorem dX9_didDeed_11 : decode cX9_didDeed 11 = .ok (.aload_n 0, 1) := by decide +kernel
theorem dX9_didDeed_12 : decode cX9_didDeed 12 = .ok (.invokevirtual 278, 3) := by decide +kernel
theorem dX9_didDeed_15 : decode cX9_didDeed 15 = .ok (.ireturn, 1) := by decide +kernel
theorem dX9_didDeed_16 : decode cX9_didDeed 16 = .ok (.iload_n 1, 1) := by decide +kernel
theorem dX9_didDeed_17 : decode cX9_didDeed 17 = .ok (.iconst 1, 1) := by decide +kernel
theorem dX9_didDeed_18 : decode cX9_didDeed 18 = .ok (.if_icmp .ne 10, 3) := by decide +kernel
theorem dX9_didDeed_21 : decode cX9_didDeed 21 = .ok (.aload_n 0, 1) := by decide +kernel
theorem dX9_didDeed_22 : decode cX9_didDeed 22 = .ok (.invokevirtual 281, 3) := by decide +kernel
theorem dX9_didDeed_25 : decode cX9_didDeed 25 = .ok (.goto 7, 3) := by decide +kernel
theorem dX9_didDeed_28 : decode cX9_didDeed 28 = .ok (.aload_n 0, 1) := by decide +kernel
theorem dX9_didDeed_29 : decode cX9_didDeed 29 = .ok (.invokevirtual 284, 3) := by decide +kernel
theorem dX9_didDeed_32 : decode cX9_didDeed 32 = .ok (.ireturn, 1) := by decide +kernel
theorem dX9_didGo_0 : decode cX9_didGo 0 = .ok (.aload_n 0, 1) := by decide +kernel
theorem dX9_didGo_1 : decode cX9_didGo 1 = .ok (.getfield 10, 3) := by decide +kernel
theorem dX9_didGo_4 : decode cX9_didGo 4 = .ok (.invokevirtual 109, 3) := by decide +kernel
theorem dX9_didGo_7 : decode cX9_didGo 7 = .ok (.ifCond .ne 5, 3) := by decide +kernel
theorem dX9_didGo_10 : decode cX9_didGo 10 = .ok (.iconst 0, 1) := by decide +kernel
theorem dX9_didGo_11 : decode cX9_didGo 11 = .ok (.ireturn, 1) := by decide +kernel
theorem dX9_didGo_12 : decode cX9_didGo 12 = .ok (.aload_n 0, 1) := by decide +kernel
theorem dX9_didGo_13 : decode cX9_didGo 13 = .ok (.getfield 10, 3) := by decide +kernel
theorem dX9_didGo_16 : decode cX9_didGo 16 = .ok (.aload_n 0, 1) := by decide +kernel
theorem dX9_didGo_17 : decode cX9_didGo 17 = .ok (.aload_n 0, 1) := by decide +kernel
theorem dX9_didGo_18 : decode cX9_didGo 18 = .ok (.getfield 10, 3) := by decide +kernel
theorem dX9_didGo_21 : decode cX9_didGo 21 = .ok (.invokevirtual 109, 3) := by decide +kernel
theorem dX9_didGo_24 : decode cX9_didGo 24 = .ok (.invokevirtual 275, 3) := by decide +kernel
theorem dX9_didGo_27 : decode cX9_didGo 27 = .ok (.invokevirtual 167, 3) := by decide +kernel
theorem dX9_didGo_30 : decode cX9_didGo 30 = .ok (.iconst 1, 1) := by decide +kernel
theorem dX9_didGo_31 : decode cX9_didGo 31 = .ok (.ireturn, 1) := by decide +kernel
theorem dX9_didCome_0 : decode cX9_didCome 0 = .ok (.aload_n 0, 1) := by decide +kernel
theorem dX9_didCome_1 : decode cX9_didCome 1 = .ok (.getfield 10, 3) := by decide +kernel
theorem dX9_didCome_4 : decode cX9_didCome 4 = .ok (.invokevirtual 109, 3) := by decide +kernel
theorem dX9_didCome_7 : decode cX9_didCome 7 = .ok (.bipush 14, 2) := by decide +kernel
theorem dX9_didCome_9 : decode cX9_didCome 9 = .ok (.if_icmp .lt 5, 3) := by decide +kernel
theorem dX9_didCome_12 : decode cX9_didCome 12 = .ok (.iconst 0, 1) := by decide +kernel
theorem dX9_didCome_13 : decode cX9_didCome 13 = .ok (.ireturn, 1) := by decide +kernel
theorem dX9_didCome_14 : decode cX9_didCome 14 = .ok (.iconst 0, 1) := by decide +kernel
theorem dX9_didCome_15 : decode cX9_didCome 15 = .ok (.istore_n 1, 1) := by decide +kernel
theorem dX9_didCome_16 : decode cX9_didCome 16 = .ok (.iconst 0, 1) := by decide +kernel
theorem dX9_didCome_17 : decode cX9_didCome 17 = .ok (.istore_n 2, 1) := by decide +kernel
theorem dX9_didCome_18 : decode cX9_didCome 18 = .ok (.iload_n 2, 1) := by decide +kernel
theorem dX9_didCome_19 : decode cX9_didCome 19 = .ok (.aload_n 0, 1) := by decide +kernel
theorem dX9_didCome_20 : decode cX9_didCome 20 = .ok (.getfield 10, 3) := by decide +kernel
theorem dX9_didCome_23 : decode cX9_didCome 23 = .ok (.invokevirtual 109, 3) := by decide +kernel
theorem dX9_didCome_26 : decode cX9_didCome 26 = .ok (.if_icmp .ge 23, 3) := by decide +kernel
theorem dX9_didCome_29 : decode cX9_didCome 29 = .ok (.aload_n 0, 1) := by decide +kernel
theorem dX9_didCome_30 : decode cX9_didCome 30 = .ok (.iconst 3, 1) := by decide +kernel
theorem dX9_didCome_31 : decode cX9_didCome 31 = .ok (.invokevirtual 275, 3) := by decide +kernel
theorem dX9_didCome_34 : decode cX9_didCome 34 = .ok (.ifCond .ne 9, 3) := by decide +kernel
theorem dX9_didCome_37 : decode cX9_didCome 37 = .ok (.iload_n 1, 1) := by decide +kernel
theorem dX9_didCome_38 : decode cX9_didCome 38 = .ok (.iconst 1, 1) := by decide +kernel
theorem dX9_didCome_39 : decode cX9_didCome 39 = .ok (.iload_n 2, 1) := by decide +kernel
theorem dX9_didCome_40 : decode cX9_didCome 40 = .ok (.ishl, 1) := by decide +kernel
theorem dX9_didCome_41 : decode cX9_didCome 41 = .ok (.ior, 1) := by decide +kernel
theorem dX9_didCome_42 : decode cX9_didCome 42 = .ok (.istore_n 1, 1) := by decide +kernel
theorem dX9_didCome_43 : decode cX9_didCome 43 = .ok (.iinc 2 1, 3) := by decide +kernel
theorem dX9_didCome_46 : decode cX9_didCome 46 = .ok (.goto (-28), 3) := by decide +kernel
theorem dX9_didCome_49 : decode cX9_didCome 49 = .ok (.aload_n 0, 1) := by decide +kernel
theorem dX9_didCome_50 : decode cX9_didCome 50 = .ok (.getfield 10, 3) := by decide +kernel
theorem dX9_didCome_53 : decode cX9_didCome 53 = .ok (.iload_n 1, 1) := by decide +kernel
theorem dX9_didCome_54 : decode cX9_didCome 54 = .ok (.invokevirtual 164, 3) := by decide +kernel
theorem dX9_didCome_57 : decode cX9_didCome 57 = .ok (.iconst 1, 1) := by decide +kernel
theorem dX9_didCome_58 : decode cX9_didCome 58 = .ok (.ireturn, 1) := by decide +kernel
theorem dX9_didFlip_0 : decode cX9_didFlip 0 = .ok (.aload_n 0, 1) := by decide +kernel
theorem dX9_didFlip_1 : decode cX9_didFlip 1 = .ok (.getfield 10, 3) := by decide +kernel
theorem dX9_didFlip_4 : decode cX9_didFlip 4 = .ok (.invokevirtual 109, 3) := by decide +kernel
theorem dX9_didFlip_7 : decode cX9_didFlip 7 = .ok (.iconst 2, 1) := by decide +kernel
theorem dX9_didFlip_8 : decode cX9_didFlip 8 = .ok (.if_icmp .ge 5, 3) := by decide +kernel
theorem dX9_didFlip_11 : decode cX9_didFlip 11 = .ok (.iconst 0, 1) := by decide +kernel
theorem dX9_didFlip_12 : decode cX9_didFlip 12 = .ok (.ireturn, 1) := by decide +kernel
theorem dX9_didFlip_13 : decode cX9_didFlip 13 = .ok (.aload_n 0, 1) := by decide +kernel
theorem dX9_didFlip_14 : decode cX9_didFlip 14 = .ok (.aload_n 0, 1) := by decide +kernel
theorem dX9_didFlip_15 : decode cX9_didFlip 15 = .ok (.getfield 10, 3) := by decide +kernel
theorem dX9_didFlip_18 : decode cX9_didFlip 18 = .ok (.invokevirtual 109, 3) := by decide +kernel
theorem dX9_didFlip_21 : decode cX9_didFlip 21 = .ok (.invokevirtual 275, 3) := by decide +kernel
theorem dX9_didFlip_24 : decode cX9_didFlip 24 = .ok (.istore_n 1, 1) := by decide +kernel
theorem dX9_didFlip_25 : decode cX9_didFlip 25 = .ok (.aload_n 0, 1) := by decide +kernel
theorem dX9_didFlip_26 : decode cX9_didFlip 26 = .ok (.aload_n 0, 1) := by decide +kernel
theorem dX9_didFlip_27 : decode cX9_didFlip 27 = .ok (.getfield 10, 3) := by decide +kernel
theorem dX9_didFlip_30 : decode cX9_didFlip 30 = .ok (.invokevirtual 109, 3) := by decide +kernel
theorem dX9_didFlip_33 : decode cX9_didFlip 33 = .ok (.iconst 1, 1) := by decide +kernel
theorem dX9_didFlip_34 : decode cX9_didFlip 34 = .ok (.isub, 1) := by decide +kernel
theorem dX9_didFlip_35 : decode cX9_didFlip 35 = .ok (.invokevirtual 275, 3) := by decide +kernel
theorem dX9_didFlip_38 : decode cX9_didFlip 38 = .ok (.istore_n 2, 1) := by decide +kernel
theorem dX9_didFlip_39 : decode cX9_didFlip 39 = .ok (.iload_n 2, 1) := by decide +kernel
theorem dX9_didFlip_40 : decode cX9_didFlip 40 = .ok (.iload_n 1, 1) := by decide +kernel
theorem dX9_didFlip_41 : decode cX9_didFlip 41 = .ok (.if_icmp .lt 6, 3) := by decide +kernel
theorem dX9_didFlip_44 : decode cX9_didFlip 44 = .ok (.iinc 2 1, 3) := by decide +kernel
theorem dX9_didFlip_47 : decode cX9_didFlip 47 = .ok (.aload_n 0, 1) := by decide +kernel
theorem dX9_didFlip_48 : decode cX9_didFlip 48 = .ok (.getfield 10, 3) := by decide +kernel
theorem dX9_didFlip_51 : decode cX9_didFlip 51 = .ok (.iload_n 1, 1) := by decide +kernel
theorem dX9_didFlip_52 : decode cX9_didFlip 52 = .ok (.iload_n 2, 1) := by decide +kernel
theorem dX9_didFlip_53 : decode cX9_didFlip 53 = .ok (.invokevirtual 264, 3) := by decide +kernel
theorem dX9_didFlip_56 : decode cX9_didFlip 56 = .ok (.iconst 1, 1) := by decide +kernel
theorem dX9_didFlip_57 : decode cX9_didFlip 57 = .ok (.ireturn, 1) := by decide +kernel
theorem dX9_at_0 : decode cX9_at 0 = .ok (.aload_n 0, 1) := by decide +kernel
theorem dX9_at_1 : decode cX9_at 1 = .ok (.ifnull 19, 3) := by decide +kernel
theorem dX9_at_4 : decode cX9_at 4 = .ok (.iload_n 1, 1) := by decide +kernel
theorem dX9_at_5 : decode cX9_at 5 = .ok (.ifCond .lt 15, 3) := by decide +kernel
theorem dX9_at_8 : decode cX9_at 8 = .ok (.iload_n 1, 1) := by decide +kernel
theorem dX9_at_9 : decode cX9_at 9 = .ok (.aload_n 0, 1) := by decide +kernel
theorem dX9_at_10 : decode cX9_at 10 = .ok (.arraylength, 1) := by decide +kernel
theorem dX9_at_11 : decode cX9_at 11 = .ok (.if_icmp .ge 9, 3) := by decide +kernel
theorem dX9_at_14 : decode cX9_at 14 = .ok (.aload_n 0, 1) := by decide +kernel
theorem dX9_at_15 : decode cX9_at 15 = .ok (.iload_n 1, 1) := by decide +kernel
theorem dX9_at_16 : decode cX9_at 16 = .ok (.iaload, 1) := by decide +kernel
theorem dX9_at_17 : decode cX9_at 17 = .ok (.goto 4, 3) := by decide +kernel
theorem dX9_at_20 : decode cX9_at 20 = .ok (.iconst 0, 1) := by decide +kernel
theorem dX9_at_21 : decode cX9_at 21 = .ok (.ireturn, 1) := by decide +kernel
theorem dX9_put_0 : decode cX9_put 0 = .ok (.aload_n 0, 1) := by decide +kernel
theorem dX9_put_1 : decode cX9_put 1 = .ok (.ifnull 17, 3) := by decide +kernel
theorem dX9_put_4 : decode cX9_put 4 = .ok (.iload_n 1, 1) := by decide +kernel
theorem dX9_put_5 : decode cX9_put 5 = .ok (.ifCond .lt 13, 3) := by decide +kernel
theorem dX9_put_8 : decode cX9_put 8 = .ok (.iload_n 1, 1) := by decide +kernel
theorem dX9_put_9 : decode cX9_put 9 = .ok (.aload_n 0, 1) := by decide +kernel
theorem dX9_put_10 : decode cX9_put 10 = .ok (.arraylength, 1) := by decide +kernel
theorem dX9_put_11 : decode cX9_put 11 = .ok (.if_icmp .ge 7, 3) := by decide +kernel
theorem dX9_put_14 : decode cX9_put 14 = .ok (.aload_n 0, 1) := by decide +kernel
theorem dX9_put_15 : decode cX9_put 15 = .ok (.iload_n 1, 1) := by decide +kernel
theorem dX9_put_16 : decode cX9_put 16 = .ok (.iload_n 2, 1) := by decide +kernel
theorem dX9_put_17 : decode cX9_put 17 = .ok (.iastore, 1) := by decide +kernel
theorem dX9_put_18 : decode cX9_put 18 = .ok (.return_, 1) := by decide +kernel
theorem dX9_has_0 : decode cX9_has 0 = .ok (.iload_n 1, 1) := by decide +kernel
theorem dX9_has_1 : decode cX9_has 1 = .ok (.ifCond .lt 21, 3) := by decide +kernel
theorem dX9_has_4 : decode cX9_has 4 = .ok (.iload_n 1, 1) := by decide +kernel
theorem dX9_has_5 : decode cX9_has 5 = .ok (.bipush 14, 2) := by decide +kernel
theorem dX9_has_7 : decode cX9_has 7 = .ok (.if_icmp .ge 15, 3) := by decide +kernel
theorem dX9_has_10 : decode cX9_has 10 = .ok (.iload_n 0, 1) := by decide +kernel
theorem dX9_has_11 : decode cX9_has 11 = .ok (.iload_n 1, 1) := by decide +kernel
theorem dX9_has_12 : decode cX9_has 12 = .ok (.iushr, 1) := by decide +kernel
theorem dX9_has_13 : decode cX9_has 13 = .ok (.iconst 1, 1) := by decide +kernel
theorem dX9_has_14 : decode cX9_has 14 = .ok (.iand, 1) := by decide +kernel
theorem dX9_has_15 : decode cX9_has 15 = .ok (.ifCond .eq 7, 3) := by decide +kernel
theorem dX9_has_18 : decode cX9_has 18 = .ok (.iconst 1, 1) := by decide +kernel
theorem dX9_has_19 : decode cX9_has 19 = .ok (.goto 4, 3) := by decide +kernel
theorem dX9_has_22 : decode cX9_has 22 = .ok (.iconst 0, 1) := by decide +kernel
theorem dX9_has_23 : decode cX9_has 23 = .ok (.ireturn, 1) := by decide +kernel
theorem dX9_lowest_0 : decode cX9_lowest 0 = .ok (.iload_n 0, 1) := by decide +kernel
theorem dX9_lowest_1 : decode cX9_lowest 1 = .ok (.iload_n 0, 1) := by decide +kernel
theorem dX9_lowest_2 : decode cX9_lowest 2 = .ok (.ineg, 1) := by decide +kernel
theorem dX9_lowest_3 : decode cX9_lowest 3 = .ok (.iand, 1) := by decide +kernel
theorem dX9_lowest_4 : decode cX9_lowest 4 = .ok (.iconst 1, 1) := by decide +kernel
theorem dX9_lowest_5 : decode cX9_lowest 5 = .ok (.isub, 1) := by decide +kernel
theorem dX9_lowest_6 : decode cX9_lowest 6 = .ok (.invokestatic 287, 3) := by decide +kernel
theorem dX9_lowest_9 : decode cX9_lowest 9 = .ok (.ireturn, 1) := by decide +kernel
theorem dX9_behind_0 : decode cX9_behind 0 = .ok (.bipush (-2), 2) := by decide +kernel
theorem dX9_behind_2 : decode cX9_behind 2 = .ok (.iload_n 0, 1) := by decide +kernel
theorem dX9_behind_3 : decode cX9_behind 3 = .ok (.ishl, 1) := by decide +kernel
theorem dX9_behind_4 : decode cX9_behind 4 = .ok (.ireturn, 1) := by decide +kernel
theorem dX9_eachTwo_0 : decode cX9_eachTwo 0 = .ok (.iconst 0, 1) := by decide +kernel
theorem dX9_eachTwo_1 : decode cX9_eachTwo 1 = .ok (.istore_n 2, 1) := by decide +kernel
theorem dX9_eachTwo_2 : decode cX9_eachTwo 2 = .ok (.iload_n 2, 1) := by decide +kernel
theorem dX9_eachTwo_3 : decode cX9_eachTwo 3 = .ok (.bipush 14, 2) := by decide +kernel
theorem dX9_eachTwo_5 : decode cX9_eachTwo 5 = .ok (.if_icmp .ge 34, 3) := by decide +kernel
theorem dX9_eachTwo_8 : decode cX9_eachTwo 8 = .ok (.iload_n 1, 1) := by decide +kernel
theorem dX9_eachTwo_9 : decode cX9_eachTwo 9 = .ok (.iload_n 2, 1) := by decide +kernel
theorem dX9_eachTwo_10 : decode cX9_eachTwo 10 = .ok (.invokestatic 200, 3) := by decide +kernel
theorem dX9_eachTwo_13 : decode cX9_eachTwo 13 = .ok (.ifCond .eq 20, 3) := by decide +kernel
theorem dX9_eachTwo_16 : decode cX9_eachTwo 16 = .ok (.iload_n 1, 1) := by decide +kernel
theorem dX9_eachTwo_17 : decode cX9_eachTwo 17 = .ok (.aload_n 0, 1) := by decide +kernel
theorem dX9_eachTwo_18 : decode cX9_eachTwo 18 = .ok (.iload_n 2, 1) := by decide +kernel
theorem dX9_eachTwo_19 : decode cX9_eachTwo 19 = .ok (.invokestatic 292, 3) := by decide +kernel
theorem dX9_eachTwo_22 : decode cX9_eachTwo 22 = .ok (.iconst (-1), 1) := by decide +kernel
theorem dX9_eachTwo_23 : decode cX9_eachTwo 23 = .ok (.ixor, 1) := by decide +kernel
theorem dX9_eachTwo_24 : decode cX9_eachTwo 24 = .ok (.iand, 1) := by decide +kernel
theorem dX9_eachTwo_25 : decode cX9_eachTwo 25 = .ok (.iconst 1, 1) := by decide +kernel
theorem dX9_eachTwo_26 : decode cX9_eachTwo 26 = .ok (.iload_n 2, 1) := by decide +kernel
theorem dX9_eachTwo_27 : decode cX9_eachTwo 27 = .ok (.ishl, 1) := by decide +kernel
theorem dX9_eachTwo_28 : decode cX9_eachTwo 28 = .ok (.if_icmp .eq 5, 3) := by decide +kernel
theorem dX9_eachTwo_31 : decode cX9_eachTwo 31 = .ok (.iconst 0, 1) := by decide +kernel
theorem dX9_eachTwo_32 : decode cX9_eachTwo 32 = .ok (.ireturn, 1) := by decide +kernel
theorem dX9_eachTwo_33 : decode cX9_eachTwo 33 = .ok (.iinc 2 1, 3) := by decide +kernel
theorem dX9_eachTwo_36 : decode cX9_eachTwo 36 = .ok (.goto (-34), 3) := by decide +kernel
theorem dX9_eachTwo_39 : decode cX9_eachTwo 39 = .ok (.iconst 1, 1) := by decide +kernel
theorem dX9_eachTwo_40 : decode cX9_eachTwo 40 = .ok (.ireturn, 1) := by decide +kernel
theorem dX10_thrown_0 : decode cX10_thrown 0 = .ok (.aload_n 0, 1) := by decide +kernel
theorem dX10_thrown_1 : decode cX10_thrown 1 = .ok (.getfield 1, 3) := by decide +kernel
theorem dX10_thrown_4 : decode cX10_thrown 4 = .ok (.ireturn, 1) := by decide +kernel
theorem dX10_refuse_0 : decode cX10_refuse 0 = .ok (.aload_n 0, 1) := by decide +kernel
theorem dX10_refuse_1 : decode cX10_refuse 1 = .ok (.iconst 1, 1) := by decide +kernel
theorem dX10_refuse_2 : decode cX10_refuse 2 = .ok (.putfield 1, 3) := by decide +kernel
theorem dX10_refuse_5 : decode cX10_refuse 5 = .ok (.iconst 0, 1) := by decide +kernel
theorem dX10_refuse_6 : decode cX10_refuse 6 = .ok (.ireturn, 1) := by decide +kernel
theorem dX10_isIn_0 : decode cX10_isIn 0 = .ok (.iload_n 0, 1) := by decide +kernel
theorem dX10_isIn_1 : decode cX10_isIn 1 = .ok (.iload_n 1, 1) := by decide +kernel
theorem dX10_isIn_2 : decode cX10_isIn 2 = .ok (.if_icmp .lt 12, 3) := by decide +kernel
theorem dX10_isIn_5 : decode cX10_isIn 5 = .ok (.iload_n 0, 1) := by decide +kernel
theorem dX10_isIn_6 : decode cX10_isIn 6 = .ok (.iload_n 2, 1) := by decide +kernel
theorem dX10_isIn_7 : decode cX10_isIn 7 = .ok (.if_icmp .gt 7, 3) := by decide +kernel
theorem dX10_isIn_10 : decode cX10_isIn 10 = .ok (.iconst 1, 1) := by decide +kernel
theorem dX10_isIn_11 : decode cX10_isIn 11 = .ok (.goto 4, 3) := by decide +kernel
theorem dX10_isIn_14 : decode cX10_isIn 14 = .ok (.iconst 0, 1) := by decide +kernel
theorem dX10_isIn_15 : decode cX10_isIn 15 = .ok (.ireturn, 1) := by decide +kernel
theorem dX10_has_0 : decode cX10_has 0 = .ok (.iload_n 0, 1) := by decide +kernel
theorem dX10_has_1 : decode cX10_has 1 = .ok (.iload_n 1, 1) := by decide +kernel
theorem dX10_has_2 : decode cX10_has 2 = .ok (.ishr, 1) := by decide +kernel
theorem dX10_has_3 : decode cX10_has 3 = .ok (.iconst 1, 1) := by decide +kernel
theorem dX10_has_4 : decode cX10_has 4 = .ok (.iand, 1) := by decide +kernel
theorem dX10_has_5 : decode cX10_has 5 = .ok (.iconst 1, 1) := by decide +kernel
theorem dX10_has_6 : decode cX10_has 6 = .ok (.if_icmp .ne 7, 3) := by decide +kernel
theorem dX10_has_9 : decode cX10_has 9 = .ok (.iconst 1, 1) := by decide +kernel
theorem dX10_has_10 : decode cX10_has 10 = .ok (.goto 4, 3) := by decide +kernel
theorem dX10_has_13 : decode cX10_has 13 = .ok (.iconst 0, 1) := by decide +kernel
theorem dX10_has_14 : decode cX10_has 14 = .ok (.ireturn, 1) := by decide +kernel
theorem dX10_bits_0 : decode cX10_bits 0 = .ok (.iconst 0, 1) := by decide +kernel
theorem dX10_bits_1 : decode cX10_bits 1 = .ok (.istore_n 1, 1) := by decide +kernel
theorem dX10_bits_2 : decode cX10_bits 2 = .ok (.iload_n 0, 1) := by decide +kernel
theorem dX10_bits_3 : decode cX10_bits 3 = .ok (.istore_n 2, 1) := by decide +kernel
theorem dX10_bits_4 : decode cX10_bits 4 = .ok (.iload_n 2, 1) := by decide +kernel
theorem dX10_bits_5 : decode cX10_bits 5 = .ok (.ifCond .eq 15, 3) := by decide +kernel
theorem dX10_bits_8 : decode cX10_bits 8 = .ok (.iinc 1 1, 3) := by decide +kernel
theorem dX10_bits_11 : decode cX10_bits 11 = .ok (.iload_n 2, 1) := by decide +kernel
theorem dX10_bits_12 : decode cX10_bits 12 = .ok (.iload_n 2, 1) := by decide +kernel
theorem dX10_bits_13 : decode cX10_bits 13 = .ok (.iconst 1, 1) := by decide +kernel
theorem dX10_bits_14 : decode cX10_bits 14 = .ok (.isub, 1) := by decide +kernel
theorem dX10_bits_15 : decode cX10_bits 15 = .ok (.iand, 1) := by decide +kernel
theorem dX10_bits_16 : decode cX10_bits 16 = .ok (.istore_n 2, 1) := by decide +kernel
theorem dX10_bits_17 : decode cX10_bits 17 = .ok (.goto (-13), 3) := by decide +kernel
theorem dX10_bits_20 : decode cX10_bits 20 = .ok (.iload_n 1, 1) := by decide +kernel
theorem dX10_bits_21 : decode cX10_bits 21 = .ok (.ireturn, 1) := by decide +kernel
theorem dX10_least_0 : decode cX10_least 0 = .ok (.iconst 0, 1) := by decide +kernel
theorem dX10_least_1 : decode cX10_least 1 = .ok (.istore_n 1, 1) := by decide +kernel
theorem dX10_least_2 : decode cX10_least 2 = .ok (.iload_n 0, 1) := by decide +kernel
theorem dX10_least_3 : decode cX10_least 3 = .ok (.iload_n 1, 1) := by decide +kernel
theorem dX10_least_4 : decode cX10_least 4 = .ok (.invokestatic 7, 3) := by decide +kernel
theorem dX10_least_7 : decode cX10_least 7 = .ok (.ifCond .ne 9, 3) := by decide +kernel
theorem dX10_least_10 : decode cX10_least 10 = .ok (.iinc 1 1, 3) := by decide +kernel
theorem dX10_least_13 : decode cX10_least 13 = .ok (.goto (-11), 3) := by decide +kernel
theorem dX10_least_16 : decode cX10_least 16 = .ok (.iload_n 1, 1) := by decide +kernel
theorem dX10_least_17 : decode cX10_least 17 = .ok (.ireturn, 1) := by decide +kernel
theorem dX10_feedOne_0 : decode cX10_feedOne 0 = .ok (.bipush 24, 2) := by decide +kernel
theorem dX10_feedOne_2 : decode cX10_feedOne 2 = .ok (.istore_n 2, 1) := by decide +kernel
theorem dX10_feedOne_3 : decode cX10_feedOne 3 = .ok (.iload_n 2, 1) := by decide +kernel
theorem dX10_feedOne_4 : decode cX10_feedOne 4 = .ok (.ifCond .lt 35, 3) := by decide +kernel
theorem dX10_feedOne_7 : decode cX10_feedOne 7 = .ok (.aload_n 0, 1) := by decide +kernel
theorem dX10_feedOne_8 : decode cX10_feedOne 8 = .ok (.getfield 11, 3) := by decide +kernel
theorem dX10_feedOne_11 : decode cX10_feedOne 11 = .ok (.aload_n 0, 1) := by decide +kernel
theorem dX10_feedOne_12 : decode cX10_feedOne 12 = .ok (.getfield 15, 3) := by decide +kernel
theorem dX10_feedOne_15 : decode cX10_feedOne 15 = .ok (.iload_n 1, 1) := by decide +kernel
theorem dX10_feedOne_16 : decode cX10_feedOne 16 = .ok (.iload_n 2, 1) := by decide +kernel
theorem dX10_feedOne_17 : decode cX10_feedOne 17 = .ok (.iushr, 1) := by decide +kernel
theorem dX10_feedOne_18 : decode cX10_feedOne 18 = .ok (.sipush 255, 3) := by decide +kernel
theorem dX10_feedOne_21 : decode cX10_feedOne 21 = .ok (.iand, 1) := by decide +kernel
theorem dX10_feedOne_22 : decode cX10_feedOne 22 = .ok (.iastore, 1) := by decide +kernel
theorem dX10_feedOne_23 : decode cX10_feedOne 23 = .ok (.aload_n 0, 1) := by decide +kernel
theorem dX10_feedOne_24 : decode cX10_feedOne 24 = .ok (.dup, 1) := by decide +kernel
theorem dX10_feedOne_25 : decode cX10_feedOne 25 = .ok (.getfield 15, 3) := by decide +kernel
theorem dX10_feedOne_28 : decode cX10_feedOne 28 = .ok (.iconst 1, 1) := by decide +kernel
theorem dX10_feedOne_29 : decode cX10_feedOne 29 = .ok (.iadd, 1) := by decide +kernel
theorem dX10_feedOne_30 : decode cX10_feedOne 30 = .ok (.putfield 15, 3) := by decide +kernel
theorem dX10_feedOne_33 : decode cX10_feedOne 33 = .ok (.iinc 2 (-8), 3) := by decide +kernel
theorem dX10_feedOne_36 : decode cX10_feedOne 36 = .ok (.goto (-33), 3) := by decide +kernel
theorem dX10_feedOne_39 : decode cX10_feedOne 39 = .ok (.return_, 1) := by decide +kernel
theorem dX10_feed_0 : decode cX10_feed 0 = .ok (.aload_n 0, 1) := by decide +kernel
theorem dX10_feed_1 : decode cX10_feed 1 = .ok (.iconst 0, 1) := by decide +kernel
theorem dX10_feed_2 : decode cX10_feed 2 = .ok (.putfield 1, 3) := by decide +kernel
theorem dX10_feed_5 : decode cX10_feed 5 = .ok (.aload_n 0, 1) := by decide +kernel
theorem dX10_feed_6 : decode cX10_feed 6 = .ok (.getfield 15, 3) := by decide +kernel
theorem dX10_feed_9 : decode cX10_feed 9 = .ok (.bipush 20, 2) := by decide +kernel
theorem dX10_feed_11 : decode cX10_feed 11 = .ok (.iadd, 1) := by decide +kernel
theorem dX10_feed_12 : decode cX10_feed 12 = .ok (.sipush 740, 3) := by decide +kernel
theorem dX10_feed_15 : decode cX10_feed 15 = .ok (.if_icmp .le 5, 3) := by decide +kernel
theorem dX10_feed_18 : decode cX10_feed 18 = .ok (.iconst (-1), 1) := by decide +kernel
theorem dX10_feed_19 : decode cX10_feed 19 = .ok (.ireturn, 1) := by decide +kernel
theorem dX10_feed_20 : decode cX10_feed 20 = .ok (.aload_n 0, 1) := by decide +kernel
theorem dX10_feed_21 : decode cX10_feed 21 = .ok (.iload_n 1, 1) := by decide +kernel
theorem dX10_feed_22 : decode cX10_feed 22 = .ok (.invokevirtual 18, 3) := by decide +kernel
theorem dX10_feed_25 : decode cX10_feed 25 = .ok (.aload_n 0, 1) := by decide +kernel
theorem dX10_feed_26 : decode cX10_feed 26 = .ok (.iload_n 2, 1) := by decide +kernel
theorem dX10_feed_27 : decode cX10_feed 27 = .ok (.invokevirtual 18, 3) := by decide +kernel
theorem dX10_feed_30 : decode cX10_feed 30 = .ok (.aload_n 0, 1) := by decide +kernel
theorem dX10_feed_31 : decode cX10_feed 31 = .ok (.iload_n 3, 1) := by decide +kernel
theorem dX10_feed_32 : decode cX10_feed 32 = .ok (.invokevirtual 18, 3) := by decide +kernel
theorem dX10_feed_35 : decode cX10_feed 35 = .ok (.aload_n 0, 1) := by decide +kernel
theorem dX10_feed_36 : decode cX10_feed 36 = .ok (.iload 4, 2) := by decide +kernel
theorem dX10_feed_38 : decode cX10_feed 38 = .ok (.invokevirtual 18, 3) := by decide +kernel
theorem dX10_feed_41 : decode cX10_feed 41 = .ok (.aload_n 0, 1) := by decide +kernel
theorem dX10_feed_42 : decode cX10_feed 42 = .ok (.iload 5, 2) := by decide +kernel
theorem dX10_feed_44 : decode cX10_feed 44 = .ok (.invokevirtual 18, 3) := by decide +kernel
theorem dX10_feed_47 : decode cX10_feed 47 = .ok (.aload_n 0, 1) := by decide +kernel
theorem dX10_feed_48 : decode cX10_feed 48 = .ok (.getfield 15, 3) := by decide +kernel
theorem dX10_feed_51 : decode cX10_feed 51 = .ok (.ireturn, 1) := by decide +kernel
theorem dX10_end_0 : decode cX10_end 0 = .ok (.aload_n 0, 1) := by decide +kernel
theorem dX10_end_1 : decode cX10_end 1 = .ok (.iconst 0, 1) := by decide +kernel
theorem dX10_end_2 : decode cX10_end 2 = .ok (.putfield 1, 3) := by decide +kernel
theorem dX10_end_5 : decode cX10_end 5 = .ok (.iload_n 1, 1) := by decide +kernel
theorem dX10_end_6 : decode cX10_end 6 = .ok (.ifCond .lt 11, 3) := by decide +kernel
theorem dX10_end_9 : decode cX10_end 9 = .ok (.iload_n 1, 1) := by decide +kernel
theorem dX10_end_10 : decode cX10_end 10 = .ok (.aload_n 0, 1) := by decide +kernel
theorem dX10_end_11 : decode cX10_end 11 = .ok (.getfield 15, 3) := by decide +kernel
theorem dX10_end_14 : decode cX10_end 14 = .ok (.if_icmp .le 5, 3) := by decide +kernel
theorem dX10_end_17 : decode cX10_end 17 = .ok (.iconst 0, 1) := by decide +kernel
theorem dX10_end_18 : decode cX10_end 18 = .ok (.ireturn, 1) := by decide +kernel
theorem dX10_end_19 : decode cX10_end 19 = .ok (.aload_n 0, 1) := by decide +kernel
theorem dX10_end_20 : decode cX10_end 20 = .ok (.iload_n 1, 1) := by decide +kernel
theorem dX10_end_21 : decode cX10_end 21 = .ok (.putfield 15, 3) := by decide +kernel
theorem dX10_end_24 : decode cX10_end 24 = .ok (.iconst 1, 1) := by decide +kernel
theorem dX10_end_25 : decode cX10_end 25 = .ok (.ireturn, 1) := by decide +kernel
theorem dX10_tapeAt_0 : decode cX10_tapeAt 0 = .ok (.iload_n 1, 1) := by decide +kernel
theorem dX10_tapeAt_1 : decode cX10_tapeAt 1 = .ok (.aload_n 0, 1) := by decide +kernel
theorem dX10_tapeAt_2 : decode cX10_tapeAt 2 = .ok (.getfield 22, 3) := by decide +kernel
theorem dX10_tapeAt_5 : decode cX10_tapeAt 5 = .ok (.if_icmp .ge 12, 3) := by decide +kernel
theorem dX10_tapeAt_8 : decode cX10_tapeAt 8 = .ok (.aload_n 0, 1) := by decide +kernel
theorem dX10_tapeAt_9 : decode cX10_tapeAt 9 = .ok (.getfield 11, 3) := by decide +kernel
theorem dX10_tapeAt_12 : decode cX10_tapeAt 12 = .ok (.iload_n 1, 1) := by decide +kernel
theorem dX10_tapeAt_13 : decode cX10_tapeAt 13 = .ok (.iaload, 1) := by decide +kernel
theorem dX10_tapeAt_14 : decode cX10_tapeAt 14 = .ok (.goto 4, 3) := by decide +kernel
theorem dX10_tapeAt_17 : decode cX10_tapeAt 17 = .ok (.iconst 0, 1) := by decide +kernel
theorem dX10_tapeAt_18 : decode cX10_tapeAt 18 = .ok (.ireturn, 1) := by decide +kernel
theorem dX10_isLetter_0 : decode cX10_isLetter 0 = .ok (.iload_n 0, 1) := by decide +kernel
theorem dX10_isLetter_1 : decode cX10_isLetter 1 = .ok (.bipush 97, 2) := by decide +kernel
theorem dX10_isLetter_3 : decode cX10_isLetter 3 = .ok (.if_icmp .lt 13, 3) := by decide +kernel
theorem dX10_isLetter_6 : decode cX10_isLetter 6 = .ok (.iload_n 0, 1) := by decide +kernel
theorem dX10_isLetter_7 : decode cX10_isLetter 7 = .ok (.bipush 122, 2) := by decide +kernel
theorem dX10_isLetter_9 : decode cX10_isLetter 9 = .ok (.if_icmp .gt 7, 3) := by decide +kernel
theorem dX10_isLetter_12 : decode cX10_isLetter 12 = .ok (.iconst 1, 1) := by decide +kernel
theorem dX10_isLetter_13 : decode cX10_isLetter 13 = .ok (.goto 4, 3) := by decide +kernel
theorem dX10_isLetter_16 : decode cX10_isLetter 16 = .ok (.iconst 0, 1) := by decide +kernel
theorem dX10_isLetter_17 : decode cX10_isLetter 17 = .ok (.ireturn, 1) := by decide +kernel
theorem dX10_next_0 : decode cX10_next 0 = .ok (.aload_n 0, 1) := by decide +kernel
theorem dX10_next_1 : decode cX10_next 1 = .ok (.getfield 25, 3) := by decide +kernel
theorem dX10_next_4 : decode cX10_next 4 = .ok (.aload_n 0, 1) := by decide +kernel
theorem dX10_next_5 : decode cX10_next 5 = .ok (.getfield 22, 3) := by decide +kernel
theorem dX10_next_8 : decode cX10_next 8 = .ok (.if_icmp .ge 44, 3) := by decide +kernel
theorem dX10_next_11 : decode cX10_next 11 = .ok (.aload_n 0, 1) := by decide +kernel
theorem dX10_next_12 : decode cX10_next 12 = .ok (.getfield 11, 3) := by decide +kernel
theorem dX10_next_15 : decode cX10_next 15 = .ok (.aload_n 0, 1) := by decide +kernel
theorem dX10_next_16 : decode cX10_next 16 = .ok (.getfield 25, 3) := by decide +kernel
theorem dX10_next_19 : decode cX10_next 19 = .ok (.iaload, 1) := by decide +kernel
theorem dX10_next_20 : decode cX10_next 20 = .ok (.bipush 32, 2) := by decide +kernel
theorem dX10_next_22 : decode cX10_next 22 = .ok (.if_icmp .eq 17, 3) := by decide +kernel
theorem dX10_next_25 : decode cX10_next 25 = .ok (.aload_n 0, 1) := by decide +kernel
theorem dX10_next_26 : decode cX10_next 26 = .ok (.getfield 11, 3) := by decide +kernel
theorem dX10_next_29 : decode cX10_next 29 = .ok (.aload_n 0, 1) := by decide +kernel
theorem dX10_next_30 : decode cX10_next 30 = .ok (.getfield 25, 3) := by decide +kernel
theorem dX10_next_33 : decode cX10_next 33 = .ok (.iaload, 1) := by decide +kernel
theorem dX10_next_34 : decode cX10_next 34 = .ok (.bipush 10, 2) := by decide +kernel
theorem dX10_next_36 : decode cX10_next 36 = .ok (.if_icmp .ne 16, 3) := by decide +kernel
theorem dX10_next_39 : decode cX10_next 39 = .ok (.aload_n 0, 1) := by decide +kernel
theorem dX10_next_40 : decode cX10_next 40 = .ok (.dup, 1) := by decide +kernel
theorem dX10_next_41 : decode cX10_next 41 = .ok (.getfield 25, 3) := by decide +kernel
theorem dX10_next_44 : decode cX10_next 44 = .ok (.iconst 1, 1) := by decide +kernel
theorem dX10_next_45 : decode cX10_next 45 = .ok (.iadd, 1) := by decide +kernel
theorem dX10_next_46 : decode cX10_next 46 = .ok (.putfield 25, 3) := by decide +kernel
theorem dX10_next_49 : decode cX10_next 49 = .ok (.goto (-49), 3) := by decide +kernel
theorem dX10_next_52 : decode cX10_next 52 = .ok (.aload_n 0, 1) := by decide +kernel
theorem dX10_next_53 : decode cX10_next 53 = .ok (.aload_n 0, 1) := by decide +kernel
theorem dX10_next_54 : decode cX10_next 54 = .ok (.getfield 25, 3) := by decide +kernel
theorem dX10_next_57 : decode cX10_next 57 = .ok (.putfield 28, 3) := by decide +kernel
theorem dX10_next_60 : decode cX10_next 60 = .ok (.aload_n 0, 1) := by decide +kernel
theorem dX10_next_61 : decode cX10_next 61 = .ok (.getfield 22, 3) := by decide +kernel
theorem dX10_next_64 : decode cX10_next 64 = .ok (.sipush 700, 3) := by decide +kernel
theorem dX10_next_67 : decode cX10_next 67 = .ok (.if_icmp .le 26, 3) := by decide +kernel
theorem dX10_next_70 : decode cX10_next 70 = .ok (.aload_n 0, 1) := by decide +kernel
theorem dX10_next_71 : decode cX10_next 71 = .ok (.getfield 28, 3) := by decide +kernel
theorem dX10_next_74 : decode cX10_next 74 = .ok (.sipush 700, 3) := by decide +kernel
theorem dX10_next_77 : decode cX10_next 77 = .ok (.if_icmp .lt 16, 3) := by decide +kernel
theorem dX10_next_80 : decode cX10_next 80 = .ok (.aload_n 0, 1) := by decide +kernel
theorem dX10_next_81 : decode cX10_next 81 = .ok (.sipush 700, 3) := by decide +kernel
theorem dX10_next_84 : decode cX10_next 84 = .ok (.putfield 28, 3) := by decide +kernel
theorem dX10_next_87 : decode cX10_next 87 = .ok (.aload_n 0, 1) := by decide +kernel
theorem dX10_next_88 : decode cX10_next 88 = .ok (.iconst 1, 1) := by decide +kernel
theorem dX10_next_89 : decode cX10_next 89 = .ok (.putfield 31, 3) := by decide +kernel
theorem dX10_next_92 : decode cX10_next 92 = .ok (.return_, 1) := by decide +kernel
theorem dX10_next_93 : decode cX10_next 93 = .ok (.aload_n 0, 1) := by decide +kernel
theorem dX10_next_94 : decode cX10_next 94 = .ok (.getfield 25, 3) := by decide +kernel
theorem dX10_next_97 : decode cX10_next 97 = .ok (.aload_n 0, 1) := by decide +kernel
theorem dX10_next_98 : decode cX10_next 98 = .ok (.getfield 22, 3) := by decide +kernel
theorem dX10_next_101 : decode cX10_next 101 = .ok (.if_icmp .lt 9, 3) := by decide +kernel
theorem dX10_next_104 : decode cX10_next 104 = .ok (.aload_n 0, 1) := by decide +kernel
theorem dX10_next_105 : decode cX10_next 105 = .ok (.iconst 0, 1) := by decide +kernel
theorem dX10_next_106 : decode cX10_next 106 = .ok (.putfield 31, 3) := by decide +kernel
theorem dX10_next_109 : decode cX10_next 109 = .ok (.return_, 1) := by decide +kernel
theorem dX10_next_110 : decode cX10_next 110 = .ok (.aload_n 0, 1) := by decide +kernel
theorem dX10_next_111 : decode cX10_next 111 = .ok (.getfield 11, 3) := by decide +kernel
theorem dX10_next_114 : decode cX10_next 114 = .ok (.aload_n 0, 1) := by decide +kernel
theorem dX10_next_115 : decode cX10_next 115 = .ok (.getfield 25, 3) := by decide +kernel
theorem dX10_next_118 : decode cX10_next 118 = .ok (.iaload, 1) := by decide +kernel
theorem dX10_next_119 : decode cX10_next 119 = .ok (.invokestatic 34, 3) := by decide +kernel
theorem dX10_next_122 : decode cX10_next 122 = .ok (.ifCond .ne 37, 3) := by decide +kernel
theorem dX10_next_125 : decode cX10_next 125 = .ok (.aload_n 0, 1) := by decide +kernel
theorem dX10_next_126 : decode cX10_next 126 = .ok (.aload_n 0, 1) := by decide +kernel
theorem dX10_next_127 : decode cX10_next 127 = .ok (.getfield 11, 3) := by decide +kernel
theorem dX10_next_130 : decode cX10_next 130 = .ok (.aload_n 0, 1) := by decide +kernel
theorem dX10_next_131 : decode cX10_next 131 = .ok (.getfield 25, 3) := by decide +kernel
theorem dX10_next_134 : decode cX10_next 134 = .ok (.iaload, 1) := by decide +kernel
theorem dX10_next_135 : decode cX10_next 135 = .ok (.bipush 59, 2) := by decide +kernel
theorem dX10_next_137 : decode cX10_next 137 = .ok (.if_icmp .ne 7, 3) := by decide +kernel
theorem dX10_next_140 : decode cX10_next 140 = .ok (.iconst 3, 1) := by decide +kernel
theorem dX10_next_141 : decode cX10_next 141 = .ok (.goto 4, 3) := by decide +kernel
theorem dX10_next_144 : decode cX10_next 144 = .ok (.iconst 1, 1) := by decide +kernel
theorem dX10_next_145 : decode cX10_next 145 = .ok (.putfield 31, 3) := by decide +kernel
theorem dX10_next_148 : decode cX10_next 148 = .ok (.aload_n 0, 1) := by decide +kernel
theorem dX10_next_149 : decode cX10_next 149 = .ok (.dup, 1) := by decide +kernel
theorem dX10_next_150 : decode cX10_next 150 = .ok (.getfield 25, 3) := by decide +kernel
theorem dX10_next_153 : decode cX10_next 153 = .ok (.iconst 1, 1) := by decide +kernel
theorem dX10_next_154 : decode cX10_next 154 = .ok (.iadd, 1) := by decide +kernel
theorem dX10_next_155 : decode cX10_next 155 = .ok (.putfield 25, 3) := by decide +kernel
theorem dX10_next_158 : decode cX10_next 158 = .ok (.return_, 1) := by decide +kernel
theorem dX10_next_159 : decode cX10_next 159 = .ok (.aload_n 0, 1) := by decide +kernel
theorem dX10_next_160 : decode cX10_next 160 = .ok (.lconst 0, 1) := by decide +kernel
theorem dX10_next_161 : decode cX10_next 161 = .ok (.putfield 38, 3) := by decide +kernel
theorem dX10_next_164 : decode cX10_next 164 = .ok (.aload_n 0, 1) := by decide +kernel
theorem dX10_next_165 : decode cX10_next 165 = .ok (.aload_n 0, 1) := by decide +kernel
theorem dX10_next_166 : decode cX10_next 166 = .ok (.getfield 25, 3) := by decide +kernel
theorem dX10_next_169 : decode cX10_next 169 = .ok (.invokevirtual 42, 3) := by decide +kernel
theorem dX10_next_172 : decode cX10_next 172 = .ok (.invokestatic 34, 3) := by decide +kernel
theorem dX10_next_175 : decode cX10_next 175 = .ok (.ifCond .eq 57, 3) := by decide +kernel
theorem dX10_next_178 : decode cX10_next 178 = .ok (.aload_n 0, 1) := by decide +kernel
theorem dX10_next_179 : decode cX10_next 179 = .ok (.getfield 25, 3) := by decide +kernel
theorem dX10_next_182 : decode cX10_next 182 = .ok (.aload_n 0, 1) := by decide +kernel
theorem dX10_next_183 : decode cX10_next 183 = .ok (.getfield 28, 3) := by decide +kernel
theorem dX10_next_186 : decode cX10_next 186 = .ok (.isub, 1) := by decide +kernel
theorem dX10_next_187 : decode cX10_next 187 = .ok (.bipush 7, 2) := by decide +kernel
theorem dX10_next_189 : decode cX10_next 189 = .ok (.if_icmp .ge 30, 3) := by decide +kernel
theorem dX10_next_192 : decode cX10_next 192 = .ok (.aload_n 0, 1) := by decide +kernel
theorem dX10_next_193 : decode cX10_next 193 = .ok (.ldc2_w 46, 3) := by decide +kernel
theorem dX10_next_196 : decode cX10_next 196 = .ok (.aload_n 0, 1) := by decide +kernel
theorem dX10_next_197 : decode cX10_next 197 = .ok (.getfield 38, 3) := by decide +kernel
theorem dX10_next_200 : decode cX10_next 200 = .ok (.lmul, 1) := by decide +kernel
theorem dX10_next_201 : decode cX10_next 201 = .ok (.aload_n 0, 1) := by decide +kernel
theorem dX10_next_202 : decode cX10_next 202 = .ok (.getfield 11, 3) := by decide +kernel
theorem dX10_next_205 : decode cX10_next 205 = .ok (.aload_n 0, 1) := by decide +kernel
theorem dX10_next_206 : decode cX10_next 206 = .ok (.getfield 25, 3) := by decide +kernel
theorem dX10_next_209 : decode cX10_next 209 = .ok (.iaload, 1) := by decide +kernel
theorem dX10_next_210 : decode cX10_next 210 = .ok (.i2l, 1) := by decide +kernel
theorem dX10_next_211 : decode cX10_next 211 = .ok (.ladd, 1) := by decide +kernel
theorem dX10_next_212 : decode cX10_next 212 = .ok (.ldc2_w 48, 3) := by decide +kernel
theorem dX10_next_215 : decode cX10_next 215 = .ok (.lsub, 1) := by decide +kernel
theorem dX10_next_216 : decode cX10_next 216 = .ok (.putfield 38, 3) := by decide +kernel
theorem dX10_next_219 : decode cX10_next 219 = .ok (.aload_n 0, 1) := by decide +kernel
theorem dX10_next_220 : decode cX10_next 220 = .ok (.dup, 1) := by decide +kernel
theorem dX10_next_221 : decode cX10_next 221 = .ok (.getfield 25, 3) := by decide +kernel
theorem dX10_next_224 : decode cX10_next 224 = .ok (.iconst 1, 1) := by decide +kernel
theorem dX10_next_225 : decode cX10_next 225 = .ok (.iadd, 1) := by decide +kernel
theorem dX10_next_226 : decode cX10_next 226 = .ok (.putfield 25, 3) := by decide +kernel
theorem dX10_next_229 : decode cX10_next 229 = .ok (.goto (-65), 3) := by decide +kernel
theorem dX10_next_232 : decode cX10_next 232 = .ok (.aload_n 0, 1) := by decide +kernel
theorem dX10_next_233 : decode cX10_next 233 = .ok (.aload_n 0, 1) := by decide +kernel
theorem dX10_next_234 : decode cX10_next 234 = .ok (.getfield 25, 3) := by decide +kernel
theorem dX10_next_237 : decode cX10_next 237 = .ok (.aload_n 0, 1) := by decide +kernel
theorem dX10_next_238 : decode cX10_next 238 = .ok (.getfield 28, 3) := by decide +kernel
theorem dX10_next_241 : decode cX10_next 241 = .ok (.isub, 1) := by decide +kernel
theorem dX10_next_242 : decode cX10_next 242 = .ok (.bipush 7, 2) := by decide +kernel
theorem dX10_next_244 : decode cX10_next 244 = .ok (.if_icmp .le 7, 3) := by decide +kernel
theorem dX10_next_247 : decode cX10_next 247 = .ok (.iconst 1, 1) := by decide +kernel
theorem dX10_next_248 : decode cX10_next 248 = .ok (.goto 4, 3) := by decide +kernel
theorem dX10_next_251 : decode cX10_next 251 = .ok (.iconst 2, 1) := by decide +kernel
theorem dX10_next_252 : decode cX10_next 252 = .ok (.putfield 31, 3) := by decide +kernel
theorem dX10_next_255 : decode cX10_next 255 = .ok (.return_, 1) := by decide +kernel
theorem dX10_spelt_0 : decode cX10_spelt 0 = .ok (.ldc2_w 46, 3) := by decide +kernel
theorem dX10_spelt_3 : decode cX10_spelt 3 = .ok (.ldc2_w 46, 3) := by decide +kernel
theorem dX10_spelt_6 : decode cX10_spelt 6 = .ok (.ldc2_w 46, 3) := by decide +kernel
theorem dX10_spelt_9 : decode cX10_spelt 9 = .ok (.iload_n 0, 1) := by decide +kernel
theorem dX10_spelt_10 : decode cX10_spelt 10 = .ok (.i2l, 1) := by decide +kernel
theorem dX10_spelt_11 : decode cX10_spelt 11 = .ok (.ldc2_w 48, 3) := by decide +kernel
theorem dX10_spelt_14 : decode cX10_spelt 14 = .ok (.lsub, 1) := by decide +kernel
theorem dX10_spelt_15 : decode cX10_spelt 15 = .ok (.lmul, 1) := by decide +kernel
theorem dX10_spelt_16 : decode cX10_spelt 16 = .ok (.iload_n 1, 1) := by decide +kernel
theorem dX10_spelt_17 : decode cX10_spelt 17 = .ok (.i2l, 1) := by decide +kernel
theorem dX10_spelt_18 : decode cX10_spelt 18 = .ok (.ladd, 1) := by decide +kernel
theorem dX10_spelt_19 : decode cX10_spelt 19 = .ok (.ldc2_w 48, 3) := by decide +kernel
theorem dX10_spelt_22 : decode cX10_spelt 22 = .ok (.lsub, 1) := by decide +kernel
theorem dX10_spelt_23 : decode cX10_spelt 23 = .ok (.lmul, 1) := by decide +kernel
theorem dX10_spelt_24 : decode cX10_spelt 24 = .ok (.iload_n 2, 1) := by decide +kernel
theorem dX10_spelt_25 : decode cX10_spelt 25 = .ok (.i2l, 1) := by decide +kernel
theorem dX10_spelt_26 : decode cX10_spelt 26 = .ok (.ladd, 1) := by decide +kernel
theorem dX10_spelt_27 : decode cX10_spelt 27 = .ok (.ldc2_w 48, 3) := by decide +kernel
theorem dX10_spelt_30 : decode cX10_spelt 30 = .ok (.lsub, 1) := by decide +kernel
theorem dX10_spelt_31 : decode cX10_spelt 31 = .ok (.lmul, 1) := by decide +kernel
theorem dX10_spelt_32 : decode cX10_spelt 32 = .ok (.iload_n 3, 1) := by decide +kernel
theorem dX10_spelt_33 : decode cX10_spelt 33 = .ok (.i2l, 1) := by decide +kernel
theorem dX10_spelt_34 : decode cX10_spelt 34 = .ok (.ladd, 1) := by decide +kernel
theorem dX10_spelt_35 : decode cX10_spelt 35 = .ok (.ldc2_w 48, 3) := by decide +kernel
theorem dX10_spelt_38 : decode cX10_spelt 38 = .ok (.lsub, 1) := by decide +kernel
theorem dX10_spelt_39 : decode cX10_spelt 39 = .ok (.lstore 5, 2) := by decide +kernel
theorem dX10_spelt_41 : decode cX10_spelt 41 = .ok (.iload 4, 2) := by decide +kernel
theorem dX10_spelt_43 : decode cX10_spelt 43 = .ok (.ifCond .le 20, 3) := by decide +kernel
theorem dX10_spelt_46 : decode cX10_spelt 46 = .ok (.ldc2_w 46, 3) := by decide +kernel
theorem dX10_spelt_49 : decode cX10_spelt 49 = .ok (.lload 5, 2) := by decide +kernel
theorem dX10_spelt_51 : decode cX10_spelt 51 = .ok (.lmul, 1) := by decide +kernel
theorem dX10_spelt_52 : decode cX10_spelt 52 = .ok (.iload 4, 2) := by decide +kernel
theorem dX10_spelt_54 : decode cX10_spelt 54 = .ok (.i2l, 1) := by decide +kernel
theorem dX10_spelt_55 : decode cX10_spelt 55 = .ok (.ladd, 1) := by decide +kernel
theorem dX10_spelt_56 : decode cX10_spelt 56 = .ok (.ldc2_w 48, 3) := by decide +kernel
theorem dX10_spelt_59 : decode cX10_spelt 59 = .ok (.lsub, 1) := by decide +kernel
theorem dX10_spelt_60 : decode cX10_spelt 60 = .ok (.goto 5, 3) := by decide +kernel
theorem dX10_spelt_63 : decode cX10_spelt 63 = .ok (.lload 5, 2) := by decide +kernel
theorem dX10_spelt_65 : decode cX10_spelt 65 = .ok (.lreturn, 1) := by decide +kernel
theorem dX10_isPointWord_0 : decode cX10_isPointWord 0 = .ok (.aload_n 0, 1) := by decide +kernel
theorem dX10_isPointWord_1 : decode cX10_isPointWord 1 = .ok (.getfield 31, 3) := by decide +kernel
theorem dX10_isPointWord_4 : decode cX10_isPointWord 4 = .ok (.iconst 2, 1) := by decide +kernel
theorem dX10_isPointWord_5 : decode cX10_isPointWord 5 = .ok (.if_icmp .ne 28, 3) := by decide +kernel
theorem dX10_isPointWord_8 : decode cX10_isPointWord 8 = .ok (.aload_n 0, 1) := by decide +kernel
theorem dX10_isPointWord_9 : decode cX10_isPointWord 9 = .ok (.getfield 38, 3) := by decide +kernel
theorem dX10_isPointWord_12 : decode cX10_isPointWord 12 = .ok (.bipush 112, 2) := by decide +kernel
theorem dX10_isPointWord_14 : decode cX10_isPointWord 14 = .ok (.bipush 111, 2) := by decide +kernel
theorem dX10_isPointWord_16 : decode cX10_isPointWord 16 = .ok (.bipush 105, 2) := by decide +kernel
theorem dX10_isPointWord_18 : decode cX10_isPointWord 18 = .ok (.bipush 110, 2) := by decide +kernel
theorem dX10_isPointWord_20 : decode cX10_isPointWord 20 = .ok (.bipush 116, 2) := by decide +kernel
theorem dX10_isPointWord_22 : decode cX10_isPointWord 22 = .ok (.invokestatic 50, 3) := by decide +kernel
theorem dX10_isPointWord_25 : decode cX10_isPointWord 25 = .ok (.lcmp, 1) := by decide +kernel
theorem dX10_isPointWord_26 : decode cX10_isPointWord 26 = .ok (.ifCond .ne 7, 3) := by decide +kernel
theorem dX10_isPointWord_29 : decode cX10_isPointWord 29 = .ok (.iconst 1, 1) := by decide +kernel
theorem dX10_isPointWord_30 : decode cX10_isPointWord 30 = .ok (.goto 4, 3) := by decide +kernel
theorem dX10_isPointWord_33 : decode cX10_isPointWord 33 = .ok (.iconst 0, 1) := by decide +kernel
theorem dX10_isPointWord_34 : decode cX10_isPointWord 34 = .ok (.ireturn, 1) := by decide +kernel
theorem dX10_isLineWord_0 : decode cX10_isLineWord 0 = .ok (.aload_n 0, 1) := by decide +kernel
theorem dX10_isLineWord_1 : decode cX10_isLineWord 1 = .ok (.getfield 31, 3) := by decide +kernel
theorem dX10_isLineWord_4 : decode cX10_isLineWord 4 = .ok (.iconst 2, 1) := by decide +kernel
theorem dX10_isLineWord_5 : decode cX10_isLineWord 5 = .ok (.if_icmp .ne 27, 3) := by decide +kernel
theorem dX10_isLineWord_8 : decode cX10_isLineWord 8 = .ok (.aload_n 0, 1) := by decide +kernel
theorem dX10_isLineWord_9 : decode cX10_isLineWord 9 = .ok (.getfield 38, 3) := by decide +kernel
theorem dX10_isLineWord_12 : decode cX10_isLineWord 12 = .ok (.bipush 108, 2) := by decide +kernel
theorem dX10_isLineWord_14 : decode cX10_isLineWord 14 = .ok (.bipush 105, 2) := by decide +kernel
theorem dX10_isLineWord_16 : decode cX10_isLineWord 16 = .ok (.bipush 110, 2) := by decide +kernel
theorem dX10_isLineWord_18 : decode cX10_isLineWord 18 = .ok (.bipush 101, 2) := by decide +kernel
theorem dX10_isLineWord_20 : decode cX10_isLineWord 20 = .ok (.iconst 0, 1) := by decide +kernel
theorem dX10_isLineWord_21 : decode cX10_isLineWord 21 = .ok (.invokestatic 50, 3) := by decide +kernel
theorem dX10_isLineWord_24 : decode cX10_isLineWord 24 = .ok (.lcmp, 1) := by decide +kernel
theorem dX10_isLineWord_25 : decode cX10_isLineWord 25 = .ok (.ifCond .ne 7, 3) := by decide +kernel
theorem dX10_isLineWord_28 : decode cX10_isLineWord 28 = .ok (.iconst 1, 1) := by decide +kernel
theorem dX10_isLineWord_29 : decode cX10_isLineWord 29 = .ok (.goto 4, 3) := by decide +kernel
theorem dX10_isLineWord_32 : decode cX10_isLineWord 32 = .ok (.iconst 0, 1) := by decide +kernel
theorem dX10_isLineWord_33 : decode cX10_isLineWord 33 = .ok (.ireturn, 1) := by decide +kernel
theorem dX10_isName_0 : decode cX10_isName 0 = .ok (.aload_n 0, 1) := by decide +kernel
theorem dX10_isName_1 : decode cX10_isName 1 = .ok (.getfield 31, 3) := by decide +kernel
theorem dX10_isName_4 : decode cX10_isName 4 = .ok (.iconst 2, 1) := by decide +kernel
theorem dX10_isName_5 : decode cX10_isName 5 = .ok (.if_icmp .ne 21, 3) := by decide +kernel
theorem dX10_isName_8 : decode cX10_isName 8 = .ok (.aload_n 0, 1) := by decide +kernel
theorem dX10_isName_9 : decode cX10_isName 9 = .ok (.invokevirtual 54, 3) := by decide +kernel
theorem dX10_isName_12 : decode cX10_isName 12 = .ok (.ifCond .ne 14, 3) := by decide +kernel
theorem dX10_isName_15 : decode cX10_isName 15 = .ok (.aload_n 0, 1) := by decide +kernel
theorem dX10_isName_16 : decode cX10_isName 16 = .ok (.invokevirtual 58, 3) := by decide +kernel
theorem dX10_isName_19 : decode cX10_isName 19 = .ok (.ifCond .ne 7, 3) := by decide +kernel
theorem dX10_isName_22 : decode cX10_isName 22 = .ok (.iconst 1, 1) := by decide +kernel
theorem dX10_isName_23 : decode cX10_isName 23 = .ok (.goto 4, 3) := by decide +kernel
theorem dX10_isName_26 : decode cX10_isName 26 = .ok (.iconst 0, 1) := by decide +kernel
theorem dX10_isName_27 : decode cX10_isName 27 = .ok (.ireturn, 1) := by decide +kernel
theorem dX10_bad_0 : decode cX10_bad 0 = .ok (.aload_n 0, 1) := by decide +kernel
theorem dX10_bad_1 : decode cX10_bad 1 = .ok (.aload_n 0, 1) := by decide +kernel
theorem dX10_bad_2 : decode cX10_bad 2 = .ok (.getfield 31, 3) := by decide +kernel
theorem dX10_bad_5 : decode cX10_bad 5 = .ok (.iconst 1, 1) := by decide +kernel
theorem dX10_bad_6 : decode cX10_bad 6 = .ok (.if_icmp .ne 7, 3) := by decide +kernel
theorem dX10_bad_9 : decode cX10_bad 9 = .ok (.iconst 1, 1) := by decide +kernel
theorem dX10_bad_10 : decode cX10_bad 10 = .ok (.goto 4, 3) := by decide +kernel
theorem dX10_bad_13 : decode cX10_bad 13 = .ok (.iload_n 1, 1) := by decide +kernel
theorem dX10_bad_14 : decode cX10_bad 14 = .ok (.putfield 61, 3) := by decide +kernel
theorem dX10_bad_17 : decode cX10_bad 17 = .ok (.aload_n 0, 1) := by decide +kernel
theorem dX10_bad_18 : decode cX10_bad 18 = .ok (.aload_n 0, 1) := by decide +kernel
theorem dX10_bad_19 : decode cX10_bad 19 = .ok (.getfield 28, 3) := by decide +kernel
theorem dX10_bad_22 : decode cX10_bad 22 = .ok (.putfield 64, 3) := by decide +kernel
theorem dX10_bad_25 : decode cX10_bad 25 = .ok (.iconst 0, 1) := by decide +kernel
theorem dX10_bad_26 : decode cX10_bad 26 = .ok (.ireturn, 1) := by decide +kernel
theorem dX10_init_0 : decode cX10_init 0 = .ok (.aload_n 0, 1) := by decide +kernel
theorem dX10_init_1 : decode cX10_init 1 = .ok (.invokespecial 67, 3) := by decide +kernel
theorem dX10_init_4 : decode cX10_init 4 = .ok (.aload_n 0, 1) := by decide +kernel
theorem dX10_init_5 : decode cX10_init 5 = .ok (.sipush 740, 3) := by decide +kernel
theorem dX10_init_8 : decode cX10_init 8 = .ok (.newarray .int, 2) := by decide +kernel
theorem dX10_init_10 : decode cX10_init 10 = .ok (.putfield 11, 3) := by decide +kernel
theorem dX10_init_13 : decode cX10_init 13 = .ok (.aload_n 0, 1) := by decide +kernel
theorem dX10_init_14 : decode cX10_init 14 = .ok (.bipush 15, 2) := by decide +kernel
theorem dX10_init_16 : decode cX10_init 16 = .ok (.newarray .int, 2) := by decide +kernel
theorem dX10_init_18 : decode cX10_init 18 = .ok (.putfield 73, 3) := by decide +kernel
theorem dX10_init_21 : decode cX10_init 21 = .ok (.aload_n 0, 1) := by decide +kernel
theorem dX10_init_22 : decode cX10_init 22 = .ok (.bipush 15, 2) := by decide +kernel
theorem dX10_init_24 : decode cX10_init 24 = .ok (.newarray .int, 2) := by decide +kernel
theorem dX10_init_26 : decode cX10_init 26 = .ok (.putfield 76, 3) := by decide +kernel
theorem dX10_init_29 : decode cX10_init 29 = .ok (.aload_n 0, 1) := by decide +kernel
theorem dX10_init_30 : decode cX10_init 30 = .ok (.bipush 30, 2) := by decide +kernel
theorem dX10_init_32 : decode cX10_init 32 = .ok (.newarray .int, 2) := by decide +kernel
theorem dX10_init_34 : decode cX10_init 34 = .ok (.putfield 79, 3) := by decide +kernel
theorem dX10_init_37 : decode cX10_init 37 = .ok (.aload_n 0, 1) := by decide +kernel
theorem dX10_init_38 : decode cX10_init 38 = .ok (.bipush 120, 2) := by decide +kernel
theorem dX10_init_40 : decode cX10_init 40 = .ok (.newarray .int, 2) := by decide +kernel
theorem dX10_init_42 : decode cX10_init 42 = .ok (.putfield 82, 3) := by decide +kernel
theorem dX10_init_45 : decode cX10_init 45 = .ok (.aload_n 0, 1) := by decide +kernel
theorem dX10_init_46 : decode cX10_init 46 = .ok (.bipush 15, 2) := by decide +kernel
theorem dX10_init_48 : decode cX10_init 48 = .ok (.newarray .int, 2) := by decide +kernel
theorem dX10_init_50 : decode cX10_init 50 = .ok (.putfield 85, 3) := by decide +kernel
theorem dX10_init_53 : decode cX10_init 53 = .ok (.aload_n 0, 1) := by decide +kernel
theorem dX10_init_54 : decode cX10_init 54 = .ok (.bipush 15, 2) := by decide +kernel
theorem dX10_init_56 : decode cX10_init 56 = .ok (.newarray .int, 2) := by decide +kernel
theorem dX10_init_58 : decode cX10_init 58 = .ok (.putfield 88, 3) := by decide +kernel
theorem dX10_init_61 : decode cX10_init 61 = .ok (.aload_n 0, 1) := by decide +kernel
theorem dX10_init_62 : decode cX10_init 62 = .ok (.bipush 15, 2) := by decide +kernel
theorem dX10_init_64 : decode cX10_init 64 = .ok (.newarray .int, 2) := by decide +kernel
theorem dX10_init_66 : decode cX10_init 66 = .ok (.putfield 91, 3) := by decide +kernel
theorem dX10_init_69 : decode cX10_init 69 = .ok (.aload_n 0, 1) := by decide +kernel
theorem dX10_init_70 : decode cX10_init 70 = .ok (.bipush 15, 2) := by decide +kernel
theorem dX10_init_72 : decode cX10_init 72 = .ok (.newarray .int, 2) := by decide +kernel
theorem dX10_init_74 : decode cX10_init 74 = .ok (.putfield 94, 3) := by decide +kernel
theorem dX10_init_77 : decode cX10_init 77 = .ok (.aload_n 0, 1) := by decide +kernel
theorem dX10_init_78 : decode cX10_init 78 = .ok (.bipush 15, 2) := by decide +kernel
theorem dX10_init_80 : decode cX10_init 80 = .ok (.newarray .int, 2) := by decide +kernel
theorem dX10_init_82 : decode cX10_init 82 = .ok (.putfield 97, 3) := by decide +kernel
theorem dX10_init_85 : decode cX10_init 85 = .ok (.aload_n 0, 1) := by decide +kernel
theorem dX10_init_86 : decode cX10_init 86 = .ok (.bipush 14, 2) := by decide +kernel
theorem dX10_init_88 : decode cX10_init 88 = .ok (.newarray .long, 2) := by decide +kernel
theorem dX10_init_90 : decode cX10_init 90 = .ok (.putfield 100, 3) := by decide +kernel
theorem dX10_init_93 : decode cX10_init 93 = .ok (.aload_n 0, 1) := by decide +kernel
theorem dX10_init_94 : decode cX10_init 94 = .ok (.iconst 2, 1) := by decide +kernel
theorem dX10_init_95 : decode cX10_init 95 = .ok (.newarray .boolean, 2) := by decide +kernel
theorem dX10_init_97 : decode cX10_init 97 = .ok (.putfield 104, 3) := by decide +kernel
theorem dX10_init_100 : decode cX10_init 100 = .ok (.aload_n 0, 1) := by decide +kernel
theorem dX10_init_101 : decode cX10_init 101 = .ok (.bipush 28, 2) := by decide +kernel
theorem dX10_init_103 : decode cX10_init 103 = .ok (.newarray .int, 2) := by decide +kernel
theorem dX10_init_105 : decode cX10_init 105 = .ok (.putfield 108, 3) := by decide +kernel
theorem dX10_init_108 : decode cX10_init 108 = .ok (.aload_n 0, 1) := by decide +kernel
theorem dX10_init_109 : decode cX10_init 109 = .ok (.bipush 29, 2) := by decide +kernel
theorem dX10_init_111 : decode cX10_init 111 = .ok (.newarray .int, 2) := by decide +kernel
theorem dX10_init_113 : decode cX10_init 113 = .ok (.putfield 111, 3) := by decide +kernel
theorem dX10_init_116 : decode cX10_init 116 = .ok (.aload_n 0, 1) := by decide +kernel
theorem dX10_init_117 : decode cX10_init 117 = .ok (.bipush 91, 2) := by decide +kernel
theorem dX10_init_119 : decode cX10_init 119 = .ok (.newarray .int, 2) := by decide +kernel
theorem dX10_init_121 : decode cX10_init 121 = .ok (.putfield 114, 3) := by decide +kernel
theorem dX10_init_124 : decode cX10_init 124 = .ok (.aload_n 0, 1) := by decide +kernel
theorem dX10_init_125 : decode cX10_init 125 = .ok (.bipush 91, 2) := by decide +kernel
theorem dX10_init_127 : decode cX10_init 127 = .ok (.newarray .int, 2) := by decide +kernel
theorem dX10_init_129 : decode cX10_init 129 = .ok (.putfield 117, 3) := by decide +kernel
theorem dX10_init_132 : decode cX10_init 132 = .ok (.aload_n 0, 1) := by decide +kernel
theorem dX10_init_133 : decode cX10_init 133 = .ok (.bipush 14, 2) := by decide +kernel
theorem dX10_init_135 : decode cX10_init 135 = .ok (.newarray .int, 2) := by decide +kernel
theorem dX10_init_137 : decode cX10_init 137 = .ok (.putfield 120, 3) := by decide +kernel
theorem dX10_init_140 : decode cX10_init 140 = .ok (.aload_n 0, 1) := by decide +kernel
theorem dX10_init_141 : decode cX10_init 141 = .ok (.bipush 14, 2) := by decide +kernel
theorem dX10_init_143 : decode cX10_init 143 = .ok (.newarray .int, 2) := by decide +kernel
theorem dX10_init_145 : decode cX10_init 145 = .ok (.putfield 123, 3) := by decide +kernel
theorem dX10_init_148 : decode cX10_init 148 = .ok (.aload_n 0, 1) := by decide +kernel
theorem dX10_init_149 : decode cX10_init 149 = .ok (.bipush 14, 2) := by decide +kernel
theorem dX10_init_151 : decode cX10_init 151 = .ok (.newarray .int, 2) := by decide +kernel
theorem dX10_init_153 : decode cX10_init 153 = .ok (.putfield 126, 3) := by decide +kernel
theorem dX10_init_156 : decode cX10_init 156 = .ok (.aload_n 0, 1) := by decide +kernel
theorem dX10_init_157 : decode cX10_init 157 = .ok (.bipush 91, 2) := by decide +kernel
theorem dX10_init_159 : decode cX10_init 159 = .ok (.newarray .int, 2) := by decide +kernel
theorem dX10_init_161 : decode cX10_init 161 = .ok (.putfield 129, 3) := by decide +kernel
theorem dX10_init_164 : decode cX10_init 164 = .ok (.aload_n 0, 1) := by decide +kernel
theorem dX10_init_165 : decode cX10_init 165 = .ok (.bipush 91, 2) := by decide +kernel
theorem dX10_init_167 : decode cX10_init 167 = .ok (.newarray .int, 2) := by decide +kernel
theorem dX10_init_169 : decode cX10_init 169 = .ok (.putfield 132, 3) := by decide +kernel
theorem dX10_init_172 : decode cX10_init 172 = .ok (.aload_n 0, 1) := by decide +kernel
theorem dX10_init_173 : decode cX10_init 173 = .ok (.bipush 14, 2) := by decide +kernel
theorem dX10_init_175 : decode cX10_init 175 = .ok (.newarray .int, 2) := by decide +kernel
theorem dX10_init_177 : decode cX10_init 177 = .ok (.putfield 135, 3) := by decide +kernel
theorem dX10_init_180 : decode cX10_init 180 = .ok (.return_, 1) := by decide +kernel
theorem dX10_copy_0 : decode cX10_copy 0 = .ok (.iconst 0, 1) := by decide +kernel
theorem dX10_copy_1 : decode cX10_copy 1 = .ok (.istore 4, 2) := by decide +kernel
theorem dX10_copy_3 : decode cX10_copy 3 = .ok (.iload 4, 2) := by decide +kernel
theorem dX10_copy_5 : decode cX10_copy 5 = .ok (.bipush 15, 2) := by decide +kernel
theorem dX10_copy_7 : decode cX10_copy 7 = .ok (.if_icmp .ge 21, 3) := by decide +kernel
theorem dX10_copy_10 : decode cX10_copy 10 = .ok (.aload_n 2, 1) := by decide +kernel
theorem dX10_copy_11 : decode cX10_copy 11 = .ok (.iload_n 3, 1) := by decide +kernel
theorem dX10_copy_12 : decode cX10_copy 12 = .ok (.iload 4, 2) := by decide +kernel
theorem dX10_copy_14 : decode cX10_copy 14 = .ok (.iadd, 1) := by decide +kernel
theorem dX10_copy_15 : decode cX10_copy 15 = .ok (.aload_n 0, 1) := by decide +kernel
theorem dX10_copy_16 : decode cX10_copy 16 = .ok (.iload_n 1, 1) := by decide +kernel
theorem dX10_copy_17 : decode cX10_copy 17 = .ok (.iload 4, 2) := by decide +kernel
theorem dX10_copy_19 : decode cX10_copy 19 = .ok (.iadd, 1) := by decide +kernel
theorem dX10_copy_20 : decode cX10_copy 20 = .ok (.iaload, 1) := by decide +kernel
theorem dX10_copy_21 : decode cX10_copy 21 = .ok (.iastore, 1) := by decide +kernel
theorem dX10_copy_22 : decode cX10_copy 22 = .ok (.iinc 4 1, 3) := by decide +kernel
theorem dX10_copy_25 : decode cX10_copy 25 = .ok (.goto (-22), 3) := by decide +kernel
theorem dX10_copy_28 : decode cX10_copy 28 = .ok (.return_, 1) := by decide +kernel
theorem dX10_tied_0 : decode cX10_tied 0 = .ok (.aload_n 0, 1) := by decide +kernel
theorem dX10_tied_1 : decode cX10_tied 1 = .ok (.iconst 1, 1) := by decide +kernel
theorem dX10_tied_2 : decode cX10_tied 2 = .ok (.iload_n 1, 1) := by decide +kernel
theorem dX10_tied_3 : decode cX10_tied 3 = .ok (.iadd, 1) := by decide +kernel
theorem dX10_tied_4 : decode cX10_tied 4 = .ok (.iaload, 1) := by decide +kernel
theorem dX10_tied_5 : decode cX10_tied 5 = .ok (.iload_n 2, 1) := by decide +kernel
theorem dX10_tied_6 : decode cX10_tied 6 = .ok (.invokestatic 7, 3) := by decide +kernel
theorem dX10_tied_9 : decode cX10_tied 9 = .ok (.ireturn, 1) := by decide +kernel
theorem dX10_turns_0 : decode cX10_turns 0 = .ok (.aload_n 0, 1) := by decide +kernel
theorem dX10_turns_1 : decode cX10_turns 1 = .ok (.iconst 1, 1) := by decide +kernel
theorem dX10_turns_2 : decode cX10_turns 2 = .ok (.iload_n 1, 1) := by decide +kernel
theorem dX10_turns_3 : decode cX10_turns 3 = .ok (.iadd, 1) := by decide +kernel
theorem dX10_turns_4 : decode cX10_turns 4 = .ok (.dup2, 1) := by decide +kernel
theorem dX10_turns_5 : decode cX10_turns 5 = .ok (.iaload, 1) := by decide +kernel
theorem dX10_turns_6 : decode cX10_turns 6 = .ok (.iconst 1, 1) := by decide +kernel
theorem dX10_turns_7 : decode cX10_turns 7 = .ok (.iload_n 2, 1) := by decide +kernel
theorem dX10_turns_8 : decode cX10_turns 8 = .ok (.ishl, 1) := by decide +kernel
theorem dX10_turns_9 : decode cX10_turns 9 = .ok (.ixor, 1) := by decide +kernel
theorem dX10_turns_10 : decode cX10_turns 10 = .ok (.iastore, 1) := by decide +kernel
theorem dX10_turns_11 : decode cX10_turns 11 = .ok (.aload_n 0, 1) := by decide +kernel
theorem dX10_turns_12 : decode cX10_turns 12 = .ok (.iconst 1, 1) := by decide +kernel
theorem dX10_turns_13 : decode cX10_turns 13 = .ok (.iload_n 2, 1) := by decide +kernel
theorem dX10_turns_14 : decode cX10_turns 14 = .ok (.iadd, 1) := by decide +kernel
theorem dX10_turns_15 : decode cX10_turns 15 = .ok (.dup2, 1) := by decide +kernel
theorem dX10_turns_16 : decode cX10_turns 16 = .ok (.iaload, 1) := by decide +kernel
theorem dX10_turns_17 : decode cX10_turns 17 = .ok (.iconst 1, 1) := by decide +kernel
theorem dX10_turns_18 : decode cX10_turns 18 = .ok (.iload_n 1, 1) := by decide +kernel
theorem dX10_turns_19 : decode cX10_turns 19 = .ok (.ishl, 1) := by decide +kernel
theorem dX10_turns_20 : decode cX10_turns 20 = .ok (.ixor, 1) := by decide +kernel
theorem dX10_turns_21 : decode cX10_turns 21 = .ok (.iastore, 1) := by decide +kernel
theorem dX10_turns_22 : decode cX10_turns 22 = .ok (.return_, 1) := by decide +kernel
theorem dX10_named_0 : decode cX10_named 0 = .ok (.iconst 0, 1) := by decide +kernel
theorem dX10_named_1 : decode cX10_named 1 = .ok (.istore_n 1, 1) := by decide +kernel
theorem dX10_named_2 : decode cX10_named 2 = .ok (.iload_n 1, 1) := by decide +kernel
theorem dX10_named_3 : decode cX10_named 3 = .ok (.aload_n 0, 1) := by decide +kernel
theorem dX10_named_4 : decode cX10_named 4 = .ok (.getfield 76, 3) := by decide +kernel
theorem dX10_named_7 : decode cX10_named 7 = .ok (.iconst 0, 1) := by decide +kernel
theorem dX10_named_8 : decode cX10_named 8 = .ok (.iaload, 1) := by decide +kernel
theorem dX10_named_9 : decode cX10_named 9 = .ok (.if_icmp .ge 25, 3) := by decide +kernel
theorem dX10_named_12 : decode cX10_named 12 = .ok (.aload_n 0, 1) := by decide +kernel
theorem dX10_named_13 : decode cX10_named 13 = .ok (.getfield 100, 3) := by decide +kernel
theorem dX10_named_16 : decode cX10_named 16 = .ok (.iload_n 1, 1) := by decide +kernel
theorem dX10_named_17 : decode cX10_named 17 = .ok (.laload, 1) := by decide +kernel
theorem dX10_named_18 : decode cX10_named 18 = .ok (.aload_n 0, 1) := by decide +kernel
theorem dX10_named_19 : decode cX10_named 19 = .ok (.getfield 38, 3) := by decide +kernel
theorem dX10_named_22 : decode cX10_named 22 = .ok (.lcmp, 1) := by decide +kernel
theorem dX10_named_23 : decode cX10_named 23 = .ok (.ifCond .ne 5, 3) := by decide +kernel
theorem dX10_named_26 : decode cX10_named 26 = .ok (.iload_n 1, 1) := by decide +kernel
theorem dX10_named_27 : decode cX10_named 27 = .ok (.ireturn, 1) := by decide +kernel
theorem dX10_named_28 : decode cX10_named 28 = .ok (.iinc 1 1, 3) := by decide +kernel
theorem dX10_named_31 : decode cX10_named 31 = .ok (.goto (-29), 3) := by decide +kernel
theorem dX10_named_34 : decode cX10_named 34 = .ok (.iconst (-1), 1) := by decide +kernel
theorem dX10_named_35 : decode cX10_named 35 = .ok (.ireturn, 1) := by decide +kernel
theorem dX10_readPoint_0 : decode cX10_readPoint 0 = .ok (.aload_n 0, 1) := by decide +kernel
theorem dX10_readPoint_1 : decode cX10_readPoint 1 = .ok (.getfield 76, 3) := by decide +kernel
theorem dX10_readPoint_4 : decode cX10_readPoint 4 = .ok (.iconst 0, 1) := by decide +kernel
theorem dX10_readPoint_5 : decode cX10_readPoint 5 = .ok (.iaload, 1) := by decide +kernel
theorem dX10_readPoint_6 : decode cX10_readPoint 6 = .ok (.bipush 14, 2) := by decide +kernel
theorem dX10_readPoint_8 : decode cX10_readPoint 8 = .ok (.if_icmp .ne 9, 3) := by decide +kernel
theorem dX10_readPoint_11 : decode cX10_readPoint 11 = .ok (.aload_n 0, 1) := by decide +kernel
theorem dX10_readPoint_12 : decode cX10_readPoint 12 = .ok (.iconst 3, 1) := by decide +kernel
theorem dX10_readPoint_13 : decode cX10_readPoint 13 = .ok (.invokevirtual 138, 3) := by decide +kernel
theorem dX10_readPoint_16 : decode cX10_readPoint 16 = .ok (.ireturn, 1) := by decide +kernel
theorem dX10_readPoint_17 : decode cX10_readPoint 17 = .ok (.aload_n 0, 1) := by decide +kernel
theorem dX10_readPoint_18 : decode cX10_readPoint 18 = .ok (.invokevirtual 141, 3) := by decide +kernel
theorem dX10_readPoint_21 : decode cX10_readPoint 21 = .ok (.aload_n 0, 1) := by decide +kernel
theorem dX10_readPoint_22 : decode cX10_readPoint 22 = .ok (.invokevirtual 144, 3) := by decide +kernel
theorem dX10_readPoint_25 : decode cX10_readPoint 25 = .ok (.ifCond .ne 9, 3) := by decide +kernel
theorem dX10_readPoint_28 : decode cX10_readPoint 28 = .ok (.aload_n 0, 1) := by decide +kernel
theorem dX10_readPoint_29 : decode cX10_readPoint 29 = .ok (.iconst 1, 1) := by decide +kernel
theorem dX10_readPoint_30 : decode cX10_readPoint 30 = .ok (.invokevirtual 138, 3) := by decide +kernel
theorem dX10_readPoint_33 : decode cX10_readPoint 33 = .ok (.ireturn, 1) := by decide +kernel
theorem dX10_readPoint_34 : decode cX10_readPoint 34 = .ok (.aload_n 0, 1) := by decide +kernel
theorem dX10_readPoint_35 : decode cX10_readPoint 35 = .ok (.invokevirtual 147, 3) := by decide +kernel
theorem dX10_readPoint_38 : decode cX10_readPoint 38 = .ok (.iconst (-1), 1) := by decide +kernel
theorem dX10_readPoint_39 : decode cX10_readPoint 39 = .ok (.if_icmp .eq 9, 3) := by decide +kernel
theorem dX10_readPoint_42 : decode cX10_readPoint 42 = .ok (.aload_n 0, 1) := by decide +kernel
theorem dX10_readPoint_43 : decode cX10_readPoint 43 = .ok (.iconst 2, 1) := by decide +kernel
theorem dX10_readPoint_44 : decode cX10_readPoint 44 = .ok (.invokevirtual 138, 3) := by decide +kernel
theorem dX10_readPoint_47 : decode cX10_readPoint 47 = .ok (.ireturn, 1) := by decide +kernel
theorem dX10_readPoint_48 : decode cX10_readPoint 48 = .ok (.aload_n 0, 1) := by decide +kernel
theorem dX10_readPoint_49 : decode cX10_readPoint 49 = .ok (.getfield 100, 3) := by decide +kernel
theorem dX10_readPoint_52 : decode cX10_readPoint 52 = .ok (.aload_n 0, 1) := by decide +kernel
theorem dX10_readPoint_53 : decode cX10_readPoint 53 = .ok (.getfield 76, 3) := by decide +kernel
theorem dX10_readPoint_56 : decode cX10_readPoint 56 = .ok (.iconst 0, 1) := by decide +kernel
theorem dX10_readPoint_57 : decode cX10_readPoint 57 = .ok (.iaload, 1) := by decide +kernel
theorem dX10_readPoint_58 : decode cX10_readPoint 58 = .ok (.aload_n 0, 1) := by decide +kernel
theorem dX10_readPoint_59 : decode cX10_readPoint 59 = .ok (.getfield 38, 3) := by decide +kernel
theorem dX10_readPoint_62 : decode cX10_readPoint 62 = .ok (.lastore, 1) := by decide +kernel
theorem dX10_readPoint_63 : decode cX10_readPoint 63 = .ok (.aload_n 0, 1) := by decide +kernel
theorem dX10_readPoint_64 : decode cX10_readPoint 64 = .ok (.getfield 76, 3) := by decide +kernel
theorem dX10_readPoint_67 : decode cX10_readPoint 67 = .ok (.iconst 0, 1) := by decide +kernel
theorem dX10_readPoint_68 : decode cX10_readPoint 68 = .ok (.dup2, 1) := by decide +kernel
theorem dX10_readPoint_69 : decode cX10_readPoint 69 = .ok (.iaload, 1) := by decide +kernel
theorem dX10_readPoint_70 : decode cX10_readPoint 70 = .ok (.iconst 1, 1) := by decide +kernel
theorem dX10_readPoint_71 : decode cX10_readPoint 71 = .ok (.iadd, 1) := by decide +kernel
theorem dX10_readPoint_72 : decode cX10_readPoint 72 = .ok (.iastore, 1) := by decide +kernel
theorem dX10_readPoint_73 : decode cX10_readPoint 73 = .ok (.aload_n 0, 1) := by decide +kernel
theorem dX10_readPoint_74 : decode cX10_readPoint 74 = .ok (.invokevirtual 141, 3) := by decide +kernel
theorem dX10_readPoint_77 : decode cX10_readPoint 77 = .ok (.iconst 1, 1) := by decide +kernel
theorem dX10_readPoint_78 : decode cX10_readPoint 78 = .ok (.ireturn, 1) := by decide +kernel
theorem dX10_readLine_0 : decode cX10_readLine 0 = .ok (.aload_n 0, 1) := by decide +kernel
theorem dX10_readLine_1 : decode cX10_readLine 1 = .ok (.invokevirtual 141, 3) := by decide +kernel
theorem dX10_readLine_4 : decode cX10_readLine 4 = .ok (.aload_n 0, 1) := by decide +kernel
theorem dX10_readLine_5 : decode cX10_readLine 5 = .ok (.invokevirtual 144, 3) := by decide +kernel
theorem dX10_readLine_8 : decode cX10_readLine 8 = .ok (.ifCond .ne 9, 3) := by decide +kernel
theorem dX10_readLine_11 : decode cX10_readLine 11 = .ok (.aload_n 0, 1) := by decide +kernel
theorem dX10_readLine_12 : decode cX10_readLine 12 = .ok (.iconst 1, 1) := by decide +kernel
theorem dX10_readLine_13 : decode cX10_readLine 13 = .ok (.invokevirtual 138, 3) := by decide +kernel
theorem dX10_readLine_16 : decode cX10_readLine 16 = .ok (.ireturn, 1) := by decide +kernel
theorem dX10_readLine_17 : decode cX10_readLine 17 = .ok (.aload_n 0, 1) := by decide +kernel
theorem dX10_readLine_18 : decode cX10_readLine 18 = .ok (.invokevirtual 147, 3) := by decide +kernel
theorem dX10_readLine_21 : decode cX10_readLine 21 = .ok (.istore_n 1, 1) := by decide +kernel
theorem dX10_readLine_22 : decode cX10_readLine 22 = .ok (.iload_n 1, 1) := by decide +kernel
theorem dX10_readLine_23 : decode cX10_readLine 23 = .ok (.iconst (-1), 1) := by decide +kernel
theorem dX10_readLine_24 : decode cX10_readLine 24 = .ok (.if_icmp .ne 9, 3) := by decide +kernel
theorem dX10_readLine_27 : decode cX10_readLine 27 = .ok (.aload_n 0, 1) := by decide +kernel
theorem dX10_readLine_28 : decode cX10_readLine 28 = .ok (.iconst 2, 1) := by decide +kernel
theorem dX10_readLine_29 : decode cX10_readLine 29 = .ok (.invokevirtual 138, 3) := by decide +kernel
theorem dX10_readLine_32 : decode cX10_readLine 32 = .ok (.ireturn, 1) := by decide +kernel
theorem dX10_readLine_33 : decode cX10_readLine 33 = .ok (.aload_n 0, 1) := by decide +kernel
theorem dX10_readLine_34 : decode cX10_readLine 34 = .ok (.invokevirtual 141, 3) := by decide +kernel
theorem dX10_readLine_37 : decode cX10_readLine 37 = .ok (.aload_n 0, 1) := by decide +kernel
theorem dX10_readLine_38 : decode cX10_readLine 38 = .ok (.invokevirtual 144, 3) := by decide +kernel
theorem dX10_readLine_41 : decode cX10_readLine 41 = .ok (.ifCond .ne 9, 3) := by decide +kernel
theorem dX10_readLine_44 : decode cX10_readLine 44 = .ok (.aload_n 0, 1) := by decide +kernel
theorem dX10_readLine_45 : decode cX10_readLine 45 = .ok (.iconst 1, 1) := by decide +kernel
theorem dX10_readLine_46 : decode cX10_readLine 46 = .ok (.invokevirtual 138, 3) := by decide +kernel
theorem dX10_readLine_49 : decode cX10_readLine 49 = .ok (.ireturn, 1) := by decide +kernel
theorem dX10_readLine_50 : decode cX10_readLine 50 = .ok (.aload_n 0, 1) := by decide +kernel
theorem dX10_readLine_51 : decode cX10_readLine 51 = .ok (.invokevirtual 147, 3) := by decide +kernel
theorem dX10_readLine_54 : decode cX10_readLine 54 = .ok (.istore_n 2, 1) := by decide +kernel
theorem dX10_readLine_55 : decode cX10_readLine 55 = .ok (.iload_n 2, 1) := by decide +kernel
theorem dX10_readLine_56 : decode cX10_readLine 56 = .ok (.iconst (-1), 1) := by decide +kernel
theorem dX10_readLine_57 : decode cX10_readLine 57 = .ok (.if_icmp .eq 20, 3) := by decide +kernel
theorem dX10_readLine_60 : decode cX10_readLine 60 = .ok (.iload_n 2, 1) := by decide +kernel
theorem dX10_readLine_61 : decode cX10_readLine 61 = .ok (.iload_n 1, 1) := by decide +kernel
theorem dX10_readLine_62 : decode cX10_readLine 62 = .ok (.if_icmp .eq 15, 3) := by decide +kernel
theorem dX10_readLine_65 : decode cX10_readLine 65 = .ok (.aload_n 0, 1) := by decide +kernel
theorem dX10_readLine_66 : decode cX10_readLine 66 = .ok (.getfield 76, 3) := by decide +kernel
theorem dX10_readLine_69 : decode cX10_readLine 69 = .ok (.iload_n 1, 1) := by decide +kernel
theorem dX10_readLine_70 : decode cX10_readLine 70 = .ok (.iload_n 2, 1) := by decide +kernel
theorem dX10_readLine_71 : decode cX10_readLine 71 = .ok (.invokestatic 151, 3) := by decide +kernel
theorem dX10_readLine_74 : decode cX10_readLine 74 = .ok (.ifCond .eq 9, 3) := by decide +kernel
theorem dX10_readLine_77 : decode cX10_readLine 77 = .ok (.aload_n 0, 1) := by decide +kernel
theorem dX10_readLine_78 : decode cX10_readLine 78 = .ok (.iconst 2, 1) := by decide +kernel
theorem dX10_readLine_79 : decode cX10_readLine 79 = .ok (.invokevirtual 138, 3) := by decide +kernel
theorem dX10_readLine_82 : decode cX10_readLine 82 = .ok (.ireturn, 1) := by decide +kernel
theorem dX10_readLine_83 : decode cX10_readLine 83 = .ok (.aload_n 0, 1) := by decide +kernel
theorem dX10_readLine_84 : decode cX10_readLine 84 = .ok (.getfield 76, 3) := by decide +kernel
theorem dX10_readLine_87 : decode cX10_readLine 87 = .ok (.iload_n 1, 1) := by decide +kernel
theorem dX10_readLine_88 : decode cX10_readLine 88 = .ok (.iload_n 2, 1) := by decide +kernel
theorem dX10_readLine_89 : decode cX10_readLine 89 = .ok (.invokestatic 155, 3) := by decide +kernel
theorem dX10_readLine_92 : decode cX10_readLine 92 = .ok (.aload_n 0, 1) := by decide +kernel
theorem dX10_readLine_93 : decode cX10_readLine 93 = .ok (.invokevirtual 141, 3) := by decide +kernel
theorem dX10_readLine_96 : decode cX10_readLine 96 = .ok (.iconst 1, 1) := by decide +kernel
theorem dX10_readLine_97 : decode cX10_readLine 97 = .ok (.ireturn, 1) := by decide +kernel
theorem dX10_readEnd_0 : decode cX10_readEnd 0 = .ok (.aload_n 0, 1) := by decide +kernel
theorem dX10_readEnd_1 : decode cX10_readEnd 1 = .ok (.getfield 31, 3) := by decide +kernel
theorem dX10_readEnd_4 : decode cX10_readEnd 4 = .ok (.iconst 3, 1) := by decide +kernel
theorem dX10_readEnd_5 : decode cX10_readEnd 5 = .ok (.if_icmp .eq 9, 3) := by decide +kernel
theorem dX10_readEnd_8 : decode cX10_readEnd 8 = .ok (.aload_n 0, 1) := by decide +kernel
theorem dX10_readEnd_9 : decode cX10_readEnd 9 = .ok (.iconst 1, 1) := by decide +kernel
theorem dX10_readEnd_10 : decode cX10_readEnd 10 = .ok (.invokevirtual 138, 3) := by decide +kernel
theorem dX10_readEnd_13 : decode cX10_readEnd 13 = .ok (.ireturn, 1) := by decide +kernel
theorem dX10_readEnd_14 : decode cX10_readEnd 14 = .ok (.aload_n 0, 1) := by decide +kernel
theorem dX10_readEnd_15 : decode cX10_readEnd 15 = .ok (.invokevirtual 141, 3) := by decide +kernel
theorem dX10_readEnd_18 : decode cX10_readEnd 18 = .ok (.iconst 1, 1) := by decide +kernel
theorem dX10_readEnd_19 : decode cX10_readEnd 19 = .ok (.ireturn, 1) := by decide +kernel
theorem dX10_net_0 : decode cX10_net 0 = .ok (.aload_n 0, 1) := by decide +kernel
theorem dX10_net_1 : decode cX10_net 1 = .ok (.iconst 0, 1) := by decide +kernel
theorem dX10_net_2 : decode cX10_net 2 = .ok (.putfield 1, 3) := by decide +kernel
theorem dX10_net_5 : decode cX10_net 5 = .ok (.aload_n 0, 1) := by decide +kernel
theorem dX10_net_6 : decode cX10_net 6 = .ok (.aload_n 0, 1) := by decide +kernel
theorem dX10_net_7 : decode cX10_net 7 = .ok (.getfield 15, 3) := by decide +kernel
theorem dX10_net_10 : decode cX10_net 10 = .ok (.putfield 22, 3) := by decide +kernel
theorem dX10_net_13 : decode cX10_net 13 = .ok (.aload_n 0, 1) := by decide +kernel
theorem dX10_net_14 : decode cX10_net 14 = .ok (.iconst 0, 1) := by decide +kernel
theorem dX10_net_15 : decode cX10_net 15 = .ok (.putfield 15, 3) := by decide +kernel
theorem dX10_net_18 : decode cX10_net 18 = .ok (.aload_n 0, 1) := by decide +kernel
theorem dX10_net_19 : decode cX10_net 19 = .ok (.iconst 0, 1) := by decide +kernel
theorem dX10_net_20 : decode cX10_net 20 = .ok (.putfield 61, 3) := by decide +kernel
theorem dX10_net_23 : decode cX10_net 23 = .ok (.aload_n 0, 1) := by decide +kernel
theorem dX10_net_24 : decode cX10_net 24 = .ok (.iconst 0, 1) := by decide +kernel
theorem dX10_net_25 : decode cX10_net 25 = .ok (.putfield 25, 3) := by decide +kernel
theorem dX10_net_28 : decode cX10_net 28 = .ok (.iconst 0, 1) := by decide +kernel
theorem dX10_net_29 : decode cX10_net 29 = .ok (.istore_n 1, 1) := by decide +kernel
theorem dX10_net_30 : decode cX10_net 30 = .ok (.iconst 0, 1) := by decide +kernel
theorem dX10_net_31 : decode cX10_net 31 = .ok (.istore_n 2, 1) := by decide +kernel
theorem dX10_net_32 : decode cX10_net 32 = .ok (.iload_n 2, 1) := by decide +kernel
theorem dX10_net_33 : decode cX10_net 33 = .ok (.bipush 15, 2) := by decide +kernel
theorem dX10_net_35 : decode cX10_net 35 = .ok (.if_icmp .ge 16, 3) := by decide +kernel
theorem dX10_net_38 : decode cX10_net 38 = .ok (.aload_n 0, 1) := by decide +kernel
theorem dX10_net_39 : decode cX10_net 39 = .ok (.getfield 76, 3) := by decide +kernel
theorem dX10_net_42 : decode cX10_net 42 = .ok (.iload_n 2, 1) := by decide +kernel
theorem dX10_net_43 : decode cX10_net 43 = .ok (.iconst 0, 1) := by decide +kernel
theorem dX10_net_44 : decode cX10_net 44 = .ok (.iastore, 1) := by decide +kernel
theorem dX10_net_45 : decode cX10_net 45 = .ok (.iinc 2 1, 3) := by decide +kernel
theorem dX10_net_48 : decode cX10_net 48 = .ok (.goto (-16), 3) := by decide +kernel
theorem dX10_net_51 : decode cX10_net 51 = .ok (.aload_n 0, 1) := by decide +kernel
theorem dX10_net_52 : decode cX10_net 52 = .ok (.invokevirtual 141, 3) := by decide +kernel
theorem dX10_net_55 : decode cX10_net 55 = .ok (.aload_n 0, 1) := by decide +kernel
theorem dX10_net_56 : decode cX10_net 56 = .ok (.getfield 31, 3) := by decide +kernel
theorem dX10_net_59 : decode cX10_net 59 = .ok (.ifCond .eq 61, 3) := by decide +kernel
theorem dX10_net_62 : decode cX10_net 62 = .ok (.aload_n 0, 1) := by decide +kernel
theorem dX10_net_63 : decode cX10_net 63 = .ok (.invokevirtual 54, 3) := by decide +kernel
theorem dX10_net_66 : decode cX10_net 66 = .ok (.ifCond .eq 10, 3) := by decide +kernel
theorem dX10_net_69 : decode cX10_net 69 = .ok (.aload_n 0, 1) := by decide +kernel
theorem dX10_net_70 : decode cX10_net 70 = .ok (.invokevirtual 159, 3) := by decide +kernel
theorem dX10_net_73 : decode cX10_net 73 = .ok (.goto 22, 3) := by decide +kernel
theorem dX10_net_76 : decode cX10_net 76 = .ok (.aload_n 0, 1) := by decide +kernel
theorem dX10_net_77 : decode cX10_net 77 = .ok (.invokevirtual 58, 3) := by decide +kernel
theorem dX10_net_80 : decode cX10_net 80 = .ok (.ifCond .eq 10, 3) := by decide +kernel
theorem dX10_net_83 : decode cX10_net 83 = .ok (.aload_n 0, 1) := by decide +kernel
theorem dX10_net_84 : decode cX10_net 84 = .ok (.invokevirtual 162, 3) := by decide +kernel
theorem dX10_net_87 : decode cX10_net 87 = .ok (.goto 8, 3) := by decide +kernel
theorem dX10_net_90 : decode cX10_net 90 = .ok (.aload_n 0, 1) := by decide +kernel
theorem dX10_net_91 : decode cX10_net 91 = .ok (.iconst 1, 1) := by decide +kernel
theorem dX10_net_92 : decode cX10_net 92 = .ok (.invokevirtual 138, 3) := by decide +kernel
theorem dX10_net_95 : decode cX10_net 95 = .ok (.istore_n 2, 1) := by decide +kernel
theorem dX10_net_96 : decode cX10_net 96 = .ok (.iload_n 2, 1) := by decide +kernel
theorem dX10_net_97 : decode cX10_net 97 = .ok (.ifCond .eq 10, 3) := by decide +kernel
theorem dX10_net_100 : decode cX10_net 100 = .ok (.aload_n 0, 1) := by decide +kernel
theorem dX10_net_101 : decode cX10_net 101 = .ok (.invokevirtual 165, 3) := by decide +kernel
theorem dX10_net_104 : decode cX10_net 104 = .ok (.ifCond .ne 10, 3) := by decide +kernel
theorem dX10_net_107 : decode cX10_net 107 = .ok (.iconst (-1), 1) := by decide +kernel
theorem dX10_net_108 : decode cX10_net 108 = .ok (.aload_n 0, 1) := by decide +kernel
theorem dX10_net_109 : decode cX10_net 109 = .ok (.getfield 64, 3) := by decide +kernel
theorem dX10_net_112 : decode cX10_net 112 = .ok (.isub, 1) := by decide +kernel
theorem dX10_net_113 : decode cX10_net 113 = .ok (.ireturn, 1) := by decide +kernel
theorem dX10_net_114 : decode cX10_net 114 = .ok (.iinc 1 1, 3) := by decide +kernel
theorem dX10_net_117 : decode cX10_net 117 = .ok (.goto (-62), 3) := by decide +kernel
theorem dX10_net_120 : decode cX10_net 120 = .ok (.aload_n 0, 1) := by decide +kernel
theorem dX10_net_121 : decode cX10_net 121 = .ok (.getfield 76, 3) := by decide +kernel
theorem dX10_net_124 : decode cX10_net 124 = .ok (.iconst 0, 1) := by decide +kernel
theorem dX10_net_125 : decode cX10_net 125 = .ok (.aload_n 0, 1) := by decide +kernel
theorem dX10_net_126 : decode cX10_net 126 = .ok (.getfield 73, 3) := by decide +kernel
theorem dX10_net_129 : decode cX10_net 129 = .ok (.iconst 0, 1) := by decide +kernel
theorem dX10_net_130 : decode cX10_net 130 = .ok (.invokestatic 168, 3) := by decide +kernel
theorem dX10_net_133 : decode cX10_net 133 = .ok (.aload_n 0, 1) := by decide +kernel
theorem dX10_net_134 : decode cX10_net 134 = .ok (.iconst 0, 1) := by decide +kernel
theorem dX10_net_135 : decode cX10_net 135 = .ok (.putfield 172, 3) := by decide +kernel
theorem dX10_net_138 : decode cX10_net 138 = .ok (.iload_n 1, 1) := by decide +kernel
theorem dX10_net_139 : decode cX10_net 139 = .ok (.ireturn, 1) := by decide +kernel
theorem dX10_fault_0 : decode cX10_fault 0 = .ok (.aload_n 0, 1) := by decide +kernel
theorem dX10_fault_1 : decode cX10_fault 1 = .ok (.iconst 0, 1) := by decide +kernel
theorem dX10_fault_2 : decode cX10_fault 2 = .ok (.putfield 1, 3) := by decide +kernel
theorem dX10_fault_5 : decode cX10_fault 5 = .ok (.aload_n 0, 1) := by decide +kernel
theorem dX10_fault_6 : decode cX10_fault 6 = .ok (.getfield 61, 3) := by decide +kernel
theorem dX10_fault_9 : decode cX10_fault 9 = .ok (.ireturn, 1) := by decide +kernel
theorem dX10_isClaw_0 : decode cX10_isClaw 0 = .ok (.aload_n 0, 1) := by decide +kernel
theorem dX10_isClaw_1 : decode cX10_isClaw 1 = .ok (.iload_n 1, 1) := by decide +kernel
theorem dX10_isClaw_2 : decode cX10_isClaw 2 = .ok (.iload_n 2, 1) := by decide +kernel
theorem dX10_isClaw_3 : decode cX10_isClaw 3 = .ok (.invokestatic 151, 3) := by decide +kernel
theorem dX10_isClaw_6 : decode cX10_isClaw 6 = .ok (.ifCond .eq 55, 3) := by decide +kernel
theorem dX10_isClaw_9 : decode cX10_isClaw 9 = .ok (.aload_n 0, 1) := by decide +kernel
theorem dX10_isClaw_10 : decode cX10_isClaw 10 = .ok (.iload_n 1, 1) := by decide +kernel
theorem dX10_isClaw_11 : decode cX10_isClaw 11 = .ok (.iload_n 3, 1) := by decide +kernel
theorem dX10_isClaw_12 : decode cX10_isClaw 12 = .ok (.invokestatic 151, 3) := by decide +kernel
theorem dX10_isClaw_15 : decode cX10_isClaw 15 = .ok (.ifCond .eq 46, 3) := by decide +kernel
theorem dX10_isClaw_18 : decode cX10_isClaw 18 = .ok (.aload_n 0, 1) := by decide +kernel
theorem dX10_isClaw_19 : decode cX10_isClaw 19 = .ok (.iload_n 1, 1) := by decide +kernel
theorem dX10_isClaw_20 : decode cX10_isClaw 20 = .ok (.iload 4, 2) := by decide +kernel
theorem dX10_isClaw_22 : decode cX10_isClaw 22 = .ok (.invokestatic 151, 3) := by decide +kernel
theorem dX10_isClaw_25 : decode cX10_isClaw 25 = .ok (.ifCond .eq 36, 3) := by decide +kernel
theorem dX10_isClaw_28 : decode cX10_isClaw 28 = .ok (.aload_n 0, 1) := by decide +kernel
theorem dX10_isClaw_29 : decode cX10_isClaw 29 = .ok (.iload_n 2, 1) := by decide +kernel
theorem dX10_isClaw_30 : decode cX10_isClaw 30 = .ok (.iload_n 3, 1) := by decide +kernel
theorem dX10_isClaw_31 : decode cX10_isClaw 31 = .ok (.invokestatic 151, 3) := by decide +kernel
theorem dX10_isClaw_34 : decode cX10_isClaw 34 = .ok (.ifCond .ne 27, 3) := by decide +kernel
theorem dX10_isClaw_37 : decode cX10_isClaw 37 = .ok (.aload_n 0, 1) := by decide +kernel
theorem dX10_isClaw_38 : decode cX10_isClaw 38 = .ok (.iload_n 2, 1) := by decide +kernel
theorem dX10_isClaw_39 : decode cX10_isClaw 39 = .ok (.iload 4, 2) := by decide +kernel
theorem dX10_isClaw_41 : decode cX10_isClaw 41 = .ok (.invokestatic 151, 3) := by decide +kernel
theorem dX10_isClaw_44 : decode cX10_isClaw 44 = .ok (.ifCond .ne 17, 3) := by decide +kernel
theorem dX10_isClaw_47 : decode cX10_isClaw 47 = .ok (.aload_n 0, 1) := by decide +kernel
theorem dX10_isClaw_48 : decode cX10_isClaw 48 = .ok (.iload_n 3, 1) := by decide +kernel
theorem dX10_isClaw_49 : decode cX10_isClaw 49 = .ok (.iload 4, 2) := by decide +kernel
theorem dX10_isClaw_51 : decode cX10_isClaw 51 = .ok (.invokestatic 151, 3) := by decide +kernel
theorem dX10_isClaw_54 : decode cX10_isClaw 54 = .ok (.ifCond .ne 7, 3) := by decide +kernel
theorem dX10_isClaw_57 : decode cX10_isClaw 57 = .ok (.iconst 1, 1) := by decide +kernel
theorem dX10_isClaw_58 : decode cX10_isClaw 58 = .ok (.goto 4, 3) := by decide +kernel
theorem dX10_isClaw_61 : decode cX10_isClaw 61 = .ok (.iconst 0, 1) := by decide +kernel
theorem dX10_isClaw_62 : decode cX10_isClaw 62 = .ok (.ireturn, 1) := by decide +kernel
theorem dX10_isTriangle_0 : decode cX10_isTriangle 0 = .ok (.aload_n 0, 1) := by decide +kernel
theorem dX10_isTriangle_1 : decode cX10_isTriangle 1 = .ok (.iload_n 1, 1) := by decide +kernel
theorem dX10_isTriangle_2 : decode cX10_isTriangle 2 = .ok (.iload_n 2, 1) := by decide +kernel
theorem dX10_isTriangle_3 : decode cX10_isTriangle 3 = .ok (.invokestatic 151, 3) := by decide +kernel
theorem dX10_isTriangle_6 : decode cX10_isTriangle 6 = .ok (.ifCond .eq 25, 3) := by decide +kernel
theorem dX10_isTriangle_9 : decode cX10_isTriangle 9 = .ok (.aload_n 0, 1) := by decide +kernel
theorem dX10_isTriangle_10 : decode cX10_isTriangle 10 = .ok (.iload_n 1, 1) := by decide +kernel
theorem dX10_isTriangle_11 : decode cX10_isTriangle 11 = .ok (.iload_n 3, 1) := by decide +kernel
theorem dX10_isTriangle_12 : decode cX10_isTriangle 12 = .ok (.invokestatic 151, 3) := by decide +kernel
theorem dX10_isTriangle_15 : decode cX10_isTriangle 15 = .ok (.ifCond .eq 16, 3) := by decide +kernel
theorem dX10_isTriangle_18 : decode cX10_isTriangle 18 = .ok (.aload_n 0, 1) := by decide +kernel
theorem dX10_isTriangle_19 : decode cX10_isTriangle 19 = .ok (.iload_n 2, 1) := by decide +kernel
theorem dX10_isTriangle_20 : decode cX10_isTriangle 20 = .ok (.iload_n 3, 1) := by decide +kernel
theorem dX10_isTriangle_21 : decode cX10_isTriangle 21 = .ok (.invokestatic 151, 3) := by decide +kernel
theorem dX10_isTriangle_24 : decode cX10_isTriangle 24 = .ok (.ifCond .eq 7, 3) := by decide +kernel
theorem dX10_isTriangle_27 : decode cX10_isTriangle 27 = .ok (.iconst 1, 1) := by decide +kernel
theorem dX10_isTriangle_28 : decode cX10_isTriangle 28 = .ok (.goto 4, 3) := by decide +kernel
theorem dX10_isTriangle_31 : decode cX10_isTriangle 31 = .ok (.iconst 0, 1) := by decide +kernel
theorem dX10_isTriangle_32 : decode cX10_isTriangle 32 = .ok (.ireturn, 1) := by decide +kernel
theorem dX10_isOdd_0 : decode cX10_isOdd 0 = .ok (.iconst 1, 1) := by decide +kernel
theorem dX10_isOdd_1 : decode cX10_isOdd 1 = .ok (.iload_n 2, 1) := by decide +kernel
theorem dX10_isOdd_2 : decode cX10_isOdd 2 = .ok (.ishl, 1) := by decide +kernel
theorem dX10_isOdd_3 : decode cX10_isOdd 3 = .ok (.iconst 1, 1) := by decide +kernel
theorem dX10_isOdd_4 : decode cX10_isOdd 4 = .ok (.iload_n 3, 1) := by decide +kernel
theorem dX10_isOdd_5 : decode cX10_isOdd 5 = .ok (.ishl, 1) := by decide +kernel
theorem dX10_isOdd_6 : decode cX10_isOdd 6 = .ok (.ior, 1) := by decide +kernel
theorem dX10_isOdd_7 : decode cX10_isOdd 7 = .ok (.iconst 1, 1) := by decide +kernel
theorem dX10_isOdd_8 : decode cX10_isOdd 8 = .ok (.iload 4, 2) := by decide +kernel
theorem dX10_isOdd_10 : decode cX10_isOdd 10 = .ok (.ishl, 1) := by decide +kernel
theorem dX10_isOdd_11 : decode cX10_isOdd 11 = .ok (.ior, 1) := by decide +kernel
theorem dX10_isOdd_12 : decode cX10_isOdd 12 = .ok (.istore 5, 2) := by decide +kernel
theorem dX10_isOdd_14 : decode cX10_isOdd 14 = .ok (.iconst 0, 1) := by decide +kernel
theorem dX10_isOdd_15 : decode cX10_isOdd 15 = .ok (.istore 6, 2) := by decide +kernel
theorem dX10_isOdd_17 : decode cX10_isOdd 17 = .ok (.iload 6, 2) := by decide +kernel
theorem dX10_isOdd_19 : decode cX10_isOdd 19 = .ok (.aload_n 0, 1) := by decide +kernel
theorem dX10_isOdd_20 : decode cX10_isOdd 20 = .ok (.iconst 0, 1) := by decide +kernel
theorem dX10_isOdd_21 : decode cX10_isOdd 21 = .ok (.iaload, 1) := by decide +kernel
theorem dX10_isOdd_22 : decode cX10_isOdd 22 = .ok (.if_icmp .ge 43, 3) := by decide +kernel
theorem dX10_isOdd_25 : decode cX10_isOdd 25 = .ok (.iload_n 1, 1) := by decide +kernel
theorem dX10_isOdd_26 : decode cX10_isOdd 26 = .ok (.iload 5, 2) := by decide +kernel
theorem dX10_isOdd_28 : decode cX10_isOdd 28 = .ok (.iconst (-1), 1) := by decide +kernel
theorem dX10_isOdd_29 : decode cX10_isOdd 29 = .ok (.ixor, 1) := by decide +kernel
theorem dX10_isOdd_30 : decode cX10_isOdd 30 = .ok (.iand, 1) := by decide +kernel
theorem dX10_isOdd_31 : decode cX10_isOdd 31 = .ok (.iload 6, 2) := by decide +kernel
theorem dX10_isOdd_33 : decode cX10_isOdd 33 = .ok (.invokestatic 7, 3) := by decide +kernel
theorem dX10_isOdd_36 : decode cX10_isOdd 36 = .ok (.ifCond .eq 23, 3) := by decide +kernel
theorem dX10_isOdd_39 : decode cX10_isOdd 39 = .ok (.aload_n 0, 1) := by decide +kernel
theorem dX10_isOdd_40 : decode cX10_isOdd 40 = .ok (.iconst 1, 1) := by decide +kernel
theorem dX10_isOdd_41 : decode cX10_isOdd 41 = .ok (.iload 6, 2) := by decide +kernel
theorem dX10_isOdd_43 : decode cX10_isOdd 43 = .ok (.iadd, 1) := by decide +kernel
theorem dX10_isOdd_44 : decode cX10_isOdd 44 = .ok (.iaload, 1) := by decide +kernel
theorem dX10_isOdd_45 : decode cX10_isOdd 45 = .ok (.iload 5, 2) := by decide +kernel
theorem dX10_isOdd_47 : decode cX10_isOdd 47 = .ok (.iand, 1) := by decide +kernel
theorem dX10_isOdd_48 : decode cX10_isOdd 48 = .ok (.invokestatic 175, 3) := by decide +kernel
theorem dX10_isOdd_51 : decode cX10_isOdd 51 = .ok (.iconst 2, 1) := by decide +kernel
theorem dX10_isOdd_52 : decode cX10_isOdd 52 = .ok (.irem, 1) := by decide +kernel
theorem dX10_isOdd_53 : decode cX10_isOdd 53 = .ok (.iconst 1, 1) := by decide +kernel
theorem dX10_isOdd_54 : decode cX10_isOdd 54 = .ok (.if_icmp .ne 5, 3) := by decide +kernel
theorem dX10_isOdd_57 : decode cX10_isOdd 57 = .ok (.iconst 1, 1) := by decide +kernel
theorem dX10_isOdd_58 : decode cX10_isOdd 58 = .ok (.ireturn, 1) := by decide +kernel
theorem dX10_isOdd_59 : decode cX10_isOdd 59 = .ok (.iinc 6 1, 3) := by decide +kernel
theorem dX10_isOdd_62 : decode cX10_isOdd 62 = .ok (.goto (-45), 3) := by decide +kernel
theorem dX10_isOdd_65 : decode cX10_isOdd 65 = .ok (.iconst 0, 1) := by decide +kernel
theorem dX10_isOdd_66 : decode cX10_isOdd 66 = .ok (.ireturn, 1) := by decide +kernel
theorem dX10_hasClaw_0 : decode cX10_hasClaw 0 = .ok (.iconst 0, 1) := by decide +kernel
theorem dX10_hasClaw_1 : decode cX10_hasClaw 1 = .ok (.istore_n 2, 1) := by decide +kernel
theorem dX10_hasClaw_2 : decode cX10_hasClaw 2 = .ok (.iload_n 2, 1) := by decide +kernel
theorem dX10_hasClaw_3 : decode cX10_hasClaw 3 = .ok (.aload_n 0, 1) := by decide +kernel
theorem dX10_hasClaw_4 : decode cX10_hasClaw 4 = .ok (.iconst 0, 1) := by decide +kernel
theorem dX10_hasClaw_5 : decode cX10_hasClaw 5 = .ok (.iaload, 1) := by decide +kernel
theorem dX10_hasClaw_6 : decode cX10_hasClaw 6 = .ok (.if_icmp .ge 133, 3) := by decide +kernel
theorem dX10_hasClaw_9 : decode cX10_hasClaw 9 = .ok (.iload_n 1, 1) := by decide +kernel
theorem dX10_hasClaw_10 : decode cX10_hasClaw 10 = .ok (.iload_n 2, 1) := by decide +kernel
theorem dX10_hasClaw_11 : decode cX10_hasClaw 11 = .ok (.invokestatic 7, 3) := by decide +kernel
theorem dX10_hasClaw_14 : decode cX10_hasClaw 14 = .ok (.ifCond .ne 6, 3) := by decide +kernel
theorem dX10_hasClaw_17 : decode cX10_hasClaw 17 = .ok (.goto 116, 3) := by decide +kernel
theorem dX10_hasClaw_20 : decode cX10_hasClaw 20 = .ok (.aload_n 0, 1) := by decide +kernel
theorem dX10_hasClaw_21 : decode cX10_hasClaw 21 = .ok (.iconst 1, 1) := by decide +kernel
theorem dX10_hasClaw_22 : decode cX10_hasClaw 22 = .ok (.iload_n 2, 1) := by decide +kernel
theorem dX10_hasClaw_23 : decode cX10_hasClaw 23 = .ok (.iadd, 1) := by decide +kernel
theorem dX10_hasClaw_24 : decode cX10_hasClaw 24 = .ok (.iaload, 1) := by decide +kernel
theorem dX10_hasClaw_25 : decode cX10_hasClaw 25 = .ok (.iload_n 1, 1) := by decide +kernel
theorem dX10_hasClaw_26 : decode cX10_hasClaw 26 = .ok (.iand, 1) := by decide +kernel
theorem dX10_hasClaw_27 : decode cX10_hasClaw 27 = .ok (.istore_n 3, 1) := by decide +kernel
theorem dX10_hasClaw_28 : decode cX10_hasClaw 28 = .ok (.iconst 0, 1) := by decide +kernel
theorem dX10_hasClaw_29 : decode cX10_hasClaw 29 = .ok (.istore 4, 2) := by decide +kernel
theorem dX10_hasClaw_31 : decode cX10_hasClaw 31 = .ok (.iload 4, 2) := by decide +kernel
theorem dX10_hasClaw_33 : decode cX10_hasClaw 33 = .ok (.aload_n 0, 1) := by decide +kernel
theorem dX10_hasClaw_34 : decode cX10_hasClaw 34 = .ok (.iconst 0, 1) := by decide +kernel
theorem dX10_hasClaw_35 : decode cX10_hasClaw 35 = .ok (.iaload, 1) := by decide +kernel
theorem dX10_hasClaw_36 : decode cX10_hasClaw 36 = .ok (.if_icmp .ge 97, 3) := by decide +kernel
theorem dX10_hasClaw_39 : decode cX10_hasClaw 39 = .ok (.iload_n 3, 1) := by decide +kernel
theorem dX10_hasClaw_40 : decode cX10_hasClaw 40 = .ok (.iload 4, 2) := by decide +kernel
theorem dX10_hasClaw_42 : decode cX10_hasClaw 42 = .ok (.invokestatic 7, 3) := by decide +kernel
theorem dX10_hasClaw_45 : decode cX10_hasClaw 45 = .ok (.ifCond .ne 6, 3) := by decide +kernel
theorem dX10_hasClaw_48 : decode cX10_hasClaw 48 = .ok (.goto 79, 3) := by decide +kernel
theorem dX10_hasClaw_51 : decode cX10_hasClaw 51 = .ok (.iload 4, 2) := by decide +kernel
theorem dX10_hasClaw_53 : decode cX10_hasClaw 53 = .ok (.iconst 1, 1) := by decide +kernel
theorem dX10_hasClaw_54 : decode cX10_hasClaw 54 = .ok (.iadd, 1) := by decide +kernel
theorem dX10_hasClaw_55 : decode cX10_hasClaw 55 = .ok (.istore 5, 2) := by decide +kernel
theorem dX10_hasClaw_57 : decode cX10_hasClaw 57 = .ok (.iload 5, 2) := by decide +kernel
theorem dX10_hasClaw_59 : decode cX10_hasClaw 59 = .ok (.aload_n 0, 1) := by decide +kernel
theorem dX10_hasClaw_60 : decode cX10_hasClaw 60 = .ok (.iconst 0, 1) := by decide +kernel
theorem dX10_hasClaw_61 : decode cX10_hasClaw 61 = .ok (.iaload, 1) := by decide +kernel
theorem dX10_hasClaw_62 : decode cX10_hasClaw 62 = .ok (.if_icmp .ge 65, 3) := by decide +kernel
theorem dX10_hasClaw_65 : decode cX10_hasClaw 65 = .ok (.iload_n 3, 1) := by decide +kernel
theorem dX10_hasClaw_66 : decode cX10_hasClaw 66 = .ok (.iload 5, 2) := by decide +kernel
theorem dX10_hasClaw_68 : decode cX10_hasClaw 68 = .ok (.invokestatic 7, 3) := by decide +kernel
theorem dX10_hasClaw_71 : decode cX10_hasClaw 71 = .ok (.ifCond .eq 50, 3) := by decide +kernel
theorem dX10_hasClaw_74 : decode cX10_hasClaw 74 = .ok (.aload_n 0, 1) := by decide +kernel
theorem dX10_hasClaw_75 : decode cX10_hasClaw 75 = .ok (.iload 4, 2) := by decide +kernel
theorem dX10_hasClaw_77 : decode cX10_hasClaw 77 = .ok (.iload 5, 2) := by decide +kernel
theorem dX10_hasClaw_79 : decode cX10_hasClaw 79 = .ok (.invokestatic 151, 3) := by decide +kernel
theorem dX10_hasClaw_82 : decode cX10_hasClaw 82 = .ok (.ifCond .eq 6, 3) := by decide +kernel
theorem dX10_hasClaw_85 : decode cX10_hasClaw 85 = .ok (.goto 36, 3) := by decide +kernel
theorem dX10_hasClaw_88 : decode cX10_hasClaw 88 = .ok (.iload_n 3, 1) := by decide +kernel
theorem dX10_hasClaw_89 : decode cX10_hasClaw 89 = .ok (.aload_n 0, 1) := by decide +kernel
theorem dX10_hasClaw_90 : decode cX10_hasClaw 90 = .ok (.iconst 1, 1) := by decide +kernel
theorem dX10_hasClaw_91 : decode cX10_hasClaw 91 = .ok (.iload 4, 2) := by decide +kernel
theorem dX10_hasClaw_93 : decode cX10_hasClaw 93 = .ok (.iadd, 1) := by decide +kernel
theorem dX10_hasClaw_94 : decode cX10_hasClaw 94 = .ok (.iaload, 1) := by decide +kernel
theorem dX10_hasClaw_95 : decode cX10_hasClaw 95 = .ok (.iconst (-1), 1) := by decide +kernel
theorem dX10_hasClaw_96 : decode cX10_hasClaw 96 = .ok (.ixor, 1) := by decide +kernel
theorem dX10_hasClaw_97 : decode cX10_hasClaw 97 = .ok (.iand, 1) := by decide +kernel
theorem dX10_hasClaw_98 : decode cX10_hasClaw 98 = .ok (.aload_n 0, 1) := by decide +kernel
theorem dX10_hasClaw_99 : decode cX10_hasClaw 99 = .ok (.iconst 1, 1) := by decide +kernel
theorem dX10_hasClaw_100 : decode cX10_hasClaw 100 = .ok (.iload 5, 2) := by decide +kernel
theorem dX10_hasClaw_102 : decode cX10_hasClaw 102 = .ok (.iadd, 1) := by decide +kernel
theorem dX10_hasClaw_103 : decode cX10_hasClaw 103 = .ok (.iaload, 1) := by decide +kernel
theorem dX10_hasClaw_104 : decode cX10_hasClaw 104 = .ok (.iconst (-1), 1) := by decide +kernel
theorem dX10_hasClaw_105 : decode cX10_hasClaw 105 = .ok (.ixor, 1) := by decide +kernel
theorem dX10_hasClaw_106 : decode cX10_hasClaw 106 = .ok (.iand, 1) := by decide +kernel
theorem dX10_hasClaw_107 : decode cX10_hasClaw 107 = .ok (.iconst 2, 1) := by decide +kernel
theorem dX10_hasClaw_108 : decode cX10_hasClaw 108 = .ok (.iload 5, 2) := by decide +kernel
theorem dX10_hasClaw_110 : decode cX10_hasClaw 110 = .ok (.ishl, 1) := by decide +kernel
theorem dX10_hasClaw_111 : decode cX10_hasClaw 111 = .ok (.iconst 1, 1) := by decide +kernel
theorem dX10_hasClaw_112 : decode cX10_hasClaw 112 = .ok (.isub, 1) := by decide +kernel
theorem dX10_hasClaw_113 : decode cX10_hasClaw 113 = .ok (.iconst (-1), 1) := by decide +kernel
theorem dX10_hasClaw_114 : decode cX10_hasClaw 114 = .ok (.ixor, 1) := by decide +kernel
theorem dX10_hasClaw_115 : decode cX10_hasClaw 115 = .ok (.iand, 1) := by decide +kernel
theorem dX10_hasClaw_116 : decode cX10_hasClaw 116 = .ok (.ifCond .eq 5, 3) := by decide +kernel
theorem dX10_hasClaw_119 : decode cX10_hasClaw 119 = .ok (.iconst 1, 1) := by decide +kernel
theorem dX10_hasClaw_120 : decode cX10_hasClaw 120 = .ok (.ireturn, 1) := by decide +kernel
theorem dX10_hasClaw_121 : decode cX10_hasClaw 121 = .ok (.iinc 5 1, 3) := by decide +kernel
theorem dX10_hasClaw_124 : decode cX10_hasClaw 124 = .ok (.goto (-67), 3) := by decide +kernel
theorem dX10_hasClaw_127 : decode cX10_hasClaw 127 = .ok (.iinc 4 1, 3) := by decide +kernel
theorem dX10_hasClaw_130 : decode cX10_hasClaw 130 = .ok (.goto (-99), 3) := by decide +kernel
theorem dX10_hasClaw_133 : decode cX10_hasClaw 133 = .ok (.iinc 2 1, 3) := by decide +kernel
theorem dX10_hasClaw_136 : decode cX10_hasClaw 136 = .ok (.goto (-134), 3) := by decide +kernel
theorem dX10_hasClaw_139 : decode cX10_hasClaw 139 = .ok (.iconst 0, 1) := by decide +kernel
theorem dX10_hasClaw_140 : decode cX10_hasClaw 140 = .ok (.ireturn, 1) := by decide +kernel
theorem dX10_hasOddTwo_0 : decode cX10_hasOddTwo 0 = .ok (.iconst 0, 1) := by decide +kernel
theorem dX10_hasOddTwo_1 : decode cX10_hasOddTwo 1 = .ok (.istore_n 2, 1) := by decide +kernel
theorem dX10_hasOddTwo_2 : decode cX10_hasOddTwo 2 = .ok (.iload_n 2, 1) := by decide +kernel
theorem dX10_hasOddTwo_3 : decode cX10_hasOddTwo 3 = .ok (.aload_n 0, 1) := by decide +kernel
theorem dX10_hasOddTwo_4 : decode cX10_hasOddTwo 4 = .ok (.iconst 0, 1) := by decide +kernel
theorem dX10_hasOddTwo_5 : decode cX10_hasOddTwo 5 = .ok (.iaload, 1) := by decide +kernel
theorem dX10_hasOddTwo_6 : decode cX10_hasOddTwo 6 = .ok (.if_icmp .ge 166, 3) := by decide +kernel
theorem dX10_hasOddTwo_9 : decode cX10_hasOddTwo 9 = .ok (.iload_n 2, 1) := by decide +kernel
theorem dX10_hasOddTwo_10 : decode cX10_hasOddTwo 10 = .ok (.iconst 1, 1) := by decide +kernel
theorem dX10_hasOddTwo_11 : decode cX10_hasOddTwo 11 = .ok (.iadd, 1) := by decide +kernel
theorem dX10_hasOddTwo_12 : decode cX10_hasOddTwo 12 = .ok (.istore_n 3, 1) := by decide +kernel
theorem dX10_hasOddTwo_13 : decode cX10_hasOddTwo 13 = .ok (.iload_n 3, 1) := by decide +kernel
theorem dX10_hasOddTwo_14 : decode cX10_hasOddTwo 14 = .ok (.aload_n 0, 1) := by decide +kernel
theorem dX10_hasOddTwo_15 : decode cX10_hasOddTwo 15 = .ok (.iconst 0, 1) := by decide +kernel
theorem dX10_hasOddTwo_16 : decode cX10_hasOddTwo 16 = .ok (.iaload, 1) := by decide +kernel
theorem dX10_hasOddTwo_17 : decode cX10_hasOddTwo 17 = .ok (.if_icmp .ge 149, 3) := by decide +kernel
theorem dX10_hasOddTwo_20 : decode cX10_hasOddTwo 20 = .ok (.iload_n 1, 1) := by decide +kernel
theorem dX10_hasOddTwo_21 : decode cX10_hasOddTwo 21 = .ok (.iload_n 2, 1) := by decide +kernel
theorem dX10_hasOddTwo_22 : decode cX10_hasOddTwo 22 = .ok (.invokestatic 7, 3) := by decide +kernel
theorem dX10_hasOddTwo_25 : decode cX10_hasOddTwo 25 = .ok (.ifCond .eq 135, 3) := by decide +kernel
theorem dX10_hasOddTwo_28 : decode cX10_hasOddTwo 28 = .ok (.iload_n 1, 1) := by decide +kernel
theorem dX10_hasOddTwo_29 : decode cX10_hasOddTwo 29 = .ok (.iload_n 3, 1) := by decide +kernel
theorem dX10_hasOddTwo_30 : decode cX10_hasOddTwo 30 = .ok (.invokestatic 7, 3) := by decide +kernel
theorem dX10_hasOddTwo_33 : decode cX10_hasOddTwo 33 = .ok (.ifCond .eq 127, 3) := by decide +kernel
theorem dX10_hasOddTwo_36 : decode cX10_hasOddTwo 36 = .ok (.aload_n 0, 1) := by decide +kernel
theorem dX10_hasOddTwo_37 : decode cX10_hasOddTwo 37 = .ok (.iload_n 2, 1) := by decide +kernel
theorem dX10_hasOddTwo_38 : decode cX10_hasOddTwo 38 = .ok (.iload_n 3, 1) := by decide +kernel
theorem dX10_hasOddTwo_39 : decode cX10_hasOddTwo 39 = .ok (.invokestatic 151, 3) := by decide +kernel
theorem dX10_hasOddTwo_42 : decode cX10_hasOddTwo 42 = .ok (.ifCond .ne 6, 3) := by decide +kernel
theorem dX10_hasOddTwo_45 : decode cX10_hasOddTwo 45 = .ok (.goto 115, 3) := by decide +kernel
theorem dX10_hasOddTwo_48 : decode cX10_hasOddTwo 48 = .ok (.iconst 0, 1) := by decide +kernel
theorem dX10_hasOddTwo_49 : decode cX10_hasOddTwo 49 = .ok (.istore 4, 2) := by decide +kernel
theorem dX10_hasOddTwo_51 : decode cX10_hasOddTwo 51 = .ok (.iconst 0, 1) := by decide +kernel
theorem dX10_hasOddTwo_52 : decode cX10_hasOddTwo 52 = .ok (.istore 5, 2) := by decide +kernel
theorem dX10_hasOddTwo_54 : decode cX10_hasOddTwo 54 = .ok (.iload 5, 2) := by decide +kernel
theorem dX10_hasOddTwo_56 : decode cX10_hasOddTwo 56 = .ok (.aload_n 0, 1) := by decide +kernel
theorem dX10_hasOddTwo_57 : decode cX10_hasOddTwo 57 = .ok (.iconst 0, 1) := by decide +kernel
theorem dX10_hasOddTwo_58 : decode cX10_hasOddTwo 58 = .ok (.iaload, 1) := by decide +kernel
theorem dX10_hasOddTwo_59 : decode cX10_hasOddTwo 59 = .ok (.if_icmp .ge 51, 3) := by decide +kernel
theorem dX10_hasOddTwo_62 : decode cX10_hasOddTwo 62 = .ok (.iload_n 1, 1) := by decide +kernel
theorem dX10_hasOddTwo_63 : decode cX10_hasOddTwo 63 = .ok (.aload_n 0, 1) := by decide +kernel
theorem dX10_hasOddTwo_64 : decode cX10_hasOddTwo 64 = .ok (.iconst 1, 1) := by decide +kernel
theorem dX10_hasOddTwo_65 : decode cX10_hasOddTwo 65 = .ok (.iload_n 2, 1) := by decide +kernel
theorem dX10_hasOddTwo_66 : decode cX10_hasOddTwo 66 = .ok (.iadd, 1) := by decide +kernel
theorem dX10_hasOddTwo_67 : decode cX10_hasOddTwo 67 = .ok (.iaload, 1) := by decide +kernel
theorem dX10_hasOddTwo_68 : decode cX10_hasOddTwo 68 = .ok (.iand, 1) := by decide +kernel
theorem dX10_hasOddTwo_69 : decode cX10_hasOddTwo 69 = .ok (.aload_n 0, 1) := by decide +kernel
theorem dX10_hasOddTwo_70 : decode cX10_hasOddTwo 70 = .ok (.iconst 1, 1) := by decide +kernel
theorem dX10_hasOddTwo_71 : decode cX10_hasOddTwo 71 = .ok (.iload_n 3, 1) := by decide +kernel
theorem dX10_hasOddTwo_72 : decode cX10_hasOddTwo 72 = .ok (.iadd, 1) := by decide +kernel
theorem dX10_hasOddTwo_73 : decode cX10_hasOddTwo 73 = .ok (.iaload, 1) := by decide +kernel
theorem dX10_hasOddTwo_74 : decode cX10_hasOddTwo 74 = .ok (.iand, 1) := by decide +kernel
theorem dX10_hasOddTwo_75 : decode cX10_hasOddTwo 75 = .ok (.iload 5, 2) := by decide +kernel
theorem dX10_hasOddTwo_77 : decode cX10_hasOddTwo 77 = .ok (.invokestatic 7, 3) := by decide +kernel
theorem dX10_hasOddTwo_80 : decode cX10_hasOddTwo 80 = .ok (.ifCond .eq 24, 3) := by decide +kernel
theorem dX10_hasOddTwo_83 : decode cX10_hasOddTwo 83 = .ok (.aload_n 0, 1) := by decide +kernel
theorem dX10_hasOddTwo_84 : decode cX10_hasOddTwo 84 = .ok (.iload_n 1, 1) := by decide +kernel
theorem dX10_hasOddTwo_85 : decode cX10_hasOddTwo 85 = .ok (.iload_n 2, 1) := by decide +kernel
theorem dX10_hasOddTwo_86 : decode cX10_hasOddTwo 86 = .ok (.iload_n 3, 1) := by decide +kernel
theorem dX10_hasOddTwo_87 : decode cX10_hasOddTwo 87 = .ok (.iload 5, 2) := by decide +kernel
theorem dX10_hasOddTwo_89 : decode cX10_hasOddTwo 89 = .ok (.invokestatic 178, 3) := by decide +kernel
theorem dX10_hasOddTwo_92 : decode cX10_hasOddTwo 92 = .ok (.ifCond .eq 12, 3) := by decide +kernel
theorem dX10_hasOddTwo_95 : decode cX10_hasOddTwo 95 = .ok (.iload 4, 2) := by decide +kernel
theorem dX10_hasOddTwo_97 : decode cX10_hasOddTwo 97 = .ok (.iconst 1, 1) := by decide +kernel
theorem dX10_hasOddTwo_98 : decode cX10_hasOddTwo 98 = .ok (.iload 5, 2) := by decide +kernel
theorem dX10_hasOddTwo_100 : decode cX10_hasOddTwo 100 = .ok (.ishl, 1) := by decide +kernel
theorem dX10_hasOddTwo_101 : decode cX10_hasOddTwo 101 = .ok (.ior, 1) := by decide +kernel
theorem dX10_hasOddTwo_102 : decode cX10_hasOddTwo 102 = .ok (.istore 4, 2) := by decide +kernel
theorem dX10_hasOddTwo_104 : decode cX10_hasOddTwo 104 = .ok (.iinc 5 1, 3) := by decide +kernel
theorem dX10_hasOddTwo_107 : decode cX10_hasOddTwo 107 = .ok (.goto (-53), 3) := by decide +kernel
theorem dX10_hasOddTwo_110 : decode cX10_hasOddTwo 110 = .ok (.iconst 0, 1) := by decide +kernel
theorem dX10_hasOddTwo_111 : decode cX10_hasOddTwo 111 = .ok (.istore 5, 2) := by decide +kernel
theorem dX10_hasOddTwo_113 : decode cX10_hasOddTwo 113 = .ok (.iload 5, 2) := by decide +kernel
theorem dX10_hasOddTwo_115 : decode cX10_hasOddTwo 115 = .ok (.aload_n 0, 1) := by decide +kernel
theorem dX10_hasOddTwo_116 : decode cX10_hasOddTwo 116 = .ok (.iconst 0, 1) := by decide +kernel
theorem dX10_hasOddTwo_117 : decode cX10_hasOddTwo 117 = .ok (.iaload, 1) := by decide +kernel
theorem dX10_hasOddTwo_118 : decode cX10_hasOddTwo 118 = .ok (.if_icmp .ge 42, 3) := by decide +kernel
theorem dX10_hasOddTwo_121 : decode cX10_hasOddTwo 121 = .ok (.iload 4, 2) := by decide +kernel
theorem dX10_hasOddTwo_123 : decode cX10_hasOddTwo 123 = .ok (.iload 5, 2) := by decide +kernel
theorem dX10_hasOddTwo_125 : decode cX10_hasOddTwo 125 = .ok (.invokestatic 7, 3) := by decide +kernel
theorem dX10_hasOddTwo_128 : decode cX10_hasOddTwo 128 = .ok (.ifCond .eq 26, 3) := by decide +kernel
theorem dX10_hasOddTwo_131 : decode cX10_hasOddTwo 131 = .ok (.iload 4, 2) := by decide +kernel
theorem dX10_hasOddTwo_133 : decode cX10_hasOddTwo 133 = .ok (.aload_n 0, 1) := by decide +kernel
theorem dX10_hasOddTwo_134 : decode cX10_hasOddTwo 134 = .ok (.iconst 1, 1) := by decide +kernel
theorem dX10_hasOddTwo_135 : decode cX10_hasOddTwo 135 = .ok (.iload 5, 2) := by decide +kernel
theorem dX10_hasOddTwo_137 : decode cX10_hasOddTwo 137 = .ok (.iadd, 1) := by decide +kernel
theorem dX10_hasOddTwo_138 : decode cX10_hasOddTwo 138 = .ok (.iaload, 1) := by decide +kernel
theorem dX10_hasOddTwo_139 : decode cX10_hasOddTwo 139 = .ok (.iconst (-1), 1) := by decide +kernel
theorem dX10_hasOddTwo_140 : decode cX10_hasOddTwo 140 = .ok (.ixor, 1) := by decide +kernel
theorem dX10_hasOddTwo_141 : decode cX10_hasOddTwo 141 = .ok (.iand, 1) := by decide +kernel
theorem dX10_hasOddTwo_142 : decode cX10_hasOddTwo 142 = .ok (.iconst 1, 1) := by decide +kernel
theorem dX10_hasOddTwo_143 : decode cX10_hasOddTwo 143 = .ok (.iload 5, 2) := by decide +kernel
theorem dX10_hasOddTwo_145 : decode cX10_hasOddTwo 145 = .ok (.ishl, 1) := by decide +kernel
theorem dX10_hasOddTwo_146 : decode cX10_hasOddTwo 146 = .ok (.iconst (-1), 1) := by decide +kernel
theorem dX10_hasOddTwo_147 : decode cX10_hasOddTwo 147 = .ok (.ixor, 1) := by decide +kernel
theorem dX10_hasOddTwo_148 : decode cX10_hasOddTwo 148 = .ok (.iand, 1) := by decide +kernel
theorem dX10_hasOddTwo_149 : decode cX10_hasOddTwo 149 = .ok (.ifCond .eq 5, 3) := by decide +kernel
theorem dX10_hasOddTwo_152 : decode cX10_hasOddTwo 152 = .ok (.iconst 1, 1) := by decide +kernel
theorem dX10_hasOddTwo_153 : decode cX10_hasOddTwo 153 = .ok (.ireturn, 1) := by decide +kernel
theorem dX10_hasOddTwo_154 : decode cX10_hasOddTwo 154 = .ok (.iinc 5 1, 3) := by decide +kernel
theorem dX10_hasOddTwo_157 : decode cX10_hasOddTwo 157 = .ok (.goto (-44), 3) := by decide +kernel
theorem dX10_hasOddTwo_160 : decode cX10_hasOddTwo 160 = .ok (.iinc 3 1, 3) := by decide +kernel
theorem dX10_hasOddTwo_163 : decode cX10_hasOddTwo 163 = .ok (.goto (-150), 3) := by decide +kernel
theorem dX10_hasOddTwo_166 : decode cX10_hasOddTwo 166 = .ok (.iinc 2 1, 3) := by decide +kernel
theorem dX10_hasOddTwo_169 : decode cX10_hasOddTwo 169 = .ok (.goto (-167), 3) := by decide +kernel
theorem dX10_hasOddTwo_172 : decode cX10_hasOddTwo 172 = .ok (.iconst 0, 1) := by decide +kernel
theorem dX10_hasOddTwo_173 : decode cX10_hasOddTwo 173 = .ok (.ireturn, 1) := by decide +kernel
theorem dX10_isCovered_0 : decode cX10_isCovered 0 = .ok (.aload_n 0, 1) := by decide +kernel
theorem dX10_isCovered_1 : decode cX10_isCovered 1 = .ok (.iload_n 1, 1) := by decide +kernel
theorem dX10_isCovered_2 : decode cX10_isCovered 2 = .ok (.invokestatic 182, 3) := by decide +kernel
theorem dX10_isCovered_5 : decode cX10_isCovered 5 = .ok (.ifCond .ne 15, 3) := by decide +kernel
theorem dX10_isCovered_8 : decode cX10_isCovered 8 = .ok (.aload_n 0, 1) := by decide +kernel
theorem dX10_isCovered_9 : decode cX10_isCovered 9 = .ok (.iload_n 1, 1) := by decide +kernel
theorem dX10_isCovered_10 : decode cX10_isCovered 10 = .ok (.invokestatic 186, 3) := by decide +kernel
theorem dX10_isCovered_13 : decode cX10_isCovered 13 = .ok (.ifCond .ne 7, 3) := by decide +kernel
theorem dX10_isCovered_16 : decode cX10_isCovered 16 = .ok (.iconst 1, 1) := by decide +kernel
theorem dX10_isCovered_17 : decode cX10_isCovered 17 = .ok (.goto 4, 3) := by decide +kernel
theorem dX10_isCovered_20 : decode cX10_isCovered 20 = .ok (.iconst 0, 1) := by decide +kernel
theorem dX10_isCovered_21 : decode cX10_isCovered 21 = .ok (.ireturn, 1) := by decide +kernel
theorem dX10_all_0 : decode cX10_all 0 = .ok (.iconst 1, 1) := by decide +kernel
theorem dX10_all_1 : decode cX10_all 1 = .ok (.aload_n 0, 1) := by decide +kernel
theorem dX10_all_2 : decode cX10_all 2 = .ok (.iconst 0, 1) := by decide +kernel
theorem dX10_all_3 : decode cX10_all 3 = .ok (.iaload, 1) := by decide +kernel
theorem dX10_all_4 : decode cX10_all 4 = .ok (.ishl, 1) := by decide +kernel
theorem dX10_all_5 : decode cX10_all 5 = .ok (.iconst 1, 1) := by decide +kernel
theorem dX10_all_6 : decode cX10_all 6 = .ok (.isub, 1) := by decide +kernel
theorem dX10_all_7 : decode cX10_all 7 = .ok (.ireturn, 1) := by decide +kernel
theorem dX10_fits_0 : decode cX10_fits 0 = .ok (.iload_n 3, 1) := by decide +kernel
theorem dX10_fits_1 : decode cX10_fits 1 = .ok (.iconst (-1), 1) := by decide +kernel
theorem dX10_fits_2 : decode cX10_fits 2 = .ok (.if_icmp .ne 7, 3) := by decide +kernel
theorem dX10_fits_5 : decode cX10_fits 5 = .ok (.iconst 0, 1) := by decide +kernel
theorem dX10_fits_6 : decode cX10_fits 6 = .ok (.goto 9, 3) := by decide +kernel
theorem dX10_fits_9 : decode cX10_fits 9 = .ok (.aload_n 0, 1) := by decide +kernel
theorem dX10_fits_10 : decode cX10_fits 10 = .ok (.getfield 111, 3) := by decide +kernel
theorem dX10_fits_13 : decode cX10_fits 13 = .ok (.iload_n 3, 1) := by decide +kernel
theorem dX10_fits_14 : decode cX10_fits 14 = .ok (.iaload, 1) := by decide +kernel
theorem dX10_fits_15 : decode cX10_fits 15 = .ok (.istore 5, 2) := by decide +kernel
theorem dX10_fits_17 : decode cX10_fits 17 = .ok (.iload 4, 2) := by decide +kernel
theorem dX10_fits_19 : decode cX10_fits 19 = .ok (.iconst (-1), 1) := by decide +kernel
theorem dX10_fits_20 : decode cX10_fits 20 = .ok (.if_icmp .ne 7, 3) := by decide +kernel
theorem dX10_fits_23 : decode cX10_fits 23 = .ok (.iconst 0, 1) := by decide +kernel
theorem dX10_fits_24 : decode cX10_fits 24 = .ok (.goto 10, 3) := by decide +kernel
theorem dX10_fits_27 : decode cX10_fits 27 = .ok (.aload_n 0, 1) := by decide +kernel
theorem dX10_fits_28 : decode cX10_fits 28 = .ok (.getfield 111, 3) := by decide +kernel
theorem dX10_fits_31 : decode cX10_fits 31 = .ok (.iload 4, 2) := by decide +kernel
theorem dX10_fits_33 : decode cX10_fits 33 = .ok (.iaload, 1) := by decide +kernel
theorem dX10_fits_34 : decode cX10_fits 34 = .ok (.istore 6, 2) := by decide +kernel
theorem dX10_fits_36 : decode cX10_fits 36 = .ok (.aload_n 1, 1) := by decide +kernel
theorem dX10_fits_37 : decode cX10_fits 37 = .ok (.iconst 1, 1) := by decide +kernel
theorem dX10_fits_38 : decode cX10_fits 38 = .ok (.iload_n 2, 1) := by decide +kernel
theorem dX10_fits_39 : decode cX10_fits 39 = .ok (.iadd, 1) := by decide +kernel
theorem dX10_fits_40 : decode cX10_fits 40 = .ok (.iaload, 1) := by decide +kernel
theorem dX10_fits_41 : decode cX10_fits 41 = .ok (.iconst 1, 1) := by decide +kernel
theorem dX10_fits_42 : decode cX10_fits 42 = .ok (.iload_n 2, 1) := by decide +kernel
theorem dX10_fits_43 : decode cX10_fits 43 = .ok (.ishl, 1) := by decide +kernel
theorem dX10_fits_44 : decode cX10_fits 44 = .ok (.iconst 1, 1) := by decide +kernel
theorem dX10_fits_45 : decode cX10_fits 45 = .ok (.isub, 1) := by decide +kernel
theorem dX10_fits_46 : decode cX10_fits 46 = .ok (.iand, 1) := by decide +kernel
theorem dX10_fits_47 : decode cX10_fits 47 = .ok (.istore 7, 2) := by decide +kernel
theorem dX10_fits_49 : decode cX10_fits 49 = .ok (.iload 5, 2) := by decide +kernel
theorem dX10_fits_51 : decode cX10_fits 51 = .ok (.iload 6, 2) := by decide +kernel
theorem dX10_fits_53 : decode cX10_fits 53 = .ok (.iand, 1) := by decide +kernel
theorem dX10_fits_54 : decode cX10_fits 54 = .ok (.ifCond .ne 17, 3) := by decide +kernel
theorem dX10_fits_57 : decode cX10_fits 57 = .ok (.iload 5, 2) := by decide +kernel
theorem dX10_fits_59 : decode cX10_fits 59 = .ok (.iload 6, 2) := by decide +kernel
theorem dX10_fits_61 : decode cX10_fits 61 = .ok (.ior, 1) := by decide +kernel
theorem dX10_fits_62 : decode cX10_fits 62 = .ok (.iload 7, 2) := by decide +kernel
theorem dX10_fits_64 : decode cX10_fits 64 = .ok (.if_icmp .ne 7, 3) := by decide +kernel
theorem dX10_fits_67 : decode cX10_fits 67 = .ok (.iconst 1, 1) := by decide +kernel
theorem dX10_fits_68 : decode cX10_fits 68 = .ok (.goto 4, 3) := by decide +kernel
theorem dX10_fits_71 : decode cX10_fits 71 = .ok (.iconst 0, 1) := by decide +kernel
theorem dX10_fits_72 : decode cX10_fits 72 = .ok (.ireturn, 1) := by decide +kernel
theorem dX10_gives_0 : decode cX10_gives 0 = .ok (.aload_n 0, 1) := by decide +kernel
theorem dX10_gives_1 : decode cX10_gives 1 = .ok (.getfield 108, 3) := by decide +kernel
theorem dX10_gives_4 : decode cX10_gives 4 = .ok (.iconst 2, 1) := by decide +kernel
theorem dX10_gives_5 : decode cX10_gives 5 = .ok (.iload_n 2, 1) := by decide +kernel
theorem dX10_gives_6 : decode cX10_gives 6 = .ok (.imul, 1) := by decide +kernel
theorem dX10_gives_7 : decode cX10_gives 7 = .ok (.iload_n 3, 1) := by decide +kernel
theorem dX10_gives_8 : decode cX10_gives 8 = .ok (.iconst (-1), 1) := by decide +kernel
theorem dX10_gives_9 : decode cX10_gives 9 = .ok (.if_icmp .ne 9, 3) := by decide +kernel
theorem dX10_gives_12 : decode cX10_gives 12 = .ok (.iconst 2, 1) := by decide +kernel
theorem dX10_gives_13 : decode cX10_gives 13 = .ok (.iload_n 2, 1) := by decide +kernel
theorem dX10_gives_14 : decode cX10_gives 14 = .ok (.imul, 1) := by decide +kernel
theorem dX10_gives_15 : decode cX10_gives 15 = .ok (.goto 4, 3) := by decide +kernel
theorem dX10_gives_18 : decode cX10_gives 18 = .ok (.iload_n 3, 1) := by decide +kernel
theorem dX10_gives_19 : decode cX10_gives 19 = .ok (.iastore, 1) := by decide +kernel
theorem dX10_gives_20 : decode cX10_gives 20 = .ok (.aload_n 0, 1) := by decide +kernel
theorem dX10_gives_21 : decode cX10_gives 21 = .ok (.getfield 108, 3) := by decide +kernel
theorem dX10_gives_24 : decode cX10_gives 24 = .ok (.iconst 2, 1) := by decide +kernel
theorem dX10_gives_25 : decode cX10_gives 25 = .ok (.iload_n 2, 1) := by decide +kernel
theorem dX10_gives_26 : decode cX10_gives 26 = .ok (.imul, 1) := by decide +kernel
theorem dX10_gives_27 : decode cX10_gives 27 = .ok (.iconst 1, 1) := by decide +kernel
theorem dX10_gives_28 : decode cX10_gives 28 = .ok (.iadd, 1) := by decide +kernel
theorem dX10_gives_29 : decode cX10_gives 29 = .ok (.iload 4, 2) := by decide +kernel
theorem dX10_gives_31 : decode cX10_gives 31 = .ok (.iconst (-1), 1) := by decide +kernel
theorem dX10_gives_32 : decode cX10_gives 32 = .ok (.if_icmp .ne 22, 3) := by decide +kernel
theorem dX10_gives_35 : decode cX10_gives 35 = .ok (.iload_n 3, 1) := by decide +kernel
theorem dX10_gives_36 : decode cX10_gives 36 = .ok (.iconst (-1), 1) := by decide +kernel
theorem dX10_gives_37 : decode cX10_gives 37 = .ok (.if_icmp .ne 11, 3) := by decide +kernel
theorem dX10_gives_40 : decode cX10_gives 40 = .ok (.iconst 2, 1) := by decide +kernel
theorem dX10_gives_41 : decode cX10_gives 41 = .ok (.iload_n 2, 1) := by decide +kernel
theorem dX10_gives_42 : decode cX10_gives 42 = .ok (.imul, 1) := by decide +kernel
theorem dX10_gives_43 : decode cX10_gives 43 = .ok (.iconst 1, 1) := by decide +kernel
theorem dX10_gives_44 : decode cX10_gives 44 = .ok (.iadd, 1) := by decide +kernel
theorem dX10_gives_45 : decode cX10_gives 45 = .ok (.goto 11, 3) := by decide +kernel
theorem dX10_gives_48 : decode cX10_gives 48 = .ok (.iconst 2, 1) := by decide +kernel
theorem dX10_gives_49 : decode cX10_gives 49 = .ok (.iload_n 2, 1) := by decide +kernel
theorem dX10_gives_50 : decode cX10_gives 50 = .ok (.imul, 1) := by decide +kernel
theorem dX10_gives_51 : decode cX10_gives 51 = .ok (.goto 5, 3) := by decide +kernel
theorem dX10_gives_54 : decode cX10_gives 54 = .ok (.iload 4, 2) := by decide +kernel
theorem dX10_gives_56 : decode cX10_gives 56 = .ok (.iastore, 1) := by decide +kernel
theorem dX10_gives_57 : decode cX10_gives 57 = .ok (.aload_n 0, 1) := by decide +kernel
theorem dX10_gives_58 : decode cX10_gives 58 = .ok (.getfield 111, 3) := by decide +kernel
theorem dX10_gives_61 : decode cX10_gives 61 = .ok (.aload_n 0, 1) := by decide +kernel
theorem dX10_gives_62 : decode cX10_gives 62 = .ok (.getfield 108, 3) := by decide +kernel
theorem dX10_gives_65 : decode cX10_gives 65 = .ok (.iconst 2, 1) := by decide +kernel
theorem dX10_gives_66 : decode cX10_gives 66 = .ok (.iload_n 2, 1) := by decide +kernel
theorem dX10_gives_67 : decode cX10_gives 67 = .ok (.imul, 1) := by decide +kernel
theorem dX10_gives_68 : decode cX10_gives 68 = .ok (.iaload, 1) := by decide +kernel
theorem dX10_gives_69 : decode cX10_gives 69 = .ok (.dup2, 1) := by decide +kernel
theorem dX10_gives_70 : decode cX10_gives 70 = .ok (.iaload, 1) := by decide +kernel
theorem dX10_gives_71 : decode cX10_gives 71 = .ok (.iconst 1, 1) := by decide +kernel
theorem dX10_gives_72 : decode cX10_gives 72 = .ok (.iload_n 2, 1) := by decide +kernel
theorem dX10_gives_73 : decode cX10_gives 73 = .ok (.ishl, 1) := by decide +kernel
theorem dX10_gives_74 : decode cX10_gives 74 = .ok (.ior, 1) := by decide +kernel
theorem dX10_gives_75 : decode cX10_gives 75 = .ok (.iastore, 1) := by decide +kernel
theorem dX10_gives_76 : decode cX10_gives 76 = .ok (.aload_n 0, 1) := by decide +kernel
theorem dX10_gives_77 : decode cX10_gives 77 = .ok (.getfield 111, 3) := by decide +kernel
theorem dX10_gives_80 : decode cX10_gives 80 = .ok (.aload_n 0, 1) := by decide +kernel
theorem dX10_gives_81 : decode cX10_gives 81 = .ok (.getfield 108, 3) := by decide +kernel
theorem dX10_gives_84 : decode cX10_gives 84 = .ok (.iconst 2, 1) := by decide +kernel
theorem dX10_gives_85 : decode cX10_gives 85 = .ok (.iload_n 2, 1) := by decide +kernel
theorem dX10_gives_86 : decode cX10_gives 86 = .ok (.imul, 1) := by decide +kernel
theorem dX10_gives_87 : decode cX10_gives 87 = .ok (.iconst 1, 1) := by decide +kernel
theorem dX10_gives_88 : decode cX10_gives 88 = .ok (.iadd, 1) := by decide +kernel
theorem dX10_gives_89 : decode cX10_gives 89 = .ok (.iaload, 1) := by decide +kernel
theorem dX10_gives_90 : decode cX10_gives 90 = .ok (.dup2, 1) := by decide +kernel
theorem dX10_gives_91 : decode cX10_gives 91 = .ok (.iaload, 1) := by decide +kernel
theorem dX10_gives_92 : decode cX10_gives 92 = .ok (.iconst 1, 1) := by decide +kernel
theorem dX10_gives_93 : decode cX10_gives 93 = .ok (.iload_n 2, 1) := by decide +kernel
theorem dX10_gives_94 : decode cX10_gives 94 = .ok (.ishl, 1) := by decide +kernel
theorem dX10_gives_95 : decode cX10_gives 95 = .ok (.ior, 1) := by decide +kernel
theorem dX10_gives_96 : decode cX10_gives 96 = .ok (.iastore, 1) := by decide +kernel
theorem dX10_gives_97 : decode cX10_gives 97 = .ok (.aload_n 0, 1) := by decide +kernel
theorem dX10_gives_98 : decode cX10_gives 98 = .ok (.aload_n 1, 1) := by decide +kernel
theorem dX10_gives_99 : decode cX10_gives 99 = .ok (.iload_n 2, 1) := by decide +kernel
theorem dX10_gives_100 : decode cX10_gives 100 = .ok (.iconst 1, 1) := by decide +kernel
theorem dX10_gives_101 : decode cX10_gives 101 = .ok (.iadd, 1) := by decide +kernel
theorem dX10_gives_102 : decode cX10_gives 102 = .ok (.invokevirtual 189, 3) := by decide +kernel
theorem dX10_gives_105 : decode cX10_gives 105 = .ok (.aload_n 0, 1) := by decide +kernel
theorem dX10_gives_106 : decode cX10_gives 106 = .ok (.getfield 111, 3) := by decide +kernel
theorem dX10_gives_109 : decode cX10_gives 109 = .ok (.aload_n 0, 1) := by decide +kernel
theorem dX10_gives_110 : decode cX10_gives 110 = .ok (.getfield 108, 3) := by decide +kernel
theorem dX10_gives_113 : decode cX10_gives 113 = .ok (.iconst 2, 1) := by decide +kernel
theorem dX10_gives_114 : decode cX10_gives 114 = .ok (.iload_n 2, 1) := by decide +kernel
theorem dX10_gives_115 : decode cX10_gives 115 = .ok (.imul, 1) := by decide +kernel
theorem dX10_gives_116 : decode cX10_gives 116 = .ok (.iaload, 1) := by decide +kernel
theorem dX10_gives_117 : decode cX10_gives 117 = .ok (.dup2, 1) := by decide +kernel
theorem dX10_gives_118 : decode cX10_gives 118 = .ok (.iaload, 1) := by decide +kernel
theorem dX10_gives_119 : decode cX10_gives 119 = .ok (.iconst 1, 1) := by decide +kernel
theorem dX10_gives_120 : decode cX10_gives 120 = .ok (.iload_n 2, 1) := by decide +kernel
theorem dX10_gives_121 : decode cX10_gives 121 = .ok (.ishl, 1) := by decide +kernel
theorem dX10_gives_122 : decode cX10_gives 122 = .ok (.iconst (-1), 1) := by decide +kernel
theorem dX10_gives_123 : decode cX10_gives 123 = .ok (.ixor, 1) := by decide +kernel
theorem dX10_gives_124 : decode cX10_gives 124 = .ok (.iand, 1) := by decide +kernel
theorem dX10_gives_125 : decode cX10_gives 125 = .ok (.iastore, 1) := by decide +kernel
theorem dX10_gives_126 : decode cX10_gives 126 = .ok (.aload_n 0, 1) := by decide +kernel
theorem dX10_gives_127 : decode cX10_gives 127 = .ok (.getfield 111, 3) := by decide +kernel
theorem dX10_gives_130 : decode cX10_gives 130 = .ok (.aload_n 0, 1) := by decide +kernel
theorem dX10_gives_131 : decode cX10_gives 131 = .ok (.getfield 108, 3) := by decide +kernel
theorem dX10_gives_134 : decode cX10_gives 134 = .ok (.iconst 2, 1) := by decide +kernel
theorem dX10_gives_135 : decode cX10_gives 135 = .ok (.iload_n 2, 1) := by decide +kernel
theorem dX10_gives_136 : decode cX10_gives 136 = .ok (.imul, 1) := by decide +kernel
theorem dX10_gives_137 : decode cX10_gives 137 = .ok (.iconst 1, 1) := by decide +kernel
theorem dX10_gives_138 : decode cX10_gives 138 = .ok (.iadd, 1) := by decide +kernel
theorem dX10_gives_139 : decode cX10_gives 139 = .ok (.iaload, 1) := by decide +kernel
theorem dX10_gives_140 : decode cX10_gives 140 = .ok (.dup2, 1) := by decide +kernel
theorem dX10_gives_141 : decode cX10_gives 141 = .ok (.iaload, 1) := by decide +kernel
theorem dX10_gives_142 : decode cX10_gives 142 = .ok (.iconst 1, 1) := by decide +kernel
theorem dX10_gives_143 : decode cX10_gives 143 = .ok (.iload_n 2, 1) := by decide +kernel
theorem dX10_gives_144 : decode cX10_gives 144 = .ok (.ishl, 1) := by decide +kernel
theorem dX10_gives_145 : decode cX10_gives 145 = .ok (.iconst (-1), 1) := by decide +kernel
theorem dX10_gives_146 : decode cX10_gives 146 = .ok (.ixor, 1) := by decide +kernel
theorem dX10_gives_147 : decode cX10_gives 147 = .ok (.iand, 1) := by decide +kernel
theorem dX10_gives_148 : decode cX10_gives 148 = .ok (.iastore, 1) := by decide +kernel
theorem dX10_gives_149 : decode cX10_gives 149 = .ok (.return_, 1) := by decide +kernel
theorem dX10_goesOn_0 : decode cX10_goesOn 0 = .ok (.iload_n 2, 1) := by decide +kernel
theorem dX10_goesOn_1 : decode cX10_goesOn 1 = .ok (.aload_n 1, 1) := by decide +kernel
theorem dX10_goesOn_2 : decode cX10_goesOn 2 = .ok (.iconst 0, 1) := by decide +kernel
theorem dX10_goesOn_3 : decode cX10_goesOn 3 = .ok (.iaload, 1) := by decide +kernel
theorem dX10_goesOn_4 : decode cX10_goesOn 4 = .ok (.if_icmp .ne 9, 3) := by decide +kernel
theorem dX10_goesOn_7 : decode cX10_goesOn 7 = .ok (.aload_n 0, 1) := by decide +kernel
theorem dX10_goesOn_8 : decode cX10_goesOn 8 = .ok (.aload_n 1, 1) := by decide +kernel
theorem dX10_goesOn_9 : decode cX10_goesOn 9 = .ok (.invokevirtual 193, 3) := by decide +kernel
theorem dX10_goesOn_12 : decode cX10_goesOn 12 = .ok (.return_, 1) := by decide +kernel
theorem dX10_goesOn_13 : decode cX10_goesOn 13 = .ok (.aload_n 0, 1) := by decide +kernel
theorem dX10_goesOn_14 : decode cX10_goesOn 14 = .ok (.aload_n 1, 1) := by decide +kernel
theorem dX10_goesOn_15 : decode cX10_goesOn 15 = .ok (.iload_n 2, 1) := by decide +kernel
theorem dX10_goesOn_16 : decode cX10_goesOn 16 = .ok (.iconst (-1), 1) := by decide +kernel
theorem dX10_goesOn_17 : decode cX10_goesOn 17 = .ok (.iconst (-1), 1) := by decide +kernel
theorem dX10_goesOn_18 : decode cX10_goesOn 18 = .ok (.invokevirtual 197, 3) := by decide +kernel
theorem dX10_goesOn_21 : decode cX10_goesOn 21 = .ok (.ifCond .eq 11, 3) := by decide +kernel
theorem dX10_goesOn_24 : decode cX10_goesOn 24 = .ok (.aload_n 0, 1) := by decide +kernel
theorem dX10_goesOn_25 : decode cX10_goesOn 25 = .ok (.aload_n 1, 1) := by decide +kernel
theorem dX10_goesOn_26 : decode cX10_goesOn 26 = .ok (.iload_n 2, 1) := by decide +kernel
theorem dX10_goesOn_27 : decode cX10_goesOn 27 = .ok (.iconst (-1), 1) := by decide +kernel
theorem dX10_goesOn_28 : decode cX10_goesOn 28 = .ok (.iconst (-1), 1) := by decide +kernel
theorem dX10_goesOn_29 : decode cX10_goesOn 29 = .ok (.invokevirtual 201, 3) := by decide +kernel
theorem dX10_goesOn_32 : decode cX10_goesOn 32 = .ok (.iconst 0, 1) := by decide +kernel
theorem dX10_goesOn_33 : decode cX10_goesOn 33 = .ok (.istore_n 3, 1) := by decide +kernel
theorem dX10_goesOn_34 : decode cX10_goesOn 34 = .ok (.iload_n 3, 1) := by decide +kernel
theorem dX10_goesOn_35 : decode cX10_goesOn 35 = .ok (.iconst 2, 1) := by decide +kernel
theorem dX10_goesOn_36 : decode cX10_goesOn 36 = .ok (.iload_n 2, 1) := by decide +kernel
theorem dX10_goesOn_37 : decode cX10_goesOn 37 = .ok (.imul, 1) := by decide +kernel
theorem dX10_goesOn_38 : decode cX10_goesOn 38 = .ok (.if_icmp .ge 107, 3) := by decide +kernel
theorem dX10_goesOn_41 : decode cX10_goesOn 41 = .ok (.aload_n 0, 1) := by decide +kernel
theorem dX10_goesOn_42 : decode cX10_goesOn 42 = .ok (.getfield 111, 3) := by decide +kernel
theorem dX10_goesOn_45 : decode cX10_goesOn 45 = .ok (.iload_n 3, 1) := by decide +kernel
theorem dX10_goesOn_46 : decode cX10_goesOn 46 = .ok (.iaload, 1) := by decide +kernel
theorem dX10_goesOn_47 : decode cX10_goesOn 47 = .ok (.ifCond .eq 92, 3) := by decide +kernel
theorem dX10_goesOn_50 : decode cX10_goesOn 50 = .ok (.aload_n 0, 1) := by decide +kernel
theorem dX10_goesOn_51 : decode cX10_goesOn 51 = .ok (.iload_n 3, 1) := by decide +kernel
theorem dX10_goesOn_52 : decode cX10_goesOn 52 = .ok (.invokevirtual 205, 3) := by decide +kernel
theorem dX10_goesOn_55 : decode cX10_goesOn 55 = .ok (.ifCond .ne 6, 3) := by decide +kernel
theorem dX10_goesOn_58 : decode cX10_goesOn 58 = .ok (.goto 81, 3) := by decide +kernel
theorem dX10_goesOn_61 : decode cX10_goesOn 61 = .ok (.aload_n 0, 1) := by decide +kernel
theorem dX10_goesOn_62 : decode cX10_goesOn 62 = .ok (.aload_n 1, 1) := by decide +kernel
theorem dX10_goesOn_63 : decode cX10_goesOn 63 = .ok (.iload_n 2, 1) := by decide +kernel
theorem dX10_goesOn_64 : decode cX10_goesOn 64 = .ok (.iload_n 3, 1) := by decide +kernel
theorem dX10_goesOn_65 : decode cX10_goesOn 65 = .ok (.iconst (-1), 1) := by decide +kernel
theorem dX10_goesOn_66 : decode cX10_goesOn 66 = .ok (.invokevirtual 197, 3) := by decide +kernel
theorem dX10_goesOn_69 : decode cX10_goesOn 69 = .ok (.ifCond .eq 11, 3) := by decide +kernel
theorem dX10_goesOn_72 : decode cX10_goesOn 72 = .ok (.aload_n 0, 1) := by decide +kernel
theorem dX10_goesOn_73 : decode cX10_goesOn 73 = .ok (.aload_n 1, 1) := by decide +kernel
theorem dX10_goesOn_74 : decode cX10_goesOn 74 = .ok (.iload_n 2, 1) := by decide +kernel
theorem dX10_goesOn_75 : decode cX10_goesOn 75 = .ok (.iload_n 3, 1) := by decide +kernel
theorem dX10_goesOn_76 : decode cX10_goesOn 76 = .ok (.iconst (-1), 1) := by decide +kernel
theorem dX10_goesOn_77 : decode cX10_goesOn 77 = .ok (.invokevirtual 201, 3) := by decide +kernel
theorem dX10_goesOn_80 : decode cX10_goesOn 80 = .ok (.iload_n 3, 1) := by decide +kernel
theorem dX10_goesOn_81 : decode cX10_goesOn 81 = .ok (.iconst 1, 1) := by decide +kernel
theorem dX10_goesOn_82 : decode cX10_goesOn 82 = .ok (.iadd, 1) := by decide +kernel
theorem dX10_goesOn_83 : decode cX10_goesOn 83 = .ok (.istore 4, 2) := by decide +kernel
theorem dX10_goesOn_85 : decode cX10_goesOn 85 = .ok (.iload 4, 2) := by decide +kernel
theorem dX10_goesOn_87 : decode cX10_goesOn 87 = .ok (.iconst 2, 1) := by decide +kernel
theorem dX10_goesOn_88 : decode cX10_goesOn 88 = .ok (.iload_n 2, 1) := by decide +kernel
theorem dX10_goesOn_89 : decode cX10_goesOn 89 = .ok (.imul, 1) := by decide +kernel
theorem dX10_goesOn_90 : decode cX10_goesOn 90 = .ok (.if_icmp .ge 49, 3) := by decide +kernel
theorem dX10_goesOn_93 : decode cX10_goesOn 93 = .ok (.aload_n 0, 1) := by decide +kernel
theorem dX10_goesOn_94 : decode cX10_goesOn 94 = .ok (.getfield 111, 3) := by decide +kernel
theorem dX10_goesOn_97 : decode cX10_goesOn 97 = .ok (.iload 4, 2) := by decide +kernel
theorem dX10_goesOn_99 : decode cX10_goesOn 99 = .ok (.iaload, 1) := by decide +kernel
theorem dX10_goesOn_100 : decode cX10_goesOn 100 = .ok (.ifCond .eq 33, 3) := by decide +kernel
theorem dX10_goesOn_103 : decode cX10_goesOn 103 = .ok (.aload_n 0, 1) := by decide +kernel
theorem dX10_goesOn_104 : decode cX10_goesOn 104 = .ok (.iload 4, 2) := by decide +kernel
theorem dX10_goesOn_106 : decode cX10_goesOn 106 = .ok (.invokevirtual 205, 3) := by decide +kernel
theorem dX10_goesOn_109 : decode cX10_goesOn 109 = .ok (.ifCond .eq 24, 3) := by decide +kernel
theorem dX10_goesOn_112 : decode cX10_goesOn 112 = .ok (.aload_n 0, 1) := by decide +kernel
theorem dX10_goesOn_113 : decode cX10_goesOn 113 = .ok (.aload_n 1, 1) := by decide +kernel
theorem dX10_goesOn_114 : decode cX10_goesOn 114 = .ok (.iload_n 2, 1) := by decide +kernel
theorem dX10_goesOn_115 : decode cX10_goesOn 115 = .ok (.iload_n 3, 1) := by decide +kernel
theorem dX10_goesOn_116 : decode cX10_goesOn 116 = .ok (.iload 4, 2) := by decide +kernel
theorem dX10_goesOn_118 : decode cX10_goesOn 118 = .ok (.invokevirtual 197, 3) := by decide +kernel
theorem dX10_goesOn_121 : decode cX10_goesOn 121 = .ok (.ifCond .eq 12, 3) := by decide +kernel
theorem dX10_goesOn_124 : decode cX10_goesOn 124 = .ok (.aload_n 0, 1) := by decide +kernel
theorem dX10_goesOn_125 : decode cX10_goesOn 125 = .ok (.aload_n 1, 1) := by decide +kernel
theorem dX10_goesOn_126 : decode cX10_goesOn 126 = .ok (.iload_n 2, 1) := by decide +kernel
theorem dX10_goesOn_127 : decode cX10_goesOn 127 = .ok (.iload_n 3, 1) := by decide +kernel
theorem dX10_goesOn_128 : decode cX10_goesOn 128 = .ok (.iload 4, 2) := by decide +kernel
theorem dX10_goesOn_130 : decode cX10_goesOn 130 = .ok (.invokevirtual 201, 3) := by decide +kernel
theorem dX10_goesOn_133 : decode cX10_goesOn 133 = .ok (.iinc 4 1, 3) := by decide +kernel
theorem dX10_goesOn_136 : decode cX10_goesOn 136 = .ok (.goto (-51), 3) := by decide +kernel
theorem dX10_goesOn_139 : decode cX10_goesOn 139 = .ok (.iinc 3 1, 3) := by decide +kernel
theorem dX10_goesOn_142 : decode cX10_goesOn 142 = .ok (.goto (-108), 3) := by decide +kernel
theorem dX10_goesOn_145 : decode cX10_goesOn 145 = .ok (.return_, 1) := by decide +kernel
theorem dX10_isFree_0 : decode cX10_isFree 0 = .ok (.iload_n 1, 1) := by decide +kernel
theorem dX10_isFree_1 : decode cX10_isFree 1 = .ok (.iconst 2, 1) := by decide +kernel
theorem dX10_isFree_2 : decode cX10_isFree 2 = .ok (.irem, 1) := by decide +kernel
theorem dX10_isFree_3 : decode cX10_isFree 3 = .ok (.ifCond .eq 20, 3) := by decide +kernel
theorem dX10_isFree_6 : decode cX10_isFree 6 = .ok (.aload_n 0, 1) := by decide +kernel
theorem dX10_isFree_7 : decode cX10_isFree 7 = .ok (.getfield 111, 3) := by decide +kernel
theorem dX10_isFree_10 : decode cX10_isFree 10 = .ok (.iload_n 1, 1) := by decide +kernel
theorem dX10_isFree_11 : decode cX10_isFree 11 = .ok (.iconst 1, 1) := by decide +kernel
theorem dX10_isFree_12 : decode cX10_isFree 12 = .ok (.isub, 1) := by decide +kernel
theorem dX10_isFree_13 : decode cX10_isFree 13 = .ok (.iaload, 1) := by decide +kernel
theorem dX10_isFree_14 : decode cX10_isFree 14 = .ok (.aload_n 0, 1) := by decide +kernel
theorem dX10_isFree_15 : decode cX10_isFree 15 = .ok (.getfield 111, 3) := by decide +kernel
theorem dX10_isFree_18 : decode cX10_isFree 18 = .ok (.iload_n 1, 1) := by decide +kernel
theorem dX10_isFree_19 : decode cX10_isFree 19 = .ok (.iaload, 1) := by decide +kernel
theorem dX10_isFree_20 : decode cX10_isFree 20 = .ok (.if_icmp .eq 7, 3) := by decide +kernel
theorem dX10_isFree_23 : decode cX10_isFree 23 = .ok (.iconst 1, 1) := by decide +kernel
theorem dX10_isFree_24 : decode cX10_isFree 24 = .ok (.goto 4, 3) := by decide +kernel
theorem dX10_isFree_27 : decode cX10_isFree 27 = .ok (.iconst 0, 1) := by decide +kernel
theorem dX10_isFree_28 : decode cX10_isFree 28 = .ok (.ireturn, 1) := by decide +kernel
theorem dX10_endBoth_0 : decode cX10_endBoth 0 = .ok (.iconst 0, 1) := by decide +kernel
theorem dX10_endBoth_1 : decode cX10_endBoth 1 = .ok (.istore_n 3, 1) := by decide +kernel
theorem dX10_endBoth_2 : decode cX10_endBoth 2 = .ok (.iload_n 3, 1) := by decide +kernel
theorem dX10_endBoth_3 : decode cX10_endBoth 3 = .ok (.iconst 2, 1) := by decide +kernel
theorem dX10_endBoth_4 : decode cX10_endBoth 4 = .ok (.if_icmp .ge 64, 3) := by decide +kernel
theorem dX10_endBoth_7 : decode cX10_endBoth 7 = .ok (.aload_n 0, 1) := by decide +kernel
theorem dX10_endBoth_8 : decode cX10_endBoth 8 = .ok (.getfield 108, 3) := by decide +kernel
theorem dX10_endBoth_11 : decode cX10_endBoth 11 = .ok (.iconst 2, 1) := by decide +kernel
theorem dX10_endBoth_12 : decode cX10_endBoth 12 = .ok (.iload_n 1, 1) := by decide +kernel
theorem dX10_endBoth_13 : decode cX10_endBoth 13 = .ok (.imul, 1) := by decide +kernel
theorem dX10_endBoth_14 : decode cX10_endBoth 14 = .ok (.iload_n 3, 1) := by decide +kernel
theorem dX10_endBoth_15 : decode cX10_endBoth 15 = .ok (.iadd, 1) := by decide +kernel
theorem dX10_endBoth_16 : decode cX10_endBoth 16 = .ok (.iaload, 1) := by decide +kernel
theorem dX10_endBoth_17 : decode cX10_endBoth 17 = .ok (.aload_n 0, 1) := by decide +kernel
theorem dX10_endBoth_18 : decode cX10_endBoth 18 = .ok (.getfield 108, 3) := by decide +kernel
theorem dX10_endBoth_21 : decode cX10_endBoth 21 = .ok (.iconst 2, 1) := by decide +kernel
theorem dX10_endBoth_22 : decode cX10_endBoth 22 = .ok (.iload_n 2, 1) := by decide +kernel
theorem dX10_endBoth_23 : decode cX10_endBoth 23 = .ok (.imul, 1) := by decide +kernel
theorem dX10_endBoth_24 : decode cX10_endBoth 24 = .ok (.iaload, 1) := by decide +kernel
theorem dX10_endBoth_25 : decode cX10_endBoth 25 = .ok (.if_icmp .eq 26, 3) := by decide +kernel
theorem dX10_endBoth_28 : decode cX10_endBoth 28 = .ok (.aload_n 0, 1) := by decide +kernel
theorem dX10_endBoth_29 : decode cX10_endBoth 29 = .ok (.getfield 108, 3) := by decide +kernel
theorem dX10_endBoth_32 : decode cX10_endBoth 32 = .ok (.iconst 2, 1) := by decide +kernel
theorem dX10_endBoth_33 : decode cX10_endBoth 33 = .ok (.iload_n 1, 1) := by decide +kernel
theorem dX10_endBoth_34 : decode cX10_endBoth 34 = .ok (.imul, 1) := by decide +kernel
theorem dX10_endBoth_35 : decode cX10_endBoth 35 = .ok (.iload_n 3, 1) := by decide +kernel
theorem dX10_endBoth_36 : decode cX10_endBoth 36 = .ok (.iadd, 1) := by decide +kernel
theorem dX10_endBoth_37 : decode cX10_endBoth 37 = .ok (.iaload, 1) := by decide +kernel
theorem dX10_endBoth_38 : decode cX10_endBoth 38 = .ok (.aload_n 0, 1) := by decide +kernel
theorem dX10_endBoth_39 : decode cX10_endBoth 39 = .ok (.getfield 108, 3) := by decide +kernel
theorem dX10_endBoth_42 : decode cX10_endBoth 42 = .ok (.iconst 2, 1) := by decide +kernel
theorem dX10_endBoth_43 : decode cX10_endBoth 43 = .ok (.iload_n 2, 1) := by decide +kernel
theorem dX10_endBoth_44 : decode cX10_endBoth 44 = .ok (.imul, 1) := by decide +kernel
theorem dX10_endBoth_45 : decode cX10_endBoth 45 = .ok (.iconst 1, 1) := by decide +kernel
theorem dX10_endBoth_46 : decode cX10_endBoth 46 = .ok (.iadd, 1) := by decide +kernel
theorem dX10_endBoth_47 : decode cX10_endBoth 47 = .ok (.iaload, 1) := by decide +kernel
theorem dX10_endBoth_48 : decode cX10_endBoth 48 = .ok (.if_icmp .ne 14, 3) := by decide +kernel
theorem dX10_endBoth_51 : decode cX10_endBoth 51 = .ok (.aload_n 0, 1) := by decide +kernel
theorem dX10_endBoth_52 : decode cX10_endBoth 52 = .ok (.getfield 108, 3) := by decide +kernel
theorem dX10_endBoth_55 : decode cX10_endBoth 55 = .ok (.iconst 2, 1) := by decide +kernel
theorem dX10_endBoth_56 : decode cX10_endBoth 56 = .ok (.iload_n 1, 1) := by decide +kernel
theorem dX10_endBoth_57 : decode cX10_endBoth 57 = .ok (.imul, 1) := by decide +kernel
theorem dX10_endBoth_58 : decode cX10_endBoth 58 = .ok (.iload_n 3, 1) := by decide +kernel
theorem dX10_endBoth_59 : decode cX10_endBoth 59 = .ok (.iadd, 1) := by decide +kernel
theorem dX10_endBoth_60 : decode cX10_endBoth 60 = .ok (.iaload, 1) := by decide +kernel
theorem dX10_endBoth_61 : decode cX10_endBoth 61 = .ok (.ireturn, 1) := by decide +kernel
theorem dX10_endBoth_62 : decode cX10_endBoth 62 = .ok (.iinc 3 1, 3) := by decide +kernel
theorem dX10_endBoth_65 : decode cX10_endBoth 65 = .ok (.goto (-63), 3) := by decide +kernel
theorem dX10_endBoth_68 : decode cX10_endBoth 68 = .ok (.iconst (-1), 1) := by decide +kernel
theorem dX10_endBoth_69 : decode cX10_endBoth 69 = .ok (.ireturn, 1) := by decide +kernel
theorem dX10_ends_0 : decode cX10_ends 0 = .ok (.aload_n 0, 1) := by decide +kernel
theorem dX10_ends_1 : decode cX10_ends 1 = .ok (.dup, 1) := by decide +kernel
theorem dX10_ends_2 : decode cX10_ends 2 = .ok (.getfield 208, 3) := by decide +kernel
theorem dX10_ends_5 : decode cX10_ends 5 = .ok (.iconst 1, 1) := by decide +kernel
theorem dX10_ends_6 : decode cX10_ends 6 = .ok (.iadd, 1) := by decide +kernel
theorem dX10_ends_7 : decode cX10_ends 7 = .ok (.putfield 208, 3) := by decide +kernel
theorem dX10_ends_10 : decode cX10_ends 10 = .ok (.aload_n 0, 1) := by decide +kernel
theorem dX10_ends_11 : decode cX10_ends 11 = .ok (.iconst 0, 1) := by decide +kernel
theorem dX10_ends_12 : decode cX10_ends 12 = .ok (.putfield 211, 3) := by decide +kernel
theorem dX10_ends_15 : decode cX10_ends 15 = .ok (.iconst 0, 1) := by decide +kernel
theorem dX10_ends_16 : decode cX10_ends 16 = .ok (.istore_n 2, 1) := by decide +kernel
theorem dX10_ends_17 : decode cX10_ends 17 = .ok (.iconst 0, 1) := by decide +kernel
theorem dX10_ends_18 : decode cX10_ends 18 = .ok (.istore_n 3, 1) := by decide +kernel
theorem dX10_ends_19 : decode cX10_ends 19 = .ok (.iload_n 3, 1) := by decide +kernel
theorem dX10_ends_20 : decode cX10_ends 20 = .ok (.aload_n 1, 1) := by decide +kernel
theorem dX10_ends_21 : decode cX10_ends 21 = .ok (.iconst 0, 1) := by decide +kernel
theorem dX10_ends_22 : decode cX10_ends 22 = .ok (.iaload, 1) := by decide +kernel
theorem dX10_ends_23 : decode cX10_ends 23 = .ok (.if_icmp .ge 98, 3) := by decide +kernel
theorem dX10_ends_26 : decode cX10_ends 26 = .ok (.iload_n 3, 1) := by decide +kernel
theorem dX10_ends_27 : decode cX10_ends 27 = .ok (.iconst 1, 1) := by decide +kernel
theorem dX10_ends_28 : decode cX10_ends 28 = .ok (.iadd, 1) := by decide +kernel
theorem dX10_ends_29 : decode cX10_ends 29 = .ok (.istore 4, 2) := by decide +kernel
theorem dX10_ends_31 : decode cX10_ends 31 = .ok (.iload 4, 2) := by decide +kernel
theorem dX10_ends_33 : decode cX10_ends 33 = .ok (.aload_n 1, 1) := by decide +kernel
theorem dX10_ends_34 : decode cX10_ends 34 = .ok (.iconst 0, 1) := by decide +kernel
theorem dX10_ends_35 : decode cX10_ends 35 = .ok (.iaload, 1) := by decide +kernel
theorem dX10_ends_36 : decode cX10_ends 36 = .ok (.if_icmp .ge 79, 3) := by decide +kernel
theorem dX10_ends_39 : decode cX10_ends 39 = .ok (.aload_n 1, 1) := by decide +kernel
theorem dX10_ends_40 : decode cX10_ends 40 = .ok (.iload_n 3, 1) := by decide +kernel
theorem dX10_ends_41 : decode cX10_ends 41 = .ok (.iload 4, 2) := by decide +kernel
theorem dX10_ends_43 : decode cX10_ends 43 = .ok (.invokestatic 151, 3) := by decide +kernel
theorem dX10_ends_46 : decode cX10_ends 46 = .ok (.ifCond .eq 63, 3) := by decide +kernel
theorem dX10_ends_49 : decode cX10_ends 49 = .ok (.iload_n 2, 1) := by decide +kernel
theorem dX10_ends_50 : decode cX10_ends 50 = .ok (.aload_n 0, 1) := by decide +kernel
theorem dX10_ends_51 : decode cX10_ends 51 = .ok (.iload_n 3, 1) := by decide +kernel
theorem dX10_ends_52 : decode cX10_ends 52 = .ok (.iload 4, 2) := by decide +kernel
theorem dX10_ends_54 : decode cX10_ends 54 = .ok (.invokevirtual 214, 3) := by decide +kernel
theorem dX10_ends_57 : decode cX10_ends 57 = .ok (.invokestatic 7, 3) := by decide +kernel
theorem dX10_ends_60 : decode cX10_ends 60 = .ok (.ifCond .eq 6, 3) := by decide +kernel
theorem dX10_ends_63 : decode cX10_ends 63 = .ok (.goto 46, 3) := by decide +kernel
theorem dX10_ends_66 : decode cX10_ends 66 = .ok (.iload_n 2, 1) := by decide +kernel
theorem dX10_ends_67 : decode cX10_ends 67 = .ok (.iconst 1, 1) := by decide +kernel
theorem dX10_ends_68 : decode cX10_ends 68 = .ok (.aload_n 0, 1) := by decide +kernel
theorem dX10_ends_69 : decode cX10_ends 69 = .ok (.iload_n 3, 1) := by decide +kernel
theorem dX10_ends_70 : decode cX10_ends 70 = .ok (.iload 4, 2) := by decide +kernel
theorem dX10_ends_72 : decode cX10_ends 72 = .ok (.invokevirtual 214, 3) := by decide +kernel
theorem dX10_ends_75 : decode cX10_ends 75 = .ok (.ishl, 1) := by decide +kernel
theorem dX10_ends_76 : decode cX10_ends 76 = .ok (.ior, 1) := by decide +kernel
theorem dX10_ends_77 : decode cX10_ends 77 = .ok (.istore_n 2, 1) := by decide +kernel
theorem dX10_ends_78 : decode cX10_ends 78 = .ok (.aload_n 0, 1) := by decide +kernel
theorem dX10_ends_79 : decode cX10_ends 79 = .ok (.getfield 114, 3) := by decide +kernel
theorem dX10_ends_82 : decode cX10_ends 82 = .ok (.aload_n 0, 1) := by decide +kernel
theorem dX10_ends_83 : decode cX10_ends 83 = .ok (.getfield 211, 3) := by decide +kernel
theorem dX10_ends_86 : decode cX10_ends 86 = .ok (.aload_n 0, 1) := by decide +kernel
theorem dX10_ends_87 : decode cX10_ends 87 = .ok (.getfield 111, 3) := by decide +kernel
theorem dX10_ends_90 : decode cX10_ends 90 = .ok (.aload_n 0, 1) := by decide +kernel
theorem dX10_ends_91 : decode cX10_ends 91 = .ok (.iload_n 3, 1) := by decide +kernel
theorem dX10_ends_92 : decode cX10_ends 92 = .ok (.iload 4, 2) := by decide +kernel
theorem dX10_ends_94 : decode cX10_ends 94 = .ok (.invokevirtual 214, 3) := by decide +kernel
theorem dX10_ends_97 : decode cX10_ends 97 = .ok (.iaload, 1) := by decide +kernel
theorem dX10_ends_98 : decode cX10_ends 98 = .ok (.iastore, 1) := by decide +kernel
theorem dX10_ends_99 : decode cX10_ends 99 = .ok (.aload_n 0, 1) := by decide +kernel
theorem dX10_ends_100 : decode cX10_ends 100 = .ok (.dup, 1) := by decide +kernel
theorem dX10_ends_101 : decode cX10_ends 101 = .ok (.getfield 211, 3) := by decide +kernel
theorem dX10_ends_104 : decode cX10_ends 104 = .ok (.iconst 1, 1) := by decide +kernel
theorem dX10_ends_105 : decode cX10_ends 105 = .ok (.iadd, 1) := by decide +kernel
theorem dX10_ends_106 : decode cX10_ends 106 = .ok (.putfield 211, 3) := by decide +kernel
theorem dX10_ends_109 : decode cX10_ends 109 = .ok (.iinc 4 1, 3) := by decide +kernel
theorem dX10_ends_112 : decode cX10_ends 112 = .ok (.goto (-81), 3) := by decide +kernel
theorem dX10_ends_115 : decode cX10_ends 115 = .ok (.iinc 3 1, 3) := by decide +kernel
theorem dX10_ends_118 : decode cX10_ends 118 = .ok (.goto (-99), 3) := by decide +kernel
theorem dX10_ends_121 : decode cX10_ends 121 = .ok (.aload_n 0, 1) := by decide +kernel
theorem dX10_ends_122 : decode cX10_ends 122 = .ok (.getfield 208, 3) := by decide +kernel
theorem dX10_ends_125 : decode cX10_ends 125 = .ok (.iconst 1, 1) := by decide +kernel
theorem dX10_ends_126 : decode cX10_ends 126 = .ok (.if_icmp .le 11, 3) := by decide +kernel
theorem dX10_ends_129 : decode cX10_ends 129 = .ok (.aload_n 0, 1) := by decide +kernel
theorem dX10_ends_130 : decode cX10_ends 130 = .ok (.invokevirtual 218, 3) := by decide +kernel
theorem dX10_ends_133 : decode cX10_ends 133 = .ok (.ifCond .ne 4, 3) := by decide +kernel
theorem dX10_ends_136 : decode cX10_ends 136 = .ok (.return_, 1) := by decide +kernel
theorem dX10_ends_137 : decode cX10_ends 137 = .ok (.aload_n 0, 1) := by decide +kernel
theorem dX10_ends_138 : decode cX10_ends 138 = .ok (.aload_n 0, 1) := by decide +kernel
theorem dX10_ends_139 : decode cX10_ends 139 = .ok (.getfield 211, 3) := by decide +kernel
theorem dX10_ends_142 : decode cX10_ends 142 = .ok (.putfield 221, 3) := by decide +kernel
theorem dX10_ends_145 : decode cX10_ends 145 = .ok (.iconst 0, 1) := by decide +kernel
theorem dX10_ends_146 : decode cX10_ends 146 = .ok (.istore_n 3, 1) := by decide +kernel
theorem dX10_ends_147 : decode cX10_ends 147 = .ok (.iload_n 3, 1) := by decide +kernel
theorem dX10_ends_148 : decode cX10_ends 148 = .ok (.aload_n 0, 1) := by decide +kernel
theorem dX10_ends_149 : decode cX10_ends 149 = .ok (.getfield 211, 3) := by decide +kernel
theorem dX10_ends_152 : decode cX10_ends 152 = .ok (.if_icmp .ge 21, 3) := by decide +kernel
theorem dX10_ends_155 : decode cX10_ends 155 = .ok (.aload_n 0, 1) := by decide +kernel
theorem dX10_ends_156 : decode cX10_ends 156 = .ok (.getfield 117, 3) := by decide +kernel
theorem dX10_ends_159 : decode cX10_ends 159 = .ok (.iload_n 3, 1) := by decide +kernel
theorem dX10_ends_160 : decode cX10_ends 160 = .ok (.aload_n 0, 1) := by decide +kernel
theorem dX10_ends_161 : decode cX10_ends 161 = .ok (.getfield 114, 3) := by decide +kernel
theorem dX10_ends_164 : decode cX10_ends 164 = .ok (.iload_n 3, 1) := by decide +kernel
theorem dX10_ends_165 : decode cX10_ends 165 = .ok (.iaload, 1) := by decide +kernel
theorem dX10_ends_166 : decode cX10_ends 166 = .ok (.iastore, 1) := by decide +kernel
theorem dX10_ends_167 : decode cX10_ends 167 = .ok (.iinc 3 1, 3) := by decide +kernel
theorem dX10_ends_170 : decode cX10_ends 170 = .ok (.goto (-23), 3) := by decide +kernel
theorem dX10_ends_173 : decode cX10_ends 173 = .ok (.return_, 1) := by decide +kernel
theorem dX10_isLess_0 : decode cX10_isLess 0 = .ok (.iconst 0, 1) := by decide +kernel
theorem dX10_isLess_1 : decode cX10_isLess 1 = .ok (.istore_n 1, 1) := by decide +kernel
theorem dX10_isLess_2 : decode cX10_isLess 2 = .ok (.iload_n 1, 1) := by decide +kernel
theorem dX10_isLess_3 : decode cX10_isLess 3 = .ok (.aload_n 0, 1) := by decide +kernel
theorem dX10_isLess_4 : decode cX10_isLess 4 = .ok (.getfield 211, 3) := by decide +kernel
theorem dX10_isLess_7 : decode cX10_isLess 7 = .ok (.if_icmp .ge 32, 3) := by decide +kernel
theorem dX10_isLess_10 : decode cX10_isLess 10 = .ok (.iload_n 1, 1) := by decide +kernel
theorem dX10_isLess_11 : decode cX10_isLess 11 = .ok (.aload_n 0, 1) := by decide +kernel
theorem dX10_isLess_12 : decode cX10_isLess 12 = .ok (.getfield 221, 3) := by decide +kernel
theorem dX10_isLess_15 : decode cX10_isLess 15 = .ok (.if_icmp .ge 24, 3) := by decide +kernel
theorem dX10_isLess_18 : decode cX10_isLess 18 = .ok (.aload_n 0, 1) := by decide +kernel
theorem dX10_isLess_19 : decode cX10_isLess 19 = .ok (.getfield 114, 3) := by decide +kernel
theorem dX10_isLess_22 : decode cX10_isLess 22 = .ok (.iload_n 1, 1) := by decide +kernel
theorem dX10_isLess_23 : decode cX10_isLess 23 = .ok (.iaload, 1) := by decide +kernel
theorem dX10_isLess_24 : decode cX10_isLess 24 = .ok (.aload_n 0, 1) := by decide +kernel
theorem dX10_isLess_25 : decode cX10_isLess 25 = .ok (.getfield 117, 3) := by decide +kernel
theorem dX10_isLess_28 : decode cX10_isLess 28 = .ok (.iload_n 1, 1) := by decide +kernel
theorem dX10_isLess_29 : decode cX10_isLess 29 = .ok (.iaload, 1) := by decide +kernel
theorem dX10_isLess_30 : decode cX10_isLess 30 = .ok (.if_icmp .ne 9, 3) := by decide +kernel
theorem dX10_isLess_33 : decode cX10_isLess 33 = .ok (.iinc 1 1, 3) := by decide +kernel
theorem dX10_isLess_36 : decode cX10_isLess 36 = .ok (.goto (-34), 3) := by decide +kernel
theorem dX10_isLess_39 : decode cX10_isLess 39 = .ok (.iload_n 1, 1) := by decide +kernel
theorem dX10_isLess_40 : decode cX10_isLess 40 = .ok (.aload_n 0, 1) := by decide +kernel
theorem dX10_isLess_41 : decode cX10_isLess 41 = .ok (.getfield 211, 3) := by decide +kernel
theorem dX10_isLess_44 : decode cX10_isLess 44 = .ok (.if_icmp .ge 30, 3) := by decide +kernel
theorem dX10_isLess_47 : decode cX10_isLess 47 = .ok (.iload_n 1, 1) := by decide +kernel
theorem dX10_isLess_48 : decode cX10_isLess 48 = .ok (.aload_n 0, 1) := by decide +kernel
theorem dX10_isLess_49 : decode cX10_isLess 49 = .ok (.getfield 221, 3) := by decide +kernel
theorem dX10_isLess_52 : decode cX10_isLess 52 = .ok (.if_icmp .ge 22, 3) := by decide +kernel
theorem dX10_isLess_55 : decode cX10_isLess 55 = .ok (.aload_n 0, 1) := by decide +kernel
theorem dX10_isLess_56 : decode cX10_isLess 56 = .ok (.getfield 114, 3) := by decide +kernel
theorem dX10_isLess_59 : decode cX10_isLess 59 = .ok (.iload_n 1, 1) := by decide +kernel
theorem dX10_isLess_60 : decode cX10_isLess 60 = .ok (.iaload, 1) := by decide +kernel
theorem dX10_isLess_61 : decode cX10_isLess 61 = .ok (.aload_n 0, 1) := by decide +kernel
theorem dX10_isLess_62 : decode cX10_isLess 62 = .ok (.getfield 117, 3) := by decide +kernel
theorem dX10_isLess_65 : decode cX10_isLess 65 = .ok (.iload_n 1, 1) := by decide +kernel
theorem dX10_isLess_66 : decode cX10_isLess 66 = .ok (.iaload, 1) := by decide +kernel
theorem dX10_isLess_67 : decode cX10_isLess 67 = .ok (.if_icmp .ge 7, 3) := by decide +kernel
theorem dX10_isLess_70 : decode cX10_isLess 70 = .ok (.iconst 1, 1) := by decide +kernel
theorem dX10_isLess_71 : decode cX10_isLess 71 = .ok (.goto 4, 3) := by decide +kernel
theorem dX10_isLess_74 : decode cX10_isLess 74 = .ok (.iconst 0, 1) := by decide +kernel
theorem dX10_isLess_75 : decode cX10_isLess 75 = .ok (.ireturn, 1) := by decide +kernel
theorem dX10_laysCovers_0 : decode cX10_laysCovers 0 = .ok (.aload_n 0, 1) := by decide +kernel
theorem dX10_laysCovers_1 : decode cX10_laysCovers 1 = .ok (.iconst 0, 1) := by decide +kernel
theorem dX10_laysCovers_2 : decode cX10_laysCovers 2 = .ok (.putfield 208, 3) := by decide +kernel
theorem dX10_laysCovers_5 : decode cX10_laysCovers 5 = .ok (.aload_n 0, 1) := by decide +kernel
theorem dX10_laysCovers_6 : decode cX10_laysCovers 6 = .ok (.iconst 0, 1) := by decide +kernel
theorem dX10_laysCovers_7 : decode cX10_laysCovers 7 = .ok (.putfield 221, 3) := by decide +kernel
theorem dX10_laysCovers_10 : decode cX10_laysCovers 10 = .ok (.iconst 0, 1) := by decide +kernel
theorem dX10_laysCovers_11 : decode cX10_laysCovers 11 = .ok (.istore_n 2, 1) := by decide +kernel
theorem dX10_laysCovers_12 : decode cX10_laysCovers 12 = .ok (.iload_n 2, 1) := by decide +kernel
theorem dX10_laysCovers_13 : decode cX10_laysCovers 13 = .ok (.bipush 29, 2) := by decide +kernel
theorem dX10_laysCovers_15 : decode cX10_laysCovers 15 = .ok (.if_icmp .ge 16, 3) := by decide +kernel
theorem dX10_laysCovers_18 : decode cX10_laysCovers 18 = .ok (.aload_n 0, 1) := by decide +kernel
theorem dX10_laysCovers_19 : decode cX10_laysCovers 19 = .ok (.getfield 111, 3) := by decide +kernel
theorem dX10_laysCovers_22 : decode cX10_laysCovers 22 = .ok (.iload_n 2, 1) := by decide +kernel
theorem dX10_laysCovers_23 : decode cX10_laysCovers 23 = .ok (.iconst 0, 1) := by decide +kernel
theorem dX10_laysCovers_24 : decode cX10_laysCovers 24 = .ok (.iastore, 1) := by decide +kernel
theorem dX10_laysCovers_25 : decode cX10_laysCovers 25 = .ok (.iinc 2 1, 3) := by decide +kernel
theorem dX10_laysCovers_28 : decode cX10_laysCovers 28 = .ok (.goto (-16), 3) := by decide +kernel
theorem dX10_laysCovers_31 : decode cX10_laysCovers 31 = .ok (.aload_n 0, 1) := by decide +kernel
theorem dX10_laysCovers_32 : decode cX10_laysCovers 32 = .ok (.aload_n 1, 1) := by decide +kernel
theorem dX10_laysCovers_33 : decode cX10_laysCovers 33 = .ok (.iconst 0, 1) := by decide +kernel
theorem dX10_laysCovers_34 : decode cX10_laysCovers 34 = .ok (.invokevirtual 189, 3) := by decide +kernel
theorem dX10_laysCovers_37 : decode cX10_laysCovers 37 = .ok (.aload_n 0, 1) := by decide +kernel
theorem dX10_laysCovers_38 : decode cX10_laysCovers 38 = .ok (.getfield 208, 3) := by decide +kernel
theorem dX10_laysCovers_41 : decode cX10_laysCovers 41 = .ok (.ireturn, 1) := by decide +kernel
theorem dX10_covers_0 : decode cX10_covers 0 = .ok (.aload_n 0, 1) := by decide +kernel
theorem dX10_covers_1 : decode cX10_covers 1 = .ok (.iconst 0, 1) := by decide +kernel
theorem dX10_covers_2 : decode cX10_covers 2 = .ok (.putfield 1, 3) := by decide +kernel
theorem dX10_covers_5 : decode cX10_covers 5 = .ok (.aload_n 0, 1) := by decide +kernel
theorem dX10_covers_6 : decode cX10_covers 6 = .ok (.aload_n 0, 1) := by decide +kernel
theorem dX10_covers_7 : decode cX10_covers 7 = .ok (.getfield 73, 3) := by decide +kernel
theorem dX10_covers_10 : decode cX10_covers 10 = .ok (.invokevirtual 224, 3) := by decide +kernel
theorem dX10_covers_13 : decode cX10_covers 13 = .ok (.istore_n 1, 1) := by decide +kernel
theorem dX10_covers_14 : decode cX10_covers 14 = .ok (.iload_n 1, 1) := by decide +kernel
theorem dX10_covers_15 : decode cX10_covers 15 = .ok (.sipush 999, 3) := by decide +kernel
theorem dX10_covers_18 : decode cX10_covers 18 = .ok (.if_icmp .le 9, 3) := by decide +kernel
theorem dX10_covers_21 : decode cX10_covers 21 = .ok (.sipush 999, 3) := by decide +kernel
theorem dX10_covers_24 : decode cX10_covers 24 = .ok (.goto 4, 3) := by decide +kernel
theorem dX10_covers_27 : decode cX10_covers 27 = .ok (.iload_n 1, 1) := by decide +kernel
theorem dX10_covers_28 : decode cX10_covers 28 = .ok (.ireturn, 1) := by decide +kernel
theorem dX10_cliques_0 : decode cX10_cliques 0 = .ok (.aload_n 0, 1) := by decide +kernel
theorem dX10_cliques_1 : decode cX10_cliques 1 = .ok (.iconst 0, 1) := by decide +kernel
theorem dX10_cliques_2 : decode cX10_cliques 2 = .ok (.putfield 1, 3) := by decide +kernel
theorem dX10_cliques_5 : decode cX10_cliques 5 = .ok (.aload_n 0, 1) := by decide +kernel
theorem dX10_cliques_6 : decode cX10_cliques 6 = .ok (.aload_n 0, 1) := by decide +kernel
theorem dX10_cliques_7 : decode cX10_cliques 7 = .ok (.getfield 73, 3) := by decide +kernel
theorem dX10_cliques_10 : decode cX10_cliques 10 = .ok (.invokevirtual 224, 3) := by decide +kernel
theorem dX10_cliques_13 : decode cX10_cliques 13 = .ok (.ifCond .ne 7, 3) := by decide +kernel
theorem dX10_cliques_16 : decode cX10_cliques 16 = .ok (.iconst (-1), 1) := by decide +kernel
theorem dX10_cliques_17 : decode cX10_cliques 17 = .ok (.goto 7, 3) := by decide +kernel
theorem dX10_cliques_20 : decode cX10_cliques 20 = .ok (.aload_n 0, 1) := by decide +kernel
theorem dX10_cliques_21 : decode cX10_cliques 21 = .ok (.getfield 221, 3) := by decide +kernel
theorem dX10_cliques_24 : decode cX10_cliques 24 = .ok (.ireturn, 1) := by decide +kernel
theorem dX10_clique_0 : decode cX10_clique 0 = .ok (.aload_n 0, 1) := by decide +kernel
theorem dX10_clique_1 : decode cX10_clique 1 = .ok (.iconst 0, 1) := by decide +kernel
theorem dX10_clique_2 : decode cX10_clique 2 = .ok (.putfield 1, 3) := by decide +kernel
theorem dX10_clique_5 : decode cX10_clique 5 = .ok (.aload_n 0, 1) := by decide +kernel
theorem dX10_clique_6 : decode cX10_clique 6 = .ok (.aload_n 0, 1) := by decide +kernel
theorem dX10_clique_7 : decode cX10_clique 7 = .ok (.getfield 73, 3) := by decide +kernel
theorem dX10_clique_10 : decode cX10_clique 10 = .ok (.invokevirtual 224, 3) := by decide +kernel
theorem dX10_clique_13 : decode cX10_clique 13 = .ok (.ifCond .eq 17, 3) := by decide +kernel
theorem dX10_clique_16 : decode cX10_clique 16 = .ok (.iload_n 1, 1) := by decide +kernel
theorem dX10_clique_17 : decode cX10_clique 17 = .ok (.iconst 0, 1) := by decide +kernel
theorem dX10_clique_18 : decode cX10_clique 18 = .ok (.aload_n 0, 1) := by decide +kernel
theorem dX10_clique_19 : decode cX10_clique 19 = .ok (.getfield 221, 3) := by decide +kernel
theorem dX10_clique_22 : decode cX10_clique 22 = .ok (.iconst 1, 1) := by decide +kernel
theorem dX10_clique_23 : decode cX10_clique 23 = .ok (.isub, 1) := by decide +kernel
theorem dX10_clique_24 : decode cX10_clique 24 = .ok (.invokestatic 228, 3) := by decide +kernel
theorem dX10_clique_27 : decode cX10_clique 27 = .ok (.ifCond .ne 7, 3) := by decide +kernel
theorem dX10_clique_30 : decode cX10_clique 30 = .ok (.iconst (-1), 1) := by decide +kernel
theorem dX10_clique_31 : decode cX10_clique 31 = .ok (.goto 9, 3) := by decide +kernel
theorem dX10_clique_34 : decode cX10_clique 34 = .ok (.aload_n 0, 1) := by decide +kernel
theorem dX10_clique_35 : decode cX10_clique 35 = .ok (.getfield 117, 3) := by decide +kernel
theorem dX10_clique_38 : decode cX10_clique 38 = .ok (.iload_n 1, 1) := by decide +kernel
theorem dX10_clique_39 : decode cX10_clique 39 = .ok (.iaload, 1) := by decide +kernel
theorem dX10_clique_40 : decode cX10_clique 40 = .ok (.ireturn, 1) := by decide +kernel
theorem dX10_joins_0 : decode cX10_joins 0 = .ok (.aload_n 0, 1) := by decide +kernel
theorem dX10_joins_1 : decode cX10_joins 1 = .ok (.getfield 120, 3) := by decide +kernel
theorem dX10_joins_4 : decode cX10_joins 4 = .ok (.iload_n 1, 1) := by decide +kernel
theorem dX10_joins_5 : decode cX10_joins 5 = .ok (.iaload, 1) := by decide +kernel
theorem dX10_joins_6 : decode cX10_joins 6 = .ok (.iconst (-1), 1) := by decide +kernel
theorem dX10_joins_7 : decode cX10_joins 7 = .ok (.if_icmp .ne 11, 3) := by decide +kernel
theorem dX10_joins_10 : decode cX10_joins 10 = .ok (.aload_n 0, 1) := by decide +kernel
theorem dX10_joins_11 : decode cX10_joins 11 = .ok (.getfield 120, 3) := by decide +kernel
theorem dX10_joins_14 : decode cX10_joins 14 = .ok (.iload_n 1, 1) := by decide +kernel
theorem dX10_joins_15 : decode cX10_joins 15 = .ok (.iload_n 2, 1) := by decide +kernel
theorem dX10_joins_16 : decode cX10_joins 16 = .ok (.iastore, 1) := by decide +kernel
theorem dX10_joins_17 : decode cX10_joins 17 = .ok (.return_, 1) := by decide +kernel
theorem dX10_joins_18 : decode cX10_joins 18 = .ok (.aload_n 0, 1) := by decide +kernel
theorem dX10_joins_19 : decode cX10_joins 19 = .ok (.getfield 123, 3) := by decide +kernel
theorem dX10_joins_22 : decode cX10_joins 22 = .ok (.iload_n 1, 1) := by decide +kernel
theorem dX10_joins_23 : decode cX10_joins 23 = .ok (.iload_n 2, 1) := by decide +kernel
theorem dX10_joins_24 : decode cX10_joins 24 = .ok (.iastore, 1) := by decide +kernel
theorem dX10_joins_25 : decode cX10_joins 25 = .ok (.return_, 1) := by decide +kernel
theorem dX10_laysRoot_0 : decode cX10_laysRoot 0 = .ok (.aload_n 0, 1) := by decide +kernel
theorem dX10_laysRoot_1 : decode cX10_laysRoot 1 = .ok (.aload_n 1, 1) := by decide +kernel
theorem dX10_laysRoot_2 : decode cX10_laysRoot 2 = .ok (.invokevirtual 224, 3) := by decide +kernel
theorem dX10_laysRoot_5 : decode cX10_laysRoot 5 = .ok (.ifCond .ne 5, 3) := by decide +kernel
theorem dX10_laysRoot_8 : decode cX10_laysRoot 8 = .ok (.iconst 0, 1) := by decide +kernel
theorem dX10_laysRoot_9 : decode cX10_laysRoot 9 = .ok (.ireturn, 1) := by decide +kernel
theorem dX10_laysRoot_10 : decode cX10_laysRoot 10 = .ok (.iconst 0, 1) := by decide +kernel
theorem dX10_laysRoot_11 : decode cX10_laysRoot 11 = .ok (.istore_n 2, 1) := by decide +kernel
theorem dX10_laysRoot_12 : decode cX10_laysRoot 12 = .ok (.iload_n 2, 1) := by decide +kernel
theorem dX10_laysRoot_13 : decode cX10_laysRoot 13 = .ok (.aload_n 1, 1) := by decide +kernel
theorem dX10_laysRoot_14 : decode cX10_laysRoot 14 = .ok (.iconst 0, 1) := by decide +kernel
theorem dX10_laysRoot_15 : decode cX10_laysRoot 15 = .ok (.iaload, 1) := by decide +kernel
theorem dX10_laysRoot_16 : decode cX10_laysRoot 16 = .ok (.if_icmp .ge 23, 3) := by decide +kernel
theorem dX10_laysRoot_19 : decode cX10_laysRoot 19 = .ok (.aload_n 0, 1) := by decide +kernel
theorem dX10_laysRoot_20 : decode cX10_laysRoot 20 = .ok (.getfield 120, 3) := by decide +kernel
theorem dX10_laysRoot_23 : decode cX10_laysRoot 23 = .ok (.iload_n 2, 1) := by decide +kernel
theorem dX10_laysRoot_24 : decode cX10_laysRoot 24 = .ok (.iconst (-1), 1) := by decide +kernel
theorem dX10_laysRoot_25 : decode cX10_laysRoot 25 = .ok (.iastore, 1) := by decide +kernel
theorem dX10_laysRoot_26 : decode cX10_laysRoot 26 = .ok (.aload_n 0, 1) := by decide +kernel
theorem dX10_laysRoot_27 : decode cX10_laysRoot 27 = .ok (.getfield 123, 3) := by decide +kernel
theorem dX10_laysRoot_30 : decode cX10_laysRoot 30 = .ok (.iload_n 2, 1) := by decide +kernel
theorem dX10_laysRoot_31 : decode cX10_laysRoot 31 = .ok (.iconst (-1), 1) := by decide +kernel
theorem dX10_laysRoot_32 : decode cX10_laysRoot 32 = .ok (.iastore, 1) := by decide +kernel
theorem dX10_laysRoot_33 : decode cX10_laysRoot 33 = .ok (.iinc 2 1, 3) := by decide +kernel
theorem dX10_laysRoot_36 : decode cX10_laysRoot 36 = .ok (.goto (-24), 3) := by decide +kernel
theorem dX10_laysRoot_39 : decode cX10_laysRoot 39 = .ok (.aload_n 0, 1) := by decide +kernel
theorem dX10_laysRoot_40 : decode cX10_laysRoot 40 = .ok (.aload_n 0, 1) := by decide +kernel
theorem dX10_laysRoot_41 : decode cX10_laysRoot 41 = .ok (.getfield 221, 3) := by decide +kernel
theorem dX10_laysRoot_44 : decode cX10_laysRoot 44 = .ok (.putfield 232, 3) := by decide +kernel
theorem dX10_laysRoot_47 : decode cX10_laysRoot 47 = .ok (.iconst 0, 1) := by decide +kernel
theorem dX10_laysRoot_48 : decode cX10_laysRoot 48 = .ok (.istore_n 2, 1) := by decide +kernel
theorem dX10_laysRoot_49 : decode cX10_laysRoot 49 = .ok (.iload_n 2, 1) := by decide +kernel
theorem dX10_laysRoot_50 : decode cX10_laysRoot 50 = .ok (.aload_n 0, 1) := by decide +kernel
theorem dX10_laysRoot_51 : decode cX10_laysRoot 51 = .ok (.getfield 221, 3) := by decide +kernel
theorem dX10_laysRoot_54 : decode cX10_laysRoot 54 = .ok (.if_icmp .ge 43, 3) := by decide +kernel
theorem dX10_laysRoot_57 : decode cX10_laysRoot 57 = .ok (.iconst 0, 1) := by decide +kernel
theorem dX10_laysRoot_58 : decode cX10_laysRoot 58 = .ok (.istore_n 3, 1) := by decide +kernel
theorem dX10_laysRoot_59 : decode cX10_laysRoot 59 = .ok (.iload_n 3, 1) := by decide +kernel
theorem dX10_laysRoot_60 : decode cX10_laysRoot 60 = .ok (.aload_n 1, 1) := by decide +kernel
theorem dX10_laysRoot_61 : decode cX10_laysRoot 61 = .ok (.iconst 0, 1) := by decide +kernel
theorem dX10_laysRoot_62 : decode cX10_laysRoot 62 = .ok (.iaload, 1) := by decide +kernel
theorem dX10_laysRoot_63 : decode cX10_laysRoot 63 = .ok (.if_icmp .ge 28, 3) := by decide +kernel
theorem dX10_laysRoot_66 : decode cX10_laysRoot 66 = .ok (.aload_n 0, 1) := by decide +kernel
theorem dX10_laysRoot_67 : decode cX10_laysRoot 67 = .ok (.getfield 117, 3) := by decide +kernel
theorem dX10_laysRoot_70 : decode cX10_laysRoot 70 = .ok (.iload_n 2, 1) := by decide +kernel
theorem dX10_laysRoot_71 : decode cX10_laysRoot 71 = .ok (.iaload, 1) := by decide +kernel
theorem dX10_laysRoot_72 : decode cX10_laysRoot 72 = .ok (.iload_n 3, 1) := by decide +kernel
theorem dX10_laysRoot_73 : decode cX10_laysRoot 73 = .ok (.invokestatic 7, 3) := by decide +kernel
theorem dX10_laysRoot_76 : decode cX10_laysRoot 76 = .ok (.ifCond .eq 9, 3) := by decide +kernel
theorem dX10_laysRoot_79 : decode cX10_laysRoot 79 = .ok (.aload_n 0, 1) := by decide +kernel
theorem dX10_laysRoot_80 : decode cX10_laysRoot 80 = .ok (.iload_n 3, 1) := by decide +kernel
theorem dX10_laysRoot_81 : decode cX10_laysRoot 81 = .ok (.iload_n 2, 1) := by decide +kernel
theorem dX10_laysRoot_82 : decode cX10_laysRoot 82 = .ok (.invokevirtual 235, 3) := by decide +kernel
theorem dX10_laysRoot_85 : decode cX10_laysRoot 85 = .ok (.iinc 3 1, 3) := by decide +kernel
theorem dX10_laysRoot_88 : decode cX10_laysRoot 88 = .ok (.goto (-29), 3) := by decide +kernel
theorem dX10_laysRoot_91 : decode cX10_laysRoot 91 = .ok (.iinc 2 1, 3) := by decide +kernel
theorem dX10_laysRoot_94 : decode cX10_laysRoot 94 = .ok (.goto (-45), 3) := by decide +kernel
theorem dX10_laysRoot_97 : decode cX10_laysRoot 97 = .ok (.iconst 0, 1) := by decide +kernel
theorem dX10_laysRoot_98 : decode cX10_laysRoot 98 = .ok (.istore_n 2, 1) := by decide +kernel
theorem dX10_laysRoot_99 : decode cX10_laysRoot 99 = .ok (.iload_n 2, 1) := by decide +kernel
theorem dX10_laysRoot_100 : decode cX10_laysRoot 100 = .ok (.aload_n 1, 1) := by decide +kernel
theorem dX10_laysRoot_101 : decode cX10_laysRoot 101 = .ok (.iconst 0, 1) := by decide +kernel
theorem dX10_laysRoot_102 : decode cX10_laysRoot 102 = .ok (.iaload, 1) := by decide +kernel
theorem dX10_laysRoot_103 : decode cX10_laysRoot 103 = .ok (.if_icmp .ge 41, 3) := by decide +kernel
theorem dX10_laysRoot_106 : decode cX10_laysRoot 106 = .ok (.aload_n 0, 1) := by decide +kernel
theorem dX10_laysRoot_107 : decode cX10_laysRoot 107 = .ok (.getfield 123, 3) := by decide +kernel
theorem dX10_laysRoot_110 : decode cX10_laysRoot 110 = .ok (.iload_n 2, 1) := by decide +kernel
theorem dX10_laysRoot_111 : decode cX10_laysRoot 111 = .ok (.iaload, 1) := by decide +kernel
theorem dX10_laysRoot_112 : decode cX10_laysRoot 112 = .ok (.iconst (-1), 1) := by decide +kernel
theorem dX10_laysRoot_113 : decode cX10_laysRoot 113 = .ok (.if_icmp .ne 25, 3) := by decide +kernel
theorem dX10_laysRoot_116 : decode cX10_laysRoot 116 = .ok (.aload_n 0, 1) := by decide +kernel
theorem dX10_laysRoot_117 : decode cX10_laysRoot 117 = .ok (.iload_n 2, 1) := by decide +kernel
theorem dX10_laysRoot_118 : decode cX10_laysRoot 118 = .ok (.aload_n 0, 1) := by decide +kernel
theorem dX10_laysRoot_119 : decode cX10_laysRoot 119 = .ok (.getfield 232, 3) := by decide +kernel
theorem dX10_laysRoot_122 : decode cX10_laysRoot 122 = .ok (.invokevirtual 235, 3) := by decide +kernel
theorem dX10_laysRoot_125 : decode cX10_laysRoot 125 = .ok (.aload_n 0, 1) := by decide +kernel
theorem dX10_laysRoot_126 : decode cX10_laysRoot 126 = .ok (.dup, 1) := by decide +kernel
theorem dX10_laysRoot_127 : decode cX10_laysRoot 127 = .ok (.getfield 232, 3) := by decide +kernel
theorem dX10_laysRoot_130 : decode cX10_laysRoot 130 = .ok (.iconst 1, 1) := by decide +kernel
theorem dX10_laysRoot_131 : decode cX10_laysRoot 131 = .ok (.iadd, 1) := by decide +kernel
theorem dX10_laysRoot_132 : decode cX10_laysRoot 132 = .ok (.putfield 232, 3) := by decide +kernel
theorem dX10_laysRoot_135 : decode cX10_laysRoot 135 = .ok (.goto (-29), 3) := by decide +kernel
theorem dX10_laysRoot_138 : decode cX10_laysRoot 138 = .ok (.iinc 2 1, 3) := by decide +kernel
theorem dX10_laysRoot_141 : decode cX10_laysRoot 141 = .ok (.goto (-42), 3) := by decide +kernel
theorem dX10_laysRoot_144 : decode cX10_laysRoot 144 = .ok (.iconst 1, 1) := by decide +kernel
theorem dX10_laysRoot_145 : decode cX10_laysRoot 145 = .ok (.ireturn, 1) := by decide +kernel
theorem dX10_linesAt_0 : decode cX10_linesAt 0 = .ok (.iconst 0, 1) := by decide +kernel
theorem dX10_linesAt_1 : decode cX10_linesAt 1 = .ok (.istore_n 2, 1) := by decide +kernel
theorem dX10_linesAt_2 : decode cX10_linesAt 2 = .ok (.iconst 0, 1) := by decide +kernel
theorem dX10_linesAt_3 : decode cX10_linesAt 3 = .ok (.istore_n 3, 1) := by decide +kernel
theorem dX10_linesAt_4 : decode cX10_linesAt 4 = .ok (.iload_n 3, 1) := by decide +kernel
theorem dX10_linesAt_5 : decode cX10_linesAt 5 = .ok (.aload_n 0, 1) := by decide +kernel
theorem dX10_linesAt_6 : decode cX10_linesAt 6 = .ok (.getfield 73, 3) := by decide +kernel
theorem dX10_linesAt_9 : decode cX10_linesAt 9 = .ok (.iconst 0, 1) := by decide +kernel
theorem dX10_linesAt_10 : decode cX10_linesAt 10 = .ok (.iaload, 1) := by decide +kernel
theorem dX10_linesAt_11 : decode cX10_linesAt 11 = .ok (.if_icmp .ge 32, 3) := by decide +kernel
theorem dX10_linesAt_14 : decode cX10_linesAt 14 = .ok (.aload_n 0, 1) := by decide +kernel
theorem dX10_linesAt_15 : decode cX10_linesAt 15 = .ok (.getfield 120, 3) := by decide +kernel
theorem dX10_linesAt_18 : decode cX10_linesAt 18 = .ok (.iload_n 3, 1) := by decide +kernel
theorem dX10_linesAt_19 : decode cX10_linesAt 19 = .ok (.iaload, 1) := by decide +kernel
theorem dX10_linesAt_20 : decode cX10_linesAt 20 = .ok (.iload_n 1, 1) := by decide +kernel
theorem dX10_linesAt_21 : decode cX10_linesAt 21 = .ok (.if_icmp .eq 13, 3) := by decide +kernel
theorem dX10_linesAt_24 : decode cX10_linesAt 24 = .ok (.aload_n 0, 1) := by decide +kernel
theorem dX10_linesAt_25 : decode cX10_linesAt 25 = .ok (.getfield 123, 3) := by decide +kernel
theorem dX10_linesAt_28 : decode cX10_linesAt 28 = .ok (.iload_n 3, 1) := by decide +kernel
theorem dX10_linesAt_29 : decode cX10_linesAt 29 = .ok (.iaload, 1) := by decide +kernel
theorem dX10_linesAt_30 : decode cX10_linesAt 30 = .ok (.iload_n 1, 1) := by decide +kernel
theorem dX10_linesAt_31 : decode cX10_linesAt 31 = .ok (.if_icmp .ne 6, 3) := by decide +kernel
theorem dX10_linesAt_34 : decode cX10_linesAt 34 = .ok (.iinc 2 1, 3) := by decide +kernel
theorem dX10_linesAt_37 : decode cX10_linesAt 37 = .ok (.iinc 3 1, 3) := by decide +kernel
theorem dX10_linesAt_40 : decode cX10_linesAt 40 = .ok (.goto (-36), 3) := by decide +kernel
theorem dX10_linesAt_43 : decode cX10_linesAt 43 = .ok (.iload_n 2, 1) := by decide +kernel
theorem dX10_linesAt_44 : decode cX10_linesAt 44 = .ok (.ireturn, 1) := by decide +kernel
theorem dX10_parts_0 : decode cX10_parts 0 = .ok (.aload_n 0, 1) := by decide +kernel
theorem dX10_parts_1 : decode cX10_parts 1 = .ok (.invokestatic 239, 3) := by decide +kernel
theorem dX10_parts_4 : decode cX10_parts 4 = .ok (.istore_n 1, 1) := by decide +kernel
theorem dX10_parts_5 : decode cX10_parts 5 = .ok (.iconst 0, 1) := by decide +kernel
theorem dX10_parts_6 : decode cX10_parts 6 = .ok (.istore_n 2, 1) := by decide +kernel
theorem dX10_parts_7 : decode cX10_parts 7 = .ok (.iload_n 1, 1) := by decide +kernel
theorem dX10_parts_8 : decode cX10_parts 8 = .ok (.ifCond .eq 73, 3) := by decide +kernel
theorem dX10_parts_11 : decode cX10_parts 11 = .ok (.iconst 1, 1) := by decide +kernel
theorem dX10_parts_12 : decode cX10_parts 12 = .ok (.iload_n 1, 1) := by decide +kernel
theorem dX10_parts_13 : decode cX10_parts 13 = .ok (.invokestatic 242, 3) := by decide +kernel
theorem dX10_parts_16 : decode cX10_parts 16 = .ok (.ishl, 1) := by decide +kernel
theorem dX10_parts_17 : decode cX10_parts 17 = .ok (.istore_n 3, 1) := by decide +kernel
theorem dX10_parts_18 : decode cX10_parts 18 = .ok (.iconst 0, 1) := by decide +kernel
theorem dX10_parts_19 : decode cX10_parts 19 = .ok (.istore 4, 2) := by decide +kernel
theorem dX10_parts_21 : decode cX10_parts 21 = .ok (.iload_n 3, 1) := by decide +kernel
theorem dX10_parts_22 : decode cX10_parts 22 = .ok (.iload 4, 2) := by decide +kernel
theorem dX10_parts_24 : decode cX10_parts 24 = .ok (.if_icmp .eq 45, 3) := by decide +kernel
theorem dX10_parts_27 : decode cX10_parts 27 = .ok (.iload_n 3, 1) := by decide +kernel
theorem dX10_parts_28 : decode cX10_parts 28 = .ok (.istore 4, 2) := by decide +kernel
theorem dX10_parts_30 : decode cX10_parts 30 = .ok (.iconst 0, 1) := by decide +kernel
theorem dX10_parts_31 : decode cX10_parts 31 = .ok (.istore 5, 2) := by decide +kernel
theorem dX10_parts_33 : decode cX10_parts 33 = .ok (.iload 5, 2) := by decide +kernel
theorem dX10_parts_35 : decode cX10_parts 35 = .ok (.aload_n 0, 1) := by decide +kernel
theorem dX10_parts_36 : decode cX10_parts 36 = .ok (.iconst 0, 1) := by decide +kernel
theorem dX10_parts_37 : decode cX10_parts 37 = .ok (.iaload, 1) := by decide +kernel
theorem dX10_parts_38 : decode cX10_parts 38 = .ok (.if_icmp .ge 28, 3) := by decide +kernel
theorem dX10_parts_41 : decode cX10_parts 41 = .ok (.iload 4, 2) := by decide +kernel
theorem dX10_parts_43 : decode cX10_parts 43 = .ok (.iload 5, 2) := by decide +kernel
theorem dX10_parts_45 : decode cX10_parts 45 = .ok (.invokestatic 7, 3) := by decide +kernel
theorem dX10_parts_48 : decode cX10_parts 48 = .ok (.ifCond .eq 12, 3) := by decide +kernel
theorem dX10_parts_51 : decode cX10_parts 51 = .ok (.iload_n 3, 1) := by decide +kernel
theorem dX10_parts_52 : decode cX10_parts 52 = .ok (.aload_n 0, 1) := by decide +kernel
theorem dX10_parts_53 : decode cX10_parts 53 = .ok (.iconst 1, 1) := by decide +kernel
theorem dX10_parts_54 : decode cX10_parts 54 = .ok (.iload 5, 2) := by decide +kernel
theorem dX10_parts_56 : decode cX10_parts 56 = .ok (.iadd, 1) := by decide +kernel
theorem dX10_parts_57 : decode cX10_parts 57 = .ok (.iaload, 1) := by decide +kernel
theorem dX10_parts_58 : decode cX10_parts 58 = .ok (.ior, 1) := by decide +kernel
theorem dX10_parts_59 : decode cX10_parts 59 = .ok (.istore_n 3, 1) := by decide +kernel
theorem dX10_parts_60 : decode cX10_parts 60 = .ok (.iinc 5 1, 3) := by decide +kernel
theorem dX10_parts_63 : decode cX10_parts 63 = .ok (.goto (-30), 3) := by decide +kernel
theorem dX10_parts_66 : decode cX10_parts 66 = .ok (.goto (-45), 3) := by decide +kernel
theorem dX10_parts_69 : decode cX10_parts 69 = .ok (.iload_n 1, 1) := by decide +kernel
theorem dX10_parts_70 : decode cX10_parts 70 = .ok (.iload_n 3, 1) := by decide +kernel
theorem dX10_parts_71 : decode cX10_parts 71 = .ok (.iconst (-1), 1) := by decide +kernel
theorem dX10_parts_72 : decode cX10_parts 72 = .ok (.ixor, 1) := by decide +kernel
theorem dX10_parts_73 : decode cX10_parts 73 = .ok (.iand, 1) := by decide +kernel
theorem dX10_parts_74 : decode cX10_parts 74 = .ok (.istore_n 1, 1) := by decide +kernel
theorem dX10_parts_75 : decode cX10_parts 75 = .ok (.iinc 2 1, 3) := by decide +kernel
theorem dX10_parts_78 : decode cX10_parts 78 = .ok (.goto (-71), 3) := by decide +kernel
theorem dX10_parts_81 : decode cX10_parts 81 = .ok (.iload_n 2, 1) := by decide +kernel
theorem dX10_parts_82 : decode cX10_parts 82 = .ok (.ireturn, 1) := by decide +kernel
theorem dX10_root_0 : decode cX10_root 0 = .ok (.aload_n 0, 1) := by decide +kernel
theorem dX10_root_1 : decode cX10_root 1 = .ok (.iconst 0, 1) := by decide +kernel
theorem dX10_root_2 : decode cX10_root 2 = .ok (.putfield 1, 3) := by decide +kernel
theorem dX10_root_5 : decode cX10_root 5 = .ok (.iload_n 1, 1) := by decide +kernel
theorem dX10_root_6 : decode cX10_root 6 = .ok (.iconst 0, 1) := by decide +kernel
theorem dX10_root_7 : decode cX10_root 7 = .ok (.iconst 2, 1) := by decide +kernel
theorem dX10_root_8 : decode cX10_root 8 = .ok (.invokestatic 228, 3) := by decide +kernel
theorem dX10_root_11 : decode cX10_root 11 = .ok (.ifCond .eq 14, 3) := by decide +kernel
theorem dX10_root_14 : decode cX10_root 14 = .ok (.aload_n 0, 1) := by decide +kernel
theorem dX10_root_15 : decode cX10_root 15 = .ok (.aload_n 0, 1) := by decide +kernel
theorem dX10_root_16 : decode cX10_root 16 = .ok (.getfield 73, 3) := by decide +kernel
theorem dX10_root_19 : decode cX10_root 19 = .ok (.invokevirtual 245, 3) := by decide +kernel
theorem dX10_root_22 : decode cX10_root 22 = .ok (.ifCond .ne 5, 3) := by decide +kernel
theorem dX10_root_25 : decode cX10_root 25 = .ok (.iconst (-1), 1) := by decide +kernel
theorem dX10_root_26 : decode cX10_root 26 = .ok (.ireturn, 1) := by decide +kernel
theorem dX10_root_27 : decode cX10_root 27 = .ok (.iload_n 1, 1) := by decide +kernel
theorem dX10_root_28 : decode cX10_root 28 = .ok (.ifCond .ne 8, 3) := by decide +kernel
theorem dX10_root_31 : decode cX10_root 31 = .ok (.aload_n 0, 1) := by decide +kernel
theorem dX10_root_32 : decode cX10_root 32 = .ok (.getfield 232, 3) := by decide +kernel
theorem dX10_root_35 : decode cX10_root 35 = .ok (.ireturn, 1) := by decide +kernel
theorem dX10_root_36 : decode cX10_root 36 = .ok (.iload_n 1, 1) := by decide +kernel
theorem dX10_root_37 : decode cX10_root 37 = .ok (.iconst 2, 1) := by decide +kernel
theorem dX10_root_38 : decode cX10_root 38 = .ok (.if_icmp .ne 11, 3) := by decide +kernel
theorem dX10_root_41 : decode cX10_root 41 = .ok (.aload_n 0, 1) := by decide +kernel
theorem dX10_root_42 : decode cX10_root 42 = .ok (.getfield 73, 3) := by decide +kernel
theorem dX10_root_45 : decode cX10_root 45 = .ok (.invokestatic 249, 3) := by decide +kernel
theorem dX10_root_48 : decode cX10_root 48 = .ok (.ireturn, 1) := by decide +kernel
theorem dX10_root_49 : decode cX10_root 49 = .ok (.iconst 0, 1) := by decide +kernel
theorem dX10_root_50 : decode cX10_root 50 = .ok (.istore_n 2, 1) := by decide +kernel
theorem dX10_root_51 : decode cX10_root 51 = .ok (.iconst 0, 1) := by decide +kernel
theorem dX10_root_52 : decode cX10_root 52 = .ok (.istore_n 3, 1) := by decide +kernel
theorem dX10_root_53 : decode cX10_root 53 = .ok (.iload_n 3, 1) := by decide +kernel
theorem dX10_root_54 : decode cX10_root 54 = .ok (.aload_n 0, 1) := by decide +kernel
theorem dX10_root_55 : decode cX10_root 55 = .ok (.getfield 232, 3) := by decide +kernel
theorem dX10_root_58 : decode cX10_root 58 = .ok (.if_icmp .ge 24, 3) := by decide +kernel
theorem dX10_root_61 : decode cX10_root 61 = .ok (.aload_n 0, 1) := by decide +kernel
theorem dX10_root_62 : decode cX10_root 62 = .ok (.iload_n 3, 1) := by decide +kernel
theorem dX10_root_63 : decode cX10_root 63 = .ok (.invokevirtual 252, 3) := by decide +kernel
theorem dX10_root_66 : decode cX10_root 66 = .ok (.iload_n 2, 1) := by decide +kernel
theorem dX10_root_67 : decode cX10_root 67 = .ok (.if_icmp .le 9, 3) := by decide +kernel
theorem dX10_root_70 : decode cX10_root 70 = .ok (.aload_n 0, 1) := by decide +kernel
theorem dX10_root_71 : decode cX10_root 71 = .ok (.iload_n 3, 1) := by decide +kernel
theorem dX10_root_72 : decode cX10_root 72 = .ok (.invokevirtual 252, 3) := by decide +kernel
theorem dX10_root_75 : decode cX10_root 75 = .ok (.istore_n 2, 1) := by decide +kernel
theorem dX10_root_76 : decode cX10_root 76 = .ok (.iinc 3 1, 3) := by decide +kernel
theorem dX10_root_79 : decode cX10_root 79 = .ok (.goto (-26), 3) := by decide +kernel
theorem dX10_root_82 : decode cX10_root 82 = .ok (.iload_n 2, 1) := by decide +kernel
theorem dX10_root_83 : decode cX10_root 83 = .ok (.ireturn, 1) := by decide +kernel
theorem dX10_rootLine_0 : decode cX10_rootLine 0 = .ok (.aload_n 0, 1) := by decide +kernel
theorem dX10_rootLine_1 : decode cX10_rootLine 1 = .ok (.iconst 0, 1) := by decide +kernel
theorem dX10_rootLine_2 : decode cX10_rootLine 2 = .ok (.putfield 1, 3) := by decide +kernel
theorem dX10_rootLine_5 : decode cX10_rootLine 5 = .ok (.iload_n 1, 1) := by decide +kernel
theorem dX10_rootLine_6 : decode cX10_rootLine 6 = .ok (.iconst 0, 1) := by decide +kernel
theorem dX10_rootLine_7 : decode cX10_rootLine 7 = .ok (.aload_n 0, 1) := by decide +kernel
theorem dX10_rootLine_8 : decode cX10_rootLine 8 = .ok (.getfield 73, 3) := by decide +kernel
theorem dX10_rootLine_11 : decode cX10_rootLine 11 = .ok (.iconst 0, 1) := by decide +kernel
theorem dX10_rootLine_12 : decode cX10_rootLine 12 = .ok (.iaload, 1) := by decide +kernel
theorem dX10_rootLine_13 : decode cX10_rootLine 13 = .ok (.iconst 1, 1) := by decide +kernel
theorem dX10_rootLine_14 : decode cX10_rootLine 14 = .ok (.isub, 1) := by decide +kernel
theorem dX10_rootLine_15 : decode cX10_rootLine 15 = .ok (.invokestatic 228, 3) := by decide +kernel
theorem dX10_rootLine_18 : decode cX10_rootLine 18 = .ok (.ifCond .eq 23, 3) := by decide +kernel
theorem dX10_rootLine_21 : decode cX10_rootLine 21 = .ok (.iload_n 2, 1) := by decide +kernel
theorem dX10_rootLine_22 : decode cX10_rootLine 22 = .ok (.iconst 0, 1) := by decide +kernel
theorem dX10_rootLine_23 : decode cX10_rootLine 23 = .ok (.iconst 1, 1) := by decide +kernel
theorem dX10_rootLine_24 : decode cX10_rootLine 24 = .ok (.invokestatic 228, 3) := by decide +kernel
theorem dX10_rootLine_27 : decode cX10_rootLine 27 = .ok (.ifCond .eq 14, 3) := by decide +kernel
theorem dX10_rootLine_30 : decode cX10_rootLine 30 = .ok (.aload_n 0, 1) := by decide +kernel
theorem dX10_rootLine_31 : decode cX10_rootLine 31 = .ok (.aload_n 0, 1) := by decide +kernel
theorem dX10_rootLine_32 : decode cX10_rootLine 32 = .ok (.getfield 73, 3) := by decide +kernel
theorem dX10_rootLine_35 : decode cX10_rootLine 35 = .ok (.invokevirtual 245, 3) := by decide +kernel
theorem dX10_rootLine_38 : decode cX10_rootLine 38 = .ok (.ifCond .ne 8, 3) := by decide +kernel
theorem dX10_rootLine_41 : decode cX10_rootLine 41 = .ok (.aload_n 0, 1) := by decide +kernel
theorem dX10_rootLine_42 : decode cX10_rootLine 42 = .ok (.invokevirtual 255, 3) := by decide +kernel
theorem dX10_rootLine_45 : decode cX10_rootLine 45 = .ok (.ireturn, 1) := by decide +kernel
theorem dX10_rootLine_46 : decode cX10_rootLine 46 = .ok (.iload_n 2, 1) := by decide +kernel
theorem dX10_rootLine_47 : decode cX10_rootLine 47 = .ok (.ifCond .ne 12, 3) := by decide +kernel
theorem dX10_rootLine_50 : decode cX10_rootLine 50 = .ok (.aload_n 0, 1) := by decide +kernel
theorem dX10_rootLine_51 : decode cX10_rootLine 51 = .ok (.getfield 120, 3) := by decide +kernel
theorem dX10_rootLine_54 : decode cX10_rootLine 54 = .ok (.iload_n 1, 1) := by decide +kernel
theorem dX10_rootLine_55 : decode cX10_rootLine 55 = .ok (.iaload, 1) := by decide +kernel
theorem dX10_rootLine_56 : decode cX10_rootLine 56 = .ok (.goto 9, 3) := by decide +kernel
theorem dX10_rootLine_59 : decode cX10_rootLine 59 = .ok (.aload_n 0, 1) := by decide +kernel
theorem dX10_rootLine_60 : decode cX10_rootLine 60 = .ok (.getfield 123, 3) := by decide +kernel
theorem dX10_rootLine_63 : decode cX10_rootLine 63 = .ok (.iload_n 1, 1) := by decide +kernel
theorem dX10_rootLine_64 : decode cX10_rootLine 64 = .ok (.iaload, 1) := by decide +kernel
theorem dX10_rootLine_65 : decode cX10_rootLine 65 = .ok (.ireturn, 1) := by decide +kernel
theorem dX10_isPiece_0 : decode cX10_isPiece 0 = .ok (.aload_n 0, 1) := by decide +kernel
theorem dX10_isPiece_1 : decode cX10_isPiece 1 = .ok (.iload_n 1, 1) := by decide +kernel
theorem dX10_isPiece_2 : decode cX10_isPiece 2 = .ok (.invokestatic 258, 3) := by decide +kernel
theorem dX10_isPiece_5 : decode cX10_isPiece 5 = .ok (.ifCond .eq 5, 3) := by decide +kernel
theorem dX10_isPiece_8 : decode cX10_isPiece 8 = .ok (.iconst 0, 1) := by decide +kernel
theorem dX10_isPiece_9 : decode cX10_isPiece 9 = .ok (.ireturn, 1) := by decide +kernel
theorem dX10_isPiece_10 : decode cX10_isPiece 10 = .ok (.iconst 0, 1) := by decide +kernel
theorem dX10_isPiece_11 : decode cX10_isPiece 11 = .ok (.istore_n 2, 1) := by decide +kernel
theorem dX10_isPiece_12 : decode cX10_isPiece 12 = .ok (.iload_n 2, 1) := by decide +kernel
theorem dX10_isPiece_13 : decode cX10_isPiece 13 = .ok (.aload_n 0, 1) := by decide +kernel
theorem dX10_isPiece_14 : decode cX10_isPiece 14 = .ok (.iconst 0, 1) := by decide +kernel
theorem dX10_isPiece_15 : decode cX10_isPiece 15 = .ok (.iaload, 1) := by decide +kernel
theorem dX10_isPiece_16 : decode cX10_isPiece 16 = .ok (.if_icmp .ge 33, 3) := by decide +kernel
theorem dX10_isPiece_19 : decode cX10_isPiece 19 = .ok (.iload_n 1, 1) := by decide +kernel
theorem dX10_isPiece_20 : decode cX10_isPiece 20 = .ok (.iload_n 2, 1) := by decide +kernel
theorem dX10_isPiece_21 : decode cX10_isPiece 21 = .ok (.invokestatic 7, 3) := by decide +kernel
theorem dX10_isPiece_24 : decode cX10_isPiece 24 = .ok (.ifCond .eq 19, 3) := by decide +kernel
theorem dX10_isPiece_27 : decode cX10_isPiece 27 = .ok (.aload_n 0, 1) := by decide +kernel
theorem dX10_isPiece_28 : decode cX10_isPiece 28 = .ok (.iload_n 1, 1) := by decide +kernel
theorem dX10_isPiece_29 : decode cX10_isPiece 29 = .ok (.iconst 1, 1) := by decide +kernel
theorem dX10_isPiece_30 : decode cX10_isPiece 30 = .ok (.iload_n 2, 1) := by decide +kernel
theorem dX10_isPiece_31 : decode cX10_isPiece 31 = .ok (.ishl, 1) := by decide +kernel
theorem dX10_isPiece_32 : decode cX10_isPiece 32 = .ok (.iconst (-1), 1) := by decide +kernel
theorem dX10_isPiece_33 : decode cX10_isPiece 33 = .ok (.ixor, 1) := by decide +kernel
theorem dX10_isPiece_34 : decode cX10_isPiece 34 = .ok (.iand, 1) := by decide +kernel
theorem dX10_isPiece_35 : decode cX10_isPiece 35 = .ok (.invokestatic 258, 3) := by decide +kernel
theorem dX10_isPiece_38 : decode cX10_isPiece 38 = .ok (.ifCond .ne 5, 3) := by decide +kernel
theorem dX10_isPiece_41 : decode cX10_isPiece 41 = .ok (.iconst 0, 1) := by decide +kernel
theorem dX10_isPiece_42 : decode cX10_isPiece 42 = .ok (.ireturn, 1) := by decide +kernel
theorem dX10_isPiece_43 : decode cX10_isPiece 43 = .ok (.iinc 2 1, 3) := by decide +kernel
theorem dX10_isPiece_46 : decode cX10_isPiece 46 = .ok (.goto (-34), 3) := by decide +kernel
theorem dX10_isPiece_49 : decode cX10_isPiece 49 = .ok (.iconst 1, 1) := by decide +kernel
theorem dX10_isPiece_50 : decode cX10_isPiece 50 = .ok (.ireturn, 1) := by decide +kernel
theorem dX10_laysPieces_0 : decode cX10_laysPieces 0 = .ok (.aload_n 0, 1) := by decide +kernel
theorem dX10_laysPieces_1 : decode cX10_laysPieces 1 = .ok (.iconst 0, 1) := by decide +kernel
theorem dX10_laysPieces_2 : decode cX10_laysPieces 2 = .ok (.putfield 261, 3) := by decide +kernel
theorem dX10_laysPieces_5 : decode cX10_laysPieces 5 = .ok (.aload_n 0, 1) := by decide +kernel
theorem dX10_laysPieces_6 : decode cX10_laysPieces 6 = .ok (.iconst 0, 1) := by decide +kernel
theorem dX10_laysPieces_7 : decode cX10_laysPieces 7 = .ok (.putfield 264, 3) := by decide +kernel
theorem dX10_laysPieces_10 : decode cX10_laysPieces 10 = .ok (.iconst 0, 1) := by decide +kernel
theorem dX10_laysPieces_11 : decode cX10_laysPieces 11 = .ok (.istore_n 1, 1) := by decide +kernel
theorem dX10_laysPieces_12 : decode cX10_laysPieces 12 = .ok (.iload_n 1, 1) := by decide +kernel
