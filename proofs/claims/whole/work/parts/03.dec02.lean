theorem dX5_load_12 : decode cX5_load 12 = .ok (.ireturn, 1) := by decide +kernel
theorem dX5_load_13 : decode cX5_load 13 = .ok (.aload_n 0, 1) := by decide +kernel
theorem dX5_load_14 : decode cX5_load 14 = .ok (.getfield 33, 3) := by decide +kernel
theorem dX5_load_17 : decode cX5_load 17 = .ok (.iload_n 1, 1) := by decide +kernel
theorem dX5_load_18 : decode cX5_load 18 = .ok (.invokevirtual 120, 3) := by decide +kernel
theorem dX5_load_21 : decode cX5_load 21 = .ok (.ifCond .ne 9, 3) := by decide +kernel
theorem dX5_load_24 : decode cX5_load 24 = .ok (.aload_n 0, 1) := by decide +kernel
theorem dX5_load_25 : decode cX5_load 25 = .ok (.iconst 1, 1) := by decide +kernel
theorem dX5_load_26 : decode cX5_load 26 = .ok (.invokevirtual 53, 3) := by decide +kernel
theorem dX5_load_29 : decode cX5_load 29 = .ok (.ireturn, 1) := by decide +kernel
theorem dX5_load_30 : decode cX5_load 30 = .ok (.aload_n 0, 1) := by decide +kernel
theorem dX5_load_31 : decode cX5_load 31 = .ok (.getfield 33, 3) := by decide +kernel
theorem dX5_load_34 : decode cX5_load 34 = .ok (.iload_n 1, 1) := by decide +kernel
theorem dX5_load_35 : decode cX5_load 35 = .ok (.invokevirtual 177, 3) := by decide +kernel
theorem dX5_load_38 : decode cX5_load 38 = .ok (.ireturn, 1) := by decide +kernel
theorem dX5_great_0 : decode cX5_great 0 = .ok (.bipush (-9), 2) := by decide +kernel
theorem dX5_great_2 : decode cX5_great 2 = .ok (.istore_n 1, 1) := by decide +kernel
theorem dX5_great_3 : decode cX5_great 3 = .ok (.iconst (-1), 1) := by decide +kernel
theorem dX5_great_4 : decode cX5_great 4 = .ok (.istore_n 2, 1) := by decide +kernel
theorem dX5_great_5 : decode cX5_great 5 = .ok (.iconst 0, 1) := by decide +kernel
theorem dX5_great_6 : decode cX5_great 6 = .ok (.istore_n 3, 1) := by decide +kernel
theorem dX5_great_7 : decode cX5_great 7 = .ok (.iload_n 3, 1) := by decide +kernel
theorem dX5_great_8 : decode cX5_great 8 = .ok (.aload_n 0, 1) := by decide +kernel
theorem dX5_great_9 : decode cX5_great 9 = .ok (.getfield 33, 3) := by decide +kernel
theorem dX5_great_12 : decode cX5_great 12 = .ok (.getfield 110, 3) := by decide +kernel
theorem dX5_great_15 : decode cX5_great 15 = .ok (.if_icmp .ge 45, 3) := by decide +kernel
theorem dX5_great_18 : decode cX5_great 18 = .ok (.aload_n 0, 1) := by decide +kernel
theorem dX5_great_19 : decode cX5_great 19 = .ok (.getfield 33, 3) := by decide +kernel
theorem dX5_great_22 : decode cX5_great 22 = .ok (.iload_n 3, 1) := by decide +kernel
theorem dX5_great_23 : decode cX5_great 23 = .ok (.invokevirtual 120, 3) := by decide +kernel
theorem dX5_great_26 : decode cX5_great 26 = .ok (.ifCond .eq 14, 3) := by decide +kernel
theorem dX5_great_29 : decode cX5_great 29 = .ok (.aload_n 0, 1) := by decide +kernel
theorem dX5_great_30 : decode cX5_great 30 = .ok (.getfield 33, 3) := by decide +kernel
theorem dX5_great_33 : decode cX5_great 33 = .ok (.iload_n 3, 1) := by decide +kernel
theorem dX5_great_34 : decode cX5_great 34 = .ok (.invokevirtual 177, 3) := by decide +kernel
theorem dX5_great_37 : decode cX5_great 37 = .ok (.goto 4, 3) := by decide +kernel
theorem dX5_great_40 : decode cX5_great 40 = .ok (.iconst (-1), 1) := by decide +kernel
theorem dX5_great_41 : decode cX5_great 41 = .ok (.istore 4, 2) := by decide +kernel
theorem dX5_great_43 : decode cX5_great 43 = .ok (.iload 4, 2) := by decide +kernel
theorem dX5_great_45 : decode cX5_great 45 = .ok (.iload_n 2, 1) := by decide +kernel
theorem dX5_great_46 : decode cX5_great 46 = .ok (.if_icmp .le 8, 3) := by decide +kernel
theorem dX5_great_49 : decode cX5_great 49 = .ok (.iload 4, 2) := by decide +kernel
theorem dX5_great_51 : decode cX5_great 51 = .ok (.istore_n 2, 1) := by decide +kernel
theorem dX5_great_52 : decode cX5_great 52 = .ok (.iload_n 3, 1) := by decide +kernel
theorem dX5_great_53 : decode cX5_great 53 = .ok (.istore_n 1, 1) := by decide +kernel
theorem dX5_great_54 : decode cX5_great 54 = .ok (.iinc 3 1, 3) := by decide +kernel
theorem dX5_great_57 : decode cX5_great 57 = .ok (.goto (-50), 3) := by decide +kernel
theorem dX5_great_60 : decode cX5_great 60 = .ok (.iload_n 1, 1) := by decide +kernel
theorem dX5_great_61 : decode cX5_great 61 = .ok (.bipush (-9), 2) := by decide +kernel
theorem dX5_great_63 : decode cX5_great 63 = .ok (.if_icmp .eq 8, 3) := by decide +kernel
theorem dX5_great_66 : decode cX5_great 66 = .ok (.aload_n 0, 1) := by decide +kernel
theorem dX5_great_67 : decode cX5_great 67 = .ok (.iload_n 2, 1) := by decide +kernel
theorem dX5_great_68 : decode cX5_great 68 = .ok (.putfield 68, 3) := by decide +kernel
theorem dX5_great_71 : decode cX5_great 71 = .ok (.iload_n 1, 1) := by decide +kernel
theorem dX5_great_72 : decode cX5_great 72 = .ok (.ireturn, 1) := by decide +kernel
theorem dX5_asks_0 : decode cX5_asks 0 = .ok (.aload_n 0, 1) := by decide +kernel
theorem dX5_asks_1 : decode cX5_asks 1 = .ok (.getfield 33, 3) := by decide +kernel
theorem dX5_asks_4 : decode cX5_asks 4 = .ok (.iload_n 1, 1) := by decide +kernel
theorem dX5_asks_5 : decode cX5_asks 5 = .ok (.invokevirtual 113, 3) := by decide +kernel
theorem dX5_asks_8 : decode cX5_asks 8 = .ok (.ifCond .ne 5, 3) := by decide +kernel
theorem dX5_asks_11 : decode cX5_asks 11 = .ok (.iconst (-1), 1) := by decide +kernel
theorem dX5_asks_12 : decode cX5_asks 12 = .ok (.ireturn, 1) := by decide +kernel
theorem dX5_asks_13 : decode cX5_asks 13 = .ok (.aload_n 0, 1) := by decide +kernel
theorem dX5_asks_14 : decode cX5_asks 14 = .ok (.getfield 33, 3) := by decide +kernel
theorem dX5_asks_17 : decode cX5_asks 17 = .ok (.iload_n 1, 1) := by decide +kernel
theorem dX5_asks_18 : decode cX5_asks 18 = .ok (.invokevirtual 120, 3) := by decide +kernel
theorem dX5_asks_21 : decode cX5_asks 21 = .ok (.ifCond .ne 9, 3) := by decide +kernel
theorem dX5_asks_24 : decode cX5_asks 24 = .ok (.aload_n 0, 1) := by decide +kernel
theorem dX5_asks_25 : decode cX5_asks 25 = .ok (.iconst 1, 1) := by decide +kernel
theorem dX5_asks_26 : decode cX5_asks 26 = .ok (.invokevirtual 53, 3) := by decide +kernel
theorem dX5_asks_29 : decode cX5_asks 29 = .ok (.ireturn, 1) := by decide +kernel
theorem dX5_asks_30 : decode cX5_asks 30 = .ok (.aload_n 0, 1) := by decide +kernel
theorem dX5_asks_31 : decode cX5_asks 31 = .ok (.getfield 33, 3) := by decide +kernel
theorem dX5_asks_34 : decode cX5_asks 34 = .ok (.iload_n 1, 1) := by decide +kernel
theorem dX5_asks_35 : decode cX5_asks 35 = .ok (.invokevirtual 180, 3) := by decide +kernel
theorem dX5_asks_38 : decode cX5_asks 38 = .ok (.istore_n 2, 1) := by decide +kernel
theorem dX5_asks_39 : decode cX5_asks 39 = .ok (.aload_n 0, 1) := by decide +kernel
theorem dX5_asks_40 : decode cX5_asks 40 = .ok (.iload_n 2, 1) := by decide +kernel
theorem dX5_asks_41 : decode cX5_asks 41 = .ok (.aload_n 0, 1) := by decide +kernel
theorem dX5_asks_42 : decode cX5_asks 42 = .ok (.getfield 33, 3) := by decide +kernel
theorem dX5_asks_45 : decode cX5_asks 45 = .ok (.getfield 138, 3) := by decide +kernel
theorem dX5_asks_48 : decode cX5_asks 48 = .ok (.iconst (-1), 1) := by decide +kernel
theorem dX5_asks_49 : decode cX5_asks 49 = .ok (.ixor, 1) := by decide +kernel
theorem dX5_asks_50 : decode cX5_asks 50 = .ok (.iand, 1) := by decide +kernel
theorem dX5_asks_51 : decode cX5_asks 51 = .ok (.putfield 68, 3) := by decide +kernel
theorem dX5_asks_54 : decode cX5_asks 54 = .ok (.iload_n 2, 1) := by decide +kernel
theorem dX5_asks_55 : decode cX5_asks 55 = .ok (.ireturn, 1) := by decide +kernel
theorem dX5_draw_0 : decode cX5_draw 0 = .ok (.aload_n 0, 1) := by decide +kernel
theorem dX5_draw_1 : decode cX5_draw 1 = .ok (.getfield 33, 3) := by decide +kernel
theorem dX5_draw_4 : decode cX5_draw 4 = .ok (.iload_n 1, 1) := by decide +kernel
theorem dX5_draw_5 : decode cX5_draw 5 = .ok (.invokevirtual 113, 3) := by decide +kernel
theorem dX5_draw_8 : decode cX5_draw 8 = .ok (.ifCond .ne 5, 3) := by decide +kernel
theorem dX5_draw_11 : decode cX5_draw 11 = .ok (.iconst (-1), 1) := by decide +kernel
theorem dX5_draw_12 : decode cX5_draw 12 = .ok (.ireturn, 1) := by decide +kernel
theorem dX5_draw_13 : decode cX5_draw 13 = .ok (.aload_n 0, 1) := by decide +kernel
theorem dX5_draw_14 : decode cX5_draw 14 = .ok (.getfield 33, 3) := by decide +kernel
theorem dX5_draw_17 : decode cX5_draw 17 = .ok (.iload_n 1, 1) := by decide +kernel
theorem dX5_draw_18 : decode cX5_draw 18 = .ok (.invokevirtual 120, 3) := by decide +kernel
theorem dX5_draw_21 : decode cX5_draw 21 = .ok (.ifCond .ne 9, 3) := by decide +kernel
theorem dX5_draw_24 : decode cX5_draw 24 = .ok (.aload_n 0, 1) := by decide +kernel
theorem dX5_draw_25 : decode cX5_draw 25 = .ok (.iconst 1, 1) := by decide +kernel
theorem dX5_draw_26 : decode cX5_draw 26 = .ok (.invokevirtual 53, 3) := by decide +kernel
theorem dX5_draw_29 : decode cX5_draw 29 = .ok (.ireturn, 1) := by decide +kernel
theorem dX5_draw_30 : decode cX5_draw 30 = .ok (.aload_n 0, 1) := by decide +kernel
theorem dX5_draw_31 : decode cX5_draw 31 = .ok (.getfield 33, 3) := by decide +kernel
theorem dX5_draw_34 : decode cX5_draw 34 = .ok (.iload_n 1, 1) := by decide +kernel
theorem dX5_draw_35 : decode cX5_draw 35 = .ok (.invokevirtual 183, 3) := by decide +kernel
theorem dX5_draw_38 : decode cX5_draw 38 = .ok (.ifCond .eq 14, 3) := by decide +kernel
theorem dX5_draw_41 : decode cX5_draw 41 = .ok (.aload_n 0, 1) := by decide +kernel
theorem dX5_draw_42 : decode cX5_draw 42 = .ok (.getfield 33, 3) := by decide +kernel
theorem dX5_draw_45 : decode cX5_draw 45 = .ok (.iload_n 1, 1) := by decide +kernel
theorem dX5_draw_46 : decode cX5_draw 46 = .ok (.invokevirtual 186, 3) := by decide +kernel
theorem dX5_draw_49 : decode cX5_draw 49 = .ok (.ifCond .ne 6, 3) := by decide +kernel
theorem dX5_draw_52 : decode cX5_draw 52 = .ok (.bipush (-4), 2) := by decide +kernel
theorem dX5_draw_54 : decode cX5_draw 54 = .ok (.ireturn, 1) := by decide +kernel
theorem dX5_draw_55 : decode cX5_draw 55 = .ok (.aload_n 0, 1) := by decide +kernel
theorem dX5_draw_56 : decode cX5_draw 56 = .ok (.getfield 33, 3) := by decide +kernel
theorem dX5_draw_59 : decode cX5_draw 59 = .ok (.iload_n 1, 1) := by decide +kernel
theorem dX5_draw_60 : decode cX5_draw 60 = .ok (.invokevirtual 189, 3) := by decide +kernel
theorem dX5_draw_63 : decode cX5_draw 63 = .ok (.iconst 1, 1) := by decide +kernel
theorem dX5_draw_64 : decode cX5_draw 64 = .ok (.ireturn, 1) := by decide +kernel
theorem dX5_free_0 : decode cX5_free 0 = .ok (.iconst 0, 1) := by decide +kernel
theorem dX5_free_1 : decode cX5_free 1 = .ok (.istore_n 1, 1) := by decide +kernel
theorem dX5_free_2 : decode cX5_free 2 = .ok (.iconst 0, 1) := by decide +kernel
theorem dX5_free_3 : decode cX5_free 3 = .ok (.istore_n 2, 1) := by decide +kernel
theorem dX5_free_4 : decode cX5_free 4 = .ok (.iconst 0, 1) := by decide +kernel
theorem dX5_free_5 : decode cX5_free 5 = .ok (.istore_n 3, 1) := by decide +kernel
theorem dX5_free_6 : decode cX5_free 6 = .ok (.iload_n 3, 1) := by decide +kernel
theorem dX5_free_7 : decode cX5_free 7 = .ok (.aload_n 0, 1) := by decide +kernel
theorem dX5_free_8 : decode cX5_free 8 = .ok (.getfield 33, 3) := by decide +kernel
theorem dX5_free_11 : decode cX5_free 11 = .ok (.getfield 110, 3) := by decide +kernel
theorem dX5_free_14 : decode cX5_free 14 = .ok (.if_icmp .ge 58, 3) := by decide +kernel
theorem dX5_free_17 : decode cX5_free 17 = .ok (.aload_n 0, 1) := by decide +kernel
theorem dX5_free_18 : decode cX5_free 18 = .ok (.getfield 33, 3) := by decide +kernel
theorem dX5_free_21 : decode cX5_free 21 = .ok (.iload_n 3, 1) := by decide +kernel
theorem dX5_free_22 : decode cX5_free 22 = .ok (.invokevirtual 120, 3) := by decide +kernel
theorem dX5_free_25 : decode cX5_free 25 = .ok (.ifCond .eq 41, 3) := by decide +kernel
theorem dX5_free_28 : decode cX5_free 28 = .ok (.aload_n 0, 1) := by decide +kernel
theorem dX5_free_29 : decode cX5_free 29 = .ok (.getfield 33, 3) := by decide +kernel
theorem dX5_free_32 : decode cX5_free 32 = .ok (.iload_n 3, 1) := by decide +kernel
theorem dX5_free_33 : decode cX5_free 33 = .ok (.invokevirtual 186, 3) := by decide +kernel
theorem dX5_free_36 : decode cX5_free 36 = .ok (.ifCond .eq 30, 3) := by decide +kernel
theorem dX5_free_39 : decode cX5_free 39 = .ok (.iload_n 2, 1) := by decide +kernel
theorem dX5_free_40 : decode cX5_free 40 = .ok (.iconst 1, 1) := by decide +kernel
theorem dX5_free_41 : decode cX5_free 41 = .ok (.iload_n 3, 1) := by decide +kernel
theorem dX5_free_42 : decode cX5_free 42 = .ok (.ishl, 1) := by decide +kernel
theorem dX5_free_43 : decode cX5_free 43 = .ok (.ior, 1) := by decide +kernel
theorem dX5_free_44 : decode cX5_free 44 = .ok (.istore_n 2, 1) := by decide +kernel
theorem dX5_free_45 : decode cX5_free 45 = .ok (.iload_n 1, 1) := by decide +kernel
theorem dX5_free_46 : decode cX5_free 46 = .ok (.aload_n 0, 1) := by decide +kernel
theorem dX5_free_47 : decode cX5_free 47 = .ok (.getfield 33, 3) := by decide +kernel
theorem dX5_free_50 : decode cX5_free 50 = .ok (.iload_n 3, 1) := by decide +kernel
theorem dX5_free_51 : decode cX5_free 51 = .ok (.invokevirtual 183, 3) := by decide +kernel
theorem dX5_free_54 : decode cX5_free 54 = .ok (.ifCond .eq 9, 3) := by decide +kernel
theorem dX5_free_57 : decode cX5_free 57 = .ok (.iconst 1, 1) := by decide +kernel
theorem dX5_free_58 : decode cX5_free 58 = .ok (.iload_n 3, 1) := by decide +kernel
theorem dX5_free_59 : decode cX5_free 59 = .ok (.ishl, 1) := by decide +kernel
theorem dX5_free_60 : decode cX5_free 60 = .ok (.goto 4, 3) := by decide +kernel
theorem dX5_free_63 : decode cX5_free 63 = .ok (.iconst 0, 1) := by decide +kernel
theorem dX5_free_64 : decode cX5_free 64 = .ok (.ior, 1) := by decide +kernel
theorem dX5_free_65 : decode cX5_free 65 = .ok (.istore_n 1, 1) := by decide +kernel
theorem dX5_free_66 : decode cX5_free 66 = .ok (.iinc 3 1, 3) := by decide +kernel
theorem dX5_free_69 : decode cX5_free 69 = .ok (.goto (-63), 3) := by decide +kernel
theorem dX5_free_72 : decode cX5_free 72 = .ok (.aload_n 0, 1) := by decide +kernel
theorem dX5_free_73 : decode cX5_free 73 = .ok (.iload_n 2, 1) := by decide +kernel
theorem dX5_free_74 : decode cX5_free 74 = .ok (.putfield 68, 3) := by decide +kernel
theorem dX5_free_77 : decode cX5_free 77 = .ok (.iload_n 1, 1) := by decide +kernel
theorem dX5_free_78 : decode cX5_free 78 = .ok (.ireturn, 1) := by decide +kernel
theorem dX5_undo_0 : decode cX5_undo 0 = .ok (.aload_n 0, 1) := by decide +kernel
theorem dX5_undo_1 : decode cX5_undo 1 = .ok (.getfield 33, 3) := by decide +kernel
theorem dX5_undo_4 : decode cX5_undo 4 = .ok (.invokevirtual 193, 3) := by decide +kernel
theorem dX5_undo_7 : decode cX5_undo 7 = .ok (.istore_n 1, 1) := by decide +kernel
theorem dX5_undo_8 : decode cX5_undo 8 = .ok (.iload_n 1, 1) := by decide +kernel
theorem dX5_undo_9 : decode cX5_undo 9 = .ok (.bipush (-9), 2) := by decide +kernel
theorem dX5_undo_11 : decode cX5_undo 11 = .ok (.if_icmp .eq 14, 3) := by decide +kernel
theorem dX5_undo_14 : decode cX5_undo 14 = .ok (.aload_n 0, 1) := by decide +kernel
theorem dX5_undo_15 : decode cX5_undo 15 = .ok (.getfield 33, 3) := by decide +kernel
theorem dX5_undo_18 : decode cX5_undo 18 = .ok (.iload_n 1, 1) := by decide +kernel
theorem dX5_undo_19 : decode cX5_undo 19 = .ok (.invokevirtual 196, 3) := by decide +kernel
theorem dX5_undo_22 : decode cX5_undo 22 = .ok (.ifCond .ne 6, 3) := by decide +kernel
theorem dX5_undo_25 : decode cX5_undo 25 = .ok (.bipush (-4), 2) := by decide +kernel
theorem dX5_undo_27 : decode cX5_undo 27 = .ok (.ireturn, 1) := by decide +kernel
theorem dX5_undo_28 : decode cX5_undo 28 = .ok (.aload_n 0, 1) := by decide +kernel
theorem dX5_undo_29 : decode cX5_undo 29 = .ok (.getfield 33, 3) := by decide +kernel
theorem dX5_undo_32 : decode cX5_undo 32 = .ok (.iload_n 1, 1) := by decide +kernel
theorem dX5_undo_33 : decode cX5_undo 33 = .ok (.invokevirtual 199, 3) := by decide +kernel
theorem dX5_undo_36 : decode cX5_undo 36 = .ok (.iload_n 1, 1) := by decide +kernel
theorem dX5_undo_37 : decode cX5_undo 37 = .ok (.ireturn, 1) := by decide +kernel
theorem dX5_ahead_0 : decode cX5_ahead 0 = .ok (.aload_n 0, 1) := by decide +kernel
theorem dX5_ahead_1 : decode cX5_ahead 1 = .ok (.getfield 33, 3) := by decide +kernel
theorem dX5_ahead_4 : decode cX5_ahead 4 = .ok (.iload_n 1, 1) := by decide +kernel
theorem dX5_ahead_5 : decode cX5_ahead 5 = .ok (.invokevirtual 113, 3) := by decide +kernel
theorem dX5_ahead_8 : decode cX5_ahead 8 = .ok (.ifCond .eq 10, 3) := by decide +kernel
theorem dX5_ahead_11 : decode cX5_ahead 11 = .ok (.iload_n 2, 1) := by decide +kernel
theorem dX5_ahead_12 : decode cX5_ahead 12 = .ok (.invokestatic 49, 3) := by decide +kernel
theorem dX5_ahead_15 : decode cX5_ahead 15 = .ok (.ifCond .ne 5, 3) := by decide +kernel
theorem dX5_ahead_18 : decode cX5_ahead 18 = .ok (.iconst (-1), 1) := by decide +kernel
theorem dX5_ahead_19 : decode cX5_ahead 19 = .ok (.ireturn, 1) := by decide +kernel
theorem dX5_ahead_20 : decode cX5_ahead 20 = .ok (.aload_n 0, 1) := by decide +kernel
theorem dX5_ahead_21 : decode cX5_ahead 21 = .ok (.getfield 33, 3) := by decide +kernel
theorem dX5_ahead_24 : decode cX5_ahead 24 = .ok (.iload_n 1, 1) := by decide +kernel
theorem dX5_ahead_25 : decode cX5_ahead 25 = .ok (.invokevirtual 120, 3) := by decide +kernel
theorem dX5_ahead_28 : decode cX5_ahead 28 = .ok (.ifCond .ne 9, 3) := by decide +kernel
theorem dX5_ahead_31 : decode cX5_ahead 31 = .ok (.aload_n 0, 1) := by decide +kernel
theorem dX5_ahead_32 : decode cX5_ahead 32 = .ok (.iconst 1, 1) := by decide +kernel
theorem dX5_ahead_33 : decode cX5_ahead 33 = .ok (.invokevirtual 53, 3) := by decide +kernel
theorem dX5_ahead_36 : decode cX5_ahead 36 = .ok (.ireturn, 1) := by decide +kernel
theorem dX5_ahead_37 : decode cX5_ahead 37 = .ok (.aload_n 0, 1) := by decide +kernel
theorem dX5_ahead_38 : decode cX5_ahead 38 = .ok (.getfield 33, 3) := by decide +kernel
theorem dX5_ahead_41 : decode cX5_ahead 41 = .ok (.iload_n 1, 1) := by decide +kernel
theorem dX5_ahead_42 : decode cX5_ahead 42 = .ok (.invokevirtual 165, 3) := by decide +kernel
theorem dX5_ahead_45 : decode cX5_ahead 45 = .ok (.ifCond .eq 6, 3) := by decide +kernel
theorem dX5_ahead_48 : decode cX5_ahead 48 = .ok (.bipush (-4), 2) := by decide +kernel
theorem dX5_ahead_50 : decode cX5_ahead 50 = .ok (.ireturn, 1) := by decide +kernel
theorem dX5_ahead_51 : decode cX5_ahead 51 = .ok (.aload_n 0, 1) := by decide +kernel
theorem dX5_ahead_52 : decode cX5_ahead 52 = .ok (.getfield 33, 3) := by decide +kernel
theorem dX5_ahead_55 : decode cX5_ahead 55 = .ok (.iconst 1, 1) := by decide +kernel
theorem dX5_ahead_56 : decode cX5_ahead 56 = .ok (.iload_n 1, 1) := by decide +kernel
theorem dX5_ahead_57 : decode cX5_ahead 57 = .ok (.ishl, 1) := by decide +kernel
theorem dX5_ahead_58 : decode cX5_ahead 58 = .ok (.invokevirtual 174, 3) := by decide +kernel
theorem dX5_ahead_61 : decode cX5_ahead 61 = .ok (.istore_n 3, 1) := by decide +kernel
theorem dX5_ahead_62 : decode cX5_ahead 62 = .ok (.aload_n 0, 1) := by decide +kernel
theorem dX5_ahead_63 : decode cX5_ahead 63 = .ok (.getfield 33, 3) := by decide +kernel
theorem dX5_ahead_66 : decode cX5_ahead 66 = .ok (.iload_n 1, 1) := by decide +kernel
theorem dX5_ahead_67 : decode cX5_ahead 67 = .ok (.invokevirtual 180, 3) := by decide +kernel
theorem dX5_ahead_70 : decode cX5_ahead 70 = .ok (.istore 4, 2) := by decide +kernel
theorem dX5_ahead_72 : decode cX5_ahead 72 = .ok (.iconst 0, 1) := by decide +kernel
theorem dX5_ahead_73 : decode cX5_ahead 73 = .ok (.istore 5, 2) := by decide +kernel
theorem dX5_ahead_75 : decode cX5_ahead 75 = .ok (.iload 5, 2) := by decide +kernel
theorem dX5_ahead_77 : decode cX5_ahead 77 = .ok (.aload_n 0, 1) := by decide +kernel
theorem dX5_ahead_78 : decode cX5_ahead 78 = .ok (.getfield 33, 3) := by decide +kernel
theorem dX5_ahead_81 : decode cX5_ahead 81 = .ok (.getfield 110, 3) := by decide +kernel
theorem dX5_ahead_84 : decode cX5_ahead 84 = .ok (.if_icmp .ge 37, 3) := by decide +kernel
theorem dX5_ahead_87 : decode cX5_ahead 87 = .ok (.iload 4, 2) := by decide +kernel
theorem dX5_ahead_89 : decode cX5_ahead 89 = .ok (.iload_n 3, 1) := by decide +kernel
theorem dX5_ahead_90 : decode cX5_ahead 90 = .ok (.iload 5, 2) := by decide +kernel
theorem dX5_ahead_92 : decode cX5_ahead 92 = .ok (.ishr, 1) := by decide +kernel
theorem dX5_ahead_93 : decode cX5_ahead 93 = .ok (.iconst 1, 1) := by decide +kernel
theorem dX5_ahead_94 : decode cX5_ahead 94 = .ok (.iand, 1) := by decide +kernel
theorem dX5_ahead_95 : decode cX5_ahead 95 = .ok (.iconst 1, 1) := by decide +kernel
theorem dX5_ahead_96 : decode cX5_ahead 96 = .ok (.if_icmp .ne 15, 3) := by decide +kernel
theorem dX5_ahead_99 : decode cX5_ahead 99 = .ok (.aload_n 0, 1) := by decide +kernel
theorem dX5_ahead_100 : decode cX5_ahead 100 = .ok (.getfield 33, 3) := by decide +kernel
theorem dX5_ahead_103 : decode cX5_ahead 103 = .ok (.iload 5, 2) := by decide +kernel
theorem dX5_ahead_105 : decode cX5_ahead 105 = .ok (.invokevirtual 180, 3) := by decide +kernel
theorem dX5_ahead_108 : decode cX5_ahead 108 = .ok (.goto 4, 3) := by decide +kernel
theorem dX5_ahead_111 : decode cX5_ahead 111 = .ok (.iconst 0, 1) := by decide +kernel
theorem dX5_ahead_112 : decode cX5_ahead 112 = .ok (.ior, 1) := by decide +kernel
theorem dX5_ahead_113 : decode cX5_ahead 113 = .ok (.istore 4, 2) := by decide +kernel
theorem dX5_ahead_115 : decode cX5_ahead 115 = .ok (.iinc 5 1, 3) := by decide +kernel
theorem dX5_ahead_118 : decode cX5_ahead 118 = .ok (.goto (-43), 3) := by decide +kernel
theorem dX5_ahead_121 : decode cX5_ahead 121 = .ok (.aload_n 0, 1) := by decide +kernel
theorem dX5_ahead_122 : decode cX5_ahead 122 = .ok (.getfield 10, 3) := by decide +kernel
theorem dX5_ahead_125 : decode cX5_ahead 125 = .ok (.iload_n 2, 1) := by decide +kernel
theorem dX5_ahead_126 : decode cX5_ahead 126 = .ok (.iload_n 3, 1) := by decide +kernel
theorem dX5_ahead_127 : decode cX5_ahead 127 = .ok (.invokestatic 160, 3) := by decide +kernel
theorem dX5_ahead_130 : decode cX5_ahead 130 = .ok (.invokevirtual 57, 3) := by decide +kernel
theorem dX5_ahead_133 : decode cX5_ahead 133 = .ok (.aload_n 0, 1) := by decide +kernel
theorem dX5_ahead_134 : decode cX5_ahead 134 = .ok (.getfield 33, 3) := by decide +kernel
theorem dX5_ahead_137 : decode cX5_ahead 137 = .ok (.iload_n 3, 1) := by decide +kernel
theorem dX5_ahead_138 : decode cX5_ahead 138 = .ok (.aload_n 0, 1) := by decide +kernel
theorem dX5_ahead_139 : decode cX5_ahead 139 = .ok (.getfield 10, 3) := by decide +kernel
theorem dX5_ahead_142 : decode cX5_ahead 142 = .ok (.getfield 64, 3) := by decide +kernel
theorem dX5_ahead_145 : decode cX5_ahead 145 = .ok (.iload_n 2, 1) := by decide +kernel
theorem dX5_ahead_146 : decode cX5_ahead 146 = .ok (.aaload, 1) := by decide +kernel
theorem dX5_ahead_147 : decode cX5_ahead 147 = .ok (.invokevirtual 202, 3) := by decide +kernel
theorem dX5_ahead_150 : decode cX5_ahead 150 = .ok (.aload_n 0, 1) := by decide +kernel
theorem dX5_ahead_151 : decode cX5_ahead 151 = .ok (.iload 4, 2) := by decide +kernel
theorem dX5_ahead_153 : decode cX5_ahead 153 = .ok (.putfield 68, 3) := by decide +kernel
theorem dX5_ahead_156 : decode cX5_ahead 156 = .ok (.aload_n 0, 1) := by decide +kernel
theorem dX5_ahead_157 : decode cX5_ahead 157 = .ok (.getfield 10, 3) := by decide +kernel
theorem dX5_ahead_160 : decode cX5_ahead 160 = .ok (.getfield 61, 3) := by decide +kernel
theorem dX5_ahead_163 : decode cX5_ahead 163 = .ok (.iload_n 2, 1) := by decide +kernel
theorem dX5_ahead_164 : decode cX5_ahead 164 = .ok (.iaload, 1) := by decide +kernel
theorem dX5_ahead_165 : decode cX5_ahead 165 = .ok (.ireturn, 1) := by decide +kernel
theorem dX5_rests_0 : decode cX5_rests 0 = .ok (.aload_n 0, 1) := by decide +kernel
theorem dX5_rests_1 : decode cX5_rests 1 = .ok (.getfield 33, 3) := by decide +kernel
theorem dX5_rests_4 : decode cX5_rests 4 = .ok (.iload_n 1, 1) := by decide +kernel
theorem dX5_rests_5 : decode cX5_rests 5 = .ok (.invokevirtual 113, 3) := by decide +kernel
theorem dX5_rests_8 : decode cX5_rests 8 = .ok (.ifCond .ne 5, 3) := by decide +kernel
theorem dX5_rests_11 : decode cX5_rests 11 = .ok (.iconst (-1), 1) := by decide +kernel
theorem dX5_rests_12 : decode cX5_rests 12 = .ok (.ireturn, 1) := by decide +kernel
theorem dX5_rests_13 : decode cX5_rests 13 = .ok (.aload_n 0, 1) := by decide +kernel
theorem dX5_rests_14 : decode cX5_rests 14 = .ok (.getfield 33, 3) := by decide +kernel
theorem dX5_rests_17 : decode cX5_rests 17 = .ok (.iload_n 1, 1) := by decide +kernel
theorem dX5_rests_18 : decode cX5_rests 18 = .ok (.invokevirtual 120, 3) := by decide +kernel
theorem dX5_rests_21 : decode cX5_rests 21 = .ok (.ifCond .ne 9, 3) := by decide +kernel
theorem dX5_rests_24 : decode cX5_rests 24 = .ok (.aload_n 0, 1) := by decide +kernel
theorem dX5_rests_25 : decode cX5_rests 25 = .ok (.iconst 1, 1) := by decide +kernel
theorem dX5_rests_26 : decode cX5_rests 26 = .ok (.invokevirtual 53, 3) := by decide +kernel
theorem dX5_rests_29 : decode cX5_rests 29 = .ok (.ireturn, 1) := by decide +kernel
theorem dX5_rests_30 : decode cX5_rests 30 = .ok (.aload_n 0, 1) := by decide +kernel
theorem dX5_rests_31 : decode cX5_rests 31 = .ok (.getfield 33, 3) := by decide +kernel
theorem dX5_rests_34 : decode cX5_rests 34 = .ok (.getfield 123, 3) := by decide +kernel
theorem dX5_rests_37 : decode cX5_rests 37 = .ok (.iload_n 1, 1) := by decide +kernel
theorem dX5_rests_38 : decode cX5_rests 38 = .ok (.aaload, 1) := by decide +kernel
theorem dX5_rests_39 : decode cX5_rests 39 = .ok (.astore_n 2, 1) := by decide +kernel
theorem dX5_rests_40 : decode cX5_rests 40 = .ok (.aload_n 0, 1) := by decide +kernel
theorem dX5_rests_41 : decode cX5_rests 41 = .ok (.aload_n 0, 1) := by decide +kernel
theorem dX5_rests_42 : decode cX5_rests 42 = .ok (.getfield 33, 3) := by decide +kernel
theorem dX5_rests_45 : decode cX5_rests 45 = .ok (.aload_n 2, 1) := by decide +kernel
theorem dX5_rests_46 : decode cX5_rests 46 = .ok (.getfield 206, 3) := by decide +kernel
theorem dX5_rests_49 : decode cX5_rests 49 = .ok (.iconst 1, 1) := by decide +kernel
theorem dX5_rests_50 : decode cX5_rests 50 = .ok (.iadd, 1) := by decide +kernel
theorem dX5_rests_51 : decode cX5_rests 51 = .ok (.aload_n 2, 1) := by decide +kernel
theorem dX5_rests_52 : decode cX5_rests 52 = .ok (.getfield 209, 3) := by decide +kernel
theorem dX5_rests_55 : decode cX5_rests 55 = .ok (.aload_n 0, 1) := by decide +kernel
theorem dX5_rests_56 : decode cX5_rests 56 = .ok (.getfield 33, 3) := by decide +kernel
theorem dX5_rests_59 : decode cX5_rests 59 = .ok (.getfield 154, 3) := by decide +kernel
theorem dX5_rests_62 : decode cX5_rests 62 = .ok (.invokevirtual 212, 3) := by decide +kernel
theorem dX5_rests_65 : decode cX5_rests 65 = .ok (.putfield 68, 3) := by decide +kernel
theorem dX5_rests_68 : decode cX5_rests 68 = .ok (.aload_n 0, 1) := by decide +kernel
theorem dX5_rests_69 : decode cX5_rests 69 = .ok (.getfield 33, 3) := by decide +kernel
theorem dX5_rests_72 : decode cX5_rests 72 = .ok (.aload_n 2, 1) := by decide +kernel
theorem dX5_rests_73 : decode cX5_rests 73 = .ok (.getfield 206, 3) := by decide +kernel
theorem dX5_rests_76 : decode cX5_rests 76 = .ok (.iconst 1, 1) := by decide +kernel
theorem dX5_rests_77 : decode cX5_rests 77 = .ok (.isub, 1) := by decide +kernel
theorem dX5_rests_78 : decode cX5_rests 78 = .ok (.aload_n 2, 1) := by decide +kernel
theorem dX5_rests_79 : decode cX5_rests 79 = .ok (.getfield 209, 3) := by decide +kernel
theorem dX5_rests_82 : decode cX5_rests 82 = .ok (.aload_n 0, 1) := by decide +kernel
theorem dX5_rests_83 : decode cX5_rests 83 = .ok (.getfield 33, 3) := by decide +kernel
theorem dX5_rests_86 : decode cX5_rests 86 = .ok (.invokevirtual 150, 3) := by decide +kernel
theorem dX5_rests_89 : decode cX5_rests 89 = .ok (.invokevirtual 212, 3) := by decide +kernel
theorem dX5_rests_92 : decode cX5_rests 92 = .ok (.ireturn, 1) := by decide +kernel
theorem dX5_props_0 : decode cX5_props 0 = .ok (.aload_n 0, 1) := by decide +kernel
theorem dX5_props_1 : decode cX5_props 1 = .ok (.getfield 33, 3) := by decide +kernel
theorem dX5_props_4 : decode cX5_props 4 = .ok (.iload_n 1, 1) := by decide +kernel
theorem dX5_props_5 : decode cX5_props 5 = .ok (.invokevirtual 113, 3) := by decide +kernel
theorem dX5_props_8 : decode cX5_props 8 = .ok (.ifCond .ne 5, 3) := by decide +kernel
theorem dX5_props_11 : decode cX5_props 11 = .ok (.iconst (-1), 1) := by decide +kernel
theorem dX5_props_12 : decode cX5_props 12 = .ok (.ireturn, 1) := by decide +kernel
theorem dX5_props_13 : decode cX5_props 13 = .ok (.aload_n 0, 1) := by decide +kernel
theorem dX5_props_14 : decode cX5_props 14 = .ok (.getfield 33, 3) := by decide +kernel
theorem dX5_props_17 : decode cX5_props 17 = .ok (.iload_n 1, 1) := by decide +kernel
theorem dX5_props_18 : decode cX5_props 18 = .ok (.invokevirtual 120, 3) := by decide +kernel
theorem dX5_props_21 : decode cX5_props 21 = .ok (.ifCond .ne 9, 3) := by decide +kernel
theorem dX5_props_24 : decode cX5_props 24 = .ok (.aload_n 0, 1) := by decide +kernel
theorem dX5_props_25 : decode cX5_props 25 = .ok (.iconst 1, 1) := by decide +kernel
theorem dX5_props_26 : decode cX5_props 26 = .ok (.invokevirtual 53, 3) := by decide +kernel
theorem dX5_props_29 : decode cX5_props 29 = .ok (.ireturn, 1) := by decide +kernel
theorem dX5_props_30 : decode cX5_props 30 = .ok (.aload_n 0, 1) := by decide +kernel
theorem dX5_props_31 : decode cX5_props 31 = .ok (.aload_n 0, 1) := by decide +kernel
theorem dX5_props_32 : decode cX5_props 32 = .ok (.getfield 33, 3) := by decide +kernel
theorem dX5_props_35 : decode cX5_props 35 = .ok (.iload_n 1, 1) := by decide +kernel
theorem dX5_props_36 : decode cX5_props 36 = .ok (.invokevirtual 216, 3) := by decide +kernel
theorem dX5_props_39 : decode cX5_props 39 = .ok (.putfield 68, 3) := by decide +kernel
theorem dX5_props_42 : decode cX5_props 42 = .ok (.aload_n 0, 1) := by decide +kernel
theorem dX5_props_43 : decode cX5_props 43 = .ok (.getfield 68, 3) := by decide +kernel
theorem dX5_props_46 : decode cX5_props 46 = .ok (.invokestatic 160, 3) := by decide +kernel
theorem dX5_props_49 : decode cX5_props 49 = .ok (.ireturn, 1) := by decide +kernel
theorem dX5_set_0 : decode cX5_set 0 = .ok (.iload_n 1, 1) := by decide +kernel
theorem dX5_set_1 : decode cX5_set 1 = .ok (.ifCond .lt 19, 3) := by decide +kernel
theorem dX5_set_4 : decode cX5_set 4 = .ok (.iload_n 1, 1) := by decide +kernel
theorem dX5_set_5 : decode cX5_set 5 = .ok (.bipush 6, 2) := by decide +kernel
theorem dX5_set_7 : decode cX5_set 7 = .ok (.if_icmp .ge 13, 3) := by decide +kernel
theorem dX5_set_10 : decode cX5_set 10 = .ok (.iload_n 2, 1) := by decide +kernel
theorem dX5_set_11 : decode cX5_set 11 = .ok (.ifCond .lt 9, 3) := by decide +kernel
theorem dX5_set_14 : decode cX5_set 14 = .ok (.iload_n 2, 1) := by decide +kernel
theorem dX5_set_15 : decode cX5_set 15 = .ok (.bipush 9, 2) := by decide +kernel
theorem dX5_set_17 : decode cX5_set 17 = .ok (.if_icmp .lt 5, 3) := by decide +kernel
theorem dX5_set_20 : decode cX5_set 20 = .ok (.iconst (-1), 1) := by decide +kernel
theorem dX5_set_21 : decode cX5_set 21 = .ok (.ireturn, 1) := by decide +kernel
theorem dX5_set_22 : decode cX5_set 22 = .ok (.iload_n 3, 1) := by decide +kernel
theorem dX5_set_23 : decode cX5_set 23 = .ok (.invokestatic 135, 3) := by decide +kernel
theorem dX5_set_26 : decode cX5_set 26 = .ok (.ifCond .eq 17, 3) := by decide +kernel
theorem dX5_set_29 : decode cX5_set 29 = .ok (.iload 4, 2) := by decide +kernel
theorem dX5_set_31 : decode cX5_set 31 = .ok (.invokestatic 135, 3) := by decide +kernel
theorem dX5_set_34 : decode cX5_set 34 = .ok (.ifCond .eq 9, 3) := by decide +kernel
theorem dX5_set_37 : decode cX5_set 37 = .ok (.iload_n 3, 1) := by decide +kernel
theorem dX5_set_38 : decode cX5_set 38 = .ok (.iload 4, 2) := by decide +kernel
theorem dX5_set_40 : decode cX5_set 40 = .ok (.if_icmp .ne 5, 3) := by decide +kernel
theorem dX5_set_43 : decode cX5_set 43 = .ok (.iconst (-1), 1) := by decide +kernel
theorem dX5_set_44 : decode cX5_set 44 = .ok (.ireturn, 1) := by decide +kernel
theorem dX5_set_45 : decode cX5_set 45 = .ok (.aload_n 0, 1) := by decide +kernel
theorem dX5_set_46 : decode cX5_set 46 = .ok (.getfield 33, 3) := by decide +kernel
theorem dX5_set_49 : decode cX5_set 49 = .ok (.getfield 110, 3) := by decide +kernel
theorem dX5_set_52 : decode cX5_set 52 = .ok (.bipush 14, 2) := by decide +kernel
theorem dX5_set_54 : decode cX5_set 54 = .ok (.if_icmp .lt 6, 3) := by decide +kernel
theorem dX5_set_57 : decode cX5_set 57 = .ok (.bipush (-2), 2) := by decide +kernel
theorem dX5_set_59 : decode cX5_set 59 = .ok (.ireturn, 1) := by decide +kernel
theorem dX5_set_60 : decode cX5_set 60 = .ok (.aload_n 0, 1) := by decide +kernel
theorem dX5_set_61 : decode cX5_set 61 = .ok (.getfield 33, 3) := by decide +kernel
theorem dX5_set_64 : decode cX5_set 64 = .ok (.getfield 106, 3) := by decide +kernel
theorem dX5_set_67 : decode cX5_set 67 = .ok (.ifCond .eq 18, 3) := by decide +kernel
theorem dX5_set_70 : decode cX5_set 70 = .ok (.aload_n 0, 1) := by decide +kernel
theorem dX5_set_71 : decode cX5_set 71 = .ok (.getfield 33, 3) := by decide +kernel
theorem dX5_set_74 : decode cX5_set 74 = .ok (.iload_n 1, 1) := by decide +kernel
theorem dX5_set_75 : decode cX5_set 75 = .ok (.iload_n 2, 1) := by decide +kernel
theorem dX5_set_76 : decode cX5_set 76 = .ok (.iload_n 3, 1) := by decide +kernel
theorem dX5_set_77 : decode cX5_set 77 = .ok (.iload 4, 2) := by decide +kernel
theorem dX5_set_79 : decode cX5_set 79 = .ok (.invokevirtual 219, 3) := by decide +kernel
theorem dX5_set_82 : decode cX5_set 82 = .ok (.ifCond .ne 6, 3) := by decide +kernel
theorem dX5_set_85 : decode cX5_set 85 = .ok (.bipush (-4), 2) := by decide +kernel
theorem dX5_set_87 : decode cX5_set 87 = .ok (.ireturn, 1) := by decide +kernel
theorem dX5_set_88 : decode cX5_set 88 = .ok (.aload_n 0, 1) := by decide +kernel
theorem dX5_set_89 : decode cX5_set 89 = .ok (.getfield 33, 3) := by decide +kernel
theorem dX5_set_92 : decode cX5_set 92 = .ok (.getfield 110, 3) := by decide +kernel
theorem dX5_set_95 : decode cX5_set 95 = .ok (.iconst 1, 1) := by decide +kernel
theorem dX5_set_96 : decode cX5_set 96 = .ok (.isub, 1) := by decide +kernel
theorem dX5_set_97 : decode cX5_set 97 = .ok (.ireturn, 1) := by decide +kernel
theorem dX5_soon_0 : decode cX5_soon 0 = .ok (.aload_n 0, 1) := by decide +kernel
theorem dX5_soon_1 : decode cX5_soon 1 = .ok (.getfield 33, 3) := by decide +kernel
theorem dX5_soon_4 : decode cX5_soon 4 = .ok (.getfield 106, 3) := by decide +kernel
theorem dX5_soon_7 : decode cX5_soon 7 = .ok (.ifCond .ne 6, 3) := by decide +kernel
theorem dX5_soon_10 : decode cX5_soon 10 = .ok (.bipush (-4), 2) := by decide +kernel
theorem dX5_soon_12 : decode cX5_soon 12 = .ok (.ireturn, 1) := by decide +kernel
theorem dX5_soon_13 : decode cX5_soon 13 = .ok (.bipush (-9), 2) := by decide +kernel
theorem dX5_soon_15 : decode cX5_soon 15 = .ok (.istore_n 1, 1) := by decide +kernel
theorem dX5_soon_16 : decode cX5_soon 16 = .ok (.iconst 0, 1) := by decide +kernel
theorem dX5_soon_17 : decode cX5_soon 17 = .ok (.istore_n 2, 1) := by decide +kernel
theorem dX5_soon_18 : decode cX5_soon 18 = .ok (.iconst 0, 1) := by decide +kernel
theorem dX5_soon_19 : decode cX5_soon 19 = .ok (.istore_n 3, 1) := by decide +kernel
theorem dX5_soon_20 : decode cX5_soon 20 = .ok (.iload_n 3, 1) := by decide +kernel
theorem dX5_soon_21 : decode cX5_soon 21 = .ok (.bipush 6, 2) := by decide +kernel
theorem dX5_soon_23 : decode cX5_soon 23 = .ok (.if_icmp .ge 57, 3) := by decide +kernel
theorem dX5_soon_26 : decode cX5_soon 26 = .ok (.iconst 0, 1) := by decide +kernel
theorem dX5_soon_27 : decode cX5_soon 27 = .ok (.istore 4, 2) := by decide +kernel
theorem dX5_soon_29 : decode cX5_soon 29 = .ok (.iload 4, 2) := by decide +kernel
theorem dX5_soon_31 : decode cX5_soon 31 = .ok (.bipush 9, 2) := by decide +kernel
theorem dX5_soon_33 : decode cX5_soon 33 = .ok (.if_icmp .ge 41, 3) := by decide +kernel
theorem dX5_soon_36 : decode cX5_soon 36 = .ok (.aload_n 0, 1) := by decide +kernel
theorem dX5_soon_37 : decode cX5_soon 37 = .ok (.getfield 33, 3) := by decide +kernel
theorem dX5_soon_40 : decode cX5_soon 40 = .ok (.iload_n 3, 1) := by decide +kernel
theorem dX5_soon_41 : decode cX5_soon 41 = .ok (.iload 4, 2) := by decide +kernel
theorem dX5_soon_43 : decode cX5_soon 43 = .ok (.invokevirtual 223, 3) := by decide +kernel
theorem dX5_soon_46 : decode cX5_soon 46 = .ok (.ifCond .eq 22, 3) := by decide +kernel
theorem dX5_soon_49 : decode cX5_soon 49 = .ok (.iload_n 2, 1) := by decide +kernel
theorem dX5_soon_50 : decode cX5_soon 50 = .ok (.ifCond .ne 13, 3) := by decide +kernel
theorem dX5_soon_53 : decode cX5_soon 53 = .ok (.bipush 10, 2) := by decide +kernel
theorem dX5_soon_55 : decode cX5_soon 55 = .ok (.iload_n 3, 1) := by decide +kernel
theorem dX5_soon_56 : decode cX5_soon 56 = .ok (.imul, 1) := by decide +kernel
theorem dX5_soon_57 : decode cX5_soon 57 = .ok (.iload 4, 2) := by decide +kernel
theorem dX5_soon_59 : decode cX5_soon 59 = .ok (.iadd, 1) := by decide +kernel
theorem dX5_soon_60 : decode cX5_soon 60 = .ok (.goto 4, 3) := by decide +kernel
theorem dX5_soon_63 : decode cX5_soon 63 = .ok (.iload_n 1, 1) := by decide +kernel
theorem dX5_soon_64 : decode cX5_soon 64 = .ok (.istore_n 1, 1) := by decide +kernel
theorem dX5_soon_65 : decode cX5_soon 65 = .ok (.iinc 2 1, 3) := by decide +kernel
theorem dX5_soon_68 : decode cX5_soon 68 = .ok (.iinc 4 1, 3) := by decide +kernel
theorem dX5_soon_71 : decode cX5_soon 71 = .ok (.goto (-42), 3) := by decide +kernel
theorem dX5_soon_74 : decode cX5_soon 74 = .ok (.iinc 3 1, 3) := by decide +kernel
theorem dX5_soon_77 : decode cX5_soon 77 = .ok (.goto (-57), 3) := by decide +kernel
theorem dX5_soon_80 : decode cX5_soon 80 = .ok (.iload_n 2, 1) := by decide +kernel
theorem dX5_soon_81 : decode cX5_soon 81 = .ok (.ifCond .le 8, 3) := by decide +kernel
theorem dX5_soon_84 : decode cX5_soon 84 = .ok (.aload_n 0, 1) := by decide +kernel
theorem dX5_soon_85 : decode cX5_soon 85 = .ok (.iload_n 2, 1) := by decide +kernel
theorem dX5_soon_86 : decode cX5_soon 86 = .ok (.putfield 68, 3) := by decide +kernel
theorem dX5_soon_89 : decode cX5_soon 89 = .ok (.iload_n 1, 1) := by decide +kernel
theorem dX5_soon_90 : decode cX5_soon 90 = .ok (.ireturn, 1) := by decide +kernel
theorem dX5_owes_0 : decode cX5_owes 0 = .ok (.iload_n 1, 1) := by decide +kernel
theorem dX5_owes_1 : decode cX5_owes 1 = .ok (.invokestatic 135, 3) := by decide +kernel
theorem dX5_owes_4 : decode cX5_owes 4 = .ok (.ifCond .eq 15, 3) := by decide +kernel
theorem dX5_owes_7 : decode cX5_owes 7 = .ok (.iload_n 2, 1) := by decide +kernel
theorem dX5_owes_8 : decode cX5_owes 8 = .ok (.invokestatic 135, 3) := by decide +kernel
theorem dX5_owes_11 : decode cX5_owes 11 = .ok (.ifCond .eq 8, 3) := by decide +kernel
theorem dX5_owes_14 : decode cX5_owes 14 = .ok (.iload_n 1, 1) := by decide +kernel
theorem dX5_owes_15 : decode cX5_owes 15 = .ok (.iload_n 2, 1) := by decide +kernel
theorem dX5_owes_16 : decode cX5_owes 16 = .ok (.if_icmp .ne 5, 3) := by decide +kernel
theorem dX5_owes_19 : decode cX5_owes 19 = .ok (.iconst (-1), 1) := by decide +kernel
theorem dX5_owes_20 : decode cX5_owes 20 = .ok (.ireturn, 1) := by decide +kernel
theorem dX5_owes_21 : decode cX5_owes 21 = .ok (.aload_n 0, 1) := by decide +kernel
theorem dX5_owes_22 : decode cX5_owes 22 = .ok (.getfield 33, 3) := by decide +kernel
theorem dX5_owes_25 : decode cX5_owes 25 = .ok (.iload_n 1, 1) := by decide +kernel
theorem dX5_owes_26 : decode cX5_owes 26 = .ok (.iload_n 2, 1) := by decide +kernel
theorem dX5_owes_27 : decode cX5_owes 27 = .ok (.invokevirtual 227, 3) := by decide +kernel
theorem dX5_owes_30 : decode cX5_owes 30 = .ok (.ireturn, 1) := by decide +kernel
theorem dX5_rich_0 : decode cX5_rich 0 = .ok (.iconst 0, 1) := by decide +kernel
theorem dX5_rich_1 : decode cX5_rich 1 = .ok (.istore_n 1, 1) := by decide +kernel
theorem dX5_rich_2 : decode cX5_rich 2 = .ok (.aload_n 0, 1) := by decide +kernel
theorem dX5_rich_3 : decode cX5_rich 3 = .ok (.getfield 33, 3) := by decide +kernel
theorem dX5_rich_6 : decode cX5_rich 6 = .ok (.iconst 0, 1) := by decide +kernel
theorem dX5_rich_7 : decode cX5_rich 7 = .ok (.invokevirtual 230, 3) := by decide +kernel
theorem dX5_rich_10 : decode cX5_rich 10 = .ok (.istore_n 2, 1) := by decide +kernel
theorem dX5_rich_11 : decode cX5_rich 11 = .ok (.iconst 1, 1) := by decide +kernel
theorem dX5_rich_12 : decode cX5_rich 12 = .ok (.istore_n 3, 1) := by decide +kernel
theorem dX5_rich_13 : decode cX5_rich 13 = .ok (.iload_n 3, 1) := by decide +kernel
theorem dX5_rich_14 : decode cX5_rich 14 = .ok (.bipush 6, 2) := by decide +kernel
theorem dX5_rich_16 : decode cX5_rich 16 = .ok (.if_icmp .ge 30, 3) := by decide +kernel
theorem dX5_rich_19 : decode cX5_rich 19 = .ok (.aload_n 0, 1) := by decide +kernel
theorem dX5_rich_20 : decode cX5_rich 20 = .ok (.getfield 33, 3) := by decide +kernel
theorem dX5_rich_23 : decode cX5_rich 23 = .ok (.iload_n 3, 1) := by decide +kernel
theorem dX5_rich_24 : decode cX5_rich 24 = .ok (.invokevirtual 230, 3) := by decide +kernel
theorem dX5_rich_27 : decode cX5_rich 27 = .ok (.istore 4, 2) := by decide +kernel
theorem dX5_rich_29 : decode cX5_rich 29 = .ok (.iload 4, 2) := by decide +kernel
theorem dX5_rich_31 : decode cX5_rich 31 = .ok (.iload_n 2, 1) := by decide +kernel
theorem dX5_rich_32 : decode cX5_rich 32 = .ok (.if_icmp .le 8, 3) := by decide +kernel
theorem dX5_rich_35 : decode cX5_rich 35 = .ok (.iload 4, 2) := by decide +kernel
theorem dX5_rich_37 : decode cX5_rich 37 = .ok (.istore_n 2, 1) := by decide +kernel
theorem dX5_rich_38 : decode cX5_rich 38 = .ok (.iload_n 3, 1) := by decide +kernel
theorem dX5_rich_39 : decode cX5_rich 39 = .ok (.istore_n 1, 1) := by decide +kernel
theorem dX5_rich_40 : decode cX5_rich 40 = .ok (.iinc 3 1, 3) := by decide +kernel
theorem dX5_rich_43 : decode cX5_rich 43 = .ok (.goto (-30), 3) := by decide +kernel
theorem dX5_rich_46 : decode cX5_rich 46 = .ok (.aload_n 0, 1) := by decide +kernel
theorem dX5_rich_47 : decode cX5_rich 47 = .ok (.iload_n 2, 1) := by decide +kernel
theorem dX5_rich_48 : decode cX5_rich 48 = .ok (.putfield 68, 3) := by decide +kernel
theorem dX5_rich_51 : decode cX5_rich 51 = .ok (.iload_n 1, 1) := by decide +kernel
theorem dX5_rich_52 : decode cX5_rich 52 = .ok (.ireturn, 1) := by decide +kernel
theorem dX5_alone_0 : decode cX5_alone 0 = .ok (.aload_n 0, 1) := by decide +kernel
theorem dX5_alone_1 : decode cX5_alone 1 = .ok (.getfield 33, 3) := by decide +kernel
theorem dX5_alone_4 : decode cX5_alone 4 = .ok (.iload_n 1, 1) := by decide +kernel
theorem dX5_alone_5 : decode cX5_alone 5 = .ok (.invokevirtual 171, 3) := by decide +kernel
theorem dX5_alone_8 : decode cX5_alone 8 = .ok (.ifCond .eq 7, 3) := by decide +kernel
theorem dX5_alone_11 : decode cX5_alone 11 = .ok (.iload_n 1, 1) := by decide +kernel
theorem dX5_alone_12 : decode cX5_alone 12 = .ok (.ifCond .ne 5, 3) := by decide +kernel
theorem dX5_alone_15 : decode cX5_alone 15 = .ok (.iconst (-1), 1) := by decide +kernel
theorem dX5_alone_16 : decode cX5_alone 16 = .ok (.ireturn, 1) := by decide +kernel
theorem dX5_alone_17 : decode cX5_alone 17 = .ok (.bipush 63, 2) := by decide +kernel
theorem dX5_alone_19 : decode cX5_alone 19 = .ok (.istore_n 2, 1) := by decide +kernel
theorem dX5_alone_20 : decode cX5_alone 20 = .ok (.iconst 0, 1) := by decide +kernel
theorem dX5_alone_21 : decode cX5_alone 21 = .ok (.istore_n 3, 1) := by decide +kernel
theorem dX5_alone_22 : decode cX5_alone 22 = .ok (.iconst 0, 1) := by decide +kernel
theorem dX5_alone_23 : decode cX5_alone 23 = .ok (.istore 4, 2) := by decide +kernel
theorem dX5_alone_25 : decode cX5_alone 25 = .ok (.iload 4, 2) := by decide +kernel
theorem dX5_alone_27 : decode cX5_alone 27 = .ok (.aload_n 0, 1) := by decide +kernel
theorem dX5_alone_28 : decode cX5_alone 28 = .ok (.getfield 33, 3) := by decide +kernel
theorem dX5_alone_31 : decode cX5_alone 31 = .ok (.getfield 110, 3) := by decide +kernel
theorem dX5_alone_34 : decode cX5_alone 34 = .ok (.if_icmp .ge 56, 3) := by decide +kernel
theorem dX5_alone_37 : decode cX5_alone 37 = .ok (.iload_n 1, 1) := by decide +kernel
theorem dX5_alone_38 : decode cX5_alone 38 = .ok (.iload 4, 2) := by decide +kernel
theorem dX5_alone_40 : decode cX5_alone 40 = .ok (.ishr, 1) := by decide +kernel
theorem dX5_alone_41 : decode cX5_alone 41 = .ok (.iconst 1, 1) := by decide +kernel
theorem dX5_alone_42 : decode cX5_alone 42 = .ok (.iand, 1) := by decide +kernel
theorem dX5_alone_43 : decode cX5_alone 43 = .ok (.iconst 1, 1) := by decide +kernel
theorem dX5_alone_44 : decode cX5_alone 44 = .ok (.if_icmp .ne 40, 3) := by decide +kernel
theorem dX5_alone_47 : decode cX5_alone 47 = .ok (.aload_n 0, 1) := by decide +kernel
theorem dX5_alone_48 : decode cX5_alone 48 = .ok (.getfield 33, 3) := by decide +kernel
theorem dX5_alone_51 : decode cX5_alone 51 = .ok (.getfield 123, 3) := by decide +kernel
theorem dX5_alone_54 : decode cX5_alone 54 = .ok (.iload 4, 2) := by decide +kernel
theorem dX5_alone_56 : decode cX5_alone 56 = .ok (.aaload, 1) := by decide +kernel
theorem dX5_alone_57 : decode cX5_alone 57 = .ok (.invokevirtual 233, 3) := by decide +kernel
theorem dX5_alone_60 : decode cX5_alone 60 = .ok (.istore 5, 2) := by decide +kernel
theorem dX5_alone_62 : decode cX5_alone 62 = .ok (.iload_n 2, 1) := by decide +kernel
theorem dX5_alone_63 : decode cX5_alone 63 = .ok (.iload 5, 2) := by decide +kernel
theorem dX5_alone_65 : decode cX5_alone 65 = .ok (.iand, 1) := by decide +kernel
theorem dX5_alone_66 : decode cX5_alone 66 = .ok (.istore_n 2, 1) := by decide +kernel
theorem dX5_alone_67 : decode cX5_alone 67 = .ok (.iload_n 3, 1) := by decide +kernel
theorem dX5_alone_68 : decode cX5_alone 68 = .ok (.iload 5, 2) := by decide +kernel
theorem dX5_alone_70 : decode cX5_alone 70 = .ok (.invokestatic 160, 3) := by decide +kernel
theorem dX5_alone_73 : decode cX5_alone 73 = .ok (.iconst 1, 1) := by decide +kernel
theorem dX5_alone_74 : decode cX5_alone 74 = .ok (.if_icmp .ne 7, 3) := by decide +kernel
theorem dX5_alone_77 : decode cX5_alone 77 = .ok (.iconst 1, 1) := by decide +kernel
theorem dX5_alone_78 : decode cX5_alone 78 = .ok (.goto 4, 3) := by decide +kernel
theorem dX5_alone_81 : decode cX5_alone 81 = .ok (.iconst 0, 1) := by decide +kernel
theorem dX5_alone_82 : decode cX5_alone 82 = .ok (.iadd, 1) := by decide +kernel
theorem dX5_alone_83 : decode cX5_alone 83 = .ok (.istore_n 3, 1) := by decide +kernel
theorem dX5_alone_84 : decode cX5_alone 84 = .ok (.iinc 4 1, 3) := by decide +kernel
theorem dX5_alone_87 : decode cX5_alone 87 = .ok (.goto (-62), 3) := by decide +kernel
theorem dX5_alone_90 : decode cX5_alone 90 = .ok (.aload_n 0, 1) := by decide +kernel
theorem dX5_alone_91 : decode cX5_alone 91 = .ok (.iload_n 3, 1) := by decide +kernel
theorem dX5_alone_92 : decode cX5_alone 92 = .ok (.putfield 68, 3) := by decide +kernel
theorem dX5_alone_95 : decode cX5_alone 95 = .ok (.iload_n 2, 1) := by decide +kernel
theorem dX5_alone_96 : decode cX5_alone 96 = .ok (.ireturn, 1) := by decide +kernel
theorem dX5_few_0 : decode cX5_few 0 = .ok (.aload_n 0, 1) := by decide +kernel
theorem dX5_few_1 : decode cX5_few 1 = .ok (.getfield 33, 3) := by decide +kernel
theorem dX5_few_4 : decode cX5_few 4 = .ok (.iload_n 1, 1) := by decide +kernel
theorem dX5_few_5 : decode cX5_few 5 = .ok (.invokevirtual 171, 3) := by decide +kernel
theorem dX5_few_8 : decode cX5_few 8 = .ok (.ifCond .eq 7, 3) := by decide +kernel
theorem dX5_few_11 : decode cX5_few 11 = .ok (.iload_n 1, 1) := by decide +kernel
theorem dX5_few_12 : decode cX5_few 12 = .ok (.ifCond .ne 5, 3) := by decide +kernel
theorem dX5_few_15 : decode cX5_few 15 = .ok (.iconst (-1), 1) := by decide +kernel
theorem dX5_few_16 : decode cX5_few 16 = .ok (.ireturn, 1) := by decide +kernel
theorem dX5_few_17 : decode cX5_few 17 = .ok (.bipush 63, 2) := by decide +kernel
theorem dX5_few_19 : decode cX5_few 19 = .ok (.istore_n 2, 1) := by decide +kernel
theorem dX5_few_20 : decode cX5_few 20 = .ok (.iconst 1, 1) := by decide +kernel
theorem dX5_few_21 : decode cX5_few 21 = .ok (.istore_n 3, 1) := by decide +kernel
theorem dX5_few_22 : decode cX5_few 22 = .ok (.iload_n 3, 1) := by decide +kernel
theorem dX5_few_23 : decode cX5_few 23 = .ok (.bipush 64, 2) := by decide +kernel
theorem dX5_few_25 : decode cX5_few 25 = .ok (.if_icmp .ge 46, 3) := by decide +kernel
theorem dX5_few_28 : decode cX5_few 28 = .ok (.iload_n 3, 1) := by decide +kernel
theorem dX5_few_29 : decode cX5_few 29 = .ok (.invokestatic 160, 3) := by decide +kernel
theorem dX5_few_32 : decode cX5_few 32 = .ok (.iload_n 2, 1) := by decide +kernel
theorem dX5_few_33 : decode cX5_few 33 = .ok (.invokestatic 160, 3) := by decide +kernel
theorem dX5_few_36 : decode cX5_few 36 = .ok (.if_icmp .ge 7, 3) := by decide +kernel
theorem dX5_few_39 : decode cX5_few 39 = .ok (.iconst 1, 1) := by decide +kernel
theorem dX5_few_40 : decode cX5_few 40 = .ok (.goto 4, 3) := by decide +kernel
theorem dX5_few_43 : decode cX5_few 43 = .ok (.iconst 0, 1) := by decide +kernel
theorem dX5_few_44 : decode cX5_few 44 = .ok (.istore 4, 2) := by decide +kernel
theorem dX5_few_46 : decode cX5_few 46 = .ok (.iload 4, 2) := by decide +kernel
theorem dX5_few_48 : decode cX5_few 48 = .ok (.ifCond .eq 17, 3) := by decide +kernel
theorem dX5_few_51 : decode cX5_few 51 = .ok (.aload_n 0, 1) := by decide +kernel
theorem dX5_few_52 : decode cX5_few 52 = .ok (.getfield 33, 3) := by decide +kernel
theorem dX5_few_55 : decode cX5_few 55 = .ok (.iload_n 3, 1) := by decide +kernel
theorem dX5_few_56 : decode cX5_few 56 = .ok (.iload_n 1, 1) := by decide +kernel
theorem dX5_few_57 : decode cX5_few 57 = .ok (.invokevirtual 236, 3) := by decide +kernel
theorem dX5_few_60 : decode cX5_few 60 = .ok (.ifCond .eq 5, 3) := by decide +kernel
theorem dX5_few_63 : decode cX5_few 63 = .ok (.iload_n 3, 1) := by decide +kernel
theorem dX5_few_64 : decode cX5_few 64 = .ok (.istore_n 2, 1) := by decide +kernel
theorem dX5_few_65 : decode cX5_few 65 = .ok (.iinc 3 1, 3) := by decide +kernel
theorem dX5_few_68 : decode cX5_few 68 = .ok (.goto (-46), 3) := by decide +kernel
theorem dX5_few_71 : decode cX5_few 71 = .ok (.aload_n 0, 1) := by decide +kernel
theorem dX5_few_72 : decode cX5_few 72 = .ok (.iload_n 2, 1) := by decide +kernel
theorem dX5_few_73 : decode cX5_few 73 = .ok (.putfield 68, 3) := by decide +kernel
theorem dX5_few_76 : decode cX5_few 76 = .ok (.iload_n 2, 1) := by decide +kernel
theorem dX5_few_77 : decode cX5_few 77 = .ok (.invokestatic 160, 3) := by decide +kernel
theorem dX5_few_80 : decode cX5_few 80 = .ok (.ireturn, 1) := by decide +kernel
theorem dX5_moved_0 : decode cX5_moved 0 = .ok (.iload_n 1, 1) := by decide +kernel
theorem dX5_moved_1 : decode cX5_moved 1 = .ok (.invokestatic 239, 3) := by decide +kernel
theorem dX5_moved_4 : decode cX5_moved 4 = .ok (.ifCond .ne 5, 3) := by decide +kernel
theorem dX5_moved_7 : decode cX5_moved 7 = .ok (.iconst (-1), 1) := by decide +kernel
theorem dX5_moved_8 : decode cX5_moved 8 = .ok (.ireturn, 1) := by decide +kernel
theorem dX5_moved_9 : decode cX5_moved 9 = .ok (.aload_n 0, 1) := by decide +kernel
theorem dX5_moved_10 : decode cX5_moved 10 = .ok (.getfield 37, 3) := by decide +kernel
theorem dX5_moved_13 : decode cX5_moved 13 = .ok (.iload_n 1, 1) := by decide +kernel
theorem dX5_moved_14 : decode cX5_moved 14 = .ok (.aaload, 1) := by decide +kernel
theorem dX5_moved_15 : decode cX5_moved 15 = .ok (.getfield 106, 3) := by decide +kernel
theorem dX5_moved_18 : decode cX5_moved 18 = .ok (.ifCond .ne 9, 3) := by decide +kernel
theorem dX5_moved_21 : decode cX5_moved 21 = .ok (.aload_n 0, 1) := by decide +kernel
theorem dX5_moved_22 : decode cX5_moved 22 = .ok (.iconst 1, 1) := by decide +kernel
theorem dX5_moved_23 : decode cX5_moved 23 = .ok (.invokevirtual 53, 3) := by decide +kernel
theorem dX5_moved_26 : decode cX5_moved 26 = .ok (.ireturn, 1) := by decide +kernel
theorem dX5_moved_27 : decode cX5_moved 27 = .ok (.aload_n 0, 1) := by decide +kernel
theorem dX5_moved_28 : decode cX5_moved 28 = .ok (.aload_n 0, 1) := by decide +kernel
theorem dX5_moved_29 : decode cX5_moved 29 = .ok (.getfield 33, 3) := by decide +kernel
theorem dX5_moved_32 : decode cX5_moved 32 = .ok (.getfield 154, 3) := by decide +kernel
theorem dX5_moved_35 : decode cX5_moved 35 = .ok (.aload_n 0, 1) := by decide +kernel
theorem dX5_moved_36 : decode cX5_moved 36 = .ok (.getfield 37, 3) := by decide +kernel
theorem dX5_moved_39 : decode cX5_moved 39 = .ok (.iload_n 1, 1) := by decide +kernel
theorem dX5_moved_40 : decode cX5_moved 40 = .ok (.aaload, 1) := by decide +kernel
theorem dX5_moved_41 : decode cX5_moved 41 = .ok (.getfield 154, 3) := by decide +kernel
theorem dX5_moved_44 : decode cX5_moved 44 = .ok (.iconst (-1), 1) := by decide +kernel
theorem dX5_moved_45 : decode cX5_moved 45 = .ok (.ixor, 1) := by decide +kernel
theorem dX5_moved_46 : decode cX5_moved 46 = .ok (.iand, 1) := by decide +kernel
theorem dX5_moved_47 : decode cX5_moved 47 = .ok (.putfield 68, 3) := by decide +kernel
theorem dX5_moved_50 : decode cX5_moved 50 = .ok (.aload_n 0, 1) := by decide +kernel
theorem dX5_moved_51 : decode cX5_moved 51 = .ok (.getfield 37, 3) := by decide +kernel
theorem dX5_moved_54 : decode cX5_moved 54 = .ok (.iload_n 1, 1) := by decide +kernel
theorem dX5_moved_55 : decode cX5_moved 55 = .ok (.aaload, 1) := by decide +kernel
theorem dX5_moved_56 : decode cX5_moved 56 = .ok (.getfield 154, 3) := by decide +kernel
theorem dX5_moved_59 : decode cX5_moved 59 = .ok (.aload_n 0, 1) := by decide +kernel
theorem dX5_moved_60 : decode cX5_moved 60 = .ok (.getfield 33, 3) := by decide +kernel
theorem dX5_moved_63 : decode cX5_moved 63 = .ok (.getfield 154, 3) := by decide +kernel
theorem dX5_moved_66 : decode cX5_moved 66 = .ok (.iconst (-1), 1) := by decide +kernel
theorem dX5_moved_67 : decode cX5_moved 67 = .ok (.ixor, 1) := by decide +kernel
theorem dX5_moved_68 : decode cX5_moved 68 = .ok (.iand, 1) := by decide +kernel
theorem dX5_moved_69 : decode cX5_moved 69 = .ok (.ireturn, 1) := by decide +kernel
theorem dX5_frost_0 : decode cX5_frost 0 = .ok (.iload_n 1, 1) := by decide +kernel
theorem dX5_frost_1 : decode cX5_frost 1 = .ok (.iconst 1, 1) := by decide +kernel
theorem dX5_frost_2 : decode cX5_frost 2 = .ok (.if_icmp .lt 16, 3) := by decide +kernel
theorem dX5_frost_5 : decode cX5_frost 5 = .ok (.iload_n 1, 1) := by decide +kernel
theorem dX5_frost_6 : decode cX5_frost 6 = .ok (.ldc 242, 2) := by decide +kernel
theorem dX5_frost_8 : decode cX5_frost 8 = .ok (.if_icmp .ge 10, 3) := by decide +kernel
theorem dX5_frost_11 : decode cX5_frost 11 = .ok (.iload_n 2, 1) := by decide +kernel
theorem dX5_frost_12 : decode cX5_frost 12 = .ok (.invokestatic 243, 3) := by decide +kernel
theorem dX5_frost_15 : decode cX5_frost 15 = .ok (.ifCond .ne 5, 3) := by decide +kernel
theorem dX5_frost_18 : decode cX5_frost 18 = .ok (.iconst (-1), 1) := by decide +kernel
theorem dX5_frost_19 : decode cX5_frost 19 = .ok (.ireturn, 1) := by decide +kernel
theorem dX5_frost_20 : decode cX5_frost 20 = .ok (.aload_n 0, 1) := by decide +kernel
theorem dX5_frost_21 : decode cX5_frost 21 = .ok (.getfield 33, 3) := by decide +kernel
theorem dX5_frost_24 : decode cX5_frost 24 = .ok (.invokevirtual 150, 3) := by decide +kernel
theorem dX5_frost_27 : decode cX5_frost 27 = .ok (.istore_n 3, 1) := by decide +kernel
theorem dX5_frost_28 : decode cX5_frost 28 = .ok (.aload_n 0, 1) := by decide +kernel
theorem dX5_frost_29 : decode cX5_frost 29 = .ok (.getfield 33, 3) := by decide +kernel
theorem dX5_frost_32 : decode cX5_frost 32 = .ok (.iload_n 1, 1) := by decide +kernel
theorem dX5_frost_33 : decode cX5_frost 33 = .ok (.iload_n 2, 1) := by decide +kernel
theorem dX5_frost_34 : decode cX5_frost 34 = .ok (.invokevirtual 246, 3) := by decide +kernel
theorem dX5_frost_37 : decode cX5_frost 37 = .ok (.istore 4, 2) := by decide +kernel
theorem dX5_frost_39 : decode cX5_frost 39 = .ok (.iload_n 3, 1) := by decide +kernel
theorem dX5_frost_40 : decode cX5_frost 40 = .ok (.aload_n 0, 1) := by decide +kernel
theorem dX5_frost_41 : decode cX5_frost 41 = .ok (.getfield 33, 3) := by decide +kernel
theorem dX5_frost_44 : decode cX5_frost 44 = .ok (.invokevirtual 150, 3) := by decide +kernel
theorem dX5_frost_47 : decode cX5_frost 47 = .ok (.iconst (-1), 1) := by decide +kernel
theorem dX5_frost_48 : decode cX5_frost 48 = .ok (.ixor, 1) := by decide +kernel
theorem dX5_frost_49 : decode cX5_frost 49 = .ok (.iand, 1) := by decide +kernel
theorem dX5_frost_50 : decode cX5_frost 50 = .ok (.istore 5, 2) := by decide +kernel
theorem dX5_frost_52 : decode cX5_frost 52 = .ok (.aload_n 0, 1) := by decide +kernel
theorem dX5_frost_53 : decode cX5_frost 53 = .ok (.getfield 33, 3) := by decide +kernel
theorem dX5_frost_56 : decode cX5_frost 56 = .ok (.iload 5, 2) := by decide +kernel
theorem dX5_frost_58 : decode cX5_frost 58 = .ok (.invokevirtual 249, 3) := by decide +kernel
theorem dX5_frost_61 : decode cX5_frost 61 = .ok (.aload_n 0, 1) := by decide +kernel
theorem dX5_frost_62 : decode cX5_frost 62 = .ok (.iload 5, 2) := by decide +kernel
theorem dX5_frost_64 : decode cX5_frost 64 = .ok (.putfield 68, 3) := by decide +kernel
theorem dX5_frost_67 : decode cX5_frost 67 = .ok (.iload 4, 2) := by decide +kernel
theorem dX5_frost_69 : decode cX5_frost 69 = .ok (.ireturn, 1) := by decide +kernel
theorem dX5_odds_0 : decode cX5_odds 0 = .ok (.aload_n 0, 1) := by decide +kernel
theorem dX5_odds_1 : decode cX5_odds 1 = .ok (.getfield 33, 3) := by decide +kernel
theorem dX5_odds_4 : decode cX5_odds 4 = .ok (.iload_n 1, 1) := by decide +kernel
theorem dX5_odds_5 : decode cX5_odds 5 = .ok (.invokevirtual 113, 3) := by decide +kernel
theorem dX5_odds_8 : decode cX5_odds 8 = .ok (.ifCond .eq 10, 3) := by decide +kernel
theorem dX5_odds_11 : decode cX5_odds 11 = .ok (.iload_n 2, 1) := by decide +kernel
theorem dX5_odds_12 : decode cX5_odds 12 = .ok (.invokestatic 243, 3) := by decide +kernel
theorem dX5_odds_15 : decode cX5_odds 15 = .ok (.ifCond .ne 5, 3) := by decide +kernel
theorem dX5_odds_18 : decode cX5_odds 18 = .ok (.iconst (-1), 1) := by decide +kernel
theorem dX5_odds_19 : decode cX5_odds 19 = .ok (.ireturn, 1) := by decide +kernel
theorem dX5_odds_20 : decode cX5_odds 20 = .ok (.aload_n 0, 1) := by decide +kernel
theorem dX5_odds_21 : decode cX5_odds 21 = .ok (.getfield 33, 3) := by decide +kernel
theorem dX5_odds_24 : decode cX5_odds 24 = .ok (.iload_n 1, 1) := by decide +kernel
theorem dX5_odds_25 : decode cX5_odds 25 = .ok (.invokevirtual 120, 3) := by decide +kernel
theorem dX5_odds_28 : decode cX5_odds 28 = .ok (.ifCond .ne 9, 3) := by decide +kernel
theorem dX5_odds_31 : decode cX5_odds 31 = .ok (.aload_n 0, 1) := by decide +kernel
theorem dX5_odds_32 : decode cX5_odds 32 = .ok (.iconst 1, 1) := by decide +kernel
theorem dX5_odds_33 : decode cX5_odds 33 = .ok (.invokevirtual 53, 3) := by decide +kernel
theorem dX5_odds_36 : decode cX5_odds 36 = .ok (.ireturn, 1) := by decide +kernel
theorem dX5_odds_37 : decode cX5_odds 37 = .ok (.aload_n 0, 1) := by decide +kernel
theorem dX5_odds_38 : decode cX5_odds 38 = .ok (.getfield 33, 3) := by decide +kernel
theorem dX5_odds_41 : decode cX5_odds 41 = .ok (.iload_n 1, 1) := by decide +kernel
theorem dX5_odds_42 : decode cX5_odds 42 = .ok (.invokevirtual 252, 3) := by decide +kernel
theorem dX5_odds_45 : decode cX5_odds 45 = .ok (.istore_n 3, 1) := by decide +kernel
theorem dX5_odds_46 : decode cX5_odds 46 = .ok (.iload_n 3, 1) := by decide +kernel
theorem dX5_odds_47 : decode cX5_odds 47 = .ok (.invokestatic 160, 3) := by decide +kernel
theorem dX5_odds_50 : decode cX5_odds 50 = .ok (.istore 4, 2) := by decide +kernel
theorem dX5_odds_52 : decode cX5_odds 52 = .ok (.iload 4, 2) := by decide +kernel
theorem dX5_odds_54 : decode cX5_odds 54 = .ok (.bipush 9, 2) := by decide +kernel
theorem dX5_odds_56 : decode cX5_odds 56 = .ok (.if_icmp .le 6, 3) := by decide +kernel
theorem dX5_odds_59 : decode cX5_odds 59 = .ok (.bipush (-6), 2) := by decide +kernel
theorem dX5_odds_61 : decode cX5_odds 61 = .ok (.ireturn, 1) := by decide +kernel
theorem dX5_odds_62 : decode cX5_odds 62 = .ok (.aload_n 0, 1) := by decide +kernel
theorem dX5_odds_63 : decode cX5_odds 63 = .ok (.aload_n 0, 1) := by decide +kernel
theorem dX5_odds_64 : decode cX5_odds 64 = .ok (.getfield 33, 3) := by decide +kernel
theorem dX5_odds_67 : decode cX5_odds 67 = .ok (.iload_n 1, 1) := by decide +kernel
theorem dX5_odds_68 : decode cX5_odds 68 = .ok (.iload_n 2, 1) := by decide +kernel
theorem dX5_odds_69 : decode cX5_odds 69 = .ok (.iload_n 3, 1) := by decide +kernel
theorem dX5_odds_70 : decode cX5_odds 70 = .ok (.invokevirtual 255, 3) := by decide +kernel
theorem dX5_odds_73 : decode cX5_odds 73 = .ok (.bipush 12, 2) := by decide +kernel
theorem dX5_odds_75 : decode cX5_odds 75 = .ok (.iload 4, 2) := by decide +kernel
theorem dX5_odds_77 : decode cX5_odds 77 = .ok (.invokestatic 259, 3) := by decide +kernel
theorem dX5_odds_80 : decode cX5_odds 80 = .ok (.invokevirtual 263, 3) := by decide +kernel
theorem dX5_odds_83 : decode cX5_odds 83 = .ok (.iconst 1, 1) := by decide +kernel
theorem dX5_odds_84 : decode cX5_odds 84 = .ok (.ireturn, 1) := by decide +kernel
theorem dX5_go_0 : decode cX5_go 0 = .ok (.iload_n 1, 1) := by decide +kernel
theorem dX5_go_1 : decode cX5_go 1 = .ok (.ifCond .lt 9, 3) := by decide +kernel
theorem dX5_go_4 : decode cX5_go 4 = .ok (.iload_n 1, 1) := by decide +kernel
theorem dX5_go_5 : decode cX5_go 5 = .ok (.bipush 20, 2) := by decide +kernel
theorem dX5_go_7 : decode cX5_go 7 = .ok (.if_icmp .le 5, 3) := by decide +kernel
theorem dX5_go_10 : decode cX5_go 10 = .ok (.iconst (-1), 1) := by decide +kernel
theorem dX5_go_11 : decode cX5_go 11 = .ok (.ireturn, 1) := by decide +kernel
theorem dX5_go_12 : decode cX5_go 12 = .ok (.aload_n 0, 1) := by decide +kernel
theorem dX5_go_13 : decode cX5_go 13 = .ok (.getfield 33, 3) := by decide +kernel
theorem dX5_go_16 : decode cX5_go 16 = .ok (.getfield 267, 3) := by decide +kernel
theorem dX5_go_19 : decode cX5_go 19 = .ok (.iload_n 1, 1) := by decide +kernel
theorem dX5_go_20 : decode cX5_go 20 = .ok (.iadd, 1) := by decide +kernel
theorem dX5_go_21 : decode cX5_go 21 = .ok (.sipush 1000, 3) := by decide +kernel
theorem dX5_go_24 : decode cX5_go 24 = .ok (.if_icmp .le 6, 3) := by decide +kernel
theorem dX5_go_27 : decode cX5_go 27 = .ok (.bipush (-6), 2) := by decide +kernel
theorem dX5_go_29 : decode cX5_go 29 = .ok (.ireturn, 1) := by decide +kernel
theorem dX5_go_30 : decode cX5_go 30 = .ok (.iconst 0, 1) := by decide +kernel
theorem dX5_go_31 : decode cX5_go 31 = .ok (.istore_n 2, 1) := by decide +kernel
theorem dX5_go_32 : decode cX5_go 32 = .ok (.iload_n 2, 1) := by decide +kernel
theorem dX5_go_33 : decode cX5_go 33 = .ok (.iload_n 1, 1) := by decide +kernel
theorem dX5_go_34 : decode cX5_go 34 = .ok (.if_icmp .ge 29, 3) := by decide +kernel
theorem dX5_go_37 : decode cX5_go 37 = .ok (.aload_n 0, 1) := by decide +kernel
theorem dX5_go_38 : decode cX5_go 38 = .ok (.getfield 33, 3) := by decide +kernel
theorem dX5_go_41 : decode cX5_go 41 = .ok (.dup, 1) := by decide +kernel
theorem dX5_go_42 : decode cX5_go 42 = .ok (.getfield 267, 3) := by decide +kernel
theorem dX5_go_45 : decode cX5_go 45 = .ok (.iconst 1, 1) := by decide +kernel
theorem dX5_go_46 : decode cX5_go 46 = .ok (.iadd, 1) := by decide +kernel
theorem dX5_go_47 : decode cX5_go 47 = .ok (.putfield 267, 3) := by decide +kernel
theorem dX5_go_50 : decode cX5_go 50 = .ok (.aload_n 0, 1) := by decide +kernel
theorem dX5_go_51 : decode cX5_go 51 = .ok (.getfield 33, 3) := by decide +kernel
theorem dX5_go_54 : decode cX5_go 54 = .ok (.invokevirtual 270, 3) := by decide +kernel
theorem dX5_go_57 : decode cX5_go 57 = .ok (.iinc 2 1, 3) := by decide +kernel
theorem dX5_go_60 : decode cX5_go 60 = .ok (.goto (-28), 3) := by decide +kernel
theorem dX5_go_63 : decode cX5_go 63 = .ok (.aload_n 0, 1) := by decide +kernel
theorem dX5_go_64 : decode cX5_go 64 = .ok (.getfield 33, 3) := by decide +kernel
theorem dX5_go_67 : decode cX5_go 67 = .ok (.getfield 168, 3) := by decide +kernel
theorem dX5_go_70 : decode cX5_go 70 = .ok (.invokestatic 160, 3) := by decide +kernel
theorem dX5_go_73 : decode cX5_go 73 = .ok (.ireturn, 1) := by decide +kernel
theorem dX5_keep_0 : decode cX5_keep 0 = .ok (.iload_n 1, 1) := by decide +kernel
theorem dX5_keep_1 : decode cX5_keep 1 = .ok (.invokestatic 239, 3) := by decide +kernel
theorem dX5_keep_4 : decode cX5_keep 4 = .ok (.ifCond .ne 5, 3) := by decide +kernel
theorem dX5_keep_7 : decode cX5_keep 7 = .ok (.iconst (-1), 1) := by decide +kernel
theorem dX5_keep_8 : decode cX5_keep 8 = .ok (.ireturn, 1) := by decide +kernel
theorem dX5_keep_9 : decode cX5_keep 9 = .ok (.aload_n 0, 1) := by decide +kernel
theorem dX5_keep_10 : decode cX5_keep 10 = .ok (.getfield 33, 3) := by decide +kernel
theorem dX5_keep_13 : decode cX5_keep 13 = .ok (.getfield 106, 3) := by decide +kernel
theorem dX5_keep_16 : decode cX5_keep 16 = .ok (.ifCond .ne 6, 3) := by decide +kernel
theorem dX5_keep_19 : decode cX5_keep 19 = .ok (.bipush (-4), 2) := by decide +kernel
theorem dX5_keep_21 : decode cX5_keep 21 = .ok (.ireturn, 1) := by decide +kernel
theorem dX5_keep_22 : decode cX5_keep 22 = .ok (.aload_n 0, 1) := by decide +kernel
theorem dX5_keep_23 : decode cX5_keep 23 = .ok (.getfield 37, 3) := by decide +kernel
theorem dX5_keep_26 : decode cX5_keep 26 = .ok (.iload_n 1, 1) := by decide +kernel
theorem dX5_keep_27 : decode cX5_keep 27 = .ok (.aaload, 1) := by decide +kernel
theorem dX5_keep_28 : decode cX5_keep 28 = .ok (.aload_n 0, 1) := by decide +kernel
theorem dX5_keep_29 : decode cX5_keep 29 = .ok (.getfield 33, 3) := by decide +kernel
theorem dX5_keep_32 : decode cX5_keep 32 = .ok (.invokevirtual 102, 3) := by decide +kernel
theorem dX5_keep_35 : decode cX5_keep 35 = .ok (.aload_n 0, 1) := by decide +kernel
theorem dX5_keep_36 : decode cX5_keep 36 = .ok (.getfield 33, 3) := by decide +kernel
theorem dX5_keep_39 : decode cX5_keep 39 = .ok (.getfield 154, 3) := by decide +kernel
theorem dX5_keep_42 : decode cX5_keep 42 = .ok (.invokestatic 160, 3) := by decide +kernel
theorem dX5_keep_45 : decode cX5_keep 45 = .ok (.ireturn, 1) := by decide +kernel
theorem dX5_on_0 : decode cX5_on 0 = .ok (.iload_n 1, 1) := by decide +kernel
theorem dX5_on_1 : decode cX5_on 1 = .ok (.invokestatic 239, 3) := by decide +kernel
theorem dX5_on_4 : decode cX5_on 4 = .ok (.ifCond .ne 5, 3) := by decide +kernel
theorem dX5_on_7 : decode cX5_on 7 = .ok (.iconst (-1), 1) := by decide +kernel
theorem dX5_on_8 : decode cX5_on 8 = .ok (.ireturn, 1) := by decide +kernel
theorem dX5_on_9 : decode cX5_on 9 = .ok (.aload_n 0, 1) := by decide +kernel
theorem dX5_on_10 : decode cX5_on 10 = .ok (.getfield 37, 3) := by decide +kernel
theorem dX5_on_13 : decode cX5_on 13 = .ok (.iload_n 1, 1) := by decide +kernel
theorem dX5_on_14 : decode cX5_on 14 = .ok (.aaload, 1) := by decide +kernel
theorem dX5_on_15 : decode cX5_on 15 = .ok (.getfield 106, 3) := by decide +kernel
theorem dX5_on_18 : decode cX5_on 18 = .ok (.ifCond .ne 9, 3) := by decide +kernel
theorem dX5_on_21 : decode cX5_on 21 = .ok (.aload_n 0, 1) := by decide +kernel
theorem dX5_on_22 : decode cX5_on 22 = .ok (.iconst 1, 1) := by decide +kernel
theorem dX5_on_23 : decode cX5_on 23 = .ok (.invokevirtual 53, 3) := by decide +kernel
theorem dX5_on_26 : decode cX5_on 26 = .ok (.ireturn, 1) := by decide +kernel
theorem dX5_on_27 : decode cX5_on 27 = .ok (.aload_n 0, 1) := by decide +kernel
theorem dX5_on_28 : decode cX5_on 28 = .ok (.getfield 33, 3) := by decide +kernel
theorem dX5_on_31 : decode cX5_on 31 = .ok (.aload_n 0, 1) := by decide +kernel
theorem dX5_on_32 : decode cX5_on 32 = .ok (.getfield 37, 3) := by decide +kernel
theorem dX5_on_35 : decode cX5_on 35 = .ok (.iload_n 1, 1) := by decide +kernel
theorem dX5_on_36 : decode cX5_on 36 = .ok (.aaload, 1) := by decide +kernel
theorem dX5_on_37 : decode cX5_on 37 = .ok (.invokevirtual 102, 3) := by decide +kernel
theorem dX5_on_40 : decode cX5_on 40 = .ok (.aload_n 0, 1) := by decide +kernel
theorem dX5_on_41 : decode cX5_on 41 = .ok (.getfield 33, 3) := by decide +kernel
theorem dX5_on_44 : decode cX5_on 44 = .ok (.getfield 154, 3) := by decide +kernel
theorem dX5_on_47 : decode cX5_on 47 = .ok (.invokestatic 160, 3) := by decide +kernel
theorem dX5_on_50 : decode cX5_on 50 = .ok (.ireturn, 1) := by decide +kernel
theorem dX5_asked_0 : decode cX5_asked 0 = .ok (.aload_n 0, 1) := by decide +kernel
theorem dX5_asked_1 : decode cX5_asked 1 = .ok (.getfield 68, 3) := by decide +kernel
theorem dX5_asked_4 : decode cX5_asked 4 = .ok (.ireturn, 1) := by decide +kernel
theorem dX5_upper_0 : decode cX5_upper 0 = .ok (.aload_n 0, 1) := by decide +kernel
theorem dX5_upper_1 : decode cX5_upper 1 = .ok (.getfield 273, 3) := by decide +kernel
theorem dX5_upper_4 : decode cX5_upper 4 = .ok (.lreturn, 1) := by decide +kernel
theorem dX5_lower_0 : decode cX5_lower 0 = .ok (.aload_n 0, 1) := by decide +kernel
theorem dX5_lower_1 : decode cX5_lower 1 = .ok (.getfield 45, 3) := by decide +kernel
theorem dX5_lower_4 : decode cX5_lower 4 = .ok (.lreturn, 1) := by decide +kernel
theorem dX5_count_0 : decode cX5_count 0 = .ok (.iload_n 1, 1) := by decide +kernel
theorem dX5_count_1 : decode cX5_count 1 = .ok (.tableswitch 120 0 7 #[47, 55, 66, 74, 85, 96, 104, 112], 47) := by decide +kernel
theorem dX5_count_48 : decode cX5_count 48 = .ok (.aload_n 0, 1) := by decide +kernel
theorem dX5_count_49 : decode cX5_count 49 = .ok (.getfield 33, 3) := by decide +kernel
theorem dX5_count_52 : decode cX5_count 52 = .ok (.getfield 110, 3) := by decide +kernel
theorem dX5_count_55 : decode cX5_count 55 = .ok (.ireturn, 1) := by decide +kernel
theorem dX5_count_56 : decode cX5_count 56 = .ok (.aload_n 0, 1) := by decide +kernel
theorem dX5_count_57 : decode cX5_count 57 = .ok (.getfield 33, 3) := by decide +kernel
theorem dX5_count_60 : decode cX5_count 60 = .ok (.getfield 154, 3) := by decide +kernel
theorem dX5_count_63 : decode cX5_count 63 = .ok (.invokestatic 160, 3) := by decide +kernel
theorem dX5_count_66 : decode cX5_count 66 = .ok (.ireturn, 1) := by decide +kernel
theorem dX5_count_67 : decode cX5_count 67 = .ok (.aload_n 0, 1) := by decide +kernel
theorem dX5_count_68 : decode cX5_count 68 = .ok (.getfield 33, 3) := by decide +kernel
theorem dX5_count_71 : decode cX5_count 71 = .ok (.invokevirtual 276, 3) := by decide +kernel
theorem dX5_count_74 : decode cX5_count 74 = .ok (.ireturn, 1) := by decide +kernel
theorem dX5_count_75 : decode cX5_count 75 = .ok (.aload_n 0, 1) := by decide +kernel
theorem dX5_count_76 : decode cX5_count 76 = .ok (.getfield 33, 3) := by decide +kernel
theorem dX5_count_79 : decode cX5_count 79 = .ok (.getfield 147, 3) := by decide +kernel
theorem dX5_count_82 : decode cX5_count 82 = .ok (.invokestatic 160, 3) := by decide +kernel
theorem dX5_count_85 : decode cX5_count 85 = .ok (.ireturn, 1) := by decide +kernel
theorem dX5_count_86 : decode cX5_count 86 = .ok (.aload_n 0, 1) := by decide +kernel
theorem dX5_count_87 : decode cX5_count 87 = .ok (.getfield 33, 3) := by decide +kernel
theorem dX5_count_90 : decode cX5_count 90 = .ok (.getfield 168, 3) := by decide +kernel
theorem dX5_count_93 : decode cX5_count 93 = .ok (.invokestatic 160, 3) := by decide +kernel
theorem dX5_count_96 : decode cX5_count 96 = .ok (.ireturn, 1) := by decide +kernel
theorem dX5_count_97 : decode cX5_count 97 = .ok (.aload_n 0, 1) := by decide +kernel
theorem dX5_count_98 : decode cX5_count 98 = .ok (.getfield 33, 3) := by decide +kernel
theorem dX5_count_101 : decode cX5_count 101 = .ok (.getfield 267, 3) := by decide +kernel
theorem dX5_count_104 : decode cX5_count 104 = .ok (.ireturn, 1) := by decide +kernel
theorem dX5_count_105 : decode cX5_count 105 = .ok (.aload_n 0, 1) := by decide +kernel
theorem dX5_count_106 : decode cX5_count 106 = .ok (.getfield 10, 3) := by decide +kernel
theorem dX5_count_109 : decode cX5_count 109 = .ok (.invokevirtual 279, 3) := by decide +kernel
theorem dX5_count_112 : decode cX5_count 112 = .ok (.ireturn, 1) := by decide +kernel
theorem dX5_count_113 : decode cX5_count 113 = .ok (.aload_n 0, 1) := by decide +kernel
theorem dX5_count_114 : decode cX5_count 114 = .ok (.getfield 19, 3) := by decide +kernel
theorem dX5_count_117 : decode cX5_count 117 = .ok (.invokevirtual 282, 3) := by decide +kernel
theorem dX5_count_120 : decode cX5_count 120 = .ok (.ireturn, 1) := by decide +kernel
theorem dX5_count_121 : decode cX5_count 121 = .ok (.iconst (-1), 1) := by decide +kernel
theorem dX5_count_122 : decode cX5_count 122 = .ok (.ireturn, 1) := by decide +kernel
theorem dX5_finding_0 : decode cX5_finding 0 = .ok (.aload_n 0, 1) := by decide +kernel
theorem dX5_finding_1 : decode cX5_finding 1 = .ok (.getfield 283, 3) := by decide +kernel
theorem dX5_finding_4 : decode cX5_finding 4 = .ok (.ireturn, 1) := by decide +kernel
theorem dX5_findings_0 : decode cX5_findings 0 = .ok (.iload_n 1, 1) := by decide +kernel
theorem dX5_findings_1 : decode cX5_findings 1 = .ok (.iconst 1, 1) := by decide +kernel
theorem dX5_findings_2 : decode cX5_findings 2 = .ok (.if_icmp .lt 8, 3) := by decide +kernel
theorem dX5_findings_5 : decode cX5_findings 5 = .ok (.iload_n 1, 1) := by decide +kernel
theorem dX5_findings_6 : decode cX5_findings 6 = .ok (.iconst 5, 1) := by decide +kernel
theorem dX5_findings_7 : decode cX5_findings 7 = .ok (.if_icmp .le 5, 3) := by decide +kernel
theorem dX5_findings_10 : decode cX5_findings 10 = .ok (.iconst (-1), 1) := by decide +kernel
theorem dX5_findings_11 : decode cX5_findings 11 = .ok (.ireturn, 1) := by decide +kernel
theorem dX5_findings_12 : decode cX5_findings 12 = .ok (.aload_n 0, 1) := by decide +kernel
theorem dX5_findings_13 : decode cX5_findings 13 = .ok (.getfield 41, 3) := by decide +kernel
theorem dX5_findings_16 : decode cX5_findings 16 = .ok (.iload_n 1, 1) := by decide +kernel
theorem dX5_findings_17 : decode cX5_findings 17 = .ok (.iaload, 1) := by decide +kernel
theorem dX5_findings_18 : decode cX5_findings 18 = .ok (.ireturn, 1) := by decide +kernel
theorem dX5_digest_0 : decode cX5_digest 0 = .ok (.ldc2_w 286, 3) := by decide +kernel
theorem dX5_digest_3 : decode cX5_digest 3 = .ok (.lstore_n 1, 1) := by decide +kernel
theorem dX5_digest_4 : decode cX5_digest 4 = .ok (.iconst 0, 1) := by decide +kernel
theorem dX5_digest_5 : decode cX5_digest 5 = .ok (.istore_n 3, 1) := by decide +kernel
theorem dX5_digest_6 : decode cX5_digest 6 = .ok (.iload_n 3, 1) := by decide +kernel
theorem dX5_digest_7 : decode cX5_digest 7 = .ok (.bipush 8, 2) := by decide +kernel
theorem dX5_digest_9 : decode cX5_digest 9 = .ok (.if_icmp .ge 22, 3) := by decide +kernel
theorem dX5_digest_12 : decode cX5_digest 12 = .ok (.ldc2_w 288, 3) := by decide +kernel
theorem dX5_digest_15 : decode cX5_digest 15 = .ok (.lload_n 1, 1) := by decide +kernel
theorem dX5_digest_16 : decode cX5_digest 16 = .ok (.lmul, 1) := by decide +kernel
theorem dX5_digest_17 : decode cX5_digest 17 = .ok (.aload_n 0, 1) := by decide +kernel
theorem dX5_digest_18 : decode cX5_digest 18 = .ok (.iload_n 3, 1) := by decide +kernel
theorem dX5_digest_19 : decode cX5_digest 19 = .ok (.invokevirtual 290, 3) := by decide +kernel
theorem dX5_digest_22 : decode cX5_digest 22 = .ok (.i2l, 1) := by decide +kernel
theorem dX5_digest_23 : decode cX5_digest 23 = .ok (.ladd, 1) := by decide +kernel
theorem dX5_digest_24 : decode cX5_digest 24 = .ok (.lstore_n 1, 1) := by decide +kernel
theorem dX5_digest_25 : decode cX5_digest 25 = .ok (.iinc 3 1, 3) := by decide +kernel
theorem dX5_digest_28 : decode cX5_digest 28 = .ok (.goto (-22), 3) := by decide +kernel
theorem dX5_digest_31 : decode cX5_digest 31 = .ok (.aload_n 0, 1) := by decide +kernel
theorem dX5_digest_32 : decode cX5_digest 32 = .ok (.getfield 33, 3) := by decide +kernel
theorem dX5_digest_35 : decode cX5_digest 35 = .ok (.lload_n 1, 1) := by decide +kernel
theorem dX5_digest_36 : decode cX5_digest 36 = .ok (.invokevirtual 293, 3) := by decide +kernel
theorem dX5_digest_39 : decode cX5_digest 39 = .ok (.lstore_n 1, 1) := by decide +kernel
theorem dX5_digest_40 : decode cX5_digest 40 = .ok (.iconst 0, 1) := by decide +kernel
theorem dX5_digest_41 : decode cX5_digest 41 = .ok (.istore_n 3, 1) := by decide +kernel
theorem dX5_digest_42 : decode cX5_digest 42 = .ok (.iload_n 3, 1) := by decide +kernel
theorem dX5_digest_43 : decode cX5_digest 43 = .ok (.iconst 3, 1) := by decide +kernel
theorem dX5_digest_44 : decode cX5_digest 44 = .ok (.if_icmp .ge 42, 3) := by decide +kernel
theorem dX5_digest_47 : decode cX5_digest 47 = .ok (.ldc2_w 288, 3) := by decide +kernel
theorem dX5_digest_50 : decode cX5_digest 50 = .ok (.lload_n 1, 1) := by decide +kernel
theorem dX5_digest_51 : decode cX5_digest 51 = .ok (.lmul, 1) := by decide +kernel
theorem dX5_digest_52 : decode cX5_digest 52 = .ok (.aload_n 0, 1) := by decide +kernel
theorem dX5_digest_53 : decode cX5_digest 53 = .ok (.getfield 37, 3) := by decide +kernel
theorem dX5_digest_56 : decode cX5_digest 56 = .ok (.iload_n 3, 1) := by decide +kernel
theorem dX5_digest_57 : decode cX5_digest 57 = .ok (.aaload, 1) := by decide +kernel
theorem dX5_digest_58 : decode cX5_digest 58 = .ok (.getfield 106, 3) := by decide +kernel
theorem dX5_digest_61 : decode cX5_digest 61 = .ok (.ifCond .eq 15, 3) := by decide +kernel
theorem dX5_digest_64 : decode cX5_digest 64 = .ok (.aload_n 0, 1) := by decide +kernel
theorem dX5_digest_65 : decode cX5_digest 65 = .ok (.getfield 37, 3) := by decide +kernel
theorem dX5_digest_68 : decode cX5_digest 68 = .ok (.iload_n 3, 1) := by decide +kernel
theorem dX5_digest_69 : decode cX5_digest 69 = .ok (.aaload, 1) := by decide +kernel
theorem dX5_digest_70 : decode cX5_digest 70 = .ok (.getfield 154, 3) := by decide +kernel
theorem dX5_digest_73 : decode cX5_digest 73 = .ok (.goto 4, 3) := by decide +kernel
theorem dX5_digest_76 : decode cX5_digest 76 = .ok (.iconst (-1), 1) := by decide +kernel
theorem dX5_digest_77 : decode cX5_digest 77 = .ok (.i2l, 1) := by decide +kernel
theorem dX5_digest_78 : decode cX5_digest 78 = .ok (.ladd, 1) := by decide +kernel
theorem dX5_digest_79 : decode cX5_digest 79 = .ok (.lstore_n 1, 1) := by decide +kernel
theorem dX5_digest_80 : decode cX5_digest 80 = .ok (.iinc 3 1, 3) := by decide +kernel
theorem dX5_digest_83 : decode cX5_digest 83 = .ok (.goto (-41), 3) := by decide +kernel
theorem dX5_digest_86 : decode cX5_digest 86 = .ok (.aload_n 0, 1) := by decide +kernel
theorem dX5_digest_87 : decode cX5_digest 87 = .ok (.getfield 19, 3) := by decide +kernel
theorem dX5_digest_90 : decode cX5_digest 90 = .ok (.aload_n 0, 1) := by decide +kernel
theorem dX5_digest_91 : decode cX5_digest 91 = .ok (.getfield 10, 3) := by decide +kernel
theorem dX5_digest_94 : decode cX5_digest 94 = .ok (.lload_n 1, 1) := by decide +kernel
theorem dX5_digest_95 : decode cX5_digest 95 = .ok (.invokevirtual 297, 3) := by decide +kernel
theorem dX5_digest_98 : decode cX5_digest 98 = .ok (.invokevirtual 298, 3) := by decide +kernel
theorem dX5_digest_101 : decode cX5_digest 101 = .ok (.lreturn, 1) := by decide +kernel
theorem dX5_isRow_0 : decode cX5_isRow 0 = .ok (.iload_n 0, 1) := by decide +kernel
theorem dX5_isRow_1 : decode cX5_isRow 1 = .ok (.ifCond .lt 13, 3) := by decide +kernel
theorem dX5_isRow_4 : decode cX5_isRow 4 = .ok (.iload_n 0, 1) := by decide +kernel
theorem dX5_isRow_5 : decode cX5_isRow 5 = .ok (.bipush 6, 2) := by decide +kernel
theorem dX5_isRow_7 : decode cX5_isRow 7 = .ok (.if_icmp .ge 7, 3) := by decide +kernel
theorem dX5_isRow_10 : decode cX5_isRow 10 = .ok (.iconst 1, 1) := by decide +kernel
theorem dX5_isRow_11 : decode cX5_isRow 11 = .ok (.goto 4, 3) := by decide +kernel
theorem dX5_isRow_14 : decode cX5_isRow 14 = .ok (.iconst 0, 1) := by decide +kernel
theorem dX5_isRow_15 : decode cX5_isRow 15 = .ok (.ireturn, 1) := by decide +kernel
theorem dX5_isText_0 : decode cX5_isText 0 = .ok (.iload_n 0, 1) := by decide +kernel
theorem dX5_isText_1 : decode cX5_isText 1 = .ok (.ifCond .lt 12, 3) := by decide +kernel
theorem dX5_isText_4 : decode cX5_isText 4 = .ok (.iload_n 0, 1) := by decide +kernel
theorem dX5_isText_5 : decode cX5_isText 5 = .ok (.iconst 4, 1) := by decide +kernel
theorem dX5_isText_6 : decode cX5_isText 6 = .ok (.if_icmp .ge 7, 3) := by decide +kernel
theorem dX5_isText_9 : decode cX5_isText 9 = .ok (.iconst 1, 1) := by decide +kernel
theorem dX5_isText_10 : decode cX5_isText 10 = .ok (.goto 4, 3) := by decide +kernel
theorem dX5_isText_13 : decode cX5_isText 13 = .ok (.iconst 0, 1) := by decide +kernel
theorem dX5_isText_14 : decode cX5_isText 14 = .ok (.ireturn, 1) := by decide +kernel
theorem dX5_isPerson_0 : decode cX5_isPerson 0 = .ok (.iload_n 0, 1) := by decide +kernel
theorem dX5_isPerson_1 : decode cX5_isPerson 1 = .ok (.ifCond .lt 13, 3) := by decide +kernel
theorem dX5_isPerson_4 : decode cX5_isPerson 4 = .ok (.iload_n 0, 1) := by decide +kernel
theorem dX5_isPerson_5 : decode cX5_isPerson 5 = .ok (.bipush 6, 2) := by decide +kernel
theorem dX5_isPerson_7 : decode cX5_isPerson 7 = .ok (.if_icmp .ge 7, 3) := by decide +kernel
theorem dX5_isPerson_10 : decode cX5_isPerson 10 = .ok (.iconst 1, 1) := by decide +kernel
theorem dX5_isPerson_11 : decode cX5_isPerson 11 = .ok (.goto 4, 3) := by decide +kernel
theorem dX5_isPerson_14 : decode cX5_isPerson 14 = .ok (.iconst 0, 1) := by decide +kernel
theorem dX5_isPerson_15 : decode cX5_isPerson 15 = .ok (.ireturn, 1) := by decide +kernel
theorem dX5_isPlace_0 : decode cX5_isPlace 0 = .ok (.iload_n 0, 1) := by decide +kernel
theorem dX5_isPlace_1 : decode cX5_isPlace 1 = .ok (.ifCond .lt 12, 3) := by decide +kernel
theorem dX5_isPlace_4 : decode cX5_isPlace 4 = .ok (.iload_n 0, 1) := by decide +kernel
theorem dX5_isPlace_5 : decode cX5_isPlace 5 = .ok (.iconst 3, 1) := by decide +kernel
theorem dX5_isPlace_6 : decode cX5_isPlace 6 = .ok (.if_icmp .ge 7, 3) := by decide +kernel
theorem dX5_isPlace_9 : decode cX5_isPlace 9 = .ok (.iconst 1, 1) := by decide +kernel
theorem dX5_isPlace_10 : decode cX5_isPlace 10 = .ok (.goto 4, 3) := by decide +kernel
theorem dX5_isPlace_13 : decode cX5_isPlace 13 = .ok (.iconst 0, 1) := by decide +kernel
theorem dX5_isPlace_14 : decode cX5_isPlace 14 = .ok (.ireturn, 1) := by decide +kernel
theorem dX5_isTwelfth_0 : decode cX5_isTwelfth 0 = .ok (.iload_n 0, 1) := by decide +kernel
theorem dX5_isTwelfth_1 : decode cX5_isTwelfth 1 = .ok (.ifCond .lt 13, 3) := by decide +kernel
theorem dX5_isTwelfth_4 : decode cX5_isTwelfth 4 = .ok (.iload_n 0, 1) := by decide +kernel
theorem dX5_isTwelfth_5 : decode cX5_isTwelfth 5 = .ok (.bipush 12, 2) := by decide +kernel
theorem dX5_isTwelfth_7 : decode cX5_isTwelfth 7 = .ok (.if_icmp .gt 7, 3) := by decide +kernel
theorem dX5_isTwelfth_10 : decode cX5_isTwelfth 10 = .ok (.iconst 1, 1) := by decide +kernel
theorem dX5_isTwelfth_11 : decode cX5_isTwelfth 11 = .ok (.goto 4, 3) := by decide +kernel
theorem dX5_isTwelfth_14 : decode cX5_isTwelfth 14 = .ok (.iconst 0, 1) := by decide +kernel
theorem dX5_isTwelfth_15 : decode cX5_isTwelfth 15 = .ok (.ireturn, 1) := by decide +kernel
theorem dX5_refuse_0 : decode cX5_refuse 0 = .ok (.aload_n 0, 1) := by decide +kernel
theorem dX5_refuse_1 : decode cX5_refuse 1 = .ok (.iload_n 1, 1) := by decide +kernel
theorem dX5_refuse_2 : decode cX5_refuse 2 = .ok (.putfield 283, 3) := by decide +kernel
theorem dX5_refuse_5 : decode cX5_refuse 5 = .ok (.aload_n 0, 1) := by decide +kernel
theorem dX5_refuse_6 : decode cX5_refuse 6 = .ok (.getfield 41, 3) := by decide +kernel
theorem dX5_refuse_9 : decode cX5_refuse 9 = .ok (.iload_n 1, 1) := by decide +kernel
theorem dX5_refuse_10 : decode cX5_refuse 10 = .ok (.dup2, 1) := by decide +kernel
theorem dX5_refuse_11 : decode cX5_refuse 11 = .ok (.iaload, 1) := by decide +kernel
theorem dX5_refuse_12 : decode cX5_refuse 12 = .ok (.iconst 1, 1) := by decide +kernel
theorem dX5_refuse_13 : decode cX5_refuse 13 = .ok (.iadd, 1) := by decide +kernel
theorem dX5_refuse_14 : decode cX5_refuse 14 = .ok (.iastore, 1) := by decide +kernel
theorem dX5_refuse_15 : decode cX5_refuse 15 = .ok (.bipush (-3), 2) := by decide +kernel
theorem dX5_refuse_17 : decode cX5_refuse 17 = .ok (.ireturn, 1) := by decide +kernel
theorem dX5_tellFraction_0 : decode cX5_tellFraction 0 = .ok (.lload_n 1, 1) := by decide +kernel
theorem dX5_tellFraction_1 : decode cX5_tellFraction 1 = .ok (.lload_n 3, 1) := by decide +kernel
theorem dX5_tellFraction_2 : decode cX5_tellFraction 2 = .ok (.invokestatic 299, 3) := by decide +kernel
theorem dX5_tellFraction_5 : decode cX5_tellFraction 5 = .ok (.lstore 5, 2) := by decide +kernel
theorem dX5_tellFraction_7 : decode cX5_tellFraction 7 = .ok (.lload 5, 2) := by decide +kernel
theorem dX5_tellFraction_9 : decode cX5_tellFraction 9 = .ok (.lconst 0, 1) := by decide +kernel
theorem dX5_tellFraction_10 : decode cX5_tellFraction 10 = .ok (.lcmp, 1) := by decide +kernel
theorem dX5_tellFraction_11 : decode cX5_tellFraction 11 = .ok (.ifCond .le 19, 3) := by decide +kernel
theorem dX5_tellFraction_14 : decode cX5_tellFraction 14 = .ok (.aload_n 0, 1) := by decide +kernel
theorem dX5_tellFraction_15 : decode cX5_tellFraction 15 = .ok (.lload_n 1, 1) := by decide +kernel
theorem dX5_tellFraction_16 : decode cX5_tellFraction 16 = .ok (.lload 5, 2) := by decide +kernel
theorem dX5_tellFraction_18 : decode cX5_tellFraction 18 = .ok (.ldiv, 1) := by decide +kernel
theorem dX5_tellFraction_19 : decode cX5_tellFraction 19 = .ok (.putfield 273, 3) := by decide +kernel
theorem dX5_tellFraction_22 : decode cX5_tellFraction 22 = .ok (.aload_n 0, 1) := by decide +kernel
theorem dX5_tellFraction_23 : decode cX5_tellFraction 23 = .ok (.lload_n 3, 1) := by decide +kernel
theorem dX5_tellFraction_24 : decode cX5_tellFraction 24 = .ok (.lload 5, 2) := by decide +kernel
theorem dX5_tellFraction_26 : decode cX5_tellFraction 26 = .ok (.ldiv, 1) := by decide +kernel
theorem dX5_tellFraction_27 : decode cX5_tellFraction 27 = .ok (.putfield 45, 3) := by decide +kernel
theorem dX5_tellFraction_30 : decode cX5_tellFraction 30 = .ok (.return_, 1) := by decide +kernel
theorem dX5_divisor_0 : decode cX5_divisor 0 = .ok (.iconst 0, 1) := by decide +kernel
theorem dX5_divisor_1 : decode cX5_divisor 1 = .ok (.istore 4, 2) := by decide +kernel
theorem dX5_divisor_3 : decode cX5_divisor 3 = .ok (.iload 4, 2) := by decide +kernel
theorem dX5_divisor_5 : decode cX5_divisor 5 = .ok (.bipush 100, 2) := by decide +kernel
theorem dX5_divisor_7 : decode cX5_divisor 7 = .ok (.if_icmp .ge 25, 3) := by decide +kernel
theorem dX5_divisor_10 : decode cX5_divisor 10 = .ok (.lload_n 2, 1) := by decide +kernel
theorem dX5_divisor_11 : decode cX5_divisor 11 = .ok (.lconst 0, 1) := by decide +kernel
theorem dX5_divisor_12 : decode cX5_divisor 12 = .ok (.lcmp, 1) := by decide +kernel
theorem dX5_divisor_13 : decode cX5_divisor 13 = .ok (.ifCond .eq 19, 3) := by decide +kernel
theorem dX5_divisor_16 : decode cX5_divisor 16 = .ok (.lload_n 0, 1) := by decide +kernel
theorem dX5_divisor_17 : decode cX5_divisor 17 = .ok (.lload_n 2, 1) := by decide +kernel
theorem dX5_divisor_18 : decode cX5_divisor 18 = .ok (.lrem, 1) := by decide +kernel
theorem dX5_divisor_19 : decode cX5_divisor 19 = .ok (.lstore 5, 2) := by decide +kernel
theorem dX5_divisor_21 : decode cX5_divisor 21 = .ok (.lload_n 2, 1) := by decide +kernel
theorem dX5_divisor_22 : decode cX5_divisor 22 = .ok (.lstore_n 0, 1) := by decide +kernel
theorem dX5_divisor_23 : decode cX5_divisor 23 = .ok (.lload 5, 2) := by decide +kernel
theorem dX5_divisor_25 : decode cX5_divisor 25 = .ok (.lstore_n 2, 1) := by decide +kernel
theorem dX5_divisor_26 : decode cX5_divisor 26 = .ok (.iinc 4 1, 3) := by decide +kernel
theorem dX5_divisor_29 : decode cX5_divisor 29 = .ok (.goto (-26), 3) := by decide +kernel
theorem dX5_divisor_32 : decode cX5_divisor 32 = .ok (.lload_n 0, 1) := by decide +kernel
theorem dX5_divisor_33 : decode cX5_divisor 33 = .ok (.lreturn, 1) := by decide +kernel
theorem dX5_power_0 : decode cX5_power 0 = .ok (.lconst 1, 1) := by decide +kernel
theorem dX5_power_1 : decode cX5_power 1 = .ok (.lstore_n 2, 1) := by decide +kernel
theorem dX5_power_2 : decode cX5_power 2 = .ok (.iconst 0, 1) := by decide +kernel
theorem dX5_power_3 : decode cX5_power 3 = .ok (.istore 4, 2) := by decide +kernel
theorem dX5_power_5 : decode cX5_power 5 = .ok (.iload 4, 2) := by decide +kernel
theorem dX5_power_7 : decode cX5_power 7 = .ok (.iload_n 1, 1) := by decide +kernel
theorem dX5_power_8 : decode cX5_power 8 = .ok (.if_icmp .ge 14, 3) := by decide +kernel
theorem dX5_power_11 : decode cX5_power 11 = .ok (.lload_n 2, 1) := by decide +kernel
theorem dX5_power_12 : decode cX5_power 12 = .ok (.iload_n 0, 1) := by decide +kernel
theorem dX5_power_13 : decode cX5_power 13 = .ok (.i2l, 1) := by decide +kernel
theorem dX5_power_14 : decode cX5_power 14 = .ok (.lmul, 1) := by decide +kernel
theorem dX5_power_15 : decode cX5_power 15 = .ok (.lstore_n 2, 1) := by decide +kernel
theorem dX5_power_16 : decode cX5_power 16 = .ok (.iinc 4 1, 3) := by decide +kernel
theorem dX5_power_19 : decode cX5_power 19 = .ok (.goto (-14), 3) := by decide +kernel
theorem dX5_power_22 : decode cX5_power 22 = .ok (.lload_n 2, 1) := by decide +kernel
theorem dX5_power_23 : decode cX5_power 23 = .ok (.lreturn, 1) := by decide +kernel
theorem dX6_init_0 : decode cX6_init 0 = .ok (.aload_n 0, 1) := by decide +kernel
theorem dX6_init_1 : decode cX6_init 1 = .ok (.invokespecial 1, 3) := by decide +kernel
theorem dX6_init_4 : decode cX6_init 4 = .ok (.aload_n 0, 1) := by decide +kernel
theorem dX6_init_5 : decode cX6_init 5 = .ok (.bipush 6, 2) := by decide +kernel
theorem dX6_init_7 : decode cX6_init 7 = .ok (.newarray .int, 2) := by decide +kernel
theorem dX6_init_9 : decode cX6_init 9 = .ok (.putfield 7, 3) := by decide +kernel
theorem dX6_init_12 : decode cX6_init 12 = .ok (.aload_n 0, 1) := by decide +kernel
theorem dX6_init_13 : decode cX6_init 13 = .ok (.lconst 1, 1) := by decide +kernel
theorem dX6_init_14 : decode cX6_init 14 = .ok (.putfield 13, 3) := by decide +kernel
theorem dX6_init_17 : decode cX6_init 17 = .ok (.aload_n 0, 1) := by decide +kernel
theorem dX6_init_18 : decode cX6_init 18 = .ok (.bipush 6, 2) := by decide +kernel
theorem dX6_init_20 : decode cX6_init 20 = .ok (.newarray .int, 2) := by decide +kernel
theorem dX6_init_22 : decode cX6_init 22 = .ok (.putfield 17, 3) := by decide +kernel
theorem dX6_init_25 : decode cX6_init 25 = .ok (.aload_n 0, 1) := by decide +kernel
theorem dX6_init_26 : decode cX6_init 26 = .ok (.sipush 240, 3) := by decide +kernel
theorem dX6_init_29 : decode cX6_init 29 = .ok (.newarray .int, 2) := by decide +kernel
theorem dX6_init_31 : decode cX6_init 31 = .ok (.putfield 20, 3) := by decide +kernel
theorem dX6_init_34 : decode cX6_init 34 = .ok (.aload_n 0, 1) := by decide +kernel
theorem dX6_init_35 : decode cX6_init 35 = .ok (.bipush 40, 2) := by decide +kernel
theorem dX6_init_37 : decode cX6_init 37 = .ok (.newarray .int, 2) := by decide +kernel
theorem dX6_init_39 : decode cX6_init 39 = .ok (.putfield 23, 3) := by decide +kernel
theorem dX6_init_42 : decode cX6_init 42 = .ok (.aload_n 0, 1) := by decide +kernel
theorem dX6_init_43 : decode cX6_init 43 = .ok (.iconst 4, 1) := by decide +kernel
theorem dX6_init_44 : decode cX6_init 44 = .ok (.newarray .int, 2) := by decide +kernel
theorem dX6_init_46 : decode cX6_init 46 = .ok (.putfield 26, 3) := by decide +kernel
theorem dX6_init_49 : decode cX6_init 49 = .ok (.aload_n 0, 1) := by decide +kernel
theorem dX6_init_50 : decode cX6_init 50 = .ok (.sipush 400, 3) := by decide +kernel
theorem dX6_init_53 : decode cX6_init 53 = .ok (.newarray .int, 2) := by decide +kernel
theorem dX6_init_55 : decode cX6_init 55 = .ok (.putfield 29, 3) := by decide +kernel
theorem dX6_init_58 : decode cX6_init 58 = .ok (.aload_n 0, 1) := by decide +kernel
theorem dX6_init_59 : decode cX6_init 59 = .ok (.sipush 196, 3) := by decide +kernel
theorem dX6_init_62 : decode cX6_init 62 = .ok (.newarray .int, 2) := by decide +kernel
theorem dX6_init_64 : decode cX6_init 64 = .ok (.putfield 32, 3) := by decide +kernel
theorem dX6_init_67 : decode cX6_init 67 = .ok (.aload_n 0, 1) := by decide +kernel
theorem dX6_init_68 : decode cX6_init 68 = .ok (.bipush 14, 2) := by decide +kernel
theorem dX6_init_70 : decode cX6_init 70 = .ok (.newarray .int, 2) := by decide +kernel
theorem dX6_init_72 : decode cX6_init 72 = .ok (.putfield 35, 3) := by decide +kernel
theorem dX6_init_75 : decode cX6_init 75 = .ok (.aload_n 0, 1) := by decide +kernel
theorem dX6_init_76 : decode cX6_init 76 = .ok (.sipush 360, 3) := by decide +kernel
theorem dX6_init_79 : decode cX6_init 79 = .ok (.newarray .int, 2) := by decide +kernel
theorem dX6_init_81 : decode cX6_init 81 = .ok (.putfield 38, 3) := by decide +kernel
theorem dX6_init_84 : decode cX6_init 84 = .ok (.iconst 0, 1) := by decide +kernel
theorem dX6_init_85 : decode cX6_init 85 = .ok (.istore_n 1, 1) := by decide +kernel
theorem dX6_init_86 : decode cX6_init 86 = .ok (.iload_n 1, 1) := by decide +kernel
theorem dX6_init_87 : decode cX6_init 87 = .ok (.bipush 6, 2) := by decide +kernel
theorem dX6_init_89 : decode cX6_init 89 = .ok (.if_icmp .ge 17, 3) := by decide +kernel
theorem dX6_init_92 : decode cX6_init 92 = .ok (.aload_n 0, 1) := by decide +kernel
theorem dX6_init_93 : decode cX6_init 93 = .ok (.getfield 17, 3) := by decide +kernel
theorem dX6_init_96 : decode cX6_init 96 = .ok (.iload_n 1, 1) := by decide +kernel
theorem dX6_init_97 : decode cX6_init 97 = .ok (.bipush (-9), 2) := by decide +kernel
theorem dX6_init_99 : decode cX6_init 99 = .ok (.iastore, 1) := by decide +kernel
theorem dX6_init_100 : decode cX6_init 100 = .ok (.iinc 1 1, 3) := by decide +kernel
theorem dX6_init_103 : decode cX6_init 103 = .ok (.goto (-17), 3) := by decide +kernel
theorem dX6_init_106 : decode cX6_init 106 = .ok (.iconst 0, 1) := by decide +kernel
theorem dX6_init_107 : decode cX6_init 107 = .ok (.istore_n 1, 1) := by decide +kernel
theorem dX6_init_108 : decode cX6_init 108 = .ok (.iload_n 1, 1) := by decide +kernel
theorem dX6_init_109 : decode cX6_init 109 = .ok (.iconst 4, 1) := by decide +kernel
theorem dX6_init_110 : decode cX6_init 110 = .ok (.if_icmp .ge 17, 3) := by decide +kernel
theorem dX6_init_113 : decode cX6_init 113 = .ok (.aload_n 0, 1) := by decide +kernel
theorem dX6_init_114 : decode cX6_init 114 = .ok (.getfield 26, 3) := by decide +kernel
theorem dX6_init_117 : decode cX6_init 117 = .ok (.iload_n 1, 1) := by decide +kernel
theorem dX6_init_118 : decode cX6_init 118 = .ok (.bipush (-9), 2) := by decide +kernel
theorem dX6_init_120 : decode cX6_init 120 = .ok (.iastore, 1) := by decide +kernel
theorem dX6_init_121 : decode cX6_init 121 = .ok (.iinc 1 1, 3) := by decide +kernel
theorem dX6_init_124 : decode cX6_init 124 = .ok (.goto (-16), 3) := by decide +kernel
theorem dX6_init_127 : decode cX6_init 127 = .ok (.iconst 0, 1) := by decide +kernel
theorem dX6_init_128 : decode cX6_init 128 = .ok (.istore_n 1, 1) := by decide +kernel
theorem dX6_init_129 : decode cX6_init 129 = .ok (.iload_n 1, 1) := by decide +kernel
theorem dX6_init_130 : decode cX6_init 130 = .ok (.iconst 3, 1) := by decide +kernel
theorem dX6_init_131 : decode cX6_init 131 = .ok (.if_icmp .ge 20, 3) := by decide +kernel
theorem dX6_init_134 : decode cX6_init 134 = .ok (.aload_n 0, 1) := by decide +kernel
theorem dX6_init_135 : decode cX6_init 135 = .ok (.getfield 38, 3) := by decide +kernel
theorem dX6_init_138 : decode cX6_init 138 = .ok (.bipush 120, 2) := by decide +kernel
theorem dX6_init_140 : decode cX6_init 140 = .ok (.iload_n 1, 1) := by decide +kernel
theorem dX6_init_141 : decode cX6_init 141 = .ok (.imul, 1) := by decide +kernel
theorem dX6_init_142 : decode cX6_init 142 = .ok (.bipush (-9), 2) := by decide +kernel
theorem dX6_init_144 : decode cX6_init 144 = .ok (.iastore, 1) := by decide +kernel
theorem dX6_init_145 : decode cX6_init 145 = .ok (.iinc 1 1, 3) := by decide +kernel
theorem dX6_init_148 : decode cX6_init 148 = .ok (.goto (-19), 3) := by decide +kernel
theorem dX6_init_151 : decode cX6_init 151 = .ok (.return_, 1) := by decide +kernel
theorem dX6_in_0 : decode cX6_in 0 = .ok (.iload_n 0, 1) := by decide +kernel
theorem dX6_in_1 : decode cX6_in 1 = .ok (.iload_n 1, 1) := by decide +kernel
theorem dX6_in_2 : decode cX6_in 2 = .ok (.if_icmp .lt 12, 3) := by decide +kernel
theorem dX6_in_5 : decode cX6_in 5 = .ok (.iload_n 0, 1) := by decide +kernel
theorem dX6_in_6 : decode cX6_in 6 = .ok (.iload_n 2, 1) := by decide +kernel
theorem dX6_in_7 : decode cX6_in 7 = .ok (.if_icmp .gt 7, 3) := by decide +kernel
theorem dX6_in_10 : decode cX6_in 10 = .ok (.iconst 1, 1) := by decide +kernel
theorem dX6_in_11 : decode cX6_in 11 = .ok (.goto 4, 3) := by decide +kernel
theorem dX6_in_14 : decode cX6_in 14 = .ok (.iconst 0, 1) := by decide +kernel
theorem dX6_in_15 : decode cX6_in 15 = .ok (.ireturn, 1) := by decide +kernel
theorem dX6_meet_0 : decode cX6_meet 0 = .ok (.aload_n 0, 1) := by decide +kernel
theorem dX6_meet_1 : decode cX6_meet 1 = .ok (.iload_n 1, 1) := by decide +kernel
theorem dX6_meet_2 : decode cX6_meet 2 = .ok (.putfield 41, 3) := by decide +kernel
theorem dX6_meet_5 : decode cX6_meet 5 = .ok (.aload_n 0, 1) := by decide +kernel
theorem dX6_meet_6 : decode cX6_meet 6 = .ok (.getfield 7, 3) := by decide +kernel
theorem dX6_meet_9 : decode cX6_meet 9 = .ok (.iload_n 1, 1) := by decide +kernel
theorem dX6_meet_10 : decode cX6_meet 10 = .ok (.dup2, 1) := by decide +kernel
theorem dX6_meet_11 : decode cX6_meet 11 = .ok (.iaload, 1) := by decide +kernel
theorem dX6_meet_12 : decode cX6_meet 12 = .ok (.iconst 1, 1) := by decide +kernel
theorem dX6_meet_13 : decode cX6_meet 13 = .ok (.iadd, 1) := by decide +kernel
theorem dX6_meet_14 : decode cX6_meet 14 = .ok (.iastore, 1) := by decide +kernel
theorem dX6_meet_15 : decode cX6_meet 15 = .ok (.bipush (-3), 2) := by decide +kernel
theorem dX6_meet_17 : decode cX6_meet 17 = .ok (.ireturn, 1) := by decide +kernel
theorem dX6_ask_0 : decode cX6_ask 0 = .ok (.aload_n 0, 1) := by decide +kernel
theorem dX6_ask_1 : decode cX6_ask 1 = .ok (.iload_n 1, 1) := by decide +kernel
theorem dX6_ask_2 : decode cX6_ask 2 = .ok (.putfield 45, 3) := by decide +kernel
theorem dX6_ask_5 : decode cX6_ask 5 = .ok (.iload_n 2, 1) := by decide +kernel
theorem dX6_ask_6 : decode cX6_ask 6 = .ok (.ireturn, 1) := by decide +kernel
theorem dX6_part_0 : decode cX6_part 0 = .ok (.lload_n 1, 1) := by decide +kernel
theorem dX6_part_1 : decode cX6_part 1 = .ok (.lstore 6, 2) := by decide +kernel
theorem dX6_part_3 : decode cX6_part 3 = .ok (.lload_n 3, 1) := by decide +kernel
theorem dX6_part_4 : decode cX6_part 4 = .ok (.lstore 8, 2) := by decide +kernel
theorem dX6_part_6 : decode cX6_part 6 = .ok (.lload 8, 2) := by decide +kernel
theorem dX6_part_8 : decode cX6_part 8 = .ok (.lconst 0, 1) := by decide +kernel
theorem dX6_part_9 : decode cX6_part 9 = .ok (.lcmp, 1) := by decide +kernel
theorem dX6_part_10 : decode cX6_part 10 = .ok (.ifCond .eq 21, 3) := by decide +kernel
theorem dX6_part_13 : decode cX6_part 13 = .ok (.lload 6, 2) := by decide +kernel
theorem dX6_part_15 : decode cX6_part 15 = .ok (.lload 8, 2) := by decide +kernel
theorem dX6_part_17 : decode cX6_part 17 = .ok (.lrem, 1) := by decide +kernel
theorem dX6_part_18 : decode cX6_part 18 = .ok (.lstore 10, 2) := by decide +kernel
theorem dX6_part_20 : decode cX6_part 20 = .ok (.lload 8, 2) := by decide +kernel
theorem dX6_part_22 : decode cX6_part 22 = .ok (.lstore 6, 2) := by decide +kernel
theorem dX6_part_24 : decode cX6_part 24 = .ok (.lload 10, 2) := by decide +kernel
theorem dX6_part_26 : decode cX6_part 26 = .ok (.lstore 8, 2) := by decide +kernel
theorem dX6_part_28 : decode cX6_part 28 = .ok (.goto (-22), 3) := by decide +kernel
theorem dX6_part_31 : decode cX6_part 31 = .ok (.aload_n 0, 1) := by decide +kernel
theorem dX6_part_32 : decode cX6_part 32 = .ok (.lload_n 1, 1) := by decide +kernel
theorem dX6_part_33 : decode cX6_part 33 = .ok (.lload 6, 2) := by decide +kernel
theorem dX6_part_35 : decode cX6_part 35 = .ok (.ldiv, 1) := by decide +kernel
theorem dX6_part_36 : decode cX6_part 36 = .ok (.putfield 48, 3) := by decide +kernel
theorem dX6_part_39 : decode cX6_part 39 = .ok (.aload_n 0, 1) := by decide +kernel
theorem dX6_part_40 : decode cX6_part 40 = .ok (.lload_n 3, 1) := by decide +kernel
theorem dX6_part_41 : decode cX6_part 41 = .ok (.lload 6, 2) := by decide +kernel
theorem dX6_part_43 : decode cX6_part 43 = .ok (.ldiv, 1) := by decide +kernel
theorem dX6_part_44 : decode cX6_part 44 = .ok (.putfield 13, 3) := by decide +kernel
theorem dX6_part_47 : decode cX6_part 47 = .ok (.iload 5, 2) := by decide +kernel
theorem dX6_part_49 : decode cX6_part 49 = .ok (.ireturn, 1) := by decide +kernel
theorem dX6_has_0 : decode cX6_has 0 = .ok (.iload_n 0, 1) := by decide +kernel
theorem dX6_has_1 : decode cX6_has 1 = .ok (.iload_n 1, 1) := by decide +kernel
theorem dX6_has_2 : decode cX6_has 2 = .ok (.ishr, 1) := by decide +kernel
theorem dX6_has_3 : decode cX6_has 3 = .ok (.iconst 1, 1) := by decide +kernel
theorem dX6_has_4 : decode cX6_has 4 = .ok (.iand, 1) := by decide +kernel
theorem dX6_has_5 : decode cX6_has 5 = .ok (.iconst 1, 1) := by decide +kernel
theorem dX6_has_6 : decode cX6_has 6 = .ok (.if_icmp .ne 7, 3) := by decide +kernel
theorem dX6_has_9 : decode cX6_has 9 = .ok (.iconst 1, 1) := by decide +kernel
theorem dX6_has_10 : decode cX6_has 10 = .ok (.goto 4, 3) := by decide +kernel
theorem dX6_has_13 : decode cX6_has 13 = .ok (.iconst 0, 1) := by decide +kernel
theorem dX6_has_14 : decode cX6_has 14 = .ok (.ireturn, 1) := by decide +kernel
theorem dX6_sizeOf_0 : decode cX6_sizeOf 0 = .ok (.iconst 0, 1) := by decide +kernel
theorem dX6_sizeOf_1 : decode cX6_sizeOf 1 = .ok (.istore_n 1, 1) := by decide +kernel
theorem dX6_sizeOf_2 : decode cX6_sizeOf 2 = .ok (.iconst 0, 1) := by decide +kernel
theorem dX6_sizeOf_3 : decode cX6_sizeOf 3 = .ok (.istore_n 2, 1) := by decide +kernel
theorem dX6_sizeOf_4 : decode cX6_sizeOf 4 = .ok (.iload_n 2, 1) := by decide +kernel
theorem dX6_sizeOf_5 : decode cX6_sizeOf 5 = .ok (.bipush 14, 2) := by decide +kernel
theorem dX6_sizeOf_7 : decode cX6_sizeOf 7 = .ok (.if_icmp .ge 17, 3) := by decide +kernel
theorem dX6_sizeOf_10 : decode cX6_sizeOf 10 = .ok (.iload_n 1, 1) := by decide +kernel
theorem dX6_sizeOf_11 : decode cX6_sizeOf 11 = .ok (.iload_n 0, 1) := by decide +kernel
theorem dX6_sizeOf_12 : decode cX6_sizeOf 12 = .ok (.iload_n 2, 1) := by decide +kernel
theorem dX6_sizeOf_13 : decode cX6_sizeOf 13 = .ok (.ishr, 1) := by decide +kernel
theorem dX6_sizeOf_14 : decode cX6_sizeOf 14 = .ok (.iconst 1, 1) := by decide +kernel
theorem dX6_sizeOf_15 : decode cX6_sizeOf 15 = .ok (.iand, 1) := by decide +kernel
theorem dX6_sizeOf_16 : decode cX6_sizeOf 16 = .ok (.iadd, 1) := by decide +kernel
theorem dX6_sizeOf_17 : decode cX6_sizeOf 17 = .ok (.istore_n 1, 1) := by decide +kernel
theorem dX6_sizeOf_18 : decode cX6_sizeOf 18 = .ok (.iinc 2 1, 3) := by decide +kernel
theorem dX6_sizeOf_21 : decode cX6_sizeOf 21 = .ok (.goto (-17), 3) := by decide +kernel
theorem dX6_sizeOf_24 : decode cX6_sizeOf 24 = .ok (.iload_n 1, 1) := by decide +kernel
theorem dX6_sizeOf_25 : decode cX6_sizeOf 25 = .ok (.ireturn, 1) := by decide +kernel
theorem dX6_isRow_0 : decode cX6_isRow 0 = .ok (.iload_n 0, 1) := by decide +kernel
theorem dX6_isRow_1 : decode cX6_isRow 1 = .ok (.iconst 0, 1) := by decide +kernel
theorem dX6_isRow_2 : decode cX6_isRow 2 = .ok (.iconst 5, 1) := by decide +kernel
theorem dX6_isRow_3 : decode cX6_isRow 3 = .ok (.invokestatic 51, 3) := by decide +kernel
theorem dX6_isRow_6 : decode cX6_isRow 6 = .ok (.ireturn, 1) := by decide +kernel
theorem dX6_isText_0 : decode cX6_isText 0 = .ok (.iload_n 0, 1) := by decide +kernel
theorem dX6_isText_1 : decode cX6_isText 1 = .ok (.iconst 0, 1) := by decide +kernel
theorem dX6_isText_2 : decode cX6_isText 2 = .ok (.iconst 3, 1) := by decide +kernel
theorem dX6_isText_3 : decode cX6_isText 3 = .ok (.invokestatic 51, 3) := by decide +kernel
theorem dX6_isText_6 : decode cX6_isText 6 = .ok (.ireturn, 1) := by decide +kernel
theorem dX6_askedRow_0 : decode cX6_askedRow 0 = .ok (.iload_n 1, 1) := by decide +kernel
theorem dX6_askedRow_1 : decode cX6_askedRow 1 = .ok (.invokestatic 55, 3) := by decide +kernel
theorem dX6_askedRow_4 : decode cX6_askedRow 4 = .ok (.ifCond .ne 7, 3) := by decide +kernel
theorem dX6_askedRow_7 : decode cX6_askedRow 7 = .ok (.iconst (-1), 1) := by decide +kernel
theorem dX6_askedRow_8 : decode cX6_askedRow 8 = .ok (.goto 21, 3) := by decide +kernel
theorem dX6_askedRow_11 : decode cX6_askedRow 11 = .ok (.aload_n 0, 1) := by decide +kernel
theorem dX6_askedRow_12 : decode cX6_askedRow 12 = .ok (.getfield 17, 3) := by decide +kernel
theorem dX6_askedRow_15 : decode cX6_askedRow 15 = .ok (.iload_n 1, 1) := by decide +kernel
theorem dX6_askedRow_16 : decode cX6_askedRow 16 = .ok (.iaload, 1) := by decide +kernel
theorem dX6_askedRow_17 : decode cX6_askedRow 17 = .ok (.ifCond .ge 11, 3) := by decide +kernel
theorem dX6_askedRow_20 : decode cX6_askedRow 20 = .ok (.aload_n 0, 1) := by decide +kernel
theorem dX6_askedRow_21 : decode cX6_askedRow 21 = .ok (.iconst 1, 1) := by decide +kernel
theorem dX6_askedRow_22 : decode cX6_askedRow 22 = .ok (.invokevirtual 59, 3) := by decide +kernel
theorem dX6_askedRow_25 : decode cX6_askedRow 25 = .ok (.goto 4, 3) := by decide +kernel
theorem dX6_askedRow_28 : decode cX6_askedRow 28 = .ok (.iconst 0, 1) := by decide +kernel
theorem dX6_askedRow_29 : decode cX6_askedRow 29 = .ok (.ireturn, 1) := by decide +kernel
theorem dX6_askedText_0 : decode cX6_askedText 0 = .ok (.iload_n 1, 1) := by decide +kernel
theorem dX6_askedText_1 : decode cX6_askedText 1 = .ok (.invokestatic 63, 3) := by decide +kernel
theorem dX6_askedText_4 : decode cX6_askedText 4 = .ok (.ifCond .ne 7, 3) := by decide +kernel
theorem dX6_askedText_7 : decode cX6_askedText 7 = .ok (.iconst (-1), 1) := by decide +kernel
theorem dX6_askedText_8 : decode cX6_askedText 8 = .ok (.goto 21, 3) := by decide +kernel
theorem dX6_askedText_11 : decode cX6_askedText 11 = .ok (.aload_n 0, 1) := by decide +kernel
theorem dX6_askedText_12 : decode cX6_askedText 12 = .ok (.getfield 26, 3) := by decide +kernel
theorem dX6_askedText_15 : decode cX6_askedText 15 = .ok (.iload_n 1, 1) := by decide +kernel
theorem dX6_askedText_16 : decode cX6_askedText 16 = .ok (.iaload, 1) := by decide +kernel
theorem dX6_askedText_17 : decode cX6_askedText 17 = .ok (.ifCond .ge 11, 3) := by decide +kernel
theorem dX6_askedText_20 : decode cX6_askedText 20 = .ok (.aload_n 0, 1) := by decide +kernel
theorem dX6_askedText_21 : decode cX6_askedText 21 = .ok (.iconst 1, 1) := by decide +kernel
theorem dX6_askedText_22 : decode cX6_askedText 22 = .ok (.invokevirtual 59, 3) := by decide +kernel
theorem dX6_askedText_25 : decode cX6_askedText 25 = .ok (.goto 4, 3) := by decide +kernel
theorem dX6_askedText_28 : decode cX6_askedText 28 = .ok (.iconst 0, 1) := by decide +kernel
theorem dX6_askedText_29 : decode cX6_askedText 29 = .ok (.ireturn, 1) := by decide +kernel
theorem dX6_rowAt_0 : decode cX6_rowAt 0 = .ok (.aload_n 0, 1) := by decide +kernel
theorem dX6_rowAt_1 : decode cX6_rowAt 1 = .ok (.getfield 20, 3) := by decide +kernel
theorem dX6_rowAt_4 : decode cX6_rowAt 4 = .ok (.bipush 40, 2) := by decide +kernel
theorem dX6_rowAt_6 : decode cX6_rowAt 6 = .ok (.iload_n 1, 1) := by decide +kernel
theorem dX6_rowAt_7 : decode cX6_rowAt 7 = .ok (.imul, 1) := by decide +kernel
theorem dX6_rowAt_8 : decode cX6_rowAt 8 = .ok (.iload_n 2, 1) := by decide +kernel
theorem dX6_rowAt_9 : decode cX6_rowAt 9 = .ok (.iadd, 1) := by decide +kernel
theorem dX6_rowAt_10 : decode cX6_rowAt 10 = .ok (.iaload, 1) := by decide +kernel
theorem dX6_rowAt_11 : decode cX6_rowAt 11 = .ok (.ireturn, 1) := by decide +kernel
theorem dX6_setRow_0 : decode cX6_setRow 0 = .ok (.aload_n 0, 1) := by decide +kernel
theorem dX6_setRow_1 : decode cX6_setRow 1 = .ok (.getfield 20, 3) := by decide +kernel
theorem dX6_setRow_4 : decode cX6_setRow 4 = .ok (.bipush 40, 2) := by decide +kernel
theorem dX6_setRow_6 : decode cX6_setRow 6 = .ok (.iload_n 1, 1) := by decide +kernel
theorem dX6_setRow_7 : decode cX6_setRow 7 = .ok (.imul, 1) := by decide +kernel
theorem dX6_setRow_8 : decode cX6_setRow 8 = .ok (.iload_n 2, 1) := by decide +kernel
theorem dX6_setRow_9 : decode cX6_setRow 9 = .ok (.iadd, 1) := by decide +kernel
theorem dX6_setRow_10 : decode cX6_setRow 10 = .ok (.iload_n 3, 1) := by decide +kernel
theorem dX6_setRow_11 : decode cX6_setRow 11 = .ok (.iastore, 1) := by decide +kernel
theorem dX6_setRow_12 : decode cX6_setRow 12 = .ok (.return_, 1) := by decide +kernel
theorem dX6_row_0 : decode cX6_row 0 = .ok (.iload_n 1, 1) := by decide +kernel
theorem dX6_row_1 : decode cX6_row 1 = .ok (.invokestatic 55, 3) := by decide +kernel
theorem dX6_row_4 : decode cX6_row 4 = .ok (.ifCond .eq 9, 3) := by decide +kernel
theorem dX6_row_7 : decode cX6_row 7 = .ok (.iload_n 2, 1) := by decide +kernel
theorem dX6_row_8 : decode cX6_row 8 = .ok (.bipush 40, 2) := by decide +kernel
theorem dX6_row_10 : decode cX6_row 10 = .ok (.if_icmp .le 5, 3) := by decide +kernel
theorem dX6_row_13 : decode cX6_row 13 = .ok (.iconst (-1), 1) := by decide +kernel
theorem dX6_row_14 : decode cX6_row 14 = .ok (.ireturn, 1) := by decide +kernel
theorem dX6_row_15 : decode cX6_row 15 = .ok (.iload_n 2, 1) := by decide +kernel
theorem dX6_row_16 : decode cX6_row 16 = .ok (.ifCond .ge 9, 3) := by decide +kernel
theorem dX6_row_19 : decode cX6_row 19 = .ok (.aload_n 0, 1) := by decide +kernel
theorem dX6_row_20 : decode cX6_row 20 = .ok (.iconst 5, 1) := by decide +kernel
theorem dX6_row_21 : decode cX6_row 21 = .ok (.invokevirtual 59, 3) := by decide +kernel
theorem dX6_row_24 : decode cX6_row 24 = .ok (.ireturn, 1) := by decide +kernel
theorem dX6_row_25 : decode cX6_row 25 = .ok (.aload_n 0, 1) := by decide +kernel
theorem dX6_row_26 : decode cX6_row 26 = .ok (.getfield 17, 3) := by decide +kernel
theorem dX6_row_29 : decode cX6_row 29 = .ok (.iload_n 1, 1) := by decide +kernel
theorem dX6_row_30 : decode cX6_row 30 = .ok (.iload_n 2, 1) := by decide +kernel
theorem dX6_row_31 : decode cX6_row 31 = .ok (.iastore, 1) := by decide +kernel
theorem dX6_row_32 : decode cX6_row 32 = .ok (.iconst 0, 1) := by decide +kernel
theorem dX6_row_33 : decode cX6_row 33 = .ok (.istore_n 3, 1) := by decide +kernel
theorem dX6_row_34 : decode cX6_row 34 = .ok (.iload_n 3, 1) := by decide +kernel
theorem dX6_row_35 : decode cX6_row 35 = .ok (.bipush 40, 2) := by decide +kernel
theorem dX6_row_37 : decode cX6_row 37 = .ok (.if_icmp .ge 16, 3) := by decide +kernel
theorem dX6_row_40 : decode cX6_row 40 = .ok (.aload_n 0, 1) := by decide +kernel
theorem dX6_row_41 : decode cX6_row 41 = .ok (.iload_n 1, 1) := by decide +kernel
theorem dX6_row_42 : decode cX6_row 42 = .ok (.iload_n 3, 1) := by decide +kernel
theorem dX6_row_43 : decode cX6_row 43 = .ok (.iconst 0, 1) := by decide +kernel
theorem dX6_row_44 : decode cX6_row 44 = .ok (.invokevirtual 66, 3) := by decide +kernel
theorem dX6_row_47 : decode cX6_row 47 = .ok (.iinc 3 1, 3) := by decide +kernel
theorem dX6_row_50 : decode cX6_row 50 = .ok (.goto (-16), 3) := by decide +kernel
theorem dX6_row_53 : decode cX6_row 53 = .ok (.iload_n 2, 1) := by decide +kernel
theorem dX6_row_54 : decode cX6_row 54 = .ok (.ireturn, 1) := by decide +kernel
theorem dX6_at_0 : decode cX6_at 0 = .ok (.aload_n 0, 1) := by decide +kernel
theorem dX6_at_1 : decode cX6_at 1 = .ok (.iload_n 1, 1) := by decide +kernel
theorem dX6_at_2 : decode cX6_at 2 = .ok (.invokevirtual 70, 3) := by decide +kernel
theorem dX6_at_5 : decode cX6_at 5 = .ok (.istore_n 3, 1) := by decide +kernel
theorem dX6_at_6 : decode cX6_at 6 = .ok (.iload_n 3, 1) := by decide +kernel
theorem dX6_at_7 : decode cX6_at 7 = .ok (.ifCond .ge 5, 3) := by decide +kernel
theorem dX6_at_10 : decode cX6_at 10 = .ok (.iload_n 3, 1) := by decide +kernel
theorem dX6_at_11 : decode cX6_at 11 = .ok (.ireturn, 1) := by decide +kernel
theorem dX6_at_12 : decode cX6_at 12 = .ok (.iload_n 2, 1) := by decide +kernel
theorem dX6_at_13 : decode cX6_at 13 = .ok (.iconst 0, 1) := by decide +kernel
theorem dX6_at_14 : decode cX6_at 14 = .ok (.aload_n 0, 1) := by decide +kernel
theorem dX6_at_15 : decode cX6_at 15 = .ok (.getfield 17, 3) := by decide +kernel
theorem dX6_at_18 : decode cX6_at 18 = .ok (.iload_n 1, 1) := by decide +kernel
theorem dX6_at_19 : decode cX6_at 19 = .ok (.iaload, 1) := by decide +kernel
theorem dX6_at_20 : decode cX6_at 20 = .ok (.iconst 1, 1) := by decide +kernel
theorem dX6_at_21 : decode cX6_at 21 = .ok (.isub, 1) := by decide +kernel
theorem dX6_at_22 : decode cX6_at 22 = .ok (.invokestatic 51, 3) := by decide +kernel
theorem dX6_at_25 : decode cX6_at 25 = .ok (.ifCond .eq 17, 3) := by decide +kernel
theorem dX6_at_28 : decode cX6_at 28 = .ok (.aload_n 0, 1) := by decide +kernel
theorem dX6_at_29 : decode cX6_at 29 = .ok (.aload_n 0, 1) := by decide +kernel
theorem dX6_at_30 : decode cX6_at 30 = .ok (.iload_n 1, 1) := by decide +kernel
theorem dX6_at_31 : decode cX6_at 31 = .ok (.iload_n 2, 1) := by decide +kernel
theorem dX6_at_32 : decode cX6_at 32 = .ok (.invokevirtual 73, 3) := by decide +kernel
theorem dX6_at_35 : decode cX6_at 35 = .ok (.iconst 1, 1) := by decide +kernel
theorem dX6_at_36 : decode cX6_at 36 = .ok (.invokevirtual 77, 3) := by decide +kernel
theorem dX6_at_39 : decode cX6_at 39 = .ok (.goto 8, 3) := by decide +kernel
theorem dX6_at_42 : decode cX6_at 42 = .ok (.aload_n 0, 1) := by decide +kernel
theorem dX6_at_43 : decode cX6_at 43 = .ok (.iconst 2, 1) := by decide +kernel
theorem dX6_at_44 : decode cX6_at 44 = .ok (.invokevirtual 59, 3) := by decide +kernel
theorem dX6_at_47 : decode cX6_at 47 = .ok (.ireturn, 1) := by decide +kernel
theorem dX6_lay_0 : decode cX6_lay 0 = .ok (.aload_n 0, 1) := by decide +kernel
theorem dX6_lay_1 : decode cX6_lay 1 = .ok (.iload_n 1, 1) := by decide +kernel
theorem dX6_lay_2 : decode cX6_lay 2 = .ok (.iload_n 2, 1) := by decide +kernel
theorem dX6_lay_3 : decode cX6_lay 3 = .ok (.invokevirtual 80, 3) := by decide +kernel
theorem dX6_lay_6 : decode cX6_lay 6 = .ok (.istore 4, 2) := by decide +kernel
theorem dX6_lay_8 : decode cX6_lay 8 = .ok (.iload 4, 2) := by decide +kernel
theorem dX6_lay_10 : decode cX6_lay 10 = .ok (.ifCond .ge 6, 3) := by decide +kernel
theorem dX6_lay_13 : decode cX6_lay 13 = .ok (.iload 4, 2) := by decide +kernel
theorem dX6_lay_15 : decode cX6_lay 15 = .ok (.ireturn, 1) := by decide +kernel
theorem dX6_lay_16 : decode cX6_lay 16 = .ok (.aload_n 0, 1) := by decide +kernel
theorem dX6_lay_17 : decode cX6_lay 17 = .ok (.iload_n 1, 1) := by decide +kernel
theorem dX6_lay_18 : decode cX6_lay 18 = .ok (.iload_n 2, 1) := by decide +kernel
theorem dX6_lay_19 : decode cX6_lay 19 = .ok (.iload_n 3, 1) := by decide +kernel
theorem dX6_lay_20 : decode cX6_lay 20 = .ok (.invokevirtual 66, 3) := by decide +kernel
theorem dX6_lay_23 : decode cX6_lay 23 = .ok (.iconst 1, 1) := by decide +kernel
theorem dX6_lay_24 : decode cX6_lay 24 = .ok (.ireturn, 1) := by decide +kernel
theorem dX6_tear_0 : decode cX6_tear 0 = .ok (.aload_n 0, 1) := by decide +kernel
theorem dX6_tear_1 : decode cX6_tear 1 = .ok (.iload_n 1, 1) := by decide +kernel
theorem dX6_tear_2 : decode cX6_tear 2 = .ok (.invokevirtual 70, 3) := by decide +kernel
theorem dX6_tear_5 : decode cX6_tear 5 = .ok (.istore_n 2, 1) := by decide +kernel
theorem dX6_tear_6 : decode cX6_tear 6 = .ok (.iload_n 2, 1) := by decide +kernel
theorem dX6_tear_7 : decode cX6_tear 7 = .ok (.ifCond .ge 5, 3) := by decide +kernel
theorem dX6_tear_10 : decode cX6_tear 10 = .ok (.iload_n 2, 1) := by decide +kernel
theorem dX6_tear_11 : decode cX6_tear 11 = .ok (.ireturn, 1) := by decide +kernel
theorem dX6_tear_12 : decode cX6_tear 12 = .ok (.aload_n 0, 1) := by decide +kernel
theorem dX6_tear_13 : decode cX6_tear 13 = .ok (.getfield 17, 3) := by decide +kernel
theorem dX6_tear_16 : decode cX6_tear 16 = .ok (.iload_n 1, 1) := by decide +kernel
theorem dX6_tear_17 : decode cX6_tear 17 = .ok (.bipush (-9), 2) := by decide +kernel
theorem dX6_tear_19 : decode cX6_tear 19 = .ok (.iastore, 1) := by decide +kernel
theorem dX6_tear_20 : decode cX6_tear 20 = .ok (.iconst 1, 1) := by decide +kernel
theorem dX6_tear_21 : decode cX6_tear 21 = .ok (.ireturn, 1) := by decide +kernel
theorem dX6_copy_0 : decode cX6_copy 0 = .ok (.iload_n 1, 1) := by decide +kernel
theorem dX6_copy_1 : decode cX6_copy 1 = .ok (.invokestatic 55, 3) := by decide +kernel
theorem dX6_copy_4 : decode cX6_copy 4 = .ok (.ifCond .eq 10, 3) := by decide +kernel
theorem dX6_copy_7 : decode cX6_copy 7 = .ok (.iload_n 3, 1) := by decide +kernel
theorem dX6_copy_8 : decode cX6_copy 8 = .ok (.invokestatic 55, 3) := by decide +kernel
theorem dX6_copy_11 : decode cX6_copy 11 = .ok (.ifCond .ne 5, 3) := by decide +kernel
theorem dX6_copy_14 : decode cX6_copy 14 = .ok (.iconst (-1), 1) := by decide +kernel
theorem dX6_copy_15 : decode cX6_copy 15 = .ok (.ireturn, 1) := by decide +kernel
theorem dX6_copy_16 : decode cX6_copy 16 = .ok (.iload 5, 2) := by decide +kernel
theorem dX6_copy_18 : decode cX6_copy 18 = .ok (.ifCond .ge 9, 3) := by decide +kernel
theorem dX6_copy_21 : decode cX6_copy 21 = .ok (.aload_n 0, 1) := by decide +kernel
theorem dX6_copy_22 : decode cX6_copy 22 = .ok (.iconst 5, 1) := by decide +kernel
theorem dX6_copy_23 : decode cX6_copy 23 = .ok (.invokevirtual 59, 3) := by decide +kernel
theorem dX6_copy_26 : decode cX6_copy 26 = .ok (.ireturn, 1) := by decide +kernel
theorem dX6_copy_27 : decode cX6_copy 27 = .ok (.aload_n 0, 1) := by decide +kernel
theorem dX6_copy_28 : decode cX6_copy 28 = .ok (.getfield 17, 3) := by decide +kernel
theorem dX6_copy_31 : decode cX6_copy 31 = .ok (.iload_n 1, 1) := by decide +kernel
theorem dX6_copy_32 : decode cX6_copy 32 = .ok (.iaload, 1) := by decide +kernel
theorem dX6_copy_33 : decode cX6_copy 33 = .ok (.ifCond .lt 12, 3) := by decide +kernel
theorem dX6_copy_36 : decode cX6_copy 36 = .ok (.aload_n 0, 1) := by decide +kernel
theorem dX6_copy_37 : decode cX6_copy 37 = .ok (.getfield 17, 3) := by decide +kernel
theorem dX6_copy_40 : decode cX6_copy 40 = .ok (.iload_n 3, 1) := by decide +kernel
theorem dX6_copy_41 : decode cX6_copy 41 = .ok (.iaload, 1) := by decide +kernel
theorem dX6_copy_42 : decode cX6_copy 42 = .ok (.ifCond .ge 9, 3) := by decide +kernel
theorem dX6_copy_45 : decode cX6_copy 45 = .ok (.aload_n 0, 1) := by decide +kernel
theorem dX6_copy_46 : decode cX6_copy 46 = .ok (.iconst 1, 1) := by decide +kernel
theorem dX6_copy_47 : decode cX6_copy 47 = .ok (.invokevirtual 59, 3) := by decide +kernel
theorem dX6_copy_50 : decode cX6_copy 50 = .ok (.ireturn, 1) := by decide +kernel
theorem dX6_copy_51 : decode cX6_copy 51 = .ok (.iload_n 2, 1) := by decide +kernel
theorem dX6_copy_52 : decode cX6_copy 52 = .ok (.ifCond .lt 43, 3) := by decide +kernel
theorem dX6_copy_55 : decode cX6_copy 55 = .ok (.iload 4, 2) := by decide +kernel
theorem dX6_copy_57 : decode cX6_copy 57 = .ok (.ifCond .lt 38, 3) := by decide +kernel
theorem dX6_copy_60 : decode cX6_copy 60 = .ok (.iload_n 2, 1) := by decide +kernel
theorem dX6_copy_61 : decode cX6_copy 61 = .ok (.i2l, 1) := by decide +kernel
theorem dX6_copy_62 : decode cX6_copy 62 = .ok (.iload 5, 2) := by decide +kernel
theorem dX6_copy_64 : decode cX6_copy 64 = .ok (.i2l, 1) := by decide +kernel
theorem dX6_copy_65 : decode cX6_copy 65 = .ok (.ladd, 1) := by decide +kernel
theorem dX6_copy_66 : decode cX6_copy 66 = .ok (.aload_n 0, 1) := by decide +kernel
theorem dX6_copy_67 : decode cX6_copy 67 = .ok (.getfield 17, 3) := by decide +kernel
theorem dX6_copy_70 : decode cX6_copy 70 = .ok (.iload_n 1, 1) := by decide +kernel
theorem dX6_copy_71 : decode cX6_copy 71 = .ok (.iaload, 1) := by decide +kernel
theorem dX6_copy_72 : decode cX6_copy 72 = .ok (.i2l, 1) := by decide +kernel
theorem dX6_copy_73 : decode cX6_copy 73 = .ok (.lcmp, 1) := by decide +kernel
theorem dX6_copy_74 : decode cX6_copy 74 = .ok (.ifCond .gt 21, 3) := by decide +kernel
theorem dX6_copy_77 : decode cX6_copy 77 = .ok (.iload 4, 2) := by decide +kernel
theorem dX6_copy_79 : decode cX6_copy 79 = .ok (.i2l, 1) := by decide +kernel
theorem dX6_copy_80 : decode cX6_copy 80 = .ok (.iload 5, 2) := by decide +kernel
theorem dX6_copy_82 : decode cX6_copy 82 = .ok (.i2l, 1) := by decide +kernel
theorem dX6_copy_83 : decode cX6_copy 83 = .ok (.ladd, 1) := by decide +kernel
theorem dX6_copy_84 : decode cX6_copy 84 = .ok (.aload_n 0, 1) := by decide +kernel
theorem dX6_copy_85 : decode cX6_copy 85 = .ok (.getfield 17, 3) := by decide +kernel
theorem dX6_copy_88 : decode cX6_copy 88 = .ok (.iload_n 3, 1) := by decide +kernel
theorem dX6_copy_89 : decode cX6_copy 89 = .ok (.iaload, 1) := by decide +kernel
theorem dX6_copy_90 : decode cX6_copy 90 = .ok (.i2l, 1) := by decide +kernel
theorem dX6_copy_91 : decode cX6_copy 91 = .ok (.lcmp, 1) := by decide +kernel
theorem dX6_copy_92 : decode cX6_copy 92 = .ok (.ifCond .le 9, 3) := by decide +kernel
theorem dX6_copy_95 : decode cX6_copy 95 = .ok (.aload_n 0, 1) := by decide +kernel
theorem dX6_copy_96 : decode cX6_copy 96 = .ok (.iconst 2, 1) := by decide +kernel
theorem dX6_copy_97 : decode cX6_copy 97 = .ok (.invokevirtual 59, 3) := by decide +kernel
theorem dX6_copy_100 : decode cX6_copy 100 = .ok (.ireturn, 1) := by decide +kernel
theorem dX6_copy_101 : decode cX6_copy 101 = .ok (.iconst 0, 1) := by decide +kernel
theorem dX6_copy_102 : decode cX6_copy 102 = .ok (.istore 6, 2) := by decide +kernel
theorem dX6_copy_104 : decode cX6_copy 104 = .ok (.iload 6, 2) := by decide +kernel
theorem dX6_copy_106 : decode cX6_copy 106 = .ok (.iload 5, 2) := by decide +kernel
theorem dX6_copy_108 : decode cX6_copy 108 = .ok (.if_icmp .ge 25, 3) := by decide +kernel
theorem dX6_copy_111 : decode cX6_copy 111 = .ok (.aload_n 0, 1) := by decide +kernel
theorem dX6_copy_112 : decode cX6_copy 112 = .ok (.getfield 23, 3) := by decide +kernel
theorem dX6_copy_115 : decode cX6_copy 115 = .ok (.iload 6, 2) := by decide +kernel
theorem dX6_copy_117 : decode cX6_copy 117 = .ok (.aload_n 0, 1) := by decide +kernel
theorem dX6_copy_118 : decode cX6_copy 118 = .ok (.iload_n 1, 1) := by decide +kernel
theorem dX6_copy_119 : decode cX6_copy 119 = .ok (.iload_n 2, 1) := by decide +kernel
theorem dX6_copy_120 : decode cX6_copy 120 = .ok (.iload 6, 2) := by decide +kernel
theorem dX6_copy_122 : decode cX6_copy 122 = .ok (.iadd, 1) := by decide +kernel
theorem dX6_copy_123 : decode cX6_copy 123 = .ok (.invokevirtual 73, 3) := by decide +kernel
theorem dX6_copy_126 : decode cX6_copy 126 = .ok (.iastore, 1) := by decide +kernel
theorem dX6_copy_127 : decode cX6_copy 127 = .ok (.iinc 6 1, 3) := by decide +kernel
theorem dX6_copy_130 : decode cX6_copy 130 = .ok (.goto (-26), 3) := by decide +kernel
theorem dX6_copy_133 : decode cX6_copy 133 = .ok (.iconst 0, 1) := by decide +kernel
theorem dX6_copy_134 : decode cX6_copy 134 = .ok (.istore 6, 2) := by decide +kernel
theorem dX6_copy_136 : decode cX6_copy 136 = .ok (.iload 6, 2) := by decide +kernel
theorem dX6_copy_138 : decode cX6_copy 138 = .ok (.iload 5, 2) := by decide +kernel
theorem dX6_copy_140 : decode cX6_copy 140 = .ok (.if_icmp .ge 26, 3) := by decide +kernel
theorem dX6_copy_143 : decode cX6_copy 143 = .ok (.aload_n 0, 1) := by decide +kernel
theorem dX6_copy_144 : decode cX6_copy 144 = .ok (.iload_n 3, 1) := by decide +kernel
theorem dX6_copy_145 : decode cX6_copy 145 = .ok (.iload 4, 2) := by decide +kernel
theorem dX6_copy_147 : decode cX6_copy 147 = .ok (.iload 6, 2) := by decide +kernel
theorem dX6_copy_149 : decode cX6_copy 149 = .ok (.iadd, 1) := by decide +kernel
theorem dX6_copy_150 : decode cX6_copy 150 = .ok (.aload_n 0, 1) := by decide +kernel
theorem dX6_copy_151 : decode cX6_copy 151 = .ok (.getfield 23, 3) := by decide +kernel
theorem dX6_copy_154 : decode cX6_copy 154 = .ok (.iload 6, 2) := by decide +kernel
theorem dX6_copy_156 : decode cX6_copy 156 = .ok (.iaload, 1) := by decide +kernel
theorem dX6_copy_157 : decode cX6_copy 157 = .ok (.invokevirtual 66, 3) := by decide +kernel
theorem dX6_copy_160 : decode cX6_copy 160 = .ok (.iinc 6 1, 3) := by decide +kernel
theorem dX6_copy_163 : decode cX6_copy 163 = .ok (.goto (-27), 3) := by decide +kernel
theorem dX6_copy_166 : decode cX6_copy 166 = .ok (.iconst 1, 1) := by decide +kernel
theorem dX6_copy_167 : decode cX6_copy 167 = .ok (.ireturn, 1) := by decide +kernel
theorem dX6_mean_0 : decode cX6_mean 0 = .ok (.aload_n 0, 1) := by decide +kernel
theorem dX6_mean_1 : decode cX6_mean 1 = .ok (.iload_n 1, 1) := by decide +kernel
theorem dX6_mean_2 : decode cX6_mean 2 = .ok (.invokevirtual 70, 3) := by decide +kernel
theorem dX6_mean_5 : decode cX6_mean 5 = .ok (.istore_n 2, 1) := by decide +kernel
theorem dX6_mean_6 : decode cX6_mean 6 = .ok (.iload_n 2, 1) := by decide +kernel
theorem dX6_mean_7 : decode cX6_mean 7 = .ok (.ifCond .ge 5, 3) := by decide +kernel
theorem dX6_mean_10 : decode cX6_mean 10 = .ok (.iload_n 2, 1) := by decide +kernel
theorem dX6_mean_11 : decode cX6_mean 11 = .ok (.ireturn, 1) := by decide +kernel
theorem dX6_mean_12 : decode cX6_mean 12 = .ok (.lconst 0, 1) := by decide +kernel
theorem dX6_mean_13 : decode cX6_mean 13 = .ok (.lstore_n 3, 1) := by decide +kernel
theorem dX6_mean_14 : decode cX6_mean 14 = .ok (.iconst 0, 1) := by decide +kernel
theorem dX6_mean_15 : decode cX6_mean 15 = .ok (.istore 5, 2) := by decide +kernel
theorem dX6_mean_17 : decode cX6_mean 17 = .ok (.iload 5, 2) := by decide +kernel
theorem dX6_mean_19 : decode cX6_mean 19 = .ok (.aload_n 0, 1) := by decide +kernel
theorem dX6_mean_20 : decode cX6_mean 20 = .ok (.getfield 17, 3) := by decide +kernel
theorem dX6_mean_23 : decode cX6_mean 23 = .ok (.iload_n 1, 1) := by decide +kernel
theorem dX6_mean_24 : decode cX6_mean 24 = .ok (.iaload, 1) := by decide +kernel
theorem dX6_mean_25 : decode cX6_mean 25 = .ok (.if_icmp .ge 20, 3) := by decide +kernel
theorem dX6_mean_28 : decode cX6_mean 28 = .ok (.lload_n 3, 1) := by decide +kernel
theorem dX6_mean_29 : decode cX6_mean 29 = .ok (.aload_n 0, 1) := by decide +kernel
theorem dX6_mean_30 : decode cX6_mean 30 = .ok (.iload_n 1, 1) := by decide +kernel
theorem dX6_mean_31 : decode cX6_mean 31 = .ok (.iload 5, 2) := by decide +kernel
theorem dX6_mean_33 : decode cX6_mean 33 = .ok (.invokevirtual 73, 3) := by decide +kernel
theorem dX6_mean_36 : decode cX6_mean 36 = .ok (.i2l, 1) := by decide +kernel
theorem dX6_mean_37 : decode cX6_mean 37 = .ok (.ladd, 1) := by decide +kernel
theorem dX6_mean_38 : decode cX6_mean 38 = .ok (.lstore_n 3, 1) := by decide +kernel
theorem dX6_mean_39 : decode cX6_mean 39 = .ok (.iinc 5 1, 3) := by decide +kernel
theorem dX6_mean_42 : decode cX6_mean 42 = .ok (.goto (-25), 3) := by decide +kernel
theorem dX6_mean_45 : decode cX6_mean 45 = .ok (.aload_n 0, 1) := by decide +kernel
theorem dX6_mean_46 : decode cX6_mean 46 = .ok (.getfield 17, 3) := by decide +kernel
theorem dX6_mean_49 : decode cX6_mean 49 = .ok (.iload_n 1, 1) := by decide +kernel
theorem dX6_mean_50 : decode cX6_mean 50 = .ok (.iaload, 1) := by decide +kernel
theorem dX6_mean_51 : decode cX6_mean 51 = .ok (.ifCond .ne 11, 3) := by decide +kernel
theorem dX6_mean_54 : decode cX6_mean 54 = .ok (.aload_n 0, 1) := by decide +kernel
theorem dX6_mean_55 : decode cX6_mean 55 = .ok (.iconst 4, 1) := by decide +kernel
theorem dX6_mean_56 : decode cX6_mean 56 = .ok (.invokevirtual 59, 3) := by decide +kernel
theorem dX6_mean_59 : decode cX6_mean 59 = .ok (.goto 18, 3) := by decide +kernel
theorem dX6_mean_62 : decode cX6_mean 62 = .ok (.aload_n 0, 1) := by decide +kernel
theorem dX6_mean_63 : decode cX6_mean 63 = .ok (.lload_n 3, 1) := by decide +kernel
theorem dX6_mean_64 : decode cX6_mean 64 = .ok (.aload_n 0, 1) := by decide +kernel
theorem dX6_mean_65 : decode cX6_mean 65 = .ok (.getfield 17, 3) := by decide +kernel
theorem dX6_mean_68 : decode cX6_mean 68 = .ok (.iload_n 1, 1) := by decide +kernel
