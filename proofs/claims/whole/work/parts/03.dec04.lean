theorem dX6_marksOf_49 : decode cX6_marksOf 49 = .ok (.iadd, 1) := by decide +kernel
theorem dX6_marksOf_50 : decode cX6_marksOf 50 = .ok (.invokevirtual 89, 3) := by decide +kernel
theorem dX6_marksOf_53 : decode cX6_marksOf 53 = .ok (.ishl, 1) := by decide +kernel
theorem dX6_marksOf_54 : decode cX6_marksOf 54 = .ok (.ior, 1) := by decide +kernel
theorem dX6_marksOf_55 : decode cX6_marksOf 55 = .ok (.istore_n 2, 1) := by decide +kernel
theorem dX6_marksOf_56 : decode cX6_marksOf 56 = .ok (.iinc 3 1, 3) := by decide +kernel
theorem dX6_marksOf_59 : decode cX6_marksOf 59 = .ok (.goto (-48), 3) := by decide +kernel
theorem dX6_marksOf_62 : decode cX6_marksOf 62 = .ok (.iload_n 2, 1) := by decide +kernel
theorem dX6_marksOf_63 : decode cX6_marksOf 63 = .ok (.ireturn, 1) := by decide +kernel
theorem dX6_asksOf_0 : decode cX6_asksOf 0 = .ok (.aload_n 0, 1) := by decide +kernel
theorem dX6_asksOf_1 : decode cX6_asksOf 1 = .ok (.iload_n 1, 1) := by decide +kernel
theorem dX6_asksOf_2 : decode cX6_asksOf 2 = .ok (.bipush 6, 2) := by decide +kernel
theorem dX6_asksOf_4 : decode cX6_asksOf 4 = .ok (.invokevirtual 89, 3) := by decide +kernel
theorem dX6_asksOf_7 : decode cX6_asksOf 7 = .ok (.istore_n 2, 1) := by decide +kernel
theorem dX6_asksOf_8 : decode cX6_asksOf 8 = .ok (.iload_n 2, 1) := by decide +kernel
theorem dX6_asksOf_9 : decode cX6_asksOf 9 = .ok (.bipush (-9), 2) := by decide +kernel
theorem dX6_asksOf_11 : decode cX6_asksOf 11 = .ok (.if_icmp .eq 18, 3) := by decide +kernel
theorem dX6_asksOf_14 : decode cX6_asksOf 14 = .ok (.aload_n 0, 1) := by decide +kernel
theorem dX6_asksOf_15 : decode cX6_asksOf 15 = .ok (.getfield 132, 3) := by decide +kernel
theorem dX6_asksOf_18 : decode cX6_asksOf 18 = .ok (.iload_n 2, 1) := by decide +kernel
theorem dX6_asksOf_19 : decode cX6_asksOf 19 = .ok (.invokestatic 150, 3) := by decide +kernel
theorem dX6_asksOf_22 : decode cX6_asksOf 22 = .ok (.ifCond .ne 7, 3) := by decide +kernel
theorem dX6_asksOf_25 : decode cX6_asksOf 25 = .ok (.iconst 0, 1) := by decide +kernel
theorem dX6_asksOf_26 : decode cX6_asksOf 26 = .ok (.goto 8, 3) := by decide +kernel
theorem dX6_asksOf_29 : decode cX6_asksOf 29 = .ok (.aload_n 0, 1) := by decide +kernel
theorem dX6_asksOf_30 : decode cX6_asksOf 30 = .ok (.iload_n 1, 1) := by decide +kernel
theorem dX6_asksOf_31 : decode cX6_asksOf 31 = .ok (.invokevirtual 192, 3) := by decide +kernel
theorem dX6_asksOf_34 : decode cX6_asksOf 34 = .ok (.ireturn, 1) := by decide +kernel
theorem dX6_asks_0 : decode cX6_asks 0 = .ok (.aload_n 0, 1) := by decide +kernel
theorem dX6_asks_1 : decode cX6_asks 1 = .ok (.iload_n 1, 1) := by decide +kernel
theorem dX6_asks_2 : decode cX6_asks 2 = .ok (.invokevirtual 183, 3) := by decide +kernel
theorem dX6_asks_5 : decode cX6_asks 5 = .ok (.istore_n 2, 1) := by decide +kernel
theorem dX6_asks_6 : decode cX6_asks 6 = .ok (.iload_n 2, 1) := by decide +kernel
theorem dX6_asks_7 : decode cX6_asks 7 = .ok (.ifCond .ge 5, 3) := by decide +kernel
theorem dX6_asks_10 : decode cX6_asks 10 = .ok (.iload_n 2, 1) := by decide +kernel
theorem dX6_asks_11 : decode cX6_asks 11 = .ok (.ireturn, 1) := by decide +kernel
theorem dX6_asks_12 : decode cX6_asks 12 = .ok (.aload_n 0, 1) := by decide +kernel
theorem dX6_asks_13 : decode cX6_asks 13 = .ok (.iload_n 1, 1) := by decide +kernel
theorem dX6_asks_14 : decode cX6_asks 14 = .ok (.invokevirtual 195, 3) := by decide +kernel
theorem dX6_asks_17 : decode cX6_asks 17 = .ok (.istore_n 3, 1) := by decide +kernel
theorem dX6_asks_18 : decode cX6_asks 18 = .ok (.aload_n 0, 1) := by decide +kernel
theorem dX6_asks_19 : decode cX6_asks 19 = .ok (.iload_n 3, 1) := by decide +kernel
theorem dX6_asks_20 : decode cX6_asks 20 = .ok (.aload_n 0, 1) := by decide +kernel
theorem dX6_asks_21 : decode cX6_asks 21 = .ok (.getfield 141, 3) := by decide +kernel
theorem dX6_asks_24 : decode cX6_asks 24 = .ok (.iconst (-1), 1) := by decide +kernel
theorem dX6_asks_25 : decode cX6_asks 25 = .ok (.ixor, 1) := by decide +kernel
theorem dX6_asks_26 : decode cX6_asks 26 = .ok (.iand, 1) := by decide +kernel
theorem dX6_asks_27 : decode cX6_asks 27 = .ok (.iload_n 3, 1) := by decide +kernel
theorem dX6_asks_28 : decode cX6_asks 28 = .ok (.invokevirtual 77, 3) := by decide +kernel
theorem dX6_asks_31 : decode cX6_asks 31 = .ok (.ireturn, 1) := by decide +kernel
theorem dX6_mayDraw_0 : decode cX6_mayDraw 0 = .ok (.aload_n 0, 1) := by decide +kernel
theorem dX6_mayDraw_1 : decode cX6_mayDraw 1 = .ok (.getfield 132, 3) := by decide +kernel
theorem dX6_mayDraw_4 : decode cX6_mayDraw 4 = .ok (.iload_n 1, 1) := by decide +kernel
theorem dX6_mayDraw_5 : decode cX6_mayDraw 5 = .ok (.invokestatic 150, 3) := by decide +kernel
theorem dX6_mayDraw_8 : decode cX6_mayDraw 8 = .ok (.ifCond .eq 40, 3) := by decide +kernel
theorem dX6_mayDraw_11 : decode cX6_mayDraw 11 = .ok (.aload_n 0, 1) := by decide +kernel
theorem dX6_mayDraw_12 : decode cX6_mayDraw 12 = .ok (.iload_n 1, 1) := by decide +kernel
theorem dX6_mayDraw_13 : decode cX6_mayDraw 13 = .ok (.invokevirtual 195, 3) := by decide +kernel
theorem dX6_mayDraw_16 : decode cX6_mayDraw 16 = .ok (.iload_n 2, 1) := by decide +kernel
theorem dX6_mayDraw_17 : decode cX6_mayDraw 17 = .ok (.iconst (-1), 1) := by decide +kernel
theorem dX6_mayDraw_18 : decode cX6_mayDraw 18 = .ok (.ixor, 1) := by decide +kernel
theorem dX6_mayDraw_19 : decode cX6_mayDraw 19 = .ok (.iand, 1) := by decide +kernel
theorem dX6_mayDraw_20 : decode cX6_mayDraw 20 = .ok (.ifCond .ne 28, 3) := by decide +kernel
theorem dX6_mayDraw_23 : decode cX6_mayDraw 23 = .ok (.aload_n 0, 1) := by decide +kernel
theorem dX6_mayDraw_24 : decode cX6_mayDraw 24 = .ok (.getfield 138, 3) := by decide +kernel
theorem dX6_mayDraw_27 : decode cX6_mayDraw 27 = .ok (.iload_n 1, 1) := by decide +kernel
theorem dX6_mayDraw_28 : decode cX6_mayDraw 28 = .ok (.invokestatic 150, 3) := by decide +kernel
theorem dX6_mayDraw_31 : decode cX6_mayDraw 31 = .ok (.ifCond .ne 17, 3) := by decide +kernel
theorem dX6_mayDraw_34 : decode cX6_mayDraw 34 = .ok (.aload_n 0, 1) := by decide +kernel
theorem dX6_mayDraw_35 : decode cX6_mayDraw 35 = .ok (.iconst 1, 1) := by decide +kernel
theorem dX6_mayDraw_36 : decode cX6_mayDraw 36 = .ok (.iload_n 1, 1) := by decide +kernel
theorem dX6_mayDraw_37 : decode cX6_mayDraw 37 = .ok (.ishl, 1) := by decide +kernel
theorem dX6_mayDraw_38 : decode cX6_mayDraw 38 = .ok (.invokevirtual 189, 3) := by decide +kernel
theorem dX6_mayDraw_41 : decode cX6_mayDraw 41 = .ok (.ifCond .ne 7, 3) := by decide +kernel
theorem dX6_mayDraw_44 : decode cX6_mayDraw 44 = .ok (.iconst 1, 1) := by decide +kernel
theorem dX6_mayDraw_45 : decode cX6_mayDraw 45 = .ok (.goto 4, 3) := by decide +kernel
theorem dX6_mayDraw_48 : decode cX6_mayDraw 48 = .ok (.iconst 0, 1) := by decide +kernel
theorem dX6_mayDraw_49 : decode cX6_mayDraw 49 = .ok (.ireturn, 1) := by decide +kernel
theorem dX6_draw_0 : decode cX6_draw 0 = .ok (.aload_n 0, 1) := by decide +kernel
theorem dX6_draw_1 : decode cX6_draw 1 = .ok (.iload_n 1, 1) := by decide +kernel
theorem dX6_draw_2 : decode cX6_draw 2 = .ok (.invokevirtual 183, 3) := by decide +kernel
theorem dX6_draw_5 : decode cX6_draw 5 = .ok (.istore_n 2, 1) := by decide +kernel
theorem dX6_draw_6 : decode cX6_draw 6 = .ok (.iload_n 2, 1) := by decide +kernel
theorem dX6_draw_7 : decode cX6_draw 7 = .ok (.ifCond .ge 5, 3) := by decide +kernel
theorem dX6_draw_10 : decode cX6_draw 10 = .ok (.iload_n 2, 1) := by decide +kernel
theorem dX6_draw_11 : decode cX6_draw 11 = .ok (.ireturn, 1) := by decide +kernel
theorem dX6_draw_12 : decode cX6_draw 12 = .ok (.aload_n 0, 1) := by decide +kernel
theorem dX6_draw_13 : decode cX6_draw 13 = .ok (.iload_n 1, 1) := by decide +kernel
theorem dX6_draw_14 : decode cX6_draw 14 = .ok (.aload_n 0, 1) := by decide +kernel
theorem dX6_draw_15 : decode cX6_draw 15 = .ok (.getfield 141, 3) := by decide +kernel
theorem dX6_draw_18 : decode cX6_draw 18 = .ok (.invokevirtual 198, 3) := by decide +kernel
theorem dX6_draw_21 : decode cX6_draw 21 = .ok (.ifCond .ne 6, 3) := by decide +kernel
theorem dX6_draw_24 : decode cX6_draw 24 = .ok (.bipush (-4), 2) := by decide +kernel
theorem dX6_draw_26 : decode cX6_draw 26 = .ok (.ireturn, 1) := by decide +kernel
theorem dX6_draw_27 : decode cX6_draw 27 = .ok (.aload_n 0, 1) := by decide +kernel
theorem dX6_draw_28 : decode cX6_draw 28 = .ok (.dup, 1) := by decide +kernel
theorem dX6_draw_29 : decode cX6_draw 29 = .ok (.getfield 132, 3) := by decide +kernel
theorem dX6_draw_32 : decode cX6_draw 32 = .ok (.iconst 1, 1) := by decide +kernel
theorem dX6_draw_33 : decode cX6_draw 33 = .ok (.iload_n 1, 1) := by decide +kernel
theorem dX6_draw_34 : decode cX6_draw 34 = .ok (.ishl, 1) := by decide +kernel
theorem dX6_draw_35 : decode cX6_draw 35 = .ok (.iconst (-1), 1) := by decide +kernel
theorem dX6_draw_36 : decode cX6_draw 36 = .ok (.ixor, 1) := by decide +kernel
theorem dX6_draw_37 : decode cX6_draw 37 = .ok (.iand, 1) := by decide +kernel
theorem dX6_draw_38 : decode cX6_draw 38 = .ok (.putfield 132, 3) := by decide +kernel
theorem dX6_draw_41 : decode cX6_draw 41 = .ok (.aload_n 0, 1) := by decide +kernel
theorem dX6_draw_42 : decode cX6_draw 42 = .ok (.dup, 1) := by decide +kernel
theorem dX6_draw_43 : decode cX6_draw 43 = .ok (.getfield 135, 3) := by decide +kernel
theorem dX6_draw_46 : decode cX6_draw 46 = .ok (.aload_n 0, 1) := by decide +kernel
theorem dX6_draw_47 : decode cX6_draw 47 = .ok (.getfield 132, 3) := by decide +kernel
theorem dX6_draw_50 : decode cX6_draw 50 = .ok (.iand, 1) := by decide +kernel
theorem dX6_draw_51 : decode cX6_draw 51 = .ok (.putfield 135, 3) := by decide +kernel
theorem dX6_draw_54 : decode cX6_draw 54 = .ok (.aload_n 0, 1) := by decide +kernel
theorem dX6_draw_55 : decode cX6_draw 55 = .ok (.getfield 35, 3) := by decide +kernel
theorem dX6_draw_58 : decode cX6_draw 58 = .ok (.aload_n 0, 1) := by decide +kernel
theorem dX6_draw_59 : decode cX6_draw 59 = .ok (.getfield 147, 3) := by decide +kernel
theorem dX6_draw_62 : decode cX6_draw 62 = .ok (.iload_n 1, 1) := by decide +kernel
theorem dX6_draw_63 : decode cX6_draw 63 = .ok (.iastore, 1) := by decide +kernel
theorem dX6_draw_64 : decode cX6_draw 64 = .ok (.aload_n 0, 1) := by decide +kernel
theorem dX6_draw_65 : decode cX6_draw 65 = .ok (.dup, 1) := by decide +kernel
theorem dX6_draw_66 : decode cX6_draw 66 = .ok (.getfield 147, 3) := by decide +kernel
theorem dX6_draw_69 : decode cX6_draw 69 = .ok (.iconst 1, 1) := by decide +kernel
theorem dX6_draw_70 : decode cX6_draw 70 = .ok (.iadd, 1) := by decide +kernel
theorem dX6_draw_71 : decode cX6_draw 71 = .ok (.putfield 147, 3) := by decide +kernel
theorem dX6_draw_74 : decode cX6_draw 74 = .ok (.iconst 1, 1) := by decide +kernel
theorem dX6_draw_75 : decode cX6_draw 75 = .ok (.ireturn, 1) := by decide +kernel
theorem dX6_free_0 : decode cX6_free 0 = .ok (.iconst 0, 1) := by decide +kernel
theorem dX6_free_1 : decode cX6_free 1 = .ok (.istore_n 1, 1) := by decide +kernel
theorem dX6_free_2 : decode cX6_free 2 = .ok (.iconst 0, 1) := by decide +kernel
theorem dX6_free_3 : decode cX6_free 3 = .ok (.istore_n 2, 1) := by decide +kernel
theorem dX6_free_4 : decode cX6_free 4 = .ok (.iconst 0, 1) := by decide +kernel
theorem dX6_free_5 : decode cX6_free 5 = .ok (.istore_n 3, 1) := by decide +kernel
theorem dX6_free_6 : decode cX6_free 6 = .ok (.iload_n 3, 1) := by decide +kernel
theorem dX6_free_7 : decode cX6_free 7 = .ok (.aload_n 0, 1) := by decide +kernel
theorem dX6_free_8 : decode cX6_free 8 = .ok (.getfield 129, 3) := by decide +kernel
theorem dX6_free_11 : decode cX6_free 11 = .ok (.if_icmp .ge 51, 3) := by decide +kernel
theorem dX6_free_14 : decode cX6_free 14 = .ok (.iload_n 1, 1) := by decide +kernel
theorem dX6_free_15 : decode cX6_free 15 = .ok (.aload_n 0, 1) := by decide +kernel
theorem dX6_free_16 : decode cX6_free 16 = .ok (.iload_n 3, 1) := by decide +kernel
theorem dX6_free_17 : decode cX6_free 17 = .ok (.aload_n 0, 1) := by decide +kernel
theorem dX6_free_18 : decode cX6_free 18 = .ok (.getfield 141, 3) := by decide +kernel
theorem dX6_free_21 : decode cX6_free 21 = .ok (.invokevirtual 198, 3) := by decide +kernel
theorem dX6_free_24 : decode cX6_free 24 = .ok (.ifCond .eq 9, 3) := by decide +kernel
theorem dX6_free_27 : decode cX6_free 27 = .ok (.iconst 1, 1) := by decide +kernel
theorem dX6_free_28 : decode cX6_free 28 = .ok (.iload_n 3, 1) := by decide +kernel
theorem dX6_free_29 : decode cX6_free 29 = .ok (.ishl, 1) := by decide +kernel
theorem dX6_free_30 : decode cX6_free 30 = .ok (.goto 4, 3) := by decide +kernel
theorem dX6_free_33 : decode cX6_free 33 = .ok (.iconst 0, 1) := by decide +kernel
theorem dX6_free_34 : decode cX6_free 34 = .ok (.ior, 1) := by decide +kernel
theorem dX6_free_35 : decode cX6_free 35 = .ok (.istore_n 1, 1) := by decide +kernel
theorem dX6_free_36 : decode cX6_free 36 = .ok (.iload_n 2, 1) := by decide +kernel
theorem dX6_free_37 : decode cX6_free 37 = .ok (.aload_n 0, 1) := by decide +kernel
theorem dX6_free_38 : decode cX6_free 38 = .ok (.iload_n 3, 1) := by decide +kernel
theorem dX6_free_39 : decode cX6_free 39 = .ok (.bipush 63, 2) := by decide +kernel
theorem dX6_free_41 : decode cX6_free 41 = .ok (.invokevirtual 198, 3) := by decide +kernel
theorem dX6_free_44 : decode cX6_free 44 = .ok (.ifCond .eq 9, 3) := by decide +kernel
theorem dX6_free_47 : decode cX6_free 47 = .ok (.iconst 1, 1) := by decide +kernel
theorem dX6_free_48 : decode cX6_free 48 = .ok (.iload_n 3, 1) := by decide +kernel
theorem dX6_free_49 : decode cX6_free 49 = .ok (.ishl, 1) := by decide +kernel
theorem dX6_free_50 : decode cX6_free 50 = .ok (.goto 4, 3) := by decide +kernel
theorem dX6_free_53 : decode cX6_free 53 = .ok (.iconst 0, 1) := by decide +kernel
theorem dX6_free_54 : decode cX6_free 54 = .ok (.ior, 1) := by decide +kernel
theorem dX6_free_55 : decode cX6_free 55 = .ok (.istore_n 2, 1) := by decide +kernel
theorem dX6_free_56 : decode cX6_free 56 = .ok (.iinc 3 1, 3) := by decide +kernel
theorem dX6_free_59 : decode cX6_free 59 = .ok (.goto (-53), 3) := by decide +kernel
theorem dX6_free_62 : decode cX6_free 62 = .ok (.aload_n 0, 1) := by decide +kernel
theorem dX6_free_63 : decode cX6_free 63 = .ok (.iload_n 2, 1) := by decide +kernel
theorem dX6_free_64 : decode cX6_free 64 = .ok (.iload_n 1, 1) := by decide +kernel
theorem dX6_free_65 : decode cX6_free 65 = .ok (.invokevirtual 77, 3) := by decide +kernel
theorem dX6_free_68 : decode cX6_free 68 = .ok (.ireturn, 1) := by decide +kernel
theorem dX6_isTaken_0 : decode cX6_isTaken 0 = .ok (.iconst 0, 1) := by decide +kernel
theorem dX6_isTaken_1 : decode cX6_isTaken 1 = .ok (.istore_n 2, 1) := by decide +kernel
theorem dX6_isTaken_2 : decode cX6_isTaken 2 = .ok (.iconst 0, 1) := by decide +kernel
theorem dX6_isTaken_3 : decode cX6_isTaken 3 = .ok (.istore_n 3, 1) := by decide +kernel
theorem dX6_isTaken_4 : decode cX6_isTaken 4 = .ok (.iload_n 3, 1) := by decide +kernel
theorem dX6_isTaken_5 : decode cX6_isTaken 5 = .ok (.aload_n 0, 1) := by decide +kernel
theorem dX6_isTaken_6 : decode cX6_isTaken 6 = .ok (.getfield 129, 3) := by decide +kernel
theorem dX6_isTaken_9 : decode cX6_isTaken 9 = .ok (.if_icmp .ge 59, 3) := by decide +kernel
theorem dX6_isTaken_12 : decode cX6_isTaken 12 = .ok (.iload_n 2, 1) := by decide +kernel
theorem dX6_isTaken_13 : decode cX6_isTaken 13 = .ok (.ifCond .ne 43, 3) := by decide +kernel
theorem dX6_isTaken_16 : decode cX6_isTaken 16 = .ok (.iload_n 3, 1) := by decide +kernel
theorem dX6_isTaken_17 : decode cX6_isTaken 17 = .ok (.iload_n 1, 1) := by decide +kernel
theorem dX6_isTaken_18 : decode cX6_isTaken 18 = .ok (.if_icmp .eq 42, 3) := by decide +kernel
theorem dX6_isTaken_21 : decode cX6_isTaken 21 = .ok (.aload_n 0, 1) := by decide +kernel
theorem dX6_isTaken_22 : decode cX6_isTaken 22 = .ok (.getfield 132, 3) := by decide +kernel
theorem dX6_isTaken_25 : decode cX6_isTaken 25 = .ok (.iload_n 3, 1) := by decide +kernel
theorem dX6_isTaken_26 : decode cX6_isTaken 26 = .ok (.invokestatic 150, 3) := by decide +kernel
theorem dX6_isTaken_29 : decode cX6_isTaken 29 = .ok (.ifCond .eq 31, 3) := by decide +kernel
theorem dX6_isTaken_32 : decode cX6_isTaken 32 = .ok (.aload_n 0, 1) := by decide +kernel
theorem dX6_isTaken_33 : decode cX6_isTaken 33 = .ok (.iload_n 3, 1) := by decide +kernel
theorem dX6_isTaken_34 : decode cX6_isTaken 34 = .ok (.iconst 1, 1) := by decide +kernel
theorem dX6_isTaken_35 : decode cX6_isTaken 35 = .ok (.invokevirtual 89, 3) := by decide +kernel
theorem dX6_isTaken_38 : decode cX6_isTaken 38 = .ok (.aload_n 0, 1) := by decide +kernel
theorem dX6_isTaken_39 : decode cX6_isTaken 39 = .ok (.iload_n 1, 1) := by decide +kernel
theorem dX6_isTaken_40 : decode cX6_isTaken 40 = .ok (.iconst 1, 1) := by decide +kernel
theorem dX6_isTaken_41 : decode cX6_isTaken 41 = .ok (.invokevirtual 89, 3) := by decide +kernel
theorem dX6_isTaken_44 : decode cX6_isTaken 44 = .ok (.if_icmp .ne 16, 3) := by decide +kernel
theorem dX6_isTaken_47 : decode cX6_isTaken 47 = .ok (.aload_n 0, 1) := by decide +kernel
theorem dX6_isTaken_48 : decode cX6_isTaken 48 = .ok (.iload_n 3, 1) := by decide +kernel
theorem dX6_isTaken_49 : decode cX6_isTaken 49 = .ok (.iload_n 1, 1) := by decide +kernel
theorem dX6_isTaken_50 : decode cX6_isTaken 50 = .ok (.invokevirtual 110, 3) := by decide +kernel
theorem dX6_isTaken_53 : decode cX6_isTaken 53 = .ok (.ifCond .eq 7, 3) := by decide +kernel
theorem dX6_isTaken_56 : decode cX6_isTaken 56 = .ok (.iconst 1, 1) := by decide +kernel
theorem dX6_isTaken_57 : decode cX6_isTaken 57 = .ok (.goto 4, 3) := by decide +kernel
theorem dX6_isTaken_60 : decode cX6_isTaken 60 = .ok (.iconst 0, 1) := by decide +kernel
theorem dX6_isTaken_61 : decode cX6_isTaken 61 = .ok (.istore_n 2, 1) := by decide +kernel
theorem dX6_isTaken_62 : decode cX6_isTaken 62 = .ok (.iinc 3 1, 3) := by decide +kernel
theorem dX6_isTaken_65 : decode cX6_isTaken 65 = .ok (.goto (-61), 3) := by decide +kernel
theorem dX6_isTaken_68 : decode cX6_isTaken 68 = .ok (.iload_n 2, 1) := by decide +kernel
theorem dX6_isTaken_69 : decode cX6_isTaken 69 = .ok (.ireturn, 1) := by decide +kernel
theorem dX6_undo_0 : decode cX6_undo 0 = .ok (.aload_n 0, 1) := by decide +kernel
theorem dX6_undo_1 : decode cX6_undo 1 = .ok (.getfield 147, 3) := by decide +kernel
theorem dX6_undo_4 : decode cX6_undo 4 = .ok (.ifCond .ne 6, 3) := by decide +kernel
theorem dX6_undo_7 : decode cX6_undo 7 = .ok (.bipush (-4), 2) := by decide +kernel
theorem dX6_undo_9 : decode cX6_undo 9 = .ok (.ireturn, 1) := by decide +kernel
theorem dX6_undo_10 : decode cX6_undo 10 = .ok (.aload_n 0, 1) := by decide +kernel
theorem dX6_undo_11 : decode cX6_undo 11 = .ok (.getfield 35, 3) := by decide +kernel
theorem dX6_undo_14 : decode cX6_undo 14 = .ok (.aload_n 0, 1) := by decide +kernel
theorem dX6_undo_15 : decode cX6_undo 15 = .ok (.getfield 147, 3) := by decide +kernel
theorem dX6_undo_18 : decode cX6_undo 18 = .ok (.iconst 1, 1) := by decide +kernel
theorem dX6_undo_19 : decode cX6_undo 19 = .ok (.isub, 1) := by decide +kernel
theorem dX6_undo_20 : decode cX6_undo 20 = .ok (.iaload, 1) := by decide +kernel
theorem dX6_undo_21 : decode cX6_undo 21 = .ok (.istore_n 1, 1) := by decide +kernel
theorem dX6_undo_22 : decode cX6_undo 22 = .ok (.aload_n 0, 1) := by decide +kernel
theorem dX6_undo_23 : decode cX6_undo 23 = .ok (.iload_n 1, 1) := by decide +kernel
theorem dX6_undo_24 : decode cX6_undo 24 = .ok (.invokevirtual 201, 3) := by decide +kernel
theorem dX6_undo_27 : decode cX6_undo 27 = .ok (.ifCond .ne 31, 3) := by decide +kernel
theorem dX6_undo_30 : decode cX6_undo 30 = .ok (.aload_n 0, 1) := by decide +kernel
theorem dX6_undo_31 : decode cX6_undo 31 = .ok (.aload_n 0, 1) := by decide +kernel
theorem dX6_undo_32 : decode cX6_undo 32 = .ok (.getfield 132, 3) := by decide +kernel
theorem dX6_undo_35 : decode cX6_undo 35 = .ok (.iconst 1, 1) := by decide +kernel
theorem dX6_undo_36 : decode cX6_undo 36 = .ok (.iload_n 1, 1) := by decide +kernel
theorem dX6_undo_37 : decode cX6_undo 37 = .ok (.ishl, 1) := by decide +kernel
theorem dX6_undo_38 : decode cX6_undo 38 = .ok (.ior, 1) := by decide +kernel
theorem dX6_undo_39 : decode cX6_undo 39 = .ok (.aload_n 0, 1) := by decide +kernel
theorem dX6_undo_40 : decode cX6_undo 40 = .ok (.getfield 135, 3) := by decide +kernel
theorem dX6_undo_43 : decode cX6_undo 43 = .ok (.aload_n 0, 1) := by decide +kernel
theorem dX6_undo_44 : decode cX6_undo 44 = .ok (.getfield 138, 3) := by decide +kernel
theorem dX6_undo_47 : decode cX6_undo 47 = .ok (.ior, 1) := by decide +kernel
theorem dX6_undo_48 : decode cX6_undo 48 = .ok (.invokevirtual 168, 3) := by decide +kernel
theorem dX6_undo_51 : decode cX6_undo 51 = .ok (.iload_n 1, 1) := by decide +kernel
theorem dX6_undo_52 : decode cX6_undo 52 = .ok (.invokestatic 150, 3) := by decide +kernel
theorem dX6_undo_55 : decode cX6_undo 55 = .ok (.ifCond .ne 6, 3) := by decide +kernel
theorem dX6_undo_58 : decode cX6_undo 58 = .ok (.bipush (-4), 2) := by decide +kernel
theorem dX6_undo_60 : decode cX6_undo 60 = .ok (.ireturn, 1) := by decide +kernel
theorem dX6_undo_61 : decode cX6_undo 61 = .ok (.aload_n 0, 1) := by decide +kernel
theorem dX6_undo_62 : decode cX6_undo 62 = .ok (.dup, 1) := by decide +kernel
theorem dX6_undo_63 : decode cX6_undo 63 = .ok (.getfield 132, 3) := by decide +kernel
theorem dX6_undo_66 : decode cX6_undo 66 = .ok (.iconst 1, 1) := by decide +kernel
theorem dX6_undo_67 : decode cX6_undo 67 = .ok (.iload_n 1, 1) := by decide +kernel
theorem dX6_undo_68 : decode cX6_undo 68 = .ok (.ishl, 1) := by decide +kernel
theorem dX6_undo_69 : decode cX6_undo 69 = .ok (.ior, 1) := by decide +kernel
theorem dX6_undo_70 : decode cX6_undo 70 = .ok (.putfield 132, 3) := by decide +kernel
theorem dX6_undo_73 : decode cX6_undo 73 = .ok (.aload_n 0, 1) := by decide +kernel
theorem dX6_undo_74 : decode cX6_undo 74 = .ok (.dup, 1) := by decide +kernel
theorem dX6_undo_75 : decode cX6_undo 75 = .ok (.getfield 147, 3) := by decide +kernel
theorem dX6_undo_78 : decode cX6_undo 78 = .ok (.iconst 1, 1) := by decide +kernel
theorem dX6_undo_79 : decode cX6_undo 79 = .ok (.isub, 1) := by decide +kernel
theorem dX6_undo_80 : decode cX6_undo 80 = .ok (.putfield 147, 3) := by decide +kernel
theorem dX6_undo_83 : decode cX6_undo 83 = .ok (.iload_n 1, 1) := by decide +kernel
theorem dX6_undo_84 : decode cX6_undo 84 = .ok (.ireturn, 1) := by decide +kernel
theorem dX6_ahead_0 : decode cX6_ahead 0 = .ok (.aload_n 0, 1) := by decide +kernel
theorem dX6_ahead_1 : decode cX6_ahead 1 = .ok (.iload_n 1, 1) := by decide +kernel
theorem dX6_ahead_2 : decode cX6_ahead 2 = .ok (.invokevirtual 153, 3) := by decide +kernel
theorem dX6_ahead_5 : decode cX6_ahead 5 = .ok (.ifCond .eq 10, 3) := by decide +kernel
theorem dX6_ahead_8 : decode cX6_ahead 8 = .ok (.iload_n 2, 1) := by decide +kernel
theorem dX6_ahead_9 : decode cX6_ahead 9 = .ok (.invokestatic 55, 3) := by decide +kernel
theorem dX6_ahead_12 : decode cX6_ahead 12 = .ok (.ifCond .ne 5, 3) := by decide +kernel
theorem dX6_ahead_15 : decode cX6_ahead 15 = .ok (.iconst (-1), 1) := by decide +kernel
theorem dX6_ahead_16 : decode cX6_ahead 16 = .ok (.ireturn, 1) := by decide +kernel
theorem dX6_ahead_17 : decode cX6_ahead 17 = .ok (.aload_n 0, 1) := by decide +kernel
theorem dX6_ahead_18 : decode cX6_ahead 18 = .ok (.iload_n 1, 1) := by decide +kernel
theorem dX6_ahead_19 : decode cX6_ahead 19 = .ok (.invokevirtual 183, 3) := by decide +kernel
theorem dX6_ahead_22 : decode cX6_ahead 22 = .ok (.istore_n 3, 1) := by decide +kernel
theorem dX6_ahead_23 : decode cX6_ahead 23 = .ok (.iload_n 3, 1) := by decide +kernel
theorem dX6_ahead_24 : decode cX6_ahead 24 = .ok (.ifCond .ge 5, 3) := by decide +kernel
theorem dX6_ahead_27 : decode cX6_ahead 27 = .ok (.iload_n 3, 1) := by decide +kernel
theorem dX6_ahead_28 : decode cX6_ahead 28 = .ok (.ireturn, 1) := by decide +kernel
theorem dX6_ahead_29 : decode cX6_ahead 29 = .ok (.aload_n 0, 1) := by decide +kernel
theorem dX6_ahead_30 : decode cX6_ahead 30 = .ok (.getfield 138, 3) := by decide +kernel
theorem dX6_ahead_33 : decode cX6_ahead 33 = .ok (.iload_n 1, 1) := by decide +kernel
theorem dX6_ahead_34 : decode cX6_ahead 34 = .ok (.invokestatic 150, 3) := by decide +kernel
theorem dX6_ahead_37 : decode cX6_ahead 37 = .ok (.ifCond .eq 6, 3) := by decide +kernel
theorem dX6_ahead_40 : decode cX6_ahead 40 = .ok (.bipush (-4), 2) := by decide +kernel
theorem dX6_ahead_42 : decode cX6_ahead 42 = .ok (.ireturn, 1) := by decide +kernel
theorem dX6_ahead_43 : decode cX6_ahead 43 = .ok (.aload_n 0, 1) := by decide +kernel
theorem dX6_ahead_44 : decode cX6_ahead 44 = .ok (.iconst 1, 1) := by decide +kernel
theorem dX6_ahead_45 : decode cX6_ahead 45 = .ok (.iload_n 1, 1) := by decide +kernel
theorem dX6_ahead_46 : decode cX6_ahead 46 = .ok (.ishl, 1) := by decide +kernel
theorem dX6_ahead_47 : decode cX6_ahead 47 = .ok (.invokevirtual 189, 3) := by decide +kernel
theorem dX6_ahead_50 : decode cX6_ahead 50 = .ok (.istore 4, 2) := by decide +kernel
theorem dX6_ahead_52 : decode cX6_ahead 52 = .ok (.aload_n 0, 1) := by decide +kernel
theorem dX6_ahead_53 : decode cX6_ahead 53 = .ok (.iload_n 1, 1) := by decide +kernel
theorem dX6_ahead_54 : decode cX6_ahead 54 = .ok (.invokevirtual 195, 3) := by decide +kernel
theorem dX6_ahead_57 : decode cX6_ahead 57 = .ok (.istore 5, 2) := by decide +kernel
theorem dX6_ahead_59 : decode cX6_ahead 59 = .ok (.aload_n 0, 1) := by decide +kernel
theorem dX6_ahead_60 : decode cX6_ahead 60 = .ok (.iload_n 2, 1) := by decide +kernel
theorem dX6_ahead_61 : decode cX6_ahead 61 = .ok (.iload 4, 2) := by decide +kernel
theorem dX6_ahead_63 : decode cX6_ahead 63 = .ok (.invokestatic 174, 3) := by decide +kernel
theorem dX6_ahead_66 : decode cX6_ahead 66 = .ok (.invokevirtual 204, 3) := by decide +kernel
theorem dX6_ahead_69 : decode cX6_ahead 69 = .ok (.pop, 1) := by decide +kernel
theorem dX6_ahead_70 : decode cX6_ahead 70 = .ok (.iconst 0, 1) := by decide +kernel
theorem dX6_ahead_71 : decode cX6_ahead 71 = .ok (.istore 6, 2) := by decide +kernel
theorem dX6_ahead_73 : decode cX6_ahead 73 = .ok (.iconst 5, 1) := by decide +kernel
theorem dX6_ahead_74 : decode cX6_ahead 74 = .ok (.istore 7, 2) := by decide +kernel
theorem dX6_ahead_76 : decode cX6_ahead 76 = .ok (.iload 7, 2) := by decide +kernel
theorem dX6_ahead_78 : decode cX6_ahead 78 = .ok (.ifCond .lt 116, 3) := by decide +kernel
theorem dX6_ahead_81 : decode cX6_ahead 81 = .ok (.iconst 1, 1) := by decide +kernel
theorem dX6_ahead_82 : decode cX6_ahead 82 = .ok (.istore 8, 2) := by decide +kernel
theorem dX6_ahead_84 : decode cX6_ahead 84 = .ok (.iload 8, 2) := by decide +kernel
theorem dX6_ahead_86 : decode cX6_ahead 86 = .ok (.ifCond .lt 102, 3) := by decide +kernel
theorem dX6_ahead_89 : decode cX6_ahead 89 = .ok (.iconst 0, 1) := by decide +kernel
theorem dX6_ahead_90 : decode cX6_ahead 90 = .ok (.istore 9, 2) := by decide +kernel
theorem dX6_ahead_92 : decode cX6_ahead 92 = .ok (.iload 9, 2) := by decide +kernel
theorem dX6_ahead_94 : decode cX6_ahead 94 = .ok (.aload_n 0, 1) := by decide +kernel
theorem dX6_ahead_95 : decode cX6_ahead 95 = .ok (.getfield 129, 3) := by decide +kernel
theorem dX6_ahead_98 : decode cX6_ahead 98 = .ok (.if_icmp .ge 84, 3) := by decide +kernel
theorem dX6_ahead_101 : decode cX6_ahead 101 = .ok (.iload 4, 2) := by decide +kernel
theorem dX6_ahead_103 : decode cX6_ahead 103 = .ok (.iload 9, 2) := by decide +kernel
theorem dX6_ahead_105 : decode cX6_ahead 105 = .ok (.invokestatic 150, 3) := by decide +kernel
theorem dX6_ahead_108 : decode cX6_ahead 108 = .ok (.ifCond .eq 68, 3) := by decide +kernel
theorem dX6_ahead_111 : decode cX6_ahead 111 = .ok (.aload_n 0, 1) := by decide +kernel
theorem dX6_ahead_112 : decode cX6_ahead 112 = .ok (.iload 9, 2) := by decide +kernel
theorem dX6_ahead_114 : decode cX6_ahead 114 = .ok (.iconst 1, 1) := by decide +kernel
theorem dX6_ahead_115 : decode cX6_ahead 115 = .ok (.invokevirtual 89, 3) := by decide +kernel
theorem dX6_ahead_118 : decode cX6_ahead 118 = .ok (.iload 7, 2) := by decide +kernel
theorem dX6_ahead_120 : decode cX6_ahead 120 = .ok (.if_icmp .ne 56, 3) := by decide +kernel
theorem dX6_ahead_123 : decode cX6_ahead 123 = .ok (.aload_n 0, 1) := by decide +kernel
theorem dX6_ahead_124 : decode cX6_ahead 124 = .ok (.iload 9, 2) := by decide +kernel
theorem dX6_ahead_126 : decode cX6_ahead 126 = .ok (.iconst 0, 1) := by decide +kernel
theorem dX6_ahead_127 : decode cX6_ahead 127 = .ok (.invokevirtual 89, 3) := by decide +kernel
theorem dX6_ahead_130 : decode cX6_ahead 130 = .ok (.iconst 5, 1) := by decide +kernel
theorem dX6_ahead_131 : decode cX6_ahead 131 = .ok (.if_icmp .ne 7, 3) := by decide +kernel
theorem dX6_ahead_134 : decode cX6_ahead 134 = .ok (.iconst 1, 1) := by decide +kernel
theorem dX6_ahead_135 : decode cX6_ahead 135 = .ok (.goto 4, 3) := by decide +kernel
theorem dX6_ahead_138 : decode cX6_ahead 138 = .ok (.iconst 0, 1) := by decide +kernel
theorem dX6_ahead_139 : decode cX6_ahead 139 = .ok (.iload 8, 2) := by decide +kernel
theorem dX6_ahead_141 : decode cX6_ahead 141 = .ok (.iconst 1, 1) := by decide +kernel
theorem dX6_ahead_142 : decode cX6_ahead 142 = .ok (.if_icmp .ne 7, 3) := by decide +kernel
theorem dX6_ahead_145 : decode cX6_ahead 145 = .ok (.iconst 1, 1) := by decide +kernel
theorem dX6_ahead_146 : decode cX6_ahead 146 = .ok (.goto 4, 3) := by decide +kernel
theorem dX6_ahead_149 : decode cX6_ahead 149 = .ok (.iconst 0, 1) := by decide +kernel
theorem dX6_ahead_150 : decode cX6_ahead 150 = .ok (.if_icmp .ne 26, 3) := by decide +kernel
theorem dX6_ahead_153 : decode cX6_ahead 153 = .ok (.aload_n 0, 1) := by decide +kernel
theorem dX6_ahead_154 : decode cX6_ahead 154 = .ok (.iload_n 2, 1) := by decide +kernel
theorem dX6_ahead_155 : decode cX6_ahead 155 = .ok (.iload 6, 2) := by decide +kernel
theorem dX6_ahead_157 : decode cX6_ahead 157 = .ok (.iload 9, 2) := by decide +kernel
theorem dX6_ahead_159 : decode cX6_ahead 159 = .ok (.invokevirtual 66, 3) := by decide +kernel
theorem dX6_ahead_162 : decode cX6_ahead 162 = .ok (.iinc 6 1, 3) := by decide +kernel
theorem dX6_ahead_165 : decode cX6_ahead 165 = .ok (.iload 5, 2) := by decide +kernel
theorem dX6_ahead_167 : decode cX6_ahead 167 = .ok (.aload_n 0, 1) := by decide +kernel
theorem dX6_ahead_168 : decode cX6_ahead 168 = .ok (.iload 9, 2) := by decide +kernel
theorem dX6_ahead_170 : decode cX6_ahead 170 = .ok (.invokevirtual 195, 3) := by decide +kernel
theorem dX6_ahead_173 : decode cX6_ahead 173 = .ok (.ior, 1) := by decide +kernel
theorem dX6_ahead_174 : decode cX6_ahead 174 = .ok (.istore 5, 2) := by decide +kernel
theorem dX6_ahead_176 : decode cX6_ahead 176 = .ok (.iinc 9 1, 3) := by decide +kernel
theorem dX6_ahead_179 : decode cX6_ahead 179 = .ok (.goto (-87), 3) := by decide +kernel
theorem dX6_ahead_182 : decode cX6_ahead 182 = .ok (.iinc 8 (-1), 3) := by decide +kernel
theorem dX6_ahead_185 : decode cX6_ahead 185 = .ok (.goto (-101), 3) := by decide +kernel
theorem dX6_ahead_188 : decode cX6_ahead 188 = .ok (.iinc 7 (-1), 3) := by decide +kernel
theorem dX6_ahead_191 : decode cX6_ahead 191 = .ok (.goto (-115), 3) := by decide +kernel
theorem dX6_ahead_194 : decode cX6_ahead 194 = .ok (.aload_n 0, 1) := by decide +kernel
theorem dX6_ahead_195 : decode cX6_ahead 195 = .ok (.iload 5, 2) := by decide +kernel
theorem dX6_ahead_197 : decode cX6_ahead 197 = .ok (.iload 6, 2) := by decide +kernel
theorem dX6_ahead_199 : decode cX6_ahead 199 = .ok (.invokevirtual 77, 3) := by decide +kernel
theorem dX6_ahead_202 : decode cX6_ahead 202 = .ok (.ireturn, 1) := by decide +kernel
theorem dX6_rests_0 : decode cX6_rests 0 = .ok (.aload_n 0, 1) := by decide +kernel
theorem dX6_rests_1 : decode cX6_rests 1 = .ok (.iload_n 1, 1) := by decide +kernel
theorem dX6_rests_2 : decode cX6_rests 2 = .ok (.invokevirtual 183, 3) := by decide +kernel
theorem dX6_rests_5 : decode cX6_rests 5 = .ok (.istore_n 2, 1) := by decide +kernel
theorem dX6_rests_6 : decode cX6_rests 6 = .ok (.iload_n 2, 1) := by decide +kernel
theorem dX6_rests_7 : decode cX6_rests 7 = .ok (.ifCond .ge 5, 3) := by decide +kernel
theorem dX6_rests_10 : decode cX6_rests 10 = .ok (.iload_n 2, 1) := by decide +kernel
theorem dX6_rests_11 : decode cX6_rests 11 = .ok (.ireturn, 1) := by decide +kernel
theorem dX6_rests_12 : decode cX6_rests 12 = .ok (.iconst 0, 1) := by decide +kernel
theorem dX6_rests_13 : decode cX6_rests 13 = .ok (.istore_n 3, 1) := by decide +kernel
theorem dX6_rests_14 : decode cX6_rests 14 = .ok (.iconst 0, 1) := by decide +kernel
theorem dX6_rests_15 : decode cX6_rests 15 = .ok (.istore 4, 2) := by decide +kernel
theorem dX6_rests_17 : decode cX6_rests 17 = .ok (.iconst 0, 1) := by decide +kernel
theorem dX6_rests_18 : decode cX6_rests 18 = .ok (.istore 5, 2) := by decide +kernel
theorem dX6_rests_20 : decode cX6_rests 20 = .ok (.iload 5, 2) := by decide +kernel
theorem dX6_rests_22 : decode cX6_rests 22 = .ok (.aload_n 0, 1) := by decide +kernel
theorem dX6_rests_23 : decode cX6_rests 23 = .ok (.getfield 129, 3) := by decide +kernel
theorem dX6_rests_26 : decode cX6_rests 26 = .ok (.if_icmp .ge 89, 3) := by decide +kernel
theorem dX6_rests_29 : decode cX6_rests 29 = .ok (.iload_n 3, 1) := by decide +kernel
theorem dX6_rests_30 : decode cX6_rests 30 = .ok (.aload_n 0, 1) := by decide +kernel
theorem dX6_rests_31 : decode cX6_rests 31 = .ok (.iload 5, 2) := by decide +kernel
theorem dX6_rests_33 : decode cX6_rests 33 = .ok (.iconst 1, 1) := by decide +kernel
theorem dX6_rests_34 : decode cX6_rests 34 = .ok (.invokevirtual 89, 3) := by decide +kernel
theorem dX6_rests_37 : decode cX6_rests 37 = .ok (.aload_n 0, 1) := by decide +kernel
theorem dX6_rests_38 : decode cX6_rests 38 = .ok (.iload_n 1, 1) := by decide +kernel
theorem dX6_rests_39 : decode cX6_rests 39 = .ok (.iconst 1, 1) := by decide +kernel
theorem dX6_rests_40 : decode cX6_rests 40 = .ok (.invokevirtual 89, 3) := by decide +kernel
theorem dX6_rests_43 : decode cX6_rests 43 = .ok (.iconst 1, 1) := by decide +kernel
theorem dX6_rests_44 : decode cX6_rests 44 = .ok (.isub, 1) := by decide +kernel
theorem dX6_rests_45 : decode cX6_rests 45 = .ok (.if_icmp .ne 20, 3) := by decide +kernel
theorem dX6_rests_48 : decode cX6_rests 48 = .ok (.aload_n 0, 1) := by decide +kernel
theorem dX6_rests_49 : decode cX6_rests 49 = .ok (.iload 5, 2) := by decide +kernel
theorem dX6_rests_51 : decode cX6_rests 51 = .ok (.iload_n 1, 1) := by decide +kernel
theorem dX6_rests_52 : decode cX6_rests 52 = .ok (.invokevirtual 110, 3) := by decide +kernel
theorem dX6_rests_55 : decode cX6_rests 55 = .ok (.ifCond .eq 10, 3) := by decide +kernel
theorem dX6_rests_58 : decode cX6_rests 58 = .ok (.iconst 1, 1) := by decide +kernel
theorem dX6_rests_59 : decode cX6_rests 59 = .ok (.iload 5, 2) := by decide +kernel
theorem dX6_rests_61 : decode cX6_rests 61 = .ok (.ishl, 1) := by decide +kernel
theorem dX6_rests_62 : decode cX6_rests 62 = .ok (.goto 4, 3) := by decide +kernel
theorem dX6_rests_65 : decode cX6_rests 65 = .ok (.iconst 0, 1) := by decide +kernel
theorem dX6_rests_66 : decode cX6_rests 66 = .ok (.ior, 1) := by decide +kernel
theorem dX6_rests_67 : decode cX6_rests 67 = .ok (.istore_n 3, 1) := by decide +kernel
theorem dX6_rests_68 : decode cX6_rests 68 = .ok (.iload 4, 2) := by decide +kernel
theorem dX6_rests_70 : decode cX6_rests 70 = .ok (.aload_n 0, 1) := by decide +kernel
theorem dX6_rests_71 : decode cX6_rests 71 = .ok (.iload 5, 2) := by decide +kernel
theorem dX6_rests_73 : decode cX6_rests 73 = .ok (.iconst 1, 1) := by decide +kernel
theorem dX6_rests_74 : decode cX6_rests 74 = .ok (.invokevirtual 89, 3) := by decide +kernel
theorem dX6_rests_77 : decode cX6_rests 77 = .ok (.aload_n 0, 1) := by decide +kernel
theorem dX6_rests_78 : decode cX6_rests 78 = .ok (.iload_n 1, 1) := by decide +kernel
theorem dX6_rests_79 : decode cX6_rests 79 = .ok (.iconst 1, 1) := by decide +kernel
theorem dX6_rests_80 : decode cX6_rests 80 = .ok (.invokevirtual 89, 3) := by decide +kernel
theorem dX6_rests_83 : decode cX6_rests 83 = .ok (.iconst 1, 1) := by decide +kernel
theorem dX6_rests_84 : decode cX6_rests 84 = .ok (.iadd, 1) := by decide +kernel
theorem dX6_rests_85 : decode cX6_rests 85 = .ok (.if_icmp .ne 20, 3) := by decide +kernel
theorem dX6_rests_88 : decode cX6_rests 88 = .ok (.aload_n 0, 1) := by decide +kernel
theorem dX6_rests_89 : decode cX6_rests 89 = .ok (.iload 5, 2) := by decide +kernel
theorem dX6_rests_91 : decode cX6_rests 91 = .ok (.iload_n 1, 1) := by decide +kernel
theorem dX6_rests_92 : decode cX6_rests 92 = .ok (.invokevirtual 110, 3) := by decide +kernel
theorem dX6_rests_95 : decode cX6_rests 95 = .ok (.ifCond .eq 10, 3) := by decide +kernel
theorem dX6_rests_98 : decode cX6_rests 98 = .ok (.iconst 1, 1) := by decide +kernel
theorem dX6_rests_99 : decode cX6_rests 99 = .ok (.iload 5, 2) := by decide +kernel
theorem dX6_rests_101 : decode cX6_rests 101 = .ok (.ishl, 1) := by decide +kernel
theorem dX6_rests_102 : decode cX6_rests 102 = .ok (.goto 4, 3) := by decide +kernel
theorem dX6_rests_105 : decode cX6_rests 105 = .ok (.iconst 0, 1) := by decide +kernel
theorem dX6_rests_106 : decode cX6_rests 106 = .ok (.ior, 1) := by decide +kernel
theorem dX6_rests_107 : decode cX6_rests 107 = .ok (.istore 4, 2) := by decide +kernel
theorem dX6_rests_109 : decode cX6_rests 109 = .ok (.iinc 5 1, 3) := by decide +kernel
theorem dX6_rests_112 : decode cX6_rests 112 = .ok (.goto (-92), 3) := by decide +kernel
theorem dX6_rests_115 : decode cX6_rests 115 = .ok (.aload_n 0, 1) := by decide +kernel
theorem dX6_rests_116 : decode cX6_rests 116 = .ok (.iload 4, 2) := by decide +kernel
theorem dX6_rests_118 : decode cX6_rests 118 = .ok (.aload_n 0, 1) := by decide +kernel
theorem dX6_rests_119 : decode cX6_rests 119 = .ok (.getfield 132, 3) := by decide +kernel
theorem dX6_rests_122 : decode cX6_rests 122 = .ok (.iand, 1) := by decide +kernel
theorem dX6_rests_123 : decode cX6_rests 123 = .ok (.iload_n 3, 1) := by decide +kernel
theorem dX6_rests_124 : decode cX6_rests 124 = .ok (.aload_n 0, 1) := by decide +kernel
theorem dX6_rests_125 : decode cX6_rests 125 = .ok (.iconst 0, 1) := by decide +kernel
theorem dX6_rests_126 : decode cX6_rests 126 = .ok (.invokevirtual 171, 3) := by decide +kernel
theorem dX6_rests_129 : decode cX6_rests 129 = .ok (.iand, 1) := by decide +kernel
theorem dX6_rests_130 : decode cX6_rests 130 = .ok (.invokevirtual 77, 3) := by decide +kernel
theorem dX6_rests_133 : decode cX6_rests 133 = .ok (.ireturn, 1) := by decide +kernel
theorem dX6_props_0 : decode cX6_props 0 = .ok (.aload_n 0, 1) := by decide +kernel
theorem dX6_props_1 : decode cX6_props 1 = .ok (.iload_n 1, 1) := by decide +kernel
theorem dX6_props_2 : decode cX6_props 2 = .ok (.invokevirtual 183, 3) := by decide +kernel
theorem dX6_props_5 : decode cX6_props 5 = .ok (.istore_n 2, 1) := by decide +kernel
theorem dX6_props_6 : decode cX6_props 6 = .ok (.iload_n 2, 1) := by decide +kernel
theorem dX6_props_7 : decode cX6_props 7 = .ok (.ifCond .ge 5, 3) := by decide +kernel
theorem dX6_props_10 : decode cX6_props 10 = .ok (.iload_n 2, 1) := by decide +kernel
theorem dX6_props_11 : decode cX6_props 11 = .ok (.ireturn, 1) := by decide +kernel
theorem dX6_props_12 : decode cX6_props 12 = .ok (.aload_n 0, 1) := by decide +kernel
theorem dX6_props_13 : decode cX6_props 13 = .ok (.iconst 1, 1) := by decide +kernel
theorem dX6_props_14 : decode cX6_props 14 = .ok (.iload_n 1, 1) := by decide +kernel
theorem dX6_props_15 : decode cX6_props 15 = .ok (.ishl, 1) := by decide +kernel
theorem dX6_props_16 : decode cX6_props 16 = .ok (.invokevirtual 189, 3) := by decide +kernel
theorem dX6_props_19 : decode cX6_props 19 = .ok (.istore_n 3, 1) := by decide +kernel
theorem dX6_props_20 : decode cX6_props 20 = .ok (.aload_n 0, 1) := by decide +kernel
theorem dX6_props_21 : decode cX6_props 21 = .ok (.iconst 0, 1) := by decide +kernel
theorem dX6_props_22 : decode cX6_props 22 = .ok (.invokevirtual 171, 3) := by decide +kernel
theorem dX6_props_25 : decode cX6_props 25 = .ok (.iconst 1, 1) := by decide +kernel
theorem dX6_props_26 : decode cX6_props 26 = .ok (.iload_n 1, 1) := by decide +kernel
theorem dX6_props_27 : decode cX6_props 27 = .ok (.ishl, 1) := by decide +kernel
theorem dX6_props_28 : decode cX6_props 28 = .ok (.iconst (-1), 1) := by decide +kernel
theorem dX6_props_29 : decode cX6_props 29 = .ok (.ixor, 1) := by decide +kernel
theorem dX6_props_30 : decode cX6_props 30 = .ok (.iand, 1) := by decide +kernel
theorem dX6_props_31 : decode cX6_props 31 = .ok (.istore 4, 2) := by decide +kernel
theorem dX6_props_33 : decode cX6_props 33 = .ok (.iload_n 3, 1) := by decide +kernel
theorem dX6_props_34 : decode cX6_props 34 = .ok (.istore 5, 2) := by decide +kernel
theorem dX6_props_36 : decode cX6_props 36 = .ok (.iconst 0, 1) := by decide +kernel
theorem dX6_props_37 : decode cX6_props 37 = .ok (.istore 6, 2) := by decide +kernel
theorem dX6_props_39 : decode cX6_props 39 = .ok (.iload 6, 2) := by decide +kernel
theorem dX6_props_41 : decode cX6_props 41 = .ok (.iload_n 3, 1) := by decide +kernel
theorem dX6_props_42 : decode cX6_props 42 = .ok (.if_icmp .gt 69, 3) := by decide +kernel
theorem dX6_props_45 : decode cX6_props 45 = .ok (.iload 6, 2) := by decide +kernel
theorem dX6_props_47 : decode cX6_props 47 = .ok (.iload_n 3, 1) := by decide +kernel
theorem dX6_props_48 : decode cX6_props 48 = .ok (.iconst (-1), 1) := by decide +kernel
theorem dX6_props_49 : decode cX6_props 49 = .ok (.ixor, 1) := by decide +kernel
theorem dX6_props_50 : decode cX6_props 50 = .ok (.iand, 1) := by decide +kernel
theorem dX6_props_51 : decode cX6_props 51 = .ok (.ifCond .ne 54, 3) := by decide +kernel
theorem dX6_props_54 : decode cX6_props 54 = .ok (.iload 6, 2) := by decide +kernel
theorem dX6_props_56 : decode cX6_props 56 = .ok (.invokestatic 174, 3) := by decide +kernel
theorem dX6_props_59 : decode cX6_props 59 = .ok (.iload 5, 2) := by decide +kernel
theorem dX6_props_61 : decode cX6_props 61 = .ok (.invokestatic 174, 3) := by decide +kernel
theorem dX6_props_64 : decode cX6_props 64 = .ok (.if_icmp .ge 41, 3) := by decide +kernel
theorem dX6_props_67 : decode cX6_props 67 = .ok (.iload 4, 2) := by decide +kernel
theorem dX6_props_69 : decode cX6_props 69 = .ok (.aload_n 0, 1) := by decide +kernel
theorem dX6_props_70 : decode cX6_props 70 = .ok (.aload_n 0, 1) := by decide +kernel
theorem dX6_props_71 : decode cX6_props 71 = .ok (.getfield 132, 3) := by decide +kernel
theorem dX6_props_74 : decode cX6_props 74 = .ok (.iconst 1, 1) := by decide +kernel
theorem dX6_props_75 : decode cX6_props 75 = .ok (.iload_n 1, 1) := by decide +kernel
theorem dX6_props_76 : decode cX6_props 76 = .ok (.ishl, 1) := by decide +kernel
theorem dX6_props_77 : decode cX6_props 77 = .ok (.iconst (-1), 1) := by decide +kernel
theorem dX6_props_78 : decode cX6_props 78 = .ok (.ixor, 1) := by decide +kernel
theorem dX6_props_79 : decode cX6_props 79 = .ok (.iand, 1) := by decide +kernel
theorem dX6_props_80 : decode cX6_props 80 = .ok (.aload_n 0, 1) := by decide +kernel
theorem dX6_props_81 : decode cX6_props 81 = .ok (.getfield 135, 3) := by decide +kernel
theorem dX6_props_84 : decode cX6_props 84 = .ok (.aload_n 0, 1) := by decide +kernel
theorem dX6_props_85 : decode cX6_props 85 = .ok (.getfield 138, 3) := by decide +kernel
theorem dX6_props_88 : decode cX6_props 88 = .ok (.ior, 1) := by decide +kernel
theorem dX6_props_89 : decode cX6_props 89 = .ok (.iload 6, 2) := by decide +kernel
theorem dX6_props_91 : decode cX6_props 91 = .ok (.ior, 1) := by decide +kernel
theorem dX6_props_92 : decode cX6_props 92 = .ok (.invokevirtual 168, 3) := by decide +kernel
theorem dX6_props_95 : decode cX6_props 95 = .ok (.iconst (-1), 1) := by decide +kernel
theorem dX6_props_96 : decode cX6_props 96 = .ok (.ixor, 1) := by decide +kernel
theorem dX6_props_97 : decode cX6_props 97 = .ok (.iand, 1) := by decide +kernel
theorem dX6_props_98 : decode cX6_props 98 = .ok (.ifCond .ne 7, 3) := by decide +kernel
theorem dX6_props_101 : decode cX6_props 101 = .ok (.iload 6, 2) := by decide +kernel
theorem dX6_props_103 : decode cX6_props 103 = .ok (.istore 5, 2) := by decide +kernel
theorem dX6_props_105 : decode cX6_props 105 = .ok (.iinc 6 1, 3) := by decide +kernel
theorem dX6_props_108 : decode cX6_props 108 = .ok (.goto (-69), 3) := by decide +kernel
theorem dX6_props_111 : decode cX6_props 111 = .ok (.aload_n 0, 1) := by decide +kernel
theorem dX6_props_112 : decode cX6_props 112 = .ok (.iload 5, 2) := by decide +kernel
theorem dX6_props_114 : decode cX6_props 114 = .ok (.iload 5, 2) := by decide +kernel
theorem dX6_props_116 : decode cX6_props 116 = .ok (.invokestatic 174, 3) := by decide +kernel
theorem dX6_props_119 : decode cX6_props 119 = .ok (.invokevirtual 77, 3) := by decide +kernel
theorem dX6_props_122 : decode cX6_props 122 = .ok (.ireturn, 1) := by decide +kernel
theorem dX6_mayLie_0 : decode cX6_mayLie 0 = .ok (.iload_n 2, 1) := by decide +kernel
theorem dX6_mayLie_1 : decode cX6_mayLie 1 = .ok (.iconst 2, 1) := by decide +kernel
theorem dX6_mayLie_2 : decode cX6_mayLie 2 = .ok (.iadd, 1) := by decide +kernel
theorem dX6_mayLie_3 : decode cX6_mayLie 3 = .ok (.aload_n 0, 1) := by decide +kernel
theorem dX6_mayLie_4 : decode cX6_mayLie 4 = .ok (.getfield 126, 3) := by decide +kernel
theorem dX6_mayLie_7 : decode cX6_mayLie 7 = .ok (.if_icmp .le 5, 3) := by decide +kernel
theorem dX6_mayLie_10 : decode cX6_mayLie 10 = .ok (.iconst 0, 1) := by decide +kernel
theorem dX6_mayLie_11 : decode cX6_mayLie 11 = .ok (.ireturn, 1) := by decide +kernel
theorem dX6_mayLie_12 : decode cX6_mayLie 12 = .ok (.aload_n 0, 1) := by decide +kernel
theorem dX6_mayLie_13 : decode cX6_mayLie 13 = .ok (.aload_n 0, 1) := by decide +kernel
theorem dX6_mayLie_14 : decode cX6_mayLie 14 = .ok (.getfield 129, 3) := by decide +kernel
theorem dX6_mayLie_17 : decode cX6_mayLie 17 = .ok (.iconst 0, 1) := by decide +kernel
theorem dX6_mayLie_18 : decode cX6_mayLie 18 = .ok (.iconst 0, 1) := by decide +kernel
theorem dX6_mayLie_19 : decode cX6_mayLie 19 = .ok (.invokevirtual 101, 3) := by decide +kernel
theorem dX6_mayLie_22 : decode cX6_mayLie 22 = .ok (.aload_n 0, 1) := by decide +kernel
theorem dX6_mayLie_23 : decode cX6_mayLie 23 = .ok (.aload_n 0, 1) := by decide +kernel
theorem dX6_mayLie_24 : decode cX6_mayLie 24 = .ok (.getfield 129, 3) := by decide +kernel
theorem dX6_mayLie_27 : decode cX6_mayLie 27 = .ok (.iconst 1, 1) := by decide +kernel
theorem dX6_mayLie_28 : decode cX6_mayLie 28 = .ok (.iload_n 1, 1) := by decide +kernel
theorem dX6_mayLie_29 : decode cX6_mayLie 29 = .ok (.invokevirtual 101, 3) := by decide +kernel
theorem dX6_mayLie_32 : decode cX6_mayLie 32 = .ok (.aload_n 0, 1) := by decide +kernel
theorem dX6_mayLie_33 : decode cX6_mayLie 33 = .ok (.aload_n 0, 1) := by decide +kernel
theorem dX6_mayLie_34 : decode cX6_mayLie 34 = .ok (.getfield 129, 3) := by decide +kernel
theorem dX6_mayLie_37 : decode cX6_mayLie 37 = .ok (.iconst 2, 1) := by decide +kernel
theorem dX6_mayLie_38 : decode cX6_mayLie 38 = .ok (.iload_n 2, 1) := by decide +kernel
theorem dX6_mayLie_39 : decode cX6_mayLie 39 = .ok (.invokevirtual 101, 3) := by decide +kernel
theorem dX6_mayLie_42 : decode cX6_mayLie 42 = .ok (.aload_n 0, 1) := by decide +kernel
theorem dX6_mayLie_43 : decode cX6_mayLie 43 = .ok (.aload_n 0, 1) := by decide +kernel
theorem dX6_mayLie_44 : decode cX6_mayLie 44 = .ok (.getfield 129, 3) := by decide +kernel
theorem dX6_mayLie_47 : decode cX6_mayLie 47 = .ok (.invokevirtual 201, 3) := by decide +kernel
theorem dX6_mayLie_50 : decode cX6_mayLie 50 = .ok (.ifCond .ne 7, 3) := by decide +kernel
theorem dX6_mayLie_53 : decode cX6_mayLie 53 = .ok (.iconst 1, 1) := by decide +kernel
theorem dX6_mayLie_54 : decode cX6_mayLie 54 = .ok (.goto 4, 3) := by decide +kernel
theorem dX6_mayLie_57 : decode cX6_mayLie 57 = .ok (.iconst 0, 1) := by decide +kernel
theorem dX6_mayLie_58 : decode cX6_mayLie 58 = .ok (.istore_n 3, 1) := by decide +kernel
theorem dX6_mayLie_59 : decode cX6_mayLie 59 = .ok (.aload_n 0, 1) := by decide +kernel
theorem dX6_mayLie_60 : decode cX6_mayLie 60 = .ok (.dup, 1) := by decide +kernel
theorem dX6_mayLie_61 : decode cX6_mayLie 61 = .ok (.getfield 129, 3) := by decide +kernel
theorem dX6_mayLie_64 : decode cX6_mayLie 64 = .ok (.iconst 1, 1) := by decide +kernel
theorem dX6_mayLie_65 : decode cX6_mayLie 65 = .ok (.iadd, 1) := by decide +kernel
theorem dX6_mayLie_66 : decode cX6_mayLie 66 = .ok (.putfield 129, 3) := by decide +kernel
theorem dX6_mayLie_69 : decode cX6_mayLie 69 = .ok (.iload_n 3, 1) := by decide +kernel
theorem dX6_mayLie_70 : decode cX6_mayLie 70 = .ok (.ifCond .eq 45, 3) := by decide +kernel
theorem dX6_mayLie_73 : decode cX6_mayLie 73 = .ok (.aload_n 0, 1) := by decide +kernel
theorem dX6_mayLie_74 : decode cX6_mayLie 74 = .ok (.aload_n 0, 1) := by decide +kernel
theorem dX6_mayLie_75 : decode cX6_mayLie 75 = .ok (.getfield 132, 3) := by decide +kernel
theorem dX6_mayLie_78 : decode cX6_mayLie 78 = .ok (.iconst 1, 1) := by decide +kernel
theorem dX6_mayLie_79 : decode cX6_mayLie 79 = .ok (.aload_n 0, 1) := by decide +kernel
theorem dX6_mayLie_80 : decode cX6_mayLie 80 = .ok (.getfield 129, 3) := by decide +kernel
theorem dX6_mayLie_83 : decode cX6_mayLie 83 = .ok (.iconst 1, 1) := by decide +kernel
theorem dX6_mayLie_84 : decode cX6_mayLie 84 = .ok (.isub, 1) := by decide +kernel
theorem dX6_mayLie_85 : decode cX6_mayLie 85 = .ok (.ishl, 1) := by decide +kernel
theorem dX6_mayLie_86 : decode cX6_mayLie 86 = .ok (.ior, 1) := by decide +kernel
theorem dX6_mayLie_87 : decode cX6_mayLie 87 = .ok (.aload_n 0, 1) := by decide +kernel
theorem dX6_mayLie_88 : decode cX6_mayLie 88 = .ok (.getfield 135, 3) := by decide +kernel
theorem dX6_mayLie_91 : decode cX6_mayLie 91 = .ok (.aload_n 0, 1) := by decide +kernel
theorem dX6_mayLie_92 : decode cX6_mayLie 92 = .ok (.getfield 138, 3) := by decide +kernel
theorem dX6_mayLie_95 : decode cX6_mayLie 95 = .ok (.ior, 1) := by decide +kernel
theorem dX6_mayLie_96 : decode cX6_mayLie 96 = .ok (.invokevirtual 168, 3) := by decide +kernel
theorem dX6_mayLie_99 : decode cX6_mayLie 99 = .ok (.aload_n 0, 1) := by decide +kernel
theorem dX6_mayLie_100 : decode cX6_mayLie 100 = .ok (.getfield 129, 3) := by decide +kernel
theorem dX6_mayLie_103 : decode cX6_mayLie 103 = .ok (.iconst 1, 1) := by decide +kernel
theorem dX6_mayLie_104 : decode cX6_mayLie 104 = .ok (.isub, 1) := by decide +kernel
theorem dX6_mayLie_105 : decode cX6_mayLie 105 = .ok (.invokestatic 150, 3) := by decide +kernel
theorem dX6_mayLie_108 : decode cX6_mayLie 108 = .ok (.ifCond .eq 7, 3) := by decide +kernel
theorem dX6_mayLie_111 : decode cX6_mayLie 111 = .ok (.iconst 1, 1) := by decide +kernel
theorem dX6_mayLie_112 : decode cX6_mayLie 112 = .ok (.goto 4, 3) := by decide +kernel
theorem dX6_mayLie_115 : decode cX6_mayLie 115 = .ok (.iconst 0, 1) := by decide +kernel
theorem dX6_mayLie_116 : decode cX6_mayLie 116 = .ok (.istore_n 3, 1) := by decide +kernel
theorem dX6_mayLie_117 : decode cX6_mayLie 117 = .ok (.aload_n 0, 1) := by decide +kernel
theorem dX6_mayLie_118 : decode cX6_mayLie 118 = .ok (.dup, 1) := by decide +kernel
theorem dX6_mayLie_119 : decode cX6_mayLie 119 = .ok (.getfield 129, 3) := by decide +kernel
theorem dX6_mayLie_122 : decode cX6_mayLie 122 = .ok (.iconst 1, 1) := by decide +kernel
theorem dX6_mayLie_123 : decode cX6_mayLie 123 = .ok (.isub, 1) := by decide +kernel
theorem dX6_mayLie_124 : decode cX6_mayLie 124 = .ok (.putfield 129, 3) := by decide +kernel
theorem dX6_mayLie_127 : decode cX6_mayLie 127 = .ok (.iload_n 3, 1) := by decide +kernel
theorem dX6_mayLie_128 : decode cX6_mayLie 128 = .ok (.ireturn, 1) := by decide +kernel
theorem dX6_set_0 : decode cX6_set 0 = .ok (.iload_n 1, 1) := by decide +kernel
theorem dX6_set_1 : decode cX6_set 1 = .ok (.iconst 0, 1) := by decide +kernel
theorem dX6_set_2 : decode cX6_set 2 = .ok (.iconst 5, 1) := by decide +kernel
theorem dX6_set_3 : decode cX6_set 3 = .ok (.invokestatic 51, 3) := by decide +kernel
theorem dX6_set_6 : decode cX6_set 6 = .ok (.ifCond .eq 34, 3) := by decide +kernel
theorem dX6_set_9 : decode cX6_set 9 = .ok (.iload_n 2, 1) := by decide +kernel
theorem dX6_set_10 : decode cX6_set 10 = .ok (.iconst 0, 1) := by decide +kernel
theorem dX6_set_11 : decode cX6_set 11 = .ok (.bipush 8, 2) := by decide +kernel
theorem dX6_set_13 : decode cX6_set 13 = .ok (.invokestatic 51, 3) := by decide +kernel
theorem dX6_set_16 : decode cX6_set 16 = .ok (.ifCond .eq 24, 3) := by decide +kernel
theorem dX6_set_19 : decode cX6_set 19 = .ok (.iload_n 3, 1) := by decide +kernel
theorem dX6_set_20 : decode cX6_set 20 = .ok (.invokestatic 180, 3) := by decide +kernel
theorem dX6_set_23 : decode cX6_set 23 = .ok (.ifCond .eq 17, 3) := by decide +kernel
theorem dX6_set_26 : decode cX6_set 26 = .ok (.iload 4, 2) := by decide +kernel
theorem dX6_set_28 : decode cX6_set 28 = .ok (.invokestatic 180, 3) := by decide +kernel
theorem dX6_set_31 : decode cX6_set 31 = .ok (.ifCond .eq 9, 3) := by decide +kernel
theorem dX6_set_34 : decode cX6_set 34 = .ok (.iload_n 3, 1) := by decide +kernel
theorem dX6_set_35 : decode cX6_set 35 = .ok (.iload 4, 2) := by decide +kernel
theorem dX6_set_37 : decode cX6_set 37 = .ok (.if_icmp .ne 5, 3) := by decide +kernel
theorem dX6_set_40 : decode cX6_set 40 = .ok (.iconst (-1), 1) := by decide +kernel
theorem dX6_set_41 : decode cX6_set 41 = .ok (.ireturn, 1) := by decide +kernel
theorem dX6_set_42 : decode cX6_set 42 = .ok (.aload_n 0, 1) := by decide +kernel
theorem dX6_set_43 : decode cX6_set 43 = .ok (.getfield 129, 3) := by decide +kernel
theorem dX6_set_46 : decode cX6_set 46 = .ok (.bipush 14, 2) := by decide +kernel
theorem dX6_set_48 : decode cX6_set 48 = .ok (.if_icmp .ne 6, 3) := by decide +kernel
theorem dX6_set_51 : decode cX6_set 51 = .ok (.bipush (-2), 2) := by decide +kernel
theorem dX6_set_53 : decode cX6_set 53 = .ok (.ireturn, 1) := by decide +kernel
theorem dX6_set_54 : decode cX6_set 54 = .ok (.aload_n 0, 1) := by decide +kernel
theorem dX6_set_55 : decode cX6_set 55 = .ok (.getfield 126, 3) := by decide +kernel
theorem dX6_set_58 : decode cX6_set 58 = .ok (.ifCond .eq 12, 3) := by decide +kernel
theorem dX6_set_61 : decode cX6_set 61 = .ok (.aload_n 0, 1) := by decide +kernel
theorem dX6_set_62 : decode cX6_set 62 = .ok (.iload_n 1, 1) := by decide +kernel
theorem dX6_set_63 : decode cX6_set 63 = .ok (.iload_n 2, 1) := by decide +kernel
theorem dX6_set_64 : decode cX6_set 64 = .ok (.invokevirtual 207, 3) := by decide +kernel
theorem dX6_set_67 : decode cX6_set 67 = .ok (.ifCond .ne 6, 3) := by decide +kernel
theorem dX6_set_70 : decode cX6_set 70 = .ok (.bipush (-4), 2) := by decide +kernel
theorem dX6_set_72 : decode cX6_set 72 = .ok (.ireturn, 1) := by decide +kernel
theorem dX6_set_73 : decode cX6_set 73 = .ok (.aload_n 0, 1) := by decide +kernel
theorem dX6_set_74 : decode cX6_set 74 = .ok (.aload_n 0, 1) := by decide +kernel
theorem dX6_set_75 : decode cX6_set 75 = .ok (.getfield 129, 3) := by decide +kernel
theorem dX6_set_78 : decode cX6_set 78 = .ok (.iconst 3, 1) := by decide +kernel
theorem dX6_set_79 : decode cX6_set 79 = .ok (.iload_n 3, 1) := by decide +kernel
theorem dX6_set_80 : decode cX6_set 80 = .ok (.invokevirtual 101, 3) := by decide +kernel
theorem dX6_set_83 : decode cX6_set 83 = .ok (.aload_n 0, 1) := by decide +kernel
theorem dX6_set_84 : decode cX6_set 84 = .ok (.aload_n 0, 1) := by decide +kernel
theorem dX6_set_85 : decode cX6_set 85 = .ok (.getfield 129, 3) := by decide +kernel
theorem dX6_set_88 : decode cX6_set 88 = .ok (.iconst 4, 1) := by decide +kernel
theorem dX6_set_89 : decode cX6_set 89 = .ok (.iload 4, 2) := by decide +kernel
theorem dX6_set_91 : decode cX6_set 91 = .ok (.invokevirtual 101, 3) := by decide +kernel
theorem dX6_set_94 : decode cX6_set 94 = .ok (.aload_n 0, 1) := by decide +kernel
theorem dX6_set_95 : decode cX6_set 95 = .ok (.aload_n 0, 1) := by decide +kernel
theorem dX6_set_96 : decode cX6_set 96 = .ok (.getfield 129, 3) := by decide +kernel
theorem dX6_set_99 : decode cX6_set 99 = .ok (.iconst 5, 1) := by decide +kernel
theorem dX6_set_100 : decode cX6_set 100 = .ok (.bipush (-9), 2) := by decide +kernel
theorem dX6_set_102 : decode cX6_set 102 = .ok (.invokevirtual 101, 3) := by decide +kernel
theorem dX6_set_105 : decode cX6_set 105 = .ok (.aload_n 0, 1) := by decide +kernel
theorem dX6_set_106 : decode cX6_set 106 = .ok (.aload_n 0, 1) := by decide +kernel
theorem dX6_set_107 : decode cX6_set 107 = .ok (.getfield 129, 3) := by decide +kernel
theorem dX6_set_110 : decode cX6_set 110 = .ok (.bipush 6, 2) := by decide +kernel
theorem dX6_set_112 : decode cX6_set 112 = .ok (.bipush (-9), 2) := by decide +kernel
theorem dX6_set_114 : decode cX6_set 114 = .ok (.invokevirtual 101, 3) := by decide +kernel
theorem dX6_set_117 : decode cX6_set 117 = .ok (.aload_n 0, 1) := by decide +kernel
theorem dX6_set_118 : decode cX6_set 118 = .ok (.dup, 1) := by decide +kernel
theorem dX6_set_119 : decode cX6_set 119 = .ok (.getfield 132, 3) := by decide +kernel
theorem dX6_set_122 : decode cX6_set 122 = .ok (.iconst 1, 1) := by decide +kernel
theorem dX6_set_123 : decode cX6_set 123 = .ok (.aload_n 0, 1) := by decide +kernel
theorem dX6_set_124 : decode cX6_set 124 = .ok (.getfield 129, 3) := by decide +kernel
theorem dX6_set_127 : decode cX6_set 127 = .ok (.ishl, 1) := by decide +kernel
theorem dX6_set_128 : decode cX6_set 128 = .ok (.ior, 1) := by decide +kernel
theorem dX6_set_129 : decode cX6_set 129 = .ok (.putfield 132, 3) := by decide +kernel
theorem dX6_set_132 : decode cX6_set 132 = .ok (.aload_n 0, 1) := by decide +kernel
theorem dX6_set_133 : decode cX6_set 133 = .ok (.dup, 1) := by decide +kernel
theorem dX6_set_134 : decode cX6_set 134 = .ok (.getfield 129, 3) := by decide +kernel
theorem dX6_set_137 : decode cX6_set 137 = .ok (.iconst 1, 1) := by decide +kernel
theorem dX6_set_138 : decode cX6_set 138 = .ok (.iadd, 1) := by decide +kernel
theorem dX6_set_139 : decode cX6_set 139 = .ok (.putfield 129, 3) := by decide +kernel
theorem dX6_set_142 : decode cX6_set 142 = .ok (.aload_n 0, 1) := by decide +kernel
theorem dX6_set_143 : decode cX6_set 143 = .ok (.getfield 129, 3) := by decide +kernel
theorem dX6_set_146 : decode cX6_set 146 = .ok (.iconst 1, 1) := by decide +kernel
theorem dX6_set_147 : decode cX6_set 147 = .ok (.isub, 1) := by decide +kernel
theorem dX6_set_148 : decode cX6_set 148 = .ok (.ireturn, 1) := by decide +kernel
theorem dX6_soon_0 : decode cX6_soon 0 = .ok (.aload_n 0, 1) := by decide +kernel
theorem dX6_soon_1 : decode cX6_soon 1 = .ok (.getfield 126, 3) := by decide +kernel
theorem dX6_soon_4 : decode cX6_soon 4 = .ok (.ifCond .ne 6, 3) := by decide +kernel
theorem dX6_soon_7 : decode cX6_soon 7 = .ok (.bipush (-4), 2) := by decide +kernel
theorem dX6_soon_9 : decode cX6_soon 9 = .ok (.ireturn, 1) := by decide +kernel
theorem dX6_soon_10 : decode cX6_soon 10 = .ok (.bipush (-9), 2) := by decide +kernel
theorem dX6_soon_12 : decode cX6_soon 12 = .ok (.istore_n 1, 1) := by decide +kernel
theorem dX6_soon_13 : decode cX6_soon 13 = .ok (.iconst 0, 1) := by decide +kernel
theorem dX6_soon_14 : decode cX6_soon 14 = .ok (.istore_n 2, 1) := by decide +kernel
theorem dX6_soon_15 : decode cX6_soon 15 = .ok (.iconst 0, 1) := by decide +kernel
theorem dX6_soon_16 : decode cX6_soon 16 = .ok (.istore_n 3, 1) := by decide +kernel
theorem dX6_soon_17 : decode cX6_soon 17 = .ok (.iload_n 3, 1) := by decide +kernel
theorem dX6_soon_18 : decode cX6_soon 18 = .ok (.bipush 6, 2) := by decide +kernel
theorem dX6_soon_20 : decode cX6_soon 20 = .ok (.if_icmp .ge 161, 3) := by decide +kernel
theorem dX6_soon_23 : decode cX6_soon 23 = .ok (.aload_n 0, 1) := by decide +kernel
theorem dX6_soon_24 : decode cX6_soon 24 = .ok (.getfield 129, 3) := by decide +kernel
theorem dX6_soon_27 : decode cX6_soon 27 = .ok (.bipush 14, 2) := by decide +kernel
theorem dX6_soon_29 : decode cX6_soon 29 = .ok (.if_icmp .ge 152, 3) := by decide +kernel
theorem dX6_soon_32 : decode cX6_soon 32 = .ok (.iconst 0, 1) := by decide +kernel
theorem dX6_soon_33 : decode cX6_soon 33 = .ok (.istore 4, 2) := by decide +kernel
theorem dX6_soon_35 : decode cX6_soon 35 = .ok (.iload 4, 2) := by decide +kernel
theorem dX6_soon_37 : decode cX6_soon 37 = .ok (.aload_n 0, 1) := by decide +kernel
theorem dX6_soon_38 : decode cX6_soon 38 = .ok (.getfield 126, 3) := by decide +kernel
theorem dX6_soon_41 : decode cX6_soon 41 = .ok (.if_icmp .ge 134, 3) := by decide +kernel
theorem dX6_soon_44 : decode cX6_soon 44 = .ok (.aload_n 0, 1) := by decide +kernel
theorem dX6_soon_45 : decode cX6_soon 45 = .ok (.iload_n 3, 1) := by decide +kernel
theorem dX6_soon_46 : decode cX6_soon 46 = .ok (.iload 4, 2) := by decide +kernel
theorem dX6_soon_48 : decode cX6_soon 48 = .ok (.invokevirtual 207, 3) := by decide +kernel
theorem dX6_soon_51 : decode cX6_soon 51 = .ok (.ifCond .eq 118, 3) := by decide +kernel
theorem dX6_soon_54 : decode cX6_soon 54 = .ok (.aload_n 0, 1) := by decide +kernel
theorem dX6_soon_55 : decode cX6_soon 55 = .ok (.iconst 0, 1) := by decide +kernel
theorem dX6_soon_56 : decode cX6_soon 56 = .ok (.invokevirtual 171, 3) := by decide +kernel
theorem dX6_soon_59 : decode cX6_soon 59 = .ok (.istore 5, 2) := by decide +kernel
theorem dX6_soon_61 : decode cX6_soon 61 = .ok (.aload_n 0, 1) := by decide +kernel
theorem dX6_soon_62 : decode cX6_soon 62 = .ok (.dup, 1) := by decide +kernel
theorem dX6_soon_63 : decode cX6_soon 63 = .ok (.getfield 129, 3) := by decide +kernel
theorem dX6_soon_66 : decode cX6_soon 66 = .ok (.iconst 1, 1) := by decide +kernel
theorem dX6_soon_67 : decode cX6_soon 67 = .ok (.iadd, 1) := by decide +kernel
theorem dX6_soon_68 : decode cX6_soon 68 = .ok (.putfield 129, 3) := by decide +kernel
theorem dX6_soon_71 : decode cX6_soon 71 = .ok (.aload_n 0, 1) := by decide +kernel
theorem dX6_soon_72 : decode cX6_soon 72 = .ok (.aload_n 0, 1) := by decide +kernel
theorem dX6_soon_73 : decode cX6_soon 73 = .ok (.getfield 132, 3) := by decide +kernel
theorem dX6_soon_76 : decode cX6_soon 76 = .ok (.iconst 1, 1) := by decide +kernel
theorem dX6_soon_77 : decode cX6_soon 77 = .ok (.aload_n 0, 1) := by decide +kernel
theorem dX6_soon_78 : decode cX6_soon 78 = .ok (.getfield 129, 3) := by decide +kernel
theorem dX6_soon_81 : decode cX6_soon 81 = .ok (.iconst 1, 1) := by decide +kernel
theorem dX6_soon_82 : decode cX6_soon 82 = .ok (.isub, 1) := by decide +kernel
theorem dX6_soon_83 : decode cX6_soon 83 = .ok (.ishl, 1) := by decide +kernel
theorem dX6_soon_84 : decode cX6_soon 84 = .ok (.ior, 1) := by decide +kernel
theorem dX6_soon_85 : decode cX6_soon 85 = .ok (.aload_n 0, 1) := by decide +kernel
theorem dX6_soon_86 : decode cX6_soon 86 = .ok (.getfield 135, 3) := by decide +kernel
theorem dX6_soon_89 : decode cX6_soon 89 = .ok (.aload_n 0, 1) := by decide +kernel
theorem dX6_soon_90 : decode cX6_soon 90 = .ok (.getfield 138, 3) := by decide +kernel
theorem dX6_soon_93 : decode cX6_soon 93 = .ok (.ior, 1) := by decide +kernel
theorem dX6_soon_94 : decode cX6_soon 94 = .ok (.invokevirtual 168, 3) := by decide +kernel
theorem dX6_soon_97 : decode cX6_soon 97 = .ok (.istore 6, 2) := by decide +kernel
theorem dX6_soon_99 : decode cX6_soon 99 = .ok (.aload_n 0, 1) := by decide +kernel
theorem dX6_soon_100 : decode cX6_soon 100 = .ok (.dup, 1) := by decide +kernel
theorem dX6_soon_101 : decode cX6_soon 101 = .ok (.getfield 129, 3) := by decide +kernel
theorem dX6_soon_104 : decode cX6_soon 104 = .ok (.iconst 1, 1) := by decide +kernel
theorem dX6_soon_105 : decode cX6_soon 105 = .ok (.isub, 1) := by decide +kernel
theorem dX6_soon_106 : decode cX6_soon 106 = .ok (.putfield 129, 3) := by decide +kernel
theorem dX6_soon_109 : decode cX6_soon 109 = .ok (.iload 6, 2) := by decide +kernel
theorem dX6_soon_111 : decode cX6_soon 111 = .ok (.iload 5, 2) := by decide +kernel
theorem dX6_soon_113 : decode cX6_soon 113 = .ok (.iconst (-1), 1) := by decide +kernel
theorem dX6_soon_114 : decode cX6_soon 114 = .ok (.ixor, 1) := by decide +kernel
theorem dX6_soon_115 : decode cX6_soon 115 = .ok (.iand, 1) := by decide +kernel
theorem dX6_soon_116 : decode cX6_soon 116 = .ok (.iconst 1, 1) := by decide +kernel
theorem dX6_soon_117 : decode cX6_soon 117 = .ok (.aload_n 0, 1) := by decide +kernel
theorem dX6_soon_118 : decode cX6_soon 118 = .ok (.getfield 129, 3) := by decide +kernel
theorem dX6_soon_121 : decode cX6_soon 121 = .ok (.ishl, 1) := by decide +kernel
theorem dX6_soon_122 : decode cX6_soon 122 = .ok (.iconst (-1), 1) := by decide +kernel
theorem dX6_soon_123 : decode cX6_soon 123 = .ok (.ixor, 1) := by decide +kernel
theorem dX6_soon_124 : decode cX6_soon 124 = .ok (.iand, 1) := by decide +kernel
theorem dX6_soon_125 : decode cX6_soon 125 = .ok (.ifCond .ne 7, 3) := by decide +kernel
theorem dX6_soon_128 : decode cX6_soon 128 = .ok (.iconst 1, 1) := by decide +kernel
theorem dX6_soon_129 : decode cX6_soon 129 = .ok (.goto 4, 3) := by decide +kernel
theorem dX6_soon_132 : decode cX6_soon 132 = .ok (.iconst 0, 1) := by decide +kernel
theorem dX6_soon_133 : decode cX6_soon 133 = .ok (.istore 7, 2) := by decide +kernel
theorem dX6_soon_135 : decode cX6_soon 135 = .ok (.iload 7, 2) := by decide +kernel
theorem dX6_soon_137 : decode cX6_soon 137 = .ok (.ifCond .eq 17, 3) := by decide +kernel
theorem dX6_soon_140 : decode cX6_soon 140 = .ok (.iload_n 2, 1) := by decide +kernel
theorem dX6_soon_141 : decode cX6_soon 141 = .ok (.ifCond .ne 13, 3) := by decide +kernel
theorem dX6_soon_144 : decode cX6_soon 144 = .ok (.bipush 10, 2) := by decide +kernel
theorem dX6_soon_146 : decode cX6_soon 146 = .ok (.iload_n 3, 1) := by decide +kernel
theorem dX6_soon_147 : decode cX6_soon 147 = .ok (.imul, 1) := by decide +kernel
theorem dX6_soon_148 : decode cX6_soon 148 = .ok (.iload 4, 2) := by decide +kernel
theorem dX6_soon_150 : decode cX6_soon 150 = .ok (.iadd, 1) := by decide +kernel
theorem dX6_soon_151 : decode cX6_soon 151 = .ok (.goto 4, 3) := by decide +kernel
theorem dX6_soon_154 : decode cX6_soon 154 = .ok (.iload_n 1, 1) := by decide +kernel
theorem dX6_soon_155 : decode cX6_soon 155 = .ok (.istore_n 1, 1) := by decide +kernel
theorem dX6_soon_156 : decode cX6_soon 156 = .ok (.iload_n 2, 1) := by decide +kernel
theorem dX6_soon_157 : decode cX6_soon 157 = .ok (.iload 7, 2) := by decide +kernel
theorem dX6_soon_159 : decode cX6_soon 159 = .ok (.ifCond .eq 7, 3) := by decide +kernel
theorem dX6_soon_162 : decode cX6_soon 162 = .ok (.iconst 1, 1) := by decide +kernel
theorem dX6_soon_163 : decode cX6_soon 163 = .ok (.goto 4, 3) := by decide +kernel
theorem dX6_soon_166 : decode cX6_soon 166 = .ok (.iconst 0, 1) := by decide +kernel
theorem dX6_soon_167 : decode cX6_soon 167 = .ok (.iadd, 1) := by decide +kernel
theorem dX6_soon_168 : decode cX6_soon 168 = .ok (.istore_n 2, 1) := by decide +kernel
theorem dX6_soon_169 : decode cX6_soon 169 = .ok (.iinc 4 1, 3) := by decide +kernel
theorem dX6_soon_172 : decode cX6_soon 172 = .ok (.goto (-137), 3) := by decide +kernel
theorem dX6_soon_175 : decode cX6_soon 175 = .ok (.iinc 3 1, 3) := by decide +kernel
theorem dX6_soon_178 : decode cX6_soon 178 = .ok (.goto (-161), 3) := by decide +kernel
theorem dX6_soon_181 : decode cX6_soon 181 = .ok (.iload_n 1, 1) := by decide +kernel
theorem dX6_soon_182 : decode cX6_soon 182 = .ok (.bipush (-9), 2) := by decide +kernel
theorem dX6_soon_184 : decode cX6_soon 184 = .ok (.if_icmp .ne 8, 3) := by decide +kernel
theorem dX6_soon_187 : decode cX6_soon 187 = .ok (.bipush (-9), 2) := by decide +kernel
theorem dX6_soon_189 : decode cX6_soon 189 = .ok (.goto 9, 3) := by decide +kernel
theorem dX6_soon_192 : decode cX6_soon 192 = .ok (.aload_n 0, 1) := by decide +kernel
theorem dX6_soon_193 : decode cX6_soon 193 = .ok (.iload_n 2, 1) := by decide +kernel
theorem dX6_soon_194 : decode cX6_soon 194 = .ok (.iload_n 1, 1) := by decide +kernel
theorem dX6_soon_195 : decode cX6_soon 195 = .ok (.invokevirtual 77, 3) := by decide +kernel
theorem dX6_soon_198 : decode cX6_soon 198 = .ok (.ireturn, 1) := by decide +kernel
theorem dX6_owed_0 : decode cX6_owed 0 = .ok (.iconst 0, 1) := by decide +kernel
theorem dX6_owed_1 : decode cX6_owed 1 = .ok (.istore_n 3, 1) := by decide +kernel
theorem dX6_owed_2 : decode cX6_owed 2 = .ok (.iconst 0, 1) := by decide +kernel
theorem dX6_owed_3 : decode cX6_owed 3 = .ok (.istore 4, 2) := by decide +kernel
theorem dX6_owed_5 : decode cX6_owed 5 = .ok (.iload 4, 2) := by decide +kernel
theorem dX6_owed_7 : decode cX6_owed 7 = .ok (.aload_n 0, 1) := by decide +kernel
theorem dX6_owed_8 : decode cX6_owed 8 = .ok (.getfield 129, 3) := by decide +kernel
theorem dX6_owed_11 : decode cX6_owed 11 = .ok (.if_icmp .ge 80, 3) := by decide +kernel
theorem dX6_owed_14 : decode cX6_owed 14 = .ok (.iconst 1, 1) := by decide +kernel
theorem dX6_owed_15 : decode cX6_owed 15 = .ok (.istore 5, 2) := by decide +kernel
theorem dX6_owed_17 : decode cX6_owed 17 = .ok (.iload 5, 2) := by decide +kernel
theorem dX6_owed_19 : decode cX6_owed 19 = .ok (.iconst 3, 1) := by decide +kernel
theorem dX6_owed_20 : decode cX6_owed 20 = .ok (.if_icmp .ge 65, 3) := by decide +kernel
theorem dX6_owed_23 : decode cX6_owed 23 = .ok (.iload_n 3, 1) := by decide +kernel
theorem dX6_owed_24 : decode cX6_owed 24 = .ok (.aload_n 0, 1) := by decide +kernel
theorem dX6_owed_25 : decode cX6_owed 25 = .ok (.getfield 132, 3) := by decide +kernel
theorem dX6_owed_28 : decode cX6_owed 28 = .ok (.iload 4, 2) := by decide +kernel
theorem dX6_owed_30 : decode cX6_owed 30 = .ok (.invokestatic 150, 3) := by decide +kernel
theorem dX6_owed_33 : decode cX6_owed 33 = .ok (.ifCond .eq 43, 3) := by decide +kernel
theorem dX6_owed_36 : decode cX6_owed 36 = .ok (.aload_n 0, 1) := by decide +kernel
theorem dX6_owed_37 : decode cX6_owed 37 = .ok (.iload 4, 2) := by decide +kernel
theorem dX6_owed_39 : decode cX6_owed 39 = .ok (.iconst 0, 1) := by decide +kernel
theorem dX6_owed_40 : decode cX6_owed 40 = .ok (.invokevirtual 89, 3) := by decide +kernel
theorem dX6_owed_43 : decode cX6_owed 43 = .ok (.iconst 2, 1) := by decide +kernel
theorem dX6_owed_44 : decode cX6_owed 44 = .ok (.if_icmp .eq 32, 3) := by decide +kernel
theorem dX6_owed_47 : decode cX6_owed 47 = .ok (.aload_n 0, 1) := by decide +kernel
theorem dX6_owed_48 : decode cX6_owed 48 = .ok (.iload 4, 2) := by decide +kernel
theorem dX6_owed_50 : decode cX6_owed 50 = .ok (.iconst 3, 1) := by decide +kernel
theorem dX6_owed_51 : decode cX6_owed 51 = .ok (.invokevirtual 89, 3) := by decide +kernel
theorem dX6_owed_54 : decode cX6_owed 54 = .ok (.iload_n 1, 1) := by decide +kernel
theorem dX6_owed_55 : decode cX6_owed 55 = .ok (.if_icmp .ne 21, 3) := by decide +kernel
theorem dX6_owed_58 : decode cX6_owed 58 = .ok (.aload_n 0, 1) := by decide +kernel
theorem dX6_owed_59 : decode cX6_owed 59 = .ok (.iload 4, 2) := by decide +kernel
theorem dX6_owed_61 : decode cX6_owed 61 = .ok (.iconst 3, 1) := by decide +kernel
theorem dX6_owed_62 : decode cX6_owed 62 = .ok (.iload 5, 2) := by decide +kernel
theorem dX6_owed_64 : decode cX6_owed 64 = .ok (.iadd, 1) := by decide +kernel
theorem dX6_owed_65 : decode cX6_owed 65 = .ok (.invokevirtual 89, 3) := by decide +kernel
theorem dX6_owed_68 : decode cX6_owed 68 = .ok (.iload_n 2, 1) := by decide +kernel
theorem dX6_owed_69 : decode cX6_owed 69 = .ok (.if_icmp .ne 7, 3) := by decide +kernel
theorem dX6_owed_72 : decode cX6_owed 72 = .ok (.iconst 1, 1) := by decide +kernel
theorem dX6_owed_73 : decode cX6_owed 73 = .ok (.goto 4, 3) := by decide +kernel
theorem dX6_owed_76 : decode cX6_owed 76 = .ok (.iconst 0, 1) := by decide +kernel
theorem dX6_owed_77 : decode cX6_owed 77 = .ok (.iadd, 1) := by decide +kernel
theorem dX6_owed_78 : decode cX6_owed 78 = .ok (.istore_n 3, 1) := by decide +kernel
theorem dX6_owed_79 : decode cX6_owed 79 = .ok (.iinc 5 1, 3) := by decide +kernel
theorem dX6_owed_82 : decode cX6_owed 82 = .ok (.goto (-65), 3) := by decide +kernel
theorem dX6_owed_85 : decode cX6_owed 85 = .ok (.iinc 4 1, 3) := by decide +kernel
theorem dX6_owed_88 : decode cX6_owed 88 = .ok (.goto (-83), 3) := by decide +kernel
theorem dX6_owed_91 : decode cX6_owed 91 = .ok (.iload_n 3, 1) := by decide +kernel
theorem dX6_owed_92 : decode cX6_owed 92 = .ok (.ireturn, 1) := by decide +kernel
theorem dX6_owes_0 : decode cX6_owes 0 = .ok (.iload_n 1, 1) := by decide +kernel
theorem dX6_owes_1 : decode cX6_owes 1 = .ok (.invokestatic 180, 3) := by decide +kernel
theorem dX6_owes_4 : decode cX6_owes 4 = .ok (.ifCond .eq 31, 3) := by decide +kernel
theorem dX6_owes_7 : decode cX6_owes 7 = .ok (.iload_n 2, 1) := by decide +kernel
theorem dX6_owes_8 : decode cX6_owes 8 = .ok (.invokestatic 180, 3) := by decide +kernel
theorem dX6_owes_11 : decode cX6_owes 11 = .ok (.ifCond .eq 24, 3) := by decide +kernel
theorem dX6_owes_14 : decode cX6_owes 14 = .ok (.iload_n 1, 1) := by decide +kernel
theorem dX6_owes_15 : decode cX6_owes 15 = .ok (.iload_n 2, 1) := by decide +kernel
theorem dX6_owes_16 : decode cX6_owes 16 = .ok (.if_icmp .eq 19, 3) := by decide +kernel
theorem dX6_owes_19 : decode cX6_owes 19 = .ok (.aload_n 0, 1) := by decide +kernel
theorem dX6_owes_20 : decode cX6_owes 20 = .ok (.iload_n 1, 1) := by decide +kernel
theorem dX6_owes_21 : decode cX6_owes 21 = .ok (.iload_n 2, 1) := by decide +kernel
theorem dX6_owes_22 : decode cX6_owes 22 = .ok (.invokevirtual 210, 3) := by decide +kernel
theorem dX6_owes_25 : decode cX6_owes 25 = .ok (.aload_n 0, 1) := by decide +kernel
theorem dX6_owes_26 : decode cX6_owes 26 = .ok (.iload_n 2, 1) := by decide +kernel
theorem dX6_owes_27 : decode cX6_owes 27 = .ok (.iload_n 1, 1) := by decide +kernel
theorem dX6_owes_28 : decode cX6_owes 28 = .ok (.invokevirtual 210, 3) := by decide +kernel
theorem dX6_owes_31 : decode cX6_owes 31 = .ok (.isub, 1) := by decide +kernel
theorem dX6_owes_32 : decode cX6_owes 32 = .ok (.goto 4, 3) := by decide +kernel
theorem dX6_owes_35 : decode cX6_owes 35 = .ok (.iconst (-1), 1) := by decide +kernel
theorem dX6_owes_36 : decode cX6_owes 36 = .ok (.ireturn, 1) := by decide +kernel
theorem dX6_rich_0 : decode cX6_rich 0 = .ok (.iconst 0, 1) := by decide +kernel
theorem dX6_rich_1 : decode cX6_rich 1 = .ok (.istore_n 1, 1) := by decide +kernel
theorem dX6_rich_2 : decode cX6_rich 2 = .ok (.sipush (-1000), 3) := by decide +kernel
theorem dX6_rich_5 : decode cX6_rich 5 = .ok (.istore_n 2, 1) := by decide +kernel
theorem dX6_rich_6 : decode cX6_rich 6 = .ok (.iconst 0, 1) := by decide +kernel
theorem dX6_rich_7 : decode cX6_rich 7 = .ok (.istore_n 3, 1) := by decide +kernel
theorem dX6_rich_8 : decode cX6_rich 8 = .ok (.iload_n 3, 1) := by decide +kernel
theorem dX6_rich_9 : decode cX6_rich 9 = .ok (.bipush 6, 2) := by decide +kernel
theorem dX6_rich_11 : decode cX6_rich 11 = .ok (.if_icmp .ge 83, 3) := by decide +kernel
theorem dX6_rich_14 : decode cX6_rich 14 = .ok (.iconst 0, 1) := by decide +kernel
theorem dX6_rich_15 : decode cX6_rich 15 = .ok (.istore 4, 2) := by decide +kernel
theorem dX6_rich_17 : decode cX6_rich 17 = .ok (.iconst 0, 1) := by decide +kernel
theorem dX6_rich_18 : decode cX6_rich 18 = .ok (.istore 5, 2) := by decide +kernel
theorem dX6_rich_20 : decode cX6_rich 20 = .ok (.iload 5, 2) := by decide +kernel
theorem dX6_rich_22 : decode cX6_rich 22 = .ok (.bipush 6, 2) := by decide +kernel
theorem dX6_rich_24 : decode cX6_rich 24 = .ok (.if_icmp .ge 39, 3) := by decide +kernel
theorem dX6_rich_27 : decode cX6_rich 27 = .ok (.iload 4, 2) := by decide +kernel
theorem dX6_rich_29 : decode cX6_rich 29 = .ok (.iload 5, 2) := by decide +kernel
theorem dX6_rich_31 : decode cX6_rich 31 = .ok (.iload_n 3, 1) := by decide +kernel
theorem dX6_rich_32 : decode cX6_rich 32 = .ok (.if_icmp .ne 7, 3) := by decide +kernel
theorem dX6_rich_35 : decode cX6_rich 35 = .ok (.iconst 0, 1) := by decide +kernel
theorem dX6_rich_36 : decode cX6_rich 36 = .ok (.goto 18, 3) := by decide +kernel
theorem dX6_rich_39 : decode cX6_rich 39 = .ok (.aload_n 0, 1) := by decide +kernel
theorem dX6_rich_40 : decode cX6_rich 40 = .ok (.iload 5, 2) := by decide +kernel
theorem dX6_rich_42 : decode cX6_rich 42 = .ok (.iload_n 3, 1) := by decide +kernel
theorem dX6_rich_43 : decode cX6_rich 43 = .ok (.invokevirtual 210, 3) := by decide +kernel
theorem dX6_rich_46 : decode cX6_rich 46 = .ok (.aload_n 0, 1) := by decide +kernel
theorem dX6_rich_47 : decode cX6_rich 47 = .ok (.iload_n 3, 1) := by decide +kernel
theorem dX6_rich_48 : decode cX6_rich 48 = .ok (.iload 5, 2) := by decide +kernel
theorem dX6_rich_50 : decode cX6_rich 50 = .ok (.invokevirtual 210, 3) := by decide +kernel
theorem dX6_rich_53 : decode cX6_rich 53 = .ok (.isub, 1) := by decide +kernel
theorem dX6_rich_54 : decode cX6_rich 54 = .ok (.iadd, 1) := by decide +kernel
theorem dX6_rich_55 : decode cX6_rich 55 = .ok (.istore 4, 2) := by decide +kernel
theorem dX6_rich_57 : decode cX6_rich 57 = .ok (.iinc 5 1, 3) := by decide +kernel
theorem dX6_rich_60 : decode cX6_rich 60 = .ok (.goto (-40), 3) := by decide +kernel
theorem dX6_rich_63 : decode cX6_rich 63 = .ok (.iload 4, 2) := by decide +kernel
theorem dX6_rich_65 : decode cX6_rich 65 = .ok (.iload_n 2, 1) := by decide +kernel
theorem dX6_rich_66 : decode cX6_rich 66 = .ok (.if_icmp .le 7, 3) := by decide +kernel
theorem dX6_rich_69 : decode cX6_rich 69 = .ok (.iload_n 3, 1) := by decide +kernel
theorem dX6_rich_70 : decode cX6_rich 70 = .ok (.goto 4, 3) := by decide +kernel
theorem dX6_rich_73 : decode cX6_rich 73 = .ok (.iload_n 1, 1) := by decide +kernel
theorem dX6_rich_74 : decode cX6_rich 74 = .ok (.istore_n 1, 1) := by decide +kernel
theorem dX6_rich_75 : decode cX6_rich 75 = .ok (.iload 4, 2) := by decide +kernel
theorem dX6_rich_77 : decode cX6_rich 77 = .ok (.iload_n 2, 1) := by decide +kernel
theorem dX6_rich_78 : decode cX6_rich 78 = .ok (.if_icmp .le 8, 3) := by decide +kernel
theorem dX6_rich_81 : decode cX6_rich 81 = .ok (.iload 4, 2) := by decide +kernel
theorem dX6_rich_83 : decode cX6_rich 83 = .ok (.goto 4, 3) := by decide +kernel
theorem dX6_rich_86 : decode cX6_rich 86 = .ok (.iload_n 2, 1) := by decide +kernel
theorem dX6_rich_87 : decode cX6_rich 87 = .ok (.istore_n 2, 1) := by decide +kernel
theorem dX6_rich_88 : decode cX6_rich 88 = .ok (.iinc 3 1, 3) := by decide +kernel
theorem dX6_rich_91 : decode cX6_rich 91 = .ok (.goto (-83), 3) := by decide +kernel
theorem dX6_rich_94 : decode cX6_rich 94 = .ok (.aload_n 0, 1) := by decide +kernel
theorem dX6_rich_95 : decode cX6_rich 95 = .ok (.iload_n 2, 1) := by decide +kernel
theorem dX6_rich_96 : decode cX6_rich 96 = .ok (.iload_n 1, 1) := by decide +kernel
theorem dX6_rich_97 : decode cX6_rich 97 = .ok (.invokevirtual 77, 3) := by decide +kernel
theorem dX6_rich_100 : decode cX6_rich 100 = .ok (.ireturn, 1) := by decide +kernel
theorem dX6_alone_0 : decode cX6_alone 0 = .ok (.aload_n 0, 1) := by decide +kernel
theorem dX6_alone_1 : decode cX6_alone 1 = .ok (.iload_n 1, 1) := by decide +kernel
theorem dX6_alone_2 : decode cX6_alone 2 = .ok (.invokevirtual 186, 3) := by decide +kernel
theorem dX6_alone_5 : decode cX6_alone 5 = .ok (.ifCond .eq 7, 3) := by decide +kernel
theorem dX6_alone_8 : decode cX6_alone 8 = .ok (.iload_n 1, 1) := by decide +kernel
theorem dX6_alone_9 : decode cX6_alone 9 = .ok (.ifCond .ne 5, 3) := by decide +kernel
theorem dX6_alone_12 : decode cX6_alone 12 = .ok (.iconst (-1), 1) := by decide +kernel
theorem dX6_alone_13 : decode cX6_alone 13 = .ok (.ireturn, 1) := by decide +kernel
theorem dX6_alone_14 : decode cX6_alone 14 = .ok (.bipush 63, 2) := by decide +kernel
theorem dX6_alone_16 : decode cX6_alone 16 = .ok (.istore_n 2, 1) := by decide +kernel
theorem dX6_alone_17 : decode cX6_alone 17 = .ok (.iconst 0, 1) := by decide +kernel
theorem dX6_alone_18 : decode cX6_alone 18 = .ok (.istore_n 3, 1) := by decide +kernel
theorem dX6_alone_19 : decode cX6_alone 19 = .ok (.iconst 0, 1) := by decide +kernel
theorem dX6_alone_20 : decode cX6_alone 20 = .ok (.istore 4, 2) := by decide +kernel
theorem dX6_alone_22 : decode cX6_alone 22 = .ok (.iload 4, 2) := by decide +kernel
theorem dX6_alone_24 : decode cX6_alone 24 = .ok (.aload_n 0, 1) := by decide +kernel
theorem dX6_alone_25 : decode cX6_alone 25 = .ok (.getfield 129, 3) := by decide +kernel
theorem dX6_alone_28 : decode cX6_alone 28 = .ok (.if_icmp .ge 48, 3) := by decide +kernel
theorem dX6_alone_31 : decode cX6_alone 31 = .ok (.iload_n 1, 1) := by decide +kernel
theorem dX6_alone_32 : decode cX6_alone 32 = .ok (.iload 4, 2) := by decide +kernel
theorem dX6_alone_34 : decode cX6_alone 34 = .ok (.invokestatic 150, 3) := by decide +kernel
theorem dX6_alone_37 : decode cX6_alone 37 = .ok (.ifCond .eq 33, 3) := by decide +kernel
theorem dX6_alone_40 : decode cX6_alone 40 = .ok (.iload_n 2, 1) := by decide +kernel
theorem dX6_alone_41 : decode cX6_alone 41 = .ok (.aload_n 0, 1) := by decide +kernel
theorem dX6_alone_42 : decode cX6_alone 42 = .ok (.iload 4, 2) := by decide +kernel
theorem dX6_alone_44 : decode cX6_alone 44 = .ok (.invokevirtual 192, 3) := by decide +kernel
theorem dX6_alone_47 : decode cX6_alone 47 = .ok (.iand, 1) := by decide +kernel
theorem dX6_alone_48 : decode cX6_alone 48 = .ok (.istore_n 2, 1) := by decide +kernel
theorem dX6_alone_49 : decode cX6_alone 49 = .ok (.iload_n 3, 1) := by decide +kernel
theorem dX6_alone_50 : decode cX6_alone 50 = .ok (.aload_n 0, 1) := by decide +kernel
theorem dX6_alone_51 : decode cX6_alone 51 = .ok (.iload 4, 2) := by decide +kernel
theorem dX6_alone_53 : decode cX6_alone 53 = .ok (.invokevirtual 192, 3) := by decide +kernel
theorem dX6_alone_56 : decode cX6_alone 56 = .ok (.invokestatic 174, 3) := by decide +kernel
theorem dX6_alone_59 : decode cX6_alone 59 = .ok (.iconst 1, 1) := by decide +kernel
theorem dX6_alone_60 : decode cX6_alone 60 = .ok (.if_icmp .ne 7, 3) := by decide +kernel
theorem dX6_alone_63 : decode cX6_alone 63 = .ok (.iconst 1, 1) := by decide +kernel
theorem dX6_alone_64 : decode cX6_alone 64 = .ok (.goto 4, 3) := by decide +kernel
theorem dX6_alone_67 : decode cX6_alone 67 = .ok (.iconst 0, 1) := by decide +kernel
theorem dX6_alone_68 : decode cX6_alone 68 = .ok (.iadd, 1) := by decide +kernel
theorem dX6_alone_69 : decode cX6_alone 69 = .ok (.istore_n 3, 1) := by decide +kernel
theorem dX6_alone_70 : decode cX6_alone 70 = .ok (.iinc 4 1, 3) := by decide +kernel
theorem dX6_alone_73 : decode cX6_alone 73 = .ok (.goto (-51), 3) := by decide +kernel
theorem dX6_alone_76 : decode cX6_alone 76 = .ok (.aload_n 0, 1) := by decide +kernel
theorem dX6_alone_77 : decode cX6_alone 77 = .ok (.iload_n 3, 1) := by decide +kernel
theorem dX6_alone_78 : decode cX6_alone 78 = .ok (.iload_n 2, 1) := by decide +kernel
theorem dX6_alone_79 : decode cX6_alone 79 = .ok (.invokevirtual 77, 3) := by decide +kernel
theorem dX6_alone_82 : decode cX6_alone 82 = .ok (.ireturn, 1) := by decide +kernel
theorem dX6_few_0 : decode cX6_few 0 = .ok (.aload_n 0, 1) := by decide +kernel
theorem dX6_few_1 : decode cX6_few 1 = .ok (.iload_n 1, 1) := by decide +kernel
theorem dX6_few_2 : decode cX6_few 2 = .ok (.invokevirtual 186, 3) := by decide +kernel
theorem dX6_few_5 : decode cX6_few 5 = .ok (.ifCond .eq 7, 3) := by decide +kernel
theorem dX6_few_8 : decode cX6_few 8 = .ok (.iload_n 1, 1) := by decide +kernel
theorem dX6_few_9 : decode cX6_few 9 = .ok (.ifCond .ne 5, 3) := by decide +kernel
theorem dX6_few_12 : decode cX6_few 12 = .ok (.iconst (-1), 1) := by decide +kernel
theorem dX6_few_13 : decode cX6_few 13 = .ok (.ireturn, 1) := by decide +kernel
theorem dX6_few_14 : decode cX6_few 14 = .ok (.bipush 63, 2) := by decide +kernel
theorem dX6_few_16 : decode cX6_few 16 = .ok (.istore_n 2, 1) := by decide +kernel
theorem dX6_few_17 : decode cX6_few 17 = .ok (.iconst 1, 1) := by decide +kernel
theorem dX6_few_18 : decode cX6_few 18 = .ok (.istore_n 3, 1) := by decide +kernel
theorem dX6_few_19 : decode cX6_few 19 = .ok (.iload_n 3, 1) := by decide +kernel
theorem dX6_few_20 : decode cX6_few 20 = .ok (.bipush 64, 2) := by decide +kernel
theorem dX6_few_22 : decode cX6_few 22 = .ok (.if_icmp .ge 84, 3) := by decide +kernel
theorem dX6_few_25 : decode cX6_few 25 = .ok (.iconst 1, 1) := by decide +kernel
theorem dX6_few_26 : decode cX6_few 26 = .ok (.istore 4, 2) := by decide +kernel
theorem dX6_few_28 : decode cX6_few 28 = .ok (.iconst 0, 1) := by decide +kernel
theorem dX6_few_29 : decode cX6_few 29 = .ok (.istore 5, 2) := by decide +kernel
theorem dX6_few_31 : decode cX6_few 31 = .ok (.iload 5, 2) := by decide +kernel
theorem dX6_few_33 : decode cX6_few 33 = .ok (.aload_n 0, 1) := by decide +kernel
theorem dX6_few_34 : decode cX6_few 34 = .ok (.getfield 129, 3) := by decide +kernel
theorem dX6_few_37 : decode cX6_few 37 = .ok (.if_icmp .ge 41, 3) := by decide +kernel
theorem dX6_few_40 : decode cX6_few 40 = .ok (.iload 4, 2) := by decide +kernel
theorem dX6_few_42 : decode cX6_few 42 = .ok (.ifCond .eq 27, 3) := by decide +kernel
theorem dX6_few_45 : decode cX6_few 45 = .ok (.iload_n 1, 1) := by decide +kernel
theorem dX6_few_46 : decode cX6_few 46 = .ok (.iload 5, 2) := by decide +kernel
theorem dX6_few_48 : decode cX6_few 48 = .ok (.invokestatic 150, 3) := by decide +kernel
theorem dX6_few_51 : decode cX6_few 51 = .ok (.ifCond .eq 14, 3) := by decide +kernel
theorem dX6_few_54 : decode cX6_few 54 = .ok (.aload_n 0, 1) := by decide +kernel
theorem dX6_few_55 : decode cX6_few 55 = .ok (.iload 5, 2) := by decide +kernel
theorem dX6_few_57 : decode cX6_few 57 = .ok (.invokevirtual 192, 3) := by decide +kernel
theorem dX6_few_60 : decode cX6_few 60 = .ok (.iload_n 3, 1) := by decide +kernel
theorem dX6_few_61 : decode cX6_few 61 = .ok (.iand, 1) := by decide +kernel
theorem dX6_few_62 : decode cX6_few 62 = .ok (.ifCond .eq 7, 3) := by decide +kernel
theorem dX6_few_65 : decode cX6_few 65 = .ok (.iconst 1, 1) := by decide +kernel
theorem dX6_few_66 : decode cX6_few 66 = .ok (.goto 4, 3) := by decide +kernel
theorem dX6_few_69 : decode cX6_few 69 = .ok (.iconst 0, 1) := by decide +kernel
theorem dX6_few_70 : decode cX6_few 70 = .ok (.istore 4, 2) := by decide +kernel
theorem dX6_few_72 : decode cX6_few 72 = .ok (.iinc 5 1, 3) := by decide +kernel
theorem dX6_few_75 : decode cX6_few 75 = .ok (.goto (-44), 3) := by decide +kernel
theorem dX6_few_78 : decode cX6_few 78 = .ok (.iload 4, 2) := by decide +kernel
theorem dX6_few_80 : decode cX6_few 80 = .ok (.ifCond .eq 18, 3) := by decide +kernel
theorem dX6_few_83 : decode cX6_few 83 = .ok (.iload_n 3, 1) := by decide +kernel
theorem dX6_few_84 : decode cX6_few 84 = .ok (.invokestatic 174, 3) := by decide +kernel
theorem dX6_few_87 : decode cX6_few 87 = .ok (.iload_n 2, 1) := by decide +kernel
theorem dX6_few_88 : decode cX6_few 88 = .ok (.invokestatic 174, 3) := by decide +kernel
theorem dX6_few_91 : decode cX6_few 91 = .ok (.if_icmp .ge 7, 3) := by decide +kernel
theorem dX6_few_94 : decode cX6_few 94 = .ok (.iload_n 3, 1) := by decide +kernel
theorem dX6_few_95 : decode cX6_few 95 = .ok (.goto 4, 3) := by decide +kernel
theorem dX6_few_98 : decode cX6_few 98 = .ok (.iload_n 2, 1) := by decide +kernel
theorem dX6_few_99 : decode cX6_few 99 = .ok (.istore_n 2, 1) := by decide +kernel
theorem dX6_few_100 : decode cX6_few 100 = .ok (.iinc 3 1, 3) := by decide +kernel
theorem dX6_few_103 : decode cX6_few 103 = .ok (.goto (-84), 3) := by decide +kernel
theorem dX6_few_106 : decode cX6_few 106 = .ok (.aload_n 0, 1) := by decide +kernel
theorem dX6_few_107 : decode cX6_few 107 = .ok (.iload_n 2, 1) := by decide +kernel
theorem dX6_few_108 : decode cX6_few 108 = .ok (.iload_n 2, 1) := by decide +kernel
theorem dX6_few_109 : decode cX6_few 109 = .ok (.invokestatic 174, 3) := by decide +kernel
theorem dX6_few_112 : decode cX6_few 112 = .ok (.invokevirtual 77, 3) := by decide +kernel
theorem dX6_few_115 : decode cX6_few 115 = .ok (.ireturn, 1) := by decide +kernel
theorem dX6_moved_0 : decode cX6_moved 0 = .ok (.iload_n 1, 1) := by decide +kernel
theorem dX6_moved_1 : decode cX6_moved 1 = .ok (.iconst 0, 1) := by decide +kernel
theorem dX6_moved_2 : decode cX6_moved 2 = .ok (.iconst 2, 1) := by decide +kernel
theorem dX6_moved_3 : decode cX6_moved 3 = .ok (.invokestatic 51, 3) := by decide +kernel
theorem dX6_moved_6 : decode cX6_moved 6 = .ok (.ifCond .ne 5, 3) := by decide +kernel
theorem dX6_moved_9 : decode cX6_moved 9 = .ok (.iconst (-1), 1) := by decide +kernel
theorem dX6_moved_10 : decode cX6_moved 10 = .ok (.ireturn, 1) := by decide +kernel
theorem dX6_moved_11 : decode cX6_moved 11 = .ok (.aload_n 0, 1) := by decide +kernel
theorem dX6_moved_12 : decode cX6_moved 12 = .ok (.getfield 38, 3) := by decide +kernel
theorem dX6_moved_15 : decode cX6_moved 15 = .ok (.bipush 120, 2) := by decide +kernel
theorem dX6_moved_17 : decode cX6_moved 17 = .ok (.iload_n 1, 1) := by decide +kernel
theorem dX6_moved_18 : decode cX6_moved 18 = .ok (.imul, 1) := by decide +kernel
theorem dX6_moved_19 : decode cX6_moved 19 = .ok (.iaload, 1) := by decide +kernel
theorem dX6_moved_20 : decode cX6_moved 20 = .ok (.istore_n 2, 1) := by decide +kernel
theorem dX6_moved_21 : decode cX6_moved 21 = .ok (.iload_n 2, 1) := by decide +kernel
theorem dX6_moved_22 : decode cX6_moved 22 = .ok (.bipush (-9), 2) := by decide +kernel
theorem dX6_moved_24 : decode cX6_moved 24 = .ok (.if_icmp .ne 11, 3) := by decide +kernel
theorem dX6_moved_27 : decode cX6_moved 27 = .ok (.aload_n 0, 1) := by decide +kernel
theorem dX6_moved_28 : decode cX6_moved 28 = .ok (.iconst 1, 1) := by decide +kernel
theorem dX6_moved_29 : decode cX6_moved 29 = .ok (.invokevirtual 59, 3) := by decide +kernel
theorem dX6_moved_32 : decode cX6_moved 32 = .ok (.goto 23, 3) := by decide +kernel
theorem dX6_moved_35 : decode cX6_moved 35 = .ok (.aload_n 0, 1) := by decide +kernel
theorem dX6_moved_36 : decode cX6_moved 36 = .ok (.aload_n 0, 1) := by decide +kernel
theorem dX6_moved_37 : decode cX6_moved 37 = .ok (.getfield 132, 3) := by decide +kernel
theorem dX6_moved_40 : decode cX6_moved 40 = .ok (.iload_n 2, 1) := by decide +kernel
theorem dX6_moved_41 : decode cX6_moved 41 = .ok (.iconst (-1), 1) := by decide +kernel
theorem dX6_moved_42 : decode cX6_moved 42 = .ok (.ixor, 1) := by decide +kernel
theorem dX6_moved_43 : decode cX6_moved 43 = .ok (.iand, 1) := by decide +kernel
theorem dX6_moved_44 : decode cX6_moved 44 = .ok (.iload_n 2, 1) := by decide +kernel
theorem dX6_moved_45 : decode cX6_moved 45 = .ok (.aload_n 0, 1) := by decide +kernel
theorem dX6_moved_46 : decode cX6_moved 46 = .ok (.getfield 132, 3) := by decide +kernel
theorem dX6_moved_49 : decode cX6_moved 49 = .ok (.iconst (-1), 1) := by decide +kernel
theorem dX6_moved_50 : decode cX6_moved 50 = .ok (.ixor, 1) := by decide +kernel
theorem dX6_moved_51 : decode cX6_moved 51 = .ok (.iand, 1) := by decide +kernel
theorem dX6_moved_52 : decode cX6_moved 52 = .ok (.invokevirtual 77, 3) := by decide +kernel
theorem dX6_moved_55 : decode cX6_moved 55 = .ok (.ireturn, 1) := by decide +kernel
theorem dX6_keep_0 : decode cX6_keep 0 = .ok (.iload_n 1, 1) := by decide +kernel
theorem dX6_keep_1 : decode cX6_keep 1 = .ok (.iconst 0, 1) := by decide +kernel
theorem dX6_keep_2 : decode cX6_keep 2 = .ok (.iconst 2, 1) := by decide +kernel
theorem dX6_keep_3 : decode cX6_keep 3 = .ok (.invokestatic 51, 3) := by decide +kernel
theorem dX6_keep_6 : decode cX6_keep 6 = .ok (.ifCond .ne 5, 3) := by decide +kernel
theorem dX6_keep_9 : decode cX6_keep 9 = .ok (.iconst (-1), 1) := by decide +kernel
theorem dX6_keep_10 : decode cX6_keep 10 = .ok (.ireturn, 1) := by decide +kernel
theorem dX6_keep_11 : decode cX6_keep 11 = .ok (.aload_n 0, 1) := by decide +kernel
theorem dX6_keep_12 : decode cX6_keep 12 = .ok (.getfield 126, 3) := by decide +kernel
theorem dX6_keep_15 : decode cX6_keep 15 = .ok (.ifCond .ne 6, 3) := by decide +kernel
theorem dX6_keep_18 : decode cX6_keep 18 = .ok (.bipush (-4), 2) := by decide +kernel
theorem dX6_keep_20 : decode cX6_keep 20 = .ok (.ireturn, 1) := by decide +kernel
theorem dX6_keep_21 : decode cX6_keep 21 = .ok (.bipush 120, 2) := by decide +kernel
theorem dX6_keep_23 : decode cX6_keep 23 = .ok (.iload_n 1, 1) := by decide +kernel
theorem dX6_keep_24 : decode cX6_keep 24 = .ok (.imul, 1) := by decide +kernel
theorem dX6_keep_25 : decode cX6_keep 25 = .ok (.istore_n 2, 1) := by decide +kernel
theorem dX6_keep_26 : decode cX6_keep 26 = .ok (.aload_n 0, 1) := by decide +kernel
theorem dX6_keep_27 : decode cX6_keep 27 = .ok (.getfield 38, 3) := by decide +kernel
theorem dX6_keep_30 : decode cX6_keep 30 = .ok (.iload_n 2, 1) := by decide +kernel
theorem dX6_keep_31 : decode cX6_keep 31 = .ok (.aload_n 0, 1) := by decide +kernel
theorem dX6_keep_32 : decode cX6_keep 32 = .ok (.getfield 132, 3) := by decide +kernel
theorem dX6_keep_35 : decode cX6_keep 35 = .ok (.iastore, 1) := by decide +kernel
theorem dX6_keep_36 : decode cX6_keep 36 = .ok (.aload_n 0, 1) := by decide +kernel
theorem dX6_keep_37 : decode cX6_keep 37 = .ok (.getfield 38, 3) := by decide +kernel
theorem dX6_keep_40 : decode cX6_keep 40 = .ok (.iload_n 2, 1) := by decide +kernel
theorem dX6_keep_41 : decode cX6_keep 41 = .ok (.iconst 1, 1) := by decide +kernel
theorem dX6_keep_42 : decode cX6_keep 42 = .ok (.iadd, 1) := by decide +kernel
theorem dX6_keep_43 : decode cX6_keep 43 = .ok (.aload_n 0, 1) := by decide +kernel
theorem dX6_keep_44 : decode cX6_keep 44 = .ok (.getfield 129, 3) := by decide +kernel
theorem dX6_keep_47 : decode cX6_keep 47 = .ok (.iastore, 1) := by decide +kernel
theorem dX6_keep_48 : decode cX6_keep 48 = .ok (.aload_n 0, 1) := by decide +kernel
theorem dX6_keep_49 : decode cX6_keep 49 = .ok (.getfield 38, 3) := by decide +kernel
theorem dX6_keep_52 : decode cX6_keep 52 = .ok (.iload_n 2, 1) := by decide +kernel
theorem dX6_keep_53 : decode cX6_keep 53 = .ok (.iconst 2, 1) := by decide +kernel
theorem dX6_keep_54 : decode cX6_keep 54 = .ok (.iadd, 1) := by decide +kernel
theorem dX6_keep_55 : decode cX6_keep 55 = .ok (.aload_n 0, 1) := by decide +kernel
theorem dX6_keep_56 : decode cX6_keep 56 = .ok (.getfield 135, 3) := by decide +kernel
theorem dX6_keep_59 : decode cX6_keep 59 = .ok (.iastore, 1) := by decide +kernel
theorem dX6_keep_60 : decode cX6_keep 60 = .ok (.aload_n 0, 1) := by decide +kernel
theorem dX6_keep_61 : decode cX6_keep 61 = .ok (.getfield 38, 3) := by decide +kernel
theorem dX6_keep_64 : decode cX6_keep 64 = .ok (.iload_n 2, 1) := by decide +kernel
theorem dX6_keep_65 : decode cX6_keep 65 = .ok (.iconst 3, 1) := by decide +kernel
theorem dX6_keep_66 : decode cX6_keep 66 = .ok (.iadd, 1) := by decide +kernel
theorem dX6_keep_67 : decode cX6_keep 67 = .ok (.aload_n 0, 1) := by decide +kernel
theorem dX6_keep_68 : decode cX6_keep 68 = .ok (.getfield 138, 3) := by decide +kernel
theorem dX6_keep_71 : decode cX6_keep 71 = .ok (.iastore, 1) := by decide +kernel
theorem dX6_keep_72 : decode cX6_keep 72 = .ok (.aload_n 0, 1) := by decide +kernel
theorem dX6_keep_73 : decode cX6_keep 73 = .ok (.getfield 38, 3) := by decide +kernel
theorem dX6_keep_76 : decode cX6_keep 76 = .ok (.iload_n 2, 1) := by decide +kernel
theorem dX6_keep_77 : decode cX6_keep 77 = .ok (.iconst 4, 1) := by decide +kernel
theorem dX6_keep_78 : decode cX6_keep 78 = .ok (.iadd, 1) := by decide +kernel
theorem dX6_keep_79 : decode cX6_keep 79 = .ok (.aload_n 0, 1) := by decide +kernel
theorem dX6_keep_80 : decode cX6_keep 80 = .ok (.getfield 141, 3) := by decide +kernel
theorem dX6_keep_83 : decode cX6_keep 83 = .ok (.iastore, 1) := by decide +kernel
theorem dX6_keep_84 : decode cX6_keep 84 = .ok (.aload_n 0, 1) := by decide +kernel
theorem dX6_keep_85 : decode cX6_keep 85 = .ok (.getfield 38, 3) := by decide +kernel
theorem dX6_keep_88 : decode cX6_keep 88 = .ok (.iload_n 2, 1) := by decide +kernel
theorem dX6_keep_89 : decode cX6_keep 89 = .ok (.iconst 5, 1) := by decide +kernel
theorem dX6_keep_90 : decode cX6_keep 90 = .ok (.iadd, 1) := by decide +kernel
theorem dX6_keep_91 : decode cX6_keep 91 = .ok (.aload_n 0, 1) := by decide +kernel
theorem dX6_keep_92 : decode cX6_keep 92 = .ok (.getfield 144, 3) := by decide +kernel
theorem dX6_keep_95 : decode cX6_keep 95 = .ok (.iastore, 1) := by decide +kernel
theorem dX6_keep_96 : decode cX6_keep 96 = .ok (.aload_n 0, 1) := by decide +kernel
theorem dX6_keep_97 : decode cX6_keep 97 = .ok (.getfield 38, 3) := by decide +kernel
theorem dX6_keep_100 : decode cX6_keep 100 = .ok (.iload_n 2, 1) := by decide +kernel
theorem dX6_keep_101 : decode cX6_keep 101 = .ok (.bipush 6, 2) := by decide +kernel
theorem dX6_keep_103 : decode cX6_keep 103 = .ok (.iadd, 1) := by decide +kernel
theorem dX6_keep_104 : decode cX6_keep 104 = .ok (.aload_n 0, 1) := by decide +kernel
theorem dX6_keep_105 : decode cX6_keep 105 = .ok (.getfield 147, 3) := by decide +kernel
theorem dX6_keep_108 : decode cX6_keep 108 = .ok (.iastore, 1) := by decide +kernel
theorem dX6_keep_109 : decode cX6_keep 109 = .ok (.iconst 0, 1) := by decide +kernel
theorem dX6_keep_110 : decode cX6_keep 110 = .ok (.istore_n 3, 1) := by decide +kernel
theorem dX6_keep_111 : decode cX6_keep 111 = .ok (.iload_n 3, 1) := by decide +kernel
theorem dX6_keep_112 : decode cX6_keep 112 = .ok (.bipush 14, 2) := by decide +kernel
theorem dX6_keep_114 : decode cX6_keep 114 = .ok (.if_icmp .ge 26, 3) := by decide +kernel
theorem dX6_keep_117 : decode cX6_keep 117 = .ok (.aload_n 0, 1) := by decide +kernel
theorem dX6_keep_118 : decode cX6_keep 118 = .ok (.getfield 38, 3) := by decide +kernel
theorem dX6_keep_121 : decode cX6_keep 121 = .ok (.iload_n 2, 1) := by decide +kernel
theorem dX6_keep_122 : decode cX6_keep 122 = .ok (.bipush 7, 2) := by decide +kernel
theorem dX6_keep_124 : decode cX6_keep 124 = .ok (.iadd, 1) := by decide +kernel
theorem dX6_keep_125 : decode cX6_keep 125 = .ok (.iload_n 3, 1) := by decide +kernel
theorem dX6_keep_126 : decode cX6_keep 126 = .ok (.iadd, 1) := by decide +kernel
theorem dX6_keep_127 : decode cX6_keep 127 = .ok (.aload_n 0, 1) := by decide +kernel
theorem dX6_keep_128 : decode cX6_keep 128 = .ok (.getfield 35, 3) := by decide +kernel
theorem dX6_keep_131 : decode cX6_keep 131 = .ok (.iload_n 3, 1) := by decide +kernel
theorem dX6_keep_132 : decode cX6_keep 132 = .ok (.iaload, 1) := by decide +kernel
theorem dX6_keep_133 : decode cX6_keep 133 = .ok (.iastore, 1) := by decide +kernel
theorem dX6_keep_134 : decode cX6_keep 134 = .ok (.iinc 3 1, 3) := by decide +kernel
theorem dX6_keep_137 : decode cX6_keep 137 = .ok (.goto (-26), 3) := by decide +kernel
theorem dX6_keep_140 : decode cX6_keep 140 = .ok (.iconst 0, 1) := by decide +kernel
theorem dX6_keep_141 : decode cX6_keep 141 = .ok (.istore_n 3, 1) := by decide +kernel
theorem dX6_keep_142 : decode cX6_keep 142 = .ok (.iload_n 3, 1) := by decide +kernel
theorem dX6_keep_143 : decode cX6_keep 143 = .ok (.bipush 98, 2) := by decide +kernel
theorem dX6_keep_145 : decode cX6_keep 145 = .ok (.if_icmp .ge 26, 3) := by decide +kernel
theorem dX6_keep_148 : decode cX6_keep 148 = .ok (.aload_n 0, 1) := by decide +kernel
theorem dX6_keep_149 : decode cX6_keep 149 = .ok (.getfield 38, 3) := by decide +kernel
theorem dX6_keep_152 : decode cX6_keep 152 = .ok (.iload_n 2, 1) := by decide +kernel
theorem dX6_keep_153 : decode cX6_keep 153 = .ok (.bipush 21, 2) := by decide +kernel
theorem dX6_keep_155 : decode cX6_keep 155 = .ok (.iadd, 1) := by decide +kernel
theorem dX6_keep_156 : decode cX6_keep 156 = .ok (.iload_n 3, 1) := by decide +kernel
theorem dX6_keep_157 : decode cX6_keep 157 = .ok (.iadd, 1) := by decide +kernel
theorem dX6_keep_158 : decode cX6_keep 158 = .ok (.aload_n 0, 1) := by decide +kernel
theorem dX6_keep_159 : decode cX6_keep 159 = .ok (.getfield 32, 3) := by decide +kernel
theorem dX6_keep_162 : decode cX6_keep 162 = .ok (.iload_n 3, 1) := by decide +kernel
theorem dX6_keep_163 : decode cX6_keep 163 = .ok (.iaload, 1) := by decide +kernel
theorem dX6_keep_164 : decode cX6_keep 164 = .ok (.iastore, 1) := by decide +kernel
theorem dX6_keep_165 : decode cX6_keep 165 = .ok (.iinc 3 1, 3) := by decide +kernel
theorem dX6_keep_168 : decode cX6_keep 168 = .ok (.goto (-26), 3) := by decide +kernel
theorem dX6_keep_171 : decode cX6_keep 171 = .ok (.aload_n 0, 1) := by decide +kernel
theorem dX6_keep_172 : decode cX6_keep 172 = .ok (.getfield 132, 3) := by decide +kernel
theorem dX6_keep_175 : decode cX6_keep 175 = .ok (.invokestatic 174, 3) := by decide +kernel
theorem dX6_keep_178 : decode cX6_keep 178 = .ok (.ireturn, 1) := by decide +kernel
theorem dX6_on_0 : decode cX6_on 0 = .ok (.iload_n 1, 1) := by decide +kernel
theorem dX6_on_1 : decode cX6_on 1 = .ok (.iconst 0, 1) := by decide +kernel
theorem dX6_on_2 : decode cX6_on 2 = .ok (.iconst 2, 1) := by decide +kernel
theorem dX6_on_3 : decode cX6_on 3 = .ok (.invokestatic 51, 3) := by decide +kernel
theorem dX6_on_6 : decode cX6_on 6 = .ok (.ifCond .ne 5, 3) := by decide +kernel
theorem dX6_on_9 : decode cX6_on 9 = .ok (.iconst (-1), 1) := by decide +kernel
theorem dX6_on_10 : decode cX6_on 10 = .ok (.ireturn, 1) := by decide +kernel
theorem dX6_on_11 : decode cX6_on 11 = .ok (.bipush 120, 2) := by decide +kernel
theorem dX6_on_13 : decode cX6_on 13 = .ok (.iload_n 1, 1) := by decide +kernel
theorem dX6_on_14 : decode cX6_on 14 = .ok (.imul, 1) := by decide +kernel
theorem dX6_on_15 : decode cX6_on 15 = .ok (.istore_n 2, 1) := by decide +kernel
theorem dX6_on_16 : decode cX6_on 16 = .ok (.aload_n 0, 1) := by decide +kernel
theorem dX6_on_17 : decode cX6_on 17 = .ok (.getfield 38, 3) := by decide +kernel
theorem dX6_on_20 : decode cX6_on 20 = .ok (.iload_n 2, 1) := by decide +kernel
theorem dX6_on_21 : decode cX6_on 21 = .ok (.iaload, 1) := by decide +kernel
theorem dX6_on_22 : decode cX6_on 22 = .ok (.bipush (-9), 2) := by decide +kernel
theorem dX6_on_24 : decode cX6_on 24 = .ok (.if_icmp .ne 9, 3) := by decide +kernel
theorem dX6_on_27 : decode cX6_on 27 = .ok (.aload_n 0, 1) := by decide +kernel
theorem dX6_on_28 : decode cX6_on 28 = .ok (.iconst 1, 1) := by decide +kernel
theorem dX6_on_29 : decode cX6_on 29 = .ok (.invokevirtual 59, 3) := by decide +kernel
theorem dX6_on_32 : decode cX6_on 32 = .ok (.ireturn, 1) := by decide +kernel
theorem dX6_on_33 : decode cX6_on 33 = .ok (.aload_n 0, 1) := by decide +kernel
theorem dX6_on_34 : decode cX6_on 34 = .ok (.aload_n 0, 1) := by decide +kernel
theorem dX6_on_35 : decode cX6_on 35 = .ok (.getfield 38, 3) := by decide +kernel
theorem dX6_on_38 : decode cX6_on 38 = .ok (.iload_n 2, 1) := by decide +kernel
theorem dX6_on_39 : decode cX6_on 39 = .ok (.iaload, 1) := by decide +kernel
theorem dX6_on_40 : decode cX6_on 40 = .ok (.putfield 132, 3) := by decide +kernel
theorem dX6_on_43 : decode cX6_on 43 = .ok (.aload_n 0, 1) := by decide +kernel
theorem dX6_on_44 : decode cX6_on 44 = .ok (.aload_n 0, 1) := by decide +kernel
theorem dX6_on_45 : decode cX6_on 45 = .ok (.getfield 38, 3) := by decide +kernel
theorem dX6_on_48 : decode cX6_on 48 = .ok (.iload_n 2, 1) := by decide +kernel
theorem dX6_on_49 : decode cX6_on 49 = .ok (.iconst 1, 1) := by decide +kernel
theorem dX6_on_50 : decode cX6_on 50 = .ok (.iadd, 1) := by decide +kernel
theorem dX6_on_51 : decode cX6_on 51 = .ok (.iaload, 1) := by decide +kernel
theorem dX6_on_52 : decode cX6_on 52 = .ok (.putfield 129, 3) := by decide +kernel
theorem dX6_on_55 : decode cX6_on 55 = .ok (.aload_n 0, 1) := by decide +kernel
theorem dX6_on_56 : decode cX6_on 56 = .ok (.aload_n 0, 1) := by decide +kernel
theorem dX6_on_57 : decode cX6_on 57 = .ok (.getfield 38, 3) := by decide +kernel
theorem dX6_on_60 : decode cX6_on 60 = .ok (.iload_n 2, 1) := by decide +kernel
theorem dX6_on_61 : decode cX6_on 61 = .ok (.iconst 2, 1) := by decide +kernel
theorem dX6_on_62 : decode cX6_on 62 = .ok (.iadd, 1) := by decide +kernel
theorem dX6_on_63 : decode cX6_on 63 = .ok (.iaload, 1) := by decide +kernel
theorem dX6_on_64 : decode cX6_on 64 = .ok (.putfield 135, 3) := by decide +kernel
theorem dX6_on_67 : decode cX6_on 67 = .ok (.aload_n 0, 1) := by decide +kernel
theorem dX6_on_68 : decode cX6_on 68 = .ok (.aload_n 0, 1) := by decide +kernel
theorem dX6_on_69 : decode cX6_on 69 = .ok (.getfield 38, 3) := by decide +kernel
theorem dX6_on_72 : decode cX6_on 72 = .ok (.iload_n 2, 1) := by decide +kernel
theorem dX6_on_73 : decode cX6_on 73 = .ok (.iconst 3, 1) := by decide +kernel
theorem dX6_on_74 : decode cX6_on 74 = .ok (.iadd, 1) := by decide +kernel
theorem dX6_on_75 : decode cX6_on 75 = .ok (.iaload, 1) := by decide +kernel
theorem dX6_on_76 : decode cX6_on 76 = .ok (.putfield 138, 3) := by decide +kernel
theorem dX6_on_79 : decode cX6_on 79 = .ok (.aload_n 0, 1) := by decide +kernel
theorem dX6_on_80 : decode cX6_on 80 = .ok (.aload_n 0, 1) := by decide +kernel
theorem dX6_on_81 : decode cX6_on 81 = .ok (.getfield 38, 3) := by decide +kernel
theorem dX6_on_84 : decode cX6_on 84 = .ok (.iload_n 2, 1) := by decide +kernel
theorem dX6_on_85 : decode cX6_on 85 = .ok (.iconst 4, 1) := by decide +kernel
theorem dX6_on_86 : decode cX6_on 86 = .ok (.iadd, 1) := by decide +kernel
theorem dX6_on_87 : decode cX6_on 87 = .ok (.iaload, 1) := by decide +kernel
theorem dX6_on_88 : decode cX6_on 88 = .ok (.putfield 141, 3) := by decide +kernel
theorem dX6_on_91 : decode cX6_on 91 = .ok (.aload_n 0, 1) := by decide +kernel
theorem dX6_on_92 : decode cX6_on 92 = .ok (.aload_n 0, 1) := by decide +kernel
theorem dX6_on_93 : decode cX6_on 93 = .ok (.getfield 38, 3) := by decide +kernel
theorem dX6_on_96 : decode cX6_on 96 = .ok (.iload_n 2, 1) := by decide +kernel
theorem dX6_on_97 : decode cX6_on 97 = .ok (.iconst 5, 1) := by decide +kernel
theorem dX6_on_98 : decode cX6_on 98 = .ok (.iadd, 1) := by decide +kernel
theorem dX6_on_99 : decode cX6_on 99 = .ok (.iaload, 1) := by decide +kernel
theorem dX6_on_100 : decode cX6_on 100 = .ok (.putfield 144, 3) := by decide +kernel
theorem dX6_on_103 : decode cX6_on 103 = .ok (.aload_n 0, 1) := by decide +kernel
theorem dX6_on_104 : decode cX6_on 104 = .ok (.aload_n 0, 1) := by decide +kernel
theorem dX6_on_105 : decode cX6_on 105 = .ok (.getfield 38, 3) := by decide +kernel
theorem dX6_on_108 : decode cX6_on 108 = .ok (.iload_n 2, 1) := by decide +kernel
theorem dX6_on_109 : decode cX6_on 109 = .ok (.bipush 6, 2) := by decide +kernel
theorem dX6_on_111 : decode cX6_on 111 = .ok (.iadd, 1) := by decide +kernel
theorem dX6_on_112 : decode cX6_on 112 = .ok (.iaload, 1) := by decide +kernel
theorem dX6_on_113 : decode cX6_on 113 = .ok (.putfield 147, 3) := by decide +kernel
theorem dX6_on_116 : decode cX6_on 116 = .ok (.iconst 0, 1) := by decide +kernel
theorem dX6_on_117 : decode cX6_on 117 = .ok (.istore_n 3, 1) := by decide +kernel
theorem dX6_on_118 : decode cX6_on 118 = .ok (.iload_n 3, 1) := by decide +kernel
theorem dX6_on_119 : decode cX6_on 119 = .ok (.bipush 14, 2) := by decide +kernel
theorem dX6_on_121 : decode cX6_on 121 = .ok (.if_icmp .ge 26, 3) := by decide +kernel
theorem dX6_on_124 : decode cX6_on 124 = .ok (.aload_n 0, 1) := by decide +kernel
theorem dX6_on_125 : decode cX6_on 125 = .ok (.getfield 35, 3) := by decide +kernel
theorem dX6_on_128 : decode cX6_on 128 = .ok (.iload_n 3, 1) := by decide +kernel
theorem dX6_on_129 : decode cX6_on 129 = .ok (.aload_n 0, 1) := by decide +kernel
theorem dX6_on_130 : decode cX6_on 130 = .ok (.getfield 38, 3) := by decide +kernel
theorem dX6_on_133 : decode cX6_on 133 = .ok (.iload_n 2, 1) := by decide +kernel
theorem dX6_on_134 : decode cX6_on 134 = .ok (.bipush 7, 2) := by decide +kernel
theorem dX6_on_136 : decode cX6_on 136 = .ok (.iadd, 1) := by decide +kernel
theorem dX6_on_137 : decode cX6_on 137 = .ok (.iload_n 3, 1) := by decide +kernel
theorem dX6_on_138 : decode cX6_on 138 = .ok (.iadd, 1) := by decide +kernel
theorem dX6_on_139 : decode cX6_on 139 = .ok (.iaload, 1) := by decide +kernel
theorem dX6_on_140 : decode cX6_on 140 = .ok (.iastore, 1) := by decide +kernel
theorem dX6_on_141 : decode cX6_on 141 = .ok (.iinc 3 1, 3) := by decide +kernel
theorem dX6_on_144 : decode cX6_on 144 = .ok (.goto (-26), 3) := by decide +kernel
theorem dX6_on_147 : decode cX6_on 147 = .ok (.iconst 0, 1) := by decide +kernel
theorem dX6_on_148 : decode cX6_on 148 = .ok (.istore_n 3, 1) := by decide +kernel
theorem dX6_on_149 : decode cX6_on 149 = .ok (.iload_n 3, 1) := by decide +kernel
theorem dX6_on_150 : decode cX6_on 150 = .ok (.bipush 98, 2) := by decide +kernel
theorem dX6_on_152 : decode cX6_on 152 = .ok (.if_icmp .ge 26, 3) := by decide +kernel
theorem dX6_on_155 : decode cX6_on 155 = .ok (.aload_n 0, 1) := by decide +kernel
theorem dX6_on_156 : decode cX6_on 156 = .ok (.getfield 32, 3) := by decide +kernel
theorem dX6_on_159 : decode cX6_on 159 = .ok (.iload_n 3, 1) := by decide +kernel
theorem dX6_on_160 : decode cX6_on 160 = .ok (.aload_n 0, 1) := by decide +kernel
theorem dX6_on_161 : decode cX6_on 161 = .ok (.getfield 38, 3) := by decide +kernel
theorem dX6_on_164 : decode cX6_on 164 = .ok (.iload_n 2, 1) := by decide +kernel
theorem dX6_on_165 : decode cX6_on 165 = .ok (.bipush 21, 2) := by decide +kernel
theorem dX6_on_167 : decode cX6_on 167 = .ok (.iadd, 1) := by decide +kernel
theorem dX6_on_168 : decode cX6_on 168 = .ok (.iload_n 3, 1) := by decide +kernel
theorem dX6_on_169 : decode cX6_on 169 = .ok (.iadd, 1) := by decide +kernel
theorem dX6_on_170 : decode cX6_on 170 = .ok (.iaload, 1) := by decide +kernel
theorem dX6_on_171 : decode cX6_on 171 = .ok (.iastore, 1) := by decide +kernel
theorem dX6_on_172 : decode cX6_on 172 = .ok (.iinc 3 1, 3) := by decide +kernel
theorem dX6_on_175 : decode cX6_on 175 = .ok (.goto (-26), 3) := by decide +kernel
theorem dX6_on_178 : decode cX6_on 178 = .ok (.aload_n 0, 1) := by decide +kernel
theorem dX6_on_179 : decode cX6_on 179 = .ok (.getfield 132, 3) := by decide +kernel
theorem dX6_on_182 : decode cX6_on 182 = .ok (.invokestatic 174, 3) := by decide +kernel
theorem dX6_on_185 : decode cX6_on 185 = .ok (.ireturn, 1) := by decide +kernel
theorem dX6_frost_0 : decode cX6_frost 0 = .ok (.iload_n 1, 1) := by decide +kernel
theorem dX6_frost_1 : decode cX6_frost 1 = .ok (.iconst 1, 1) := by decide +kernel
theorem dX6_frost_2 : decode cX6_frost 2 = .ok (.ldc 213, 2) := by decide +kernel
theorem dX6_frost_4 : decode cX6_frost 4 = .ok (.invokestatic 51, 3) := by decide +kernel
theorem dX6_frost_7 : decode cX6_frost 7 = .ok (.ifCond .eq 13, 3) := by decide +kernel
theorem dX6_frost_10 : decode cX6_frost 10 = .ok (.iload_n 2, 1) := by decide +kernel
theorem dX6_frost_11 : decode cX6_frost 11 = .ok (.iconst 0, 1) := by decide +kernel
theorem dX6_frost_12 : decode cX6_frost 12 = .ok (.bipush 12, 2) := by decide +kernel
theorem dX6_frost_14 : decode cX6_frost 14 = .ok (.invokestatic 51, 3) := by decide +kernel
theorem dX6_frost_17 : decode cX6_frost 17 = .ok (.ifCond .ne 5, 3) := by decide +kernel
theorem dX6_frost_20 : decode cX6_frost 20 = .ok (.iconst (-1), 1) := by decide +kernel
theorem dX6_frost_21 : decode cX6_frost 21 = .ok (.ireturn, 1) := by decide +kernel
theorem dX6_frost_22 : decode cX6_frost 22 = .ok (.aload_n 0, 1) := by decide +kernel
theorem dX6_frost_23 : decode cX6_frost 23 = .ok (.iconst 0, 1) := by decide +kernel
theorem dX6_frost_24 : decode cX6_frost 24 = .ok (.invokevirtual 171, 3) := by decide +kernel
theorem dX6_frost_27 : decode cX6_frost 27 = .ok (.istore_n 3, 1) := by decide +kernel
theorem dX6_frost_28 : decode cX6_frost 28 = .ok (.iload_n 1, 1) := by decide +kernel
theorem dX6_frost_29 : decode cX6_frost 29 = .ok (.i2l, 1) := by decide +kernel
theorem dX6_frost_30 : decode cX6_frost 30 = .ok (.lstore 4, 2) := by decide +kernel
theorem dX6_frost_32 : decode cX6_frost 32 = .ok (.iconst 0, 1) := by decide +kernel
theorem dX6_frost_33 : decode cX6_frost 33 = .ok (.istore 6, 2) := by decide +kernel
theorem dX6_frost_35 : decode cX6_frost 35 = .ok (.iconst 0, 1) := by decide +kernel
theorem dX6_frost_36 : decode cX6_frost 36 = .ok (.istore 7, 2) := by decide +kernel
theorem dX6_frost_38 : decode cX6_frost 38 = .ok (.iload 7, 2) := by decide +kernel
theorem dX6_frost_40 : decode cX6_frost 40 = .ok (.aload_n 0, 1) := by decide +kernel
theorem dX6_frost_41 : decode cX6_frost 41 = .ok (.getfield 129, 3) := by decide +kernel
theorem dX6_frost_44 : decode cX6_frost 44 = .ok (.if_icmp .ge 72, 3) := by decide +kernel
theorem dX6_frost_47 : decode cX6_frost 47 = .ok (.aload_n 0, 1) := by decide +kernel
theorem dX6_frost_48 : decode cX6_frost 48 = .ok (.getfield 132, 3) := by decide +kernel
theorem dX6_frost_51 : decode cX6_frost 51 = .ok (.iload 7, 2) := by decide +kernel
theorem dX6_frost_53 : decode cX6_frost 53 = .ok (.invokestatic 150, 3) := by decide +kernel
theorem dX6_frost_56 : decode cX6_frost 56 = .ok (.ifCond .eq 54, 3) := by decide +kernel
theorem dX6_frost_59 : decode cX6_frost 59 = .ok (.ldc2_w 214, 3) := by decide +kernel
theorem dX6_frost_62 : decode cX6_frost 62 = .ok (.lload 4, 2) := by decide +kernel
theorem dX6_frost_64 : decode cX6_frost 64 = .ok (.lmul, 1) := by decide +kernel
theorem dX6_frost_65 : decode cX6_frost 65 = .ok (.ldc2_w 216, 3) := by decide +kernel
theorem dX6_frost_68 : decode cX6_frost 68 = .ok (.lrem, 1) := by decide +kernel
theorem dX6_frost_69 : decode cX6_frost 69 = .ok (.lstore 4, 2) := by decide +kernel
theorem dX6_frost_71 : decode cX6_frost 71 = .ok (.lload 4, 2) := by decide +kernel
theorem dX6_frost_73 : decode cX6_frost 73 = .ok (.ldc2_w 218, 3) := by decide +kernel
theorem dX6_frost_76 : decode cX6_frost 76 = .ok (.lrem, 1) := by decide +kernel
theorem dX6_frost_77 : decode cX6_frost 77 = .ok (.iload_n 2, 1) := by decide +kernel
theorem dX6_frost_78 : decode cX6_frost 78 = .ok (.i2l, 1) := by decide +kernel
theorem dX6_frost_79 : decode cX6_frost 79 = .ok (.lcmp, 1) := by decide +kernel
theorem dX6_frost_80 : decode cX6_frost 80 = .ok (.ifCond .ge 30, 3) := by decide +kernel
theorem dX6_frost_83 : decode cX6_frost 83 = .ok (.aload_n 0, 1) := by decide +kernel
theorem dX6_frost_84 : decode cX6_frost 84 = .ok (.iload 7, 2) := by decide +kernel
theorem dX6_frost_86 : decode cX6_frost 86 = .ok (.iconst 0, 1) := by decide +kernel
theorem dX6_frost_87 : decode cX6_frost 87 = .ok (.invokevirtual 89, 3) := by decide +kernel
theorem dX6_frost_90 : decode cX6_frost 90 = .ok (.ifCond .ne 20, 3) := by decide +kernel
theorem dX6_frost_93 : decode cX6_frost 93 = .ok (.aload_n 0, 1) := by decide +kernel
theorem dX6_frost_94 : decode cX6_frost 94 = .ok (.iload 7, 2) := by decide +kernel
theorem dX6_frost_96 : decode cX6_frost 96 = .ok (.iconst 0, 1) := by decide +kernel
theorem dX6_frost_97 : decode cX6_frost 97 = .ok (.iconst 1, 1) := by decide +kernel
theorem dX6_frost_98 : decode cX6_frost 98 = .ok (.invokevirtual 101, 3) := by decide +kernel
theorem dX6_frost_101 : decode cX6_frost 101 = .ok (.iload 6, 2) := by decide +kernel
theorem dX6_frost_103 : decode cX6_frost 103 = .ok (.iconst 1, 1) := by decide +kernel
theorem dX6_frost_104 : decode cX6_frost 104 = .ok (.iload 7, 2) := by decide +kernel
theorem dX6_frost_106 : decode cX6_frost 106 = .ok (.ishl, 1) := by decide +kernel
theorem dX6_frost_107 : decode cX6_frost 107 = .ok (.ior, 1) := by decide +kernel
theorem dX6_frost_108 : decode cX6_frost 108 = .ok (.istore 6, 2) := by decide +kernel
theorem dX6_frost_110 : decode cX6_frost 110 = .ok (.iinc 7 1, 3) := by decide +kernel
theorem dX6_frost_113 : decode cX6_frost 113 = .ok (.goto (-75), 3) := by decide +kernel
theorem dX6_frost_116 : decode cX6_frost 116 = .ok (.iload_n 3, 1) := by decide +kernel
theorem dX6_frost_117 : decode cX6_frost 117 = .ok (.aload_n 0, 1) := by decide +kernel
theorem dX6_frost_118 : decode cX6_frost 118 = .ok (.iconst 0, 1) := by decide +kernel
theorem dX6_frost_119 : decode cX6_frost 119 = .ok (.invokevirtual 171, 3) := by decide +kernel
theorem dX6_frost_122 : decode cX6_frost 122 = .ok (.iconst (-1), 1) := by decide +kernel
theorem dX6_frost_123 : decode cX6_frost 123 = .ok (.ixor, 1) := by decide +kernel
theorem dX6_frost_124 : decode cX6_frost 124 = .ok (.iand, 1) := by decide +kernel
theorem dX6_frost_125 : decode cX6_frost 125 = .ok (.istore 7, 2) := by decide +kernel
theorem dX6_frost_127 : decode cX6_frost 127 = .ok (.aload_n 0, 1) := by decide +kernel
theorem dX6_frost_128 : decode cX6_frost 128 = .ok (.dup, 1) := by decide +kernel
theorem dX6_frost_129 : decode cX6_frost 129 = .ok (.getfield 132, 3) := by decide +kernel
theorem dX6_frost_132 : decode cX6_frost 132 = .ok (.iload 7, 2) := by decide +kernel
theorem dX6_frost_134 : decode cX6_frost 134 = .ok (.iconst (-1), 1) := by decide +kernel
theorem dX6_frost_135 : decode cX6_frost 135 = .ok (.ixor, 1) := by decide +kernel
theorem dX6_frost_136 : decode cX6_frost 136 = .ok (.iand, 1) := by decide +kernel
theorem dX6_frost_137 : decode cX6_frost 137 = .ok (.putfield 132, 3) := by decide +kernel
theorem dX6_frost_140 : decode cX6_frost 140 = .ok (.aload_n 0, 1) := by decide +kernel
theorem dX6_frost_141 : decode cX6_frost 141 = .ok (.dup, 1) := by decide +kernel
theorem dX6_frost_142 : decode cX6_frost 142 = .ok (.getfield 135, 3) := by decide +kernel
theorem dX6_frost_145 : decode cX6_frost 145 = .ok (.aload_n 0, 1) := by decide +kernel
theorem dX6_frost_146 : decode cX6_frost 146 = .ok (.getfield 132, 3) := by decide +kernel
theorem dX6_frost_149 : decode cX6_frost 149 = .ok (.iand, 1) := by decide +kernel
theorem dX6_frost_150 : decode cX6_frost 150 = .ok (.putfield 135, 3) := by decide +kernel
theorem dX6_frost_153 : decode cX6_frost 153 = .ok (.aload_n 0, 1) := by decide +kernel
theorem dX6_frost_154 : decode cX6_frost 154 = .ok (.iload 7, 2) := by decide +kernel
theorem dX6_frost_156 : decode cX6_frost 156 = .ok (.iload 6, 2) := by decide +kernel
theorem dX6_frost_158 : decode cX6_frost 158 = .ok (.invokevirtual 77, 3) := by decide +kernel
theorem dX6_frost_161 : decode cX6_frost 161 = .ok (.ireturn, 1) := by decide +kernel
theorem dX6_odds_0 : decode cX6_odds 0 = .ok (.aload_n 0, 1) := by decide +kernel
theorem dX6_odds_1 : decode cX6_odds 1 = .ok (.iload_n 1, 1) := by decide +kernel
theorem dX6_odds_2 : decode cX6_odds 2 = .ok (.invokevirtual 153, 3) := by decide +kernel
theorem dX6_odds_5 : decode cX6_odds 5 = .ok (.ifCond .eq 13, 3) := by decide +kernel
theorem dX6_odds_8 : decode cX6_odds 8 = .ok (.iload_n 2, 1) := by decide +kernel
theorem dX6_odds_9 : decode cX6_odds 9 = .ok (.iconst 0, 1) := by decide +kernel
theorem dX6_odds_10 : decode cX6_odds 10 = .ok (.bipush 12, 2) := by decide +kernel
theorem dX6_odds_12 : decode cX6_odds 12 = .ok (.invokestatic 51, 3) := by decide +kernel
theorem dX6_odds_15 : decode cX6_odds 15 = .ok (.ifCond .ne 5, 3) := by decide +kernel
theorem dX6_odds_18 : decode cX6_odds 18 = .ok (.iconst (-1), 1) := by decide +kernel
theorem dX6_odds_19 : decode cX6_odds 19 = .ok (.ireturn, 1) := by decide +kernel
theorem dX6_odds_20 : decode cX6_odds 20 = .ok (.aload_n 0, 1) := by decide +kernel
theorem dX6_odds_21 : decode cX6_odds 21 = .ok (.iload_n 1, 1) := by decide +kernel
theorem dX6_odds_22 : decode cX6_odds 22 = .ok (.invokevirtual 183, 3) := by decide +kernel
theorem dX6_odds_25 : decode cX6_odds 25 = .ok (.istore_n 3, 1) := by decide +kernel
theorem dX6_odds_26 : decode cX6_odds 26 = .ok (.iload_n 3, 1) := by decide +kernel
theorem dX6_odds_27 : decode cX6_odds 27 = .ok (.ifCond .ge 5, 3) := by decide +kernel
theorem dX6_odds_30 : decode cX6_odds 30 = .ok (.iload_n 3, 1) := by decide +kernel
theorem dX6_odds_31 : decode cX6_odds 31 = .ok (.ireturn, 1) := by decide +kernel
theorem dX6_odds_32 : decode cX6_odds 32 = .ok (.iconst 0, 1) := by decide +kernel
theorem dX6_odds_33 : decode cX6_odds 33 = .ok (.istore 4, 2) := by decide +kernel
theorem dX6_odds_35 : decode cX6_odds 35 = .ok (.iconst 0, 1) := by decide +kernel
theorem dX6_odds_36 : decode cX6_odds 36 = .ok (.istore 5, 2) := by decide +kernel
theorem dX6_odds_38 : decode cX6_odds 38 = .ok (.iload 5, 2) := by decide +kernel
theorem dX6_odds_40 : decode cX6_odds 40 = .ok (.aload_n 0, 1) := by decide +kernel
theorem dX6_odds_41 : decode cX6_odds 41 = .ok (.getfield 129, 3) := by decide +kernel
theorem dX6_odds_44 : decode cX6_odds 44 = .ok (.if_icmp .ge 50, 3) := by decide +kernel
theorem dX6_odds_47 : decode cX6_odds 47 = .ok (.iload 4, 2) := by decide +kernel
theorem dX6_odds_49 : decode cX6_odds 49 = .ok (.aload_n 0, 1) := by decide +kernel
theorem dX6_odds_50 : decode cX6_odds 50 = .ok (.getfield 132, 3) := by decide +kernel
theorem dX6_odds_53 : decode cX6_odds 53 = .ok (.iload 5, 2) := by decide +kernel
theorem dX6_odds_55 : decode cX6_odds 55 = .ok (.invokestatic 150, 3) := by decide +kernel
theorem dX6_odds_58 : decode cX6_odds 58 = .ok (.ifCond .eq 26, 3) := by decide +kernel
theorem dX6_odds_61 : decode cX6_odds 61 = .ok (.aload_n 0, 1) := by decide +kernel
theorem dX6_odds_62 : decode cX6_odds 62 = .ok (.iload 5, 2) := by decide +kernel
theorem dX6_odds_64 : decode cX6_odds 64 = .ok (.iconst 1, 1) := by decide +kernel
theorem dX6_odds_65 : decode cX6_odds 65 = .ok (.invokevirtual 89, 3) := by decide +kernel
theorem dX6_odds_68 : decode cX6_odds 68 = .ok (.aload_n 0, 1) := by decide +kernel
theorem dX6_odds_69 : decode cX6_odds 69 = .ok (.iload_n 1, 1) := by decide +kernel
theorem dX6_odds_70 : decode cX6_odds 70 = .ok (.iconst 1, 1) := by decide +kernel
theorem dX6_odds_71 : decode cX6_odds 71 = .ok (.invokevirtual 89, 3) := by decide +kernel
theorem dX6_odds_74 : decode cX6_odds 74 = .ok (.if_icmp .ge 10, 3) := by decide +kernel
theorem dX6_odds_77 : decode cX6_odds 77 = .ok (.iconst 1, 1) := by decide +kernel
theorem dX6_odds_78 : decode cX6_odds 78 = .ok (.iload 5, 2) := by decide +kernel
theorem dX6_odds_80 : decode cX6_odds 80 = .ok (.ishl, 1) := by decide +kernel
theorem dX6_odds_81 : decode cX6_odds 81 = .ok (.goto 4, 3) := by decide +kernel
theorem dX6_odds_84 : decode cX6_odds 84 = .ok (.iconst 0, 1) := by decide +kernel
theorem dX6_odds_85 : decode cX6_odds 85 = .ok (.ior, 1) := by decide +kernel
theorem dX6_odds_86 : decode cX6_odds 86 = .ok (.istore 4, 2) := by decide +kernel
theorem dX6_odds_88 : decode cX6_odds 88 = .ok (.iinc 5 1, 3) := by decide +kernel
theorem dX6_odds_91 : decode cX6_odds 91 = .ok (.goto (-53), 3) := by decide +kernel
theorem dX6_odds_94 : decode cX6_odds 94 = .ok (.iload 4, 2) := by decide +kernel
theorem dX6_odds_96 : decode cX6_odds 96 = .ok (.invokestatic 174, 3) := by decide +kernel
theorem dX6_odds_99 : decode cX6_odds 99 = .ok (.istore 5, 2) := by decide +kernel
theorem dX6_odds_101 : decode cX6_odds 101 = .ok (.iload 5, 2) := by decide +kernel
theorem dX6_odds_103 : decode cX6_odds 103 = .ok (.bipush 9, 2) := by decide +kernel
theorem dX6_odds_105 : decode cX6_odds 105 = .ok (.if_icmp .le 6, 3) := by decide +kernel
theorem dX6_odds_108 : decode cX6_odds 108 = .ok (.bipush (-6), 2) := by decide +kernel
theorem dX6_odds_110 : decode cX6_odds 110 = .ok (.ireturn, 1) := by decide +kernel
theorem dX6_odds_111 : decode cX6_odds 111 = .ok (.lconst 1, 1) := by decide +kernel
theorem dX6_odds_112 : decode cX6_odds 112 = .ok (.lstore 6, 2) := by decide +kernel
theorem dX6_odds_114 : decode cX6_odds 114 = .ok (.iconst 0, 1) := by decide +kernel
theorem dX6_odds_115 : decode cX6_odds 115 = .ok (.istore 8, 2) := by decide +kernel
theorem dX6_odds_117 : decode cX6_odds 117 = .ok (.iload 8, 2) := by decide +kernel
theorem dX6_odds_119 : decode cX6_odds 119 = .ok (.iload 5, 2) := by decide +kernel
theorem dX6_odds_121 : decode cX6_odds 121 = .ok (.if_icmp .ge 17, 3) := by decide +kernel
theorem dX6_odds_124 : decode cX6_odds 124 = .ok (.lload 6, 2) := by decide +kernel
theorem dX6_odds_126 : decode cX6_odds 126 = .ok (.ldc2_w 218, 3) := by decide +kernel
theorem dX6_odds_129 : decode cX6_odds 129 = .ok (.lmul, 1) := by decide +kernel
theorem dX6_odds_130 : decode cX6_odds 130 = .ok (.lstore 6, 2) := by decide +kernel
theorem dX6_odds_132 : decode cX6_odds 132 = .ok (.iinc 8 1, 3) := by decide +kernel
theorem dX6_odds_135 : decode cX6_odds 135 = .ok (.goto (-18), 3) := by decide +kernel
theorem dX6_odds_138 : decode cX6_odds 138 = .ok (.lconst 0, 1) := by decide +kernel
theorem dX6_odds_139 : decode cX6_odds 139 = .ok (.lstore 8, 2) := by decide +kernel
theorem dX6_odds_141 : decode cX6_odds 141 = .ok (.iconst 0, 1) := by decide +kernel
theorem dX6_odds_142 : decode cX6_odds 142 = .ok (.istore 10, 2) := by decide +kernel
theorem dX6_odds_144 : decode cX6_odds 144 = .ok (.iload 10, 2) := by decide +kernel
theorem dX6_odds_146 : decode cX6_odds 146 = .ok (.iload 4, 2) := by decide +kernel
theorem dX6_odds_148 : decode cX6_odds 148 = .ok (.if_icmp .gt 100, 3) := by decide +kernel
theorem dX6_odds_151 : decode cX6_odds 151 = .ok (.iload 10, 2) := by decide +kernel
theorem dX6_odds_153 : decode cX6_odds 153 = .ok (.iload 4, 2) := by decide +kernel
theorem dX6_odds_155 : decode cX6_odds 155 = .ok (.iconst (-1), 1) := by decide +kernel
theorem dX6_odds_156 : decode cX6_odds 156 = .ok (.ixor, 1) := by decide +kernel
theorem dX6_odds_157 : decode cX6_odds 157 = .ok (.iand, 1) := by decide +kernel
theorem dX6_odds_158 : decode cX6_odds 158 = .ok (.ifCond .ne 84, 3) := by decide +kernel
theorem dX6_odds_161 : decode cX6_odds 161 = .ok (.aload_n 0, 1) := by decide +kernel
theorem dX6_odds_162 : decode cX6_odds 162 = .ok (.iload 10, 2) := by decide +kernel
theorem dX6_odds_164 : decode cX6_odds 164 = .ok (.invokevirtual 171, 3) := by decide +kernel
theorem dX6_odds_167 : decode cX6_odds 167 = .ok (.iload_n 1, 1) := by decide +kernel
theorem dX6_odds_168 : decode cX6_odds 168 = .ok (.invokestatic 150, 3) := by decide +kernel
theorem dX6_odds_171 : decode cX6_odds 171 = .ok (.ifCond .eq 71, 3) := by decide +kernel
theorem dX6_odds_174 : decode cX6_odds 174 = .ok (.lconst 1, 1) := by decide +kernel
theorem dX6_odds_175 : decode cX6_odds 175 = .ok (.lstore 11, 2) := by decide +kernel
theorem dX6_odds_177 : decode cX6_odds 177 = .ok (.iconst 0, 1) := by decide +kernel
theorem dX6_odds_178 : decode cX6_odds 178 = .ok (.istore 13, 2) := by decide +kernel
theorem dX6_odds_180 : decode cX6_odds 180 = .ok (.iload 13, 2) := by decide +kernel
theorem dX6_odds_182 : decode cX6_odds 182 = .ok (.aload_n 0, 1) := by decide +kernel
theorem dX6_odds_183 : decode cX6_odds 183 = .ok (.getfield 129, 3) := by decide +kernel
theorem dX6_odds_186 : decode cX6_odds 186 = .ok (.if_icmp .ge 49, 3) := by decide +kernel
theorem dX6_odds_189 : decode cX6_odds 189 = .ok (.lload 11, 2) := by decide +kernel
theorem dX6_odds_191 : decode cX6_odds 191 = .ok (.iload 4, 2) := by decide +kernel
theorem dX6_odds_193 : decode cX6_odds 193 = .ok (.iload 13, 2) := by decide +kernel
theorem dX6_odds_195 : decode cX6_odds 195 = .ok (.invokestatic 150, 3) := by decide +kernel
theorem dX6_odds_198 : decode cX6_odds 198 = .ok (.ifCond .ne 7, 3) := by decide +kernel
theorem dX6_odds_201 : decode cX6_odds 201 = .ok (.lconst 1, 1) := by decide +kernel
theorem dX6_odds_202 : decode cX6_odds 202 = .ok (.goto 24, 3) := by decide +kernel
theorem dX6_odds_205 : decode cX6_odds 205 = .ok (.iload 10, 2) := by decide +kernel
theorem dX6_odds_207 : decode cX6_odds 207 = .ok (.iload 13, 2) := by decide +kernel
theorem dX6_odds_209 : decode cX6_odds 209 = .ok (.invokestatic 150, 3) := by decide +kernel
theorem dX6_odds_212 : decode cX6_odds 212 = .ok (.ifCond .eq 8, 3) := by decide +kernel
theorem dX6_odds_215 : decode cX6_odds 215 = .ok (.iload_n 2, 1) := by decide +kernel
theorem dX6_odds_216 : decode cX6_odds 216 = .ok (.i2l, 1) := by decide +kernel
theorem dX6_odds_217 : decode cX6_odds 217 = .ok (.goto 9, 3) := by decide +kernel
theorem dX6_odds_220 : decode cX6_odds 220 = .ok (.ldc2_w 218, 3) := by decide +kernel
theorem dX6_odds_223 : decode cX6_odds 223 = .ok (.iload_n 2, 1) := by decide +kernel
theorem dX6_odds_224 : decode cX6_odds 224 = .ok (.i2l, 1) := by decide +kernel
theorem dX6_odds_225 : decode cX6_odds 225 = .ok (.lsub, 1) := by decide +kernel
theorem dX6_odds_226 : decode cX6_odds 226 = .ok (.lmul, 1) := by decide +kernel
theorem dX6_odds_227 : decode cX6_odds 227 = .ok (.lstore 11, 2) := by decide +kernel
theorem dX6_odds_229 : decode cX6_odds 229 = .ok (.iinc 13 1, 3) := by decide +kernel
