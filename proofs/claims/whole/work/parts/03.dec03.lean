theorem dX6_mean_69 : decode cX6_mean 69 = .ok (.iaload, 1) := by decide +kernel
theorem dX6_mean_70 : decode cX6_mean 70 = .ok (.i2l, 1) := by decide +kernel
theorem dX6_mean_71 : decode cX6_mean 71 = .ok (.ldiv, 1) := by decide +kernel
theorem dX6_mean_72 : decode cX6_mean 72 = .ok (.l2i, 1) := by decide +kernel
theorem dX6_mean_73 : decode cX6_mean 73 = .ok (.iconst 1, 1) := by decide +kernel
theorem dX6_mean_74 : decode cX6_mean 74 = .ok (.invokevirtual 77, 3) := by decide +kernel
theorem dX6_mean_77 : decode cX6_mean 77 = .ok (.ireturn, 1) := by decide +kernel
theorem dX6_text_0 : decode cX6_text 0 = .ok (.iload_n 1, 1) := by decide +kernel
theorem dX6_text_1 : decode cX6_text 1 = .ok (.invokestatic 63, 3) := by decide +kernel
theorem dX6_text_4 : decode cX6_text 4 = .ok (.ifCond .eq 9, 3) := by decide +kernel
theorem dX6_text_7 : decode cX6_text 7 = .ok (.iload_n 2, 1) := by decide +kernel
theorem dX6_text_8 : decode cX6_text 8 = .ok (.bipush 100, 2) := by decide +kernel
theorem dX6_text_10 : decode cX6_text 10 = .ok (.if_icmp .le 5, 3) := by decide +kernel
theorem dX6_text_13 : decode cX6_text 13 = .ok (.iconst (-1), 1) := by decide +kernel
theorem dX6_text_14 : decode cX6_text 14 = .ok (.ireturn, 1) := by decide +kernel
theorem dX6_text_15 : decode cX6_text 15 = .ok (.iload_n 2, 1) := by decide +kernel
theorem dX6_text_16 : decode cX6_text 16 = .ok (.ifCond .ge 9, 3) := by decide +kernel
theorem dX6_text_19 : decode cX6_text 19 = .ok (.aload_n 0, 1) := by decide +kernel
theorem dX6_text_20 : decode cX6_text 20 = .ok (.iconst 5, 1) := by decide +kernel
theorem dX6_text_21 : decode cX6_text 21 = .ok (.invokevirtual 59, 3) := by decide +kernel
theorem dX6_text_24 : decode cX6_text 24 = .ok (.ireturn, 1) := by decide +kernel
theorem dX6_text_25 : decode cX6_text 25 = .ok (.aload_n 0, 1) := by decide +kernel
theorem dX6_text_26 : decode cX6_text 26 = .ok (.getfield 26, 3) := by decide +kernel
theorem dX6_text_29 : decode cX6_text 29 = .ok (.iload_n 1, 1) := by decide +kernel
theorem dX6_text_30 : decode cX6_text 30 = .ok (.iload_n 2, 1) := by decide +kernel
theorem dX6_text_31 : decode cX6_text 31 = .ok (.iastore, 1) := by decide +kernel
theorem dX6_text_32 : decode cX6_text 32 = .ok (.iconst 0, 1) := by decide +kernel
theorem dX6_text_33 : decode cX6_text 33 = .ok (.istore_n 3, 1) := by decide +kernel
theorem dX6_text_34 : decode cX6_text 34 = .ok (.iload_n 3, 1) := by decide +kernel
theorem dX6_text_35 : decode cX6_text 35 = .ok (.bipush 100, 2) := by decide +kernel
theorem dX6_text_37 : decode cX6_text 37 = .ok (.if_icmp .ge 22, 3) := by decide +kernel
theorem dX6_text_40 : decode cX6_text 40 = .ok (.aload_n 0, 1) := by decide +kernel
theorem dX6_text_41 : decode cX6_text 41 = .ok (.getfield 29, 3) := by decide +kernel
theorem dX6_text_44 : decode cX6_text 44 = .ok (.bipush 100, 2) := by decide +kernel
theorem dX6_text_46 : decode cX6_text 46 = .ok (.iload_n 1, 1) := by decide +kernel
theorem dX6_text_47 : decode cX6_text 47 = .ok (.imul, 1) := by decide +kernel
theorem dX6_text_48 : decode cX6_text 48 = .ok (.iload_n 3, 1) := by decide +kernel
theorem dX6_text_49 : decode cX6_text 49 = .ok (.iadd, 1) := by decide +kernel
theorem dX6_text_50 : decode cX6_text 50 = .ok (.bipush 32, 2) := by decide +kernel
theorem dX6_text_52 : decode cX6_text 52 = .ok (.iastore, 1) := by decide +kernel
theorem dX6_text_53 : decode cX6_text 53 = .ok (.iinc 3 1, 3) := by decide +kernel
theorem dX6_text_56 : decode cX6_text 56 = .ok (.goto (-22), 3) := by decide +kernel
theorem dX6_text_59 : decode cX6_text 59 = .ok (.iload_n 2, 1) := by decide +kernel
theorem dX6_text_60 : decode cX6_text 60 = .ok (.ireturn, 1) := by decide +kernel
theorem dX6_put_0 : decode cX6_put 0 = .ok (.aload_n 0, 1) := by decide +kernel
theorem dX6_put_1 : decode cX6_put 1 = .ok (.iload_n 1, 1) := by decide +kernel
theorem dX6_put_2 : decode cX6_put 2 = .ok (.invokevirtual 83, 3) := by decide +kernel
theorem dX6_put_5 : decode cX6_put 5 = .ok (.istore 4, 2) := by decide +kernel
theorem dX6_put_7 : decode cX6_put 7 = .ok (.iload 4, 2) := by decide +kernel
theorem dX6_put_9 : decode cX6_put 9 = .ok (.ifCond .ge 6, 3) := by decide +kernel
theorem dX6_put_12 : decode cX6_put 12 = .ok (.iload 4, 2) := by decide +kernel
theorem dX6_put_14 : decode cX6_put 14 = .ok (.ireturn, 1) := by decide +kernel
theorem dX6_put_15 : decode cX6_put 15 = .ok (.iload_n 2, 1) := by decide +kernel
theorem dX6_put_16 : decode cX6_put 16 = .ok (.iconst 0, 1) := by decide +kernel
theorem dX6_put_17 : decode cX6_put 17 = .ok (.aload_n 0, 1) := by decide +kernel
theorem dX6_put_18 : decode cX6_put 18 = .ok (.getfield 26, 3) := by decide +kernel
theorem dX6_put_21 : decode cX6_put 21 = .ok (.iload_n 1, 1) := by decide +kernel
theorem dX6_put_22 : decode cX6_put 22 = .ok (.iaload, 1) := by decide +kernel
theorem dX6_put_23 : decode cX6_put 23 = .ok (.iconst 1, 1) := by decide +kernel
theorem dX6_put_24 : decode cX6_put 24 = .ok (.isub, 1) := by decide +kernel
theorem dX6_put_25 : decode cX6_put 25 = .ok (.invokestatic 51, 3) := by decide +kernel
theorem dX6_put_28 : decode cX6_put 28 = .ok (.ifCond .ne 9, 3) := by decide +kernel
theorem dX6_put_31 : decode cX6_put 31 = .ok (.aload_n 0, 1) := by decide +kernel
theorem dX6_put_32 : decode cX6_put 32 = .ok (.iconst 2, 1) := by decide +kernel
theorem dX6_put_33 : decode cX6_put 33 = .ok (.invokevirtual 59, 3) := by decide +kernel
theorem dX6_put_36 : decode cX6_put 36 = .ok (.ireturn, 1) := by decide +kernel
theorem dX6_put_37 : decode cX6_put 37 = .ok (.aload_n 0, 1) := by decide +kernel
theorem dX6_put_38 : decode cX6_put 38 = .ok (.getfield 29, 3) := by decide +kernel
theorem dX6_put_41 : decode cX6_put 41 = .ok (.bipush 100, 2) := by decide +kernel
theorem dX6_put_43 : decode cX6_put 43 = .ok (.iload_n 1, 1) := by decide +kernel
theorem dX6_put_44 : decode cX6_put 44 = .ok (.imul, 1) := by decide +kernel
theorem dX6_put_45 : decode cX6_put 45 = .ok (.iload_n 2, 1) := by decide +kernel
theorem dX6_put_46 : decode cX6_put 46 = .ok (.iadd, 1) := by decide +kernel
theorem dX6_put_47 : decode cX6_put 47 = .ok (.iaload, 1) := by decide +kernel
theorem dX6_put_48 : decode cX6_put 48 = .ok (.istore 5, 2) := by decide +kernel
theorem dX6_put_50 : decode cX6_put 50 = .ok (.aload_n 0, 1) := by decide +kernel
theorem dX6_put_51 : decode cX6_put 51 = .ok (.getfield 29, 3) := by decide +kernel
theorem dX6_put_54 : decode cX6_put 54 = .ok (.bipush 100, 2) := by decide +kernel
theorem dX6_put_56 : decode cX6_put 56 = .ok (.iload_n 1, 1) := by decide +kernel
theorem dX6_put_57 : decode cX6_put 57 = .ok (.imul, 1) := by decide +kernel
theorem dX6_put_58 : decode cX6_put 58 = .ok (.iload_n 2, 1) := by decide +kernel
theorem dX6_put_59 : decode cX6_put 59 = .ok (.iadd, 1) := by decide +kernel
theorem dX6_put_60 : decode cX6_put 60 = .ok (.iload_n 3, 1) := by decide +kernel
theorem dX6_put_61 : decode cX6_put 61 = .ok (.i2b, 1) := by decide +kernel
theorem dX6_put_62 : decode cX6_put 62 = .ok (.iastore, 1) := by decide +kernel
theorem dX6_put_63 : decode cX6_put 63 = .ok (.iload 5, 2) := by decide +kernel
theorem dX6_put_65 : decode cX6_put 65 = .ok (.sipush 1000, 3) := by decide +kernel
theorem dX6_put_68 : decode cX6_put 68 = .ok (.iadd, 1) := by decide +kernel
theorem dX6_put_69 : decode cX6_put 69 = .ok (.ireturn, 1) := by decide +kernel
theorem dX6_of_0 : decode cX6_of 0 = .ok (.aload_n 0, 1) := by decide +kernel
theorem dX6_of_1 : decode cX6_of 1 = .ok (.getfield 32, 3) := by decide +kernel
theorem dX6_of_4 : decode cX6_of 4 = .ok (.bipush 7, 2) := by decide +kernel
theorem dX6_of_6 : decode cX6_of 6 = .ok (.iload_n 1, 1) := by decide +kernel
theorem dX6_of_7 : decode cX6_of 7 = .ok (.imul, 1) := by decide +kernel
theorem dX6_of_8 : decode cX6_of 8 = .ok (.iload_n 2, 1) := by decide +kernel
theorem dX6_of_9 : decode cX6_of 9 = .ok (.iadd, 1) := by decide +kernel
theorem dX6_of_10 : decode cX6_of 10 = .ok (.iaload, 1) := by decide +kernel
theorem dX6_of_11 : decode cX6_of 11 = .ok (.ireturn, 1) := by decide +kernel
theorem dX6_write_0 : decode cX6_write 0 = .ok (.aload_n 0, 1) := by decide +kernel
theorem dX6_write_1 : decode cX6_write 1 = .ok (.getfield 32, 3) := by decide +kernel
theorem dX6_write_4 : decode cX6_write 4 = .ok (.bipush 7, 2) := by decide +kernel
theorem dX6_write_6 : decode cX6_write 6 = .ok (.iload_n 1, 1) := by decide +kernel
theorem dX6_write_7 : decode cX6_write 7 = .ok (.imul, 1) := by decide +kernel
theorem dX6_write_8 : decode cX6_write 8 = .ok (.iload_n 2, 1) := by decide +kernel
theorem dX6_write_9 : decode cX6_write 9 = .ok (.iadd, 1) := by decide +kernel
theorem dX6_write_10 : decode cX6_write 10 = .ok (.iload_n 3, 1) := by decide +kernel
theorem dX6_write_11 : decode cX6_write 11 = .ok (.iastore, 1) := by decide +kernel
theorem dX6_write_12 : decode cX6_write 12 = .ok (.return_, 1) := by decide +kernel
theorem dX6_here_0 : decode cX6_here 0 = .ok (.aload_n 0, 1) := by decide +kernel
theorem dX6_here_1 : decode cX6_here 1 = .ok (.getfield 86, 3) := by decide +kernel
theorem dX6_here_4 : decode cX6_here 4 = .ok (.aload_n 0, 1) := by decide +kernel
theorem dX6_here_5 : decode cX6_here 5 = .ok (.getfield 26, 3) := by decide +kernel
theorem dX6_here_8 : decode cX6_here 8 = .ok (.iload_n 1, 1) := by decide +kernel
theorem dX6_here_9 : decode cX6_here 9 = .ok (.iaload, 1) := by decide +kernel
theorem dX6_here_10 : decode cX6_here 10 = .ok (.if_icmp .ge 20, 3) := by decide +kernel
theorem dX6_here_13 : decode cX6_here 13 = .ok (.aload_n 0, 1) := by decide +kernel
theorem dX6_here_14 : decode cX6_here 14 = .ok (.getfield 29, 3) := by decide +kernel
theorem dX6_here_17 : decode cX6_here 17 = .ok (.bipush 100, 2) := by decide +kernel
theorem dX6_here_19 : decode cX6_here 19 = .ok (.iload_n 1, 1) := by decide +kernel
theorem dX6_here_20 : decode cX6_here 20 = .ok (.imul, 1) := by decide +kernel
theorem dX6_here_21 : decode cX6_here 21 = .ok (.aload_n 0, 1) := by decide +kernel
theorem dX6_here_22 : decode cX6_here 22 = .ok (.getfield 86, 3) := by decide +kernel
theorem dX6_here_25 : decode cX6_here 25 = .ok (.iadd, 1) := by decide +kernel
theorem dX6_here_26 : decode cX6_here 26 = .ok (.iaload, 1) := by decide +kernel
theorem dX6_here_27 : decode cX6_here 27 = .ok (.goto 5, 3) := by decide +kernel
theorem dX6_here_30 : decode cX6_here 30 = .ok (.bipush (-9), 2) := by decide +kernel
theorem dX6_here_32 : decode cX6_here 32 = .ok (.ireturn, 1) := by decide +kernel
theorem dX6_kindOf_0 : decode cX6_kindOf 0 = .ok (.iload_n 0, 1) := by decide +kernel
theorem dX6_kindOf_1 : decode cX6_kindOf 1 = .ok (.bipush 98, 2) := by decide +kernel
theorem dX6_kindOf_3 : decode cX6_kindOf 3 = .ok (.if_icmp .ne 7, 3) := by decide +kernel
theorem dX6_kindOf_6 : decode cX6_kindOf 6 = .ok (.iconst 0, 1) := by decide +kernel
theorem dX6_kindOf_7 : decode cX6_kindOf 7 = .ok (.goto 55, 3) := by decide +kernel
theorem dX6_kindOf_10 : decode cX6_kindOf 10 = .ok (.iload_n 0, 1) := by decide +kernel
theorem dX6_kindOf_11 : decode cX6_kindOf 11 = .ok (.bipush 99, 2) := by decide +kernel
theorem dX6_kindOf_13 : decode cX6_kindOf 13 = .ok (.if_icmp .ne 7, 3) := by decide +kernel
theorem dX6_kindOf_16 : decode cX6_kindOf 16 = .ok (.iconst 1, 1) := by decide +kernel
theorem dX6_kindOf_17 : decode cX6_kindOf 17 = .ok (.goto 45, 3) := by decide +kernel
theorem dX6_kindOf_20 : decode cX6_kindOf 20 = .ok (.iload_n 0, 1) := by decide +kernel
theorem dX6_kindOf_21 : decode cX6_kindOf 21 = .ok (.bipush 102, 2) := by decide +kernel
theorem dX6_kindOf_23 : decode cX6_kindOf 23 = .ok (.if_icmp .ne 7, 3) := by decide +kernel
theorem dX6_kindOf_26 : decode cX6_kindOf 26 = .ok (.iconst 2, 1) := by decide +kernel
theorem dX6_kindOf_27 : decode cX6_kindOf 27 = .ok (.goto 35, 3) := by decide +kernel
theorem dX6_kindOf_30 : decode cX6_kindOf 30 = .ok (.iload_n 0, 1) := by decide +kernel
theorem dX6_kindOf_31 : decode cX6_kindOf 31 = .ok (.bipush 116, 2) := by decide +kernel
theorem dX6_kindOf_33 : decode cX6_kindOf 33 = .ok (.if_icmp .ne 7, 3) := by decide +kernel
theorem dX6_kindOf_36 : decode cX6_kindOf 36 = .ok (.iconst 3, 1) := by decide +kernel
theorem dX6_kindOf_37 : decode cX6_kindOf 37 = .ok (.goto 25, 3) := by decide +kernel
theorem dX6_kindOf_40 : decode cX6_kindOf 40 = .ok (.iload_n 0, 1) := by decide +kernel
theorem dX6_kindOf_41 : decode cX6_kindOf 41 = .ok (.bipush 114, 2) := by decide +kernel
theorem dX6_kindOf_43 : decode cX6_kindOf 43 = .ok (.if_icmp .ne 7, 3) := by decide +kernel
theorem dX6_kindOf_46 : decode cX6_kindOf 46 = .ok (.iconst 4, 1) := by decide +kernel
theorem dX6_kindOf_47 : decode cX6_kindOf 47 = .ok (.goto 15, 3) := by decide +kernel
theorem dX6_kindOf_50 : decode cX6_kindOf 50 = .ok (.iload_n 0, 1) := by decide +kernel
theorem dX6_kindOf_51 : decode cX6_kindOf 51 = .ok (.bipush 97, 2) := by decide +kernel
theorem dX6_kindOf_53 : decode cX6_kindOf 53 = .ok (.if_icmp .ne 7, 3) := by decide +kernel
theorem dX6_kindOf_56 : decode cX6_kindOf 56 = .ok (.iconst 5, 1) := by decide +kernel
theorem dX6_kindOf_57 : decode cX6_kindOf 57 = .ok (.goto 5, 3) := by decide +kernel
theorem dX6_kindOf_60 : decode cX6_kindOf 60 = .ok (.bipush (-9), 2) := by decide +kernel
theorem dX6_kindOf_62 : decode cX6_kindOf 62 = .ok (.ireturn, 1) := by decide +kernel
theorem dX6_widthOf_0 : decode cX6_widthOf 0 = .ok (.iload_n 0, 1) := by decide +kernel
theorem dX6_widthOf_1 : decode cX6_widthOf 1 = .ok (.iconst 4, 1) := by decide +kernel
theorem dX6_widthOf_2 : decode cX6_widthOf 2 = .ok (.if_icmp .lt 7, 3) := by decide +kernel
theorem dX6_widthOf_5 : decode cX6_widthOf 5 = .ok (.iconst 3, 1) := by decide +kernel
theorem dX6_widthOf_6 : decode cX6_widthOf 6 = .ok (.goto 4, 3) := by decide +kernel
theorem dX6_widthOf_9 : decode cX6_widthOf 9 = .ok (.iconst 2, 1) := by decide +kernel
theorem dX6_widthOf_10 : decode cX6_widthOf 10 = .ok (.ireturn, 1) := by decide +kernel
theorem dX6_over_0 : decode cX6_over 0 = .ok (.aload_n 0, 1) := by decide +kernel
theorem dX6_over_1 : decode cX6_over 1 = .ok (.iload_n 1, 1) := by decide +kernel
theorem dX6_over_2 : decode cX6_over 2 = .ok (.iconst 2, 1) := by decide +kernel
theorem dX6_over_3 : decode cX6_over 3 = .ok (.invokevirtual 89, 3) := by decide +kernel
theorem dX6_over_6 : decode cX6_over 6 = .ok (.istore_n 3, 1) := by decide +kernel
theorem dX6_over_7 : decode cX6_over 7 = .ok (.aload_n 0, 1) := by decide +kernel
theorem dX6_over_8 : decode cX6_over 8 = .ok (.iload_n 2, 1) := by decide +kernel
theorem dX6_over_9 : decode cX6_over 9 = .ok (.iconst 2, 1) := by decide +kernel
theorem dX6_over_10 : decode cX6_over 10 = .ok (.invokevirtual 89, 3) := by decide +kernel
theorem dX6_over_13 : decode cX6_over 13 = .ok (.istore 4, 2) := by decide +kernel
theorem dX6_over_15 : decode cX6_over 15 = .ok (.iload_n 3, 1) := by decide +kernel
theorem dX6_over_16 : decode cX6_over 16 = .ok (.iload 4, 2) := by decide +kernel
theorem dX6_over_18 : decode cX6_over 18 = .ok (.aload_n 0, 1) := by decide +kernel
theorem dX6_over_19 : decode cX6_over 19 = .ok (.iload_n 2, 1) := by decide +kernel
theorem dX6_over_20 : decode cX6_over 20 = .ok (.iconst 0, 1) := by decide +kernel
theorem dX6_over_21 : decode cX6_over 21 = .ok (.invokevirtual 89, 3) := by decide +kernel
theorem dX6_over_24 : decode cX6_over 24 = .ok (.invokestatic 92, 3) := by decide +kernel
theorem dX6_over_27 : decode cX6_over 27 = .ok (.iadd, 1) := by decide +kernel
theorem dX6_over_28 : decode cX6_over 28 = .ok (.if_icmp .ge 23, 3) := by decide +kernel
theorem dX6_over_31 : decode cX6_over 31 = .ok (.iload 4, 2) := by decide +kernel
theorem dX6_over_33 : decode cX6_over 33 = .ok (.iload_n 3, 1) := by decide +kernel
theorem dX6_over_34 : decode cX6_over 34 = .ok (.aload_n 0, 1) := by decide +kernel
theorem dX6_over_35 : decode cX6_over 35 = .ok (.iload_n 1, 1) := by decide +kernel
theorem dX6_over_36 : decode cX6_over 36 = .ok (.iconst 0, 1) := by decide +kernel
theorem dX6_over_37 : decode cX6_over 37 = .ok (.invokevirtual 89, 3) := by decide +kernel
theorem dX6_over_40 : decode cX6_over 40 = .ok (.invokestatic 92, 3) := by decide +kernel
theorem dX6_over_43 : decode cX6_over 43 = .ok (.iadd, 1) := by decide +kernel
theorem dX6_over_44 : decode cX6_over 44 = .ok (.if_icmp .ge 7, 3) := by decide +kernel
theorem dX6_over_47 : decode cX6_over 47 = .ok (.iconst 1, 1) := by decide +kernel
theorem dX6_over_48 : decode cX6_over 48 = .ok (.goto 4, 3) := by decide +kernel
theorem dX6_over_51 : decode cX6_over 51 = .ok (.iconst 0, 1) := by decide +kernel
theorem dX6_over_52 : decode cX6_over 52 = .ok (.ireturn, 1) := by decide +kernel
theorem dX6_readsWide_0 : decode cX6_readsWide 0 = .ok (.aload_n 0, 1) := by decide +kernel
theorem dX6_readsWide_1 : decode cX6_readsWide 1 = .ok (.iload_n 1, 1) := by decide +kernel
theorem dX6_readsWide_2 : decode cX6_readsWide 2 = .ok (.invokevirtual 95, 3) := by decide +kernel
theorem dX6_readsWide_5 : decode cX6_readsWide 5 = .ok (.bipush 119, 2) := by decide +kernel
theorem dX6_readsWide_7 : decode cX6_readsWide 7 = .ok (.if_icmp .eq 5, 3) := by decide +kernel
theorem dX6_readsWide_10 : decode cX6_readsWide 10 = .ok (.iconst 0, 1) := by decide +kernel
theorem dX6_readsWide_11 : decode cX6_readsWide 11 = .ok (.ireturn, 1) := by decide +kernel
theorem dX6_readsWide_12 : decode cX6_readsWide 12 = .ok (.aload_n 0, 1) := by decide +kernel
theorem dX6_readsWide_13 : decode cX6_readsWide 13 = .ok (.dup, 1) := by decide +kernel
theorem dX6_readsWide_14 : decode cX6_readsWide 14 = .ok (.getfield 86, 3) := by decide +kernel
theorem dX6_readsWide_17 : decode cX6_readsWide 17 = .ok (.iconst 1, 1) := by decide +kernel
theorem dX6_readsWide_18 : decode cX6_readsWide 18 = .ok (.iadd, 1) := by decide +kernel
theorem dX6_readsWide_19 : decode cX6_readsWide 19 = .ok (.putfield 86, 3) := by decide +kernel
theorem dX6_readsWide_22 : decode cX6_readsWide 22 = .ok (.aload_n 0, 1) := by decide +kernel
theorem dX6_readsWide_23 : decode cX6_readsWide 23 = .ok (.iload_n 1, 1) := by decide +kernel
theorem dX6_readsWide_24 : decode cX6_readsWide 24 = .ok (.invokevirtual 95, 3) := by decide +kernel
theorem dX6_readsWide_27 : decode cX6_readsWide 27 = .ok (.bipush 50, 2) := by decide +kernel
theorem dX6_readsWide_29 : decode cX6_readsWide 29 = .ok (.bipush 57, 2) := by decide +kernel
theorem dX6_readsWide_31 : decode cX6_readsWide 31 = .ok (.invokestatic 51, 3) := by decide +kernel
theorem dX6_readsWide_34 : decode cX6_readsWide 34 = .ok (.ifCond .ne 5, 3) := by decide +kernel
theorem dX6_readsWide_37 : decode cX6_readsWide 37 = .ok (.iconst 0, 1) := by decide +kernel
theorem dX6_readsWide_38 : decode cX6_readsWide 38 = .ok (.ireturn, 1) := by decide +kernel
theorem dX6_readsWide_39 : decode cX6_readsWide 39 = .ok (.aload_n 0, 1) := by decide +kernel
theorem dX6_readsWide_40 : decode cX6_readsWide 40 = .ok (.aload_n 0, 1) := by decide +kernel
theorem dX6_readsWide_41 : decode cX6_readsWide 41 = .ok (.iload_n 1, 1) := by decide +kernel
theorem dX6_readsWide_42 : decode cX6_readsWide 42 = .ok (.invokevirtual 95, 3) := by decide +kernel
theorem dX6_readsWide_45 : decode cX6_readsWide 45 = .ok (.bipush 48, 2) := by decide +kernel
theorem dX6_readsWide_47 : decode cX6_readsWide 47 = .ok (.isub, 1) := by decide +kernel
theorem dX6_readsWide_48 : decode cX6_readsWide 48 = .ok (.putfield 98, 3) := by decide +kernel
theorem dX6_readsWide_51 : decode cX6_readsWide 51 = .ok (.aload_n 0, 1) := by decide +kernel
theorem dX6_readsWide_52 : decode cX6_readsWide 52 = .ok (.dup, 1) := by decide +kernel
theorem dX6_readsWide_53 : decode cX6_readsWide 53 = .ok (.getfield 86, 3) := by decide +kernel
theorem dX6_readsWide_56 : decode cX6_readsWide 56 = .ok (.iconst 1, 1) := by decide +kernel
theorem dX6_readsWide_57 : decode cX6_readsWide 57 = .ok (.iadd, 1) := by decide +kernel
theorem dX6_readsWide_58 : decode cX6_readsWide 58 = .ok (.putfield 86, 3) := by decide +kernel
theorem dX6_readsWide_61 : decode cX6_readsWide 61 = .ok (.iconst 1, 1) := by decide +kernel
theorem dX6_readsWide_62 : decode cX6_readsWide 62 = .ok (.ireturn, 1) := by decide +kernel
theorem dX6_readsMark_0 : decode cX6_readsMark 0 = .ok (.aload_n 0, 1) := by decide +kernel
theorem dX6_readsMark_1 : decode cX6_readsMark 1 = .ok (.iload_n 1, 1) := by decide +kernel
theorem dX6_readsMark_2 : decode cX6_readsMark 2 = .ok (.invokevirtual 95, 3) := by decide +kernel
theorem dX6_readsMark_5 : decode cX6_readsMark 5 = .ok (.bipush 65, 2) := by decide +kernel
theorem dX6_readsMark_7 : decode cX6_readsMark 7 = .ok (.isub, 1) := by decide +kernel
theorem dX6_readsMark_8 : decode cX6_readsMark 8 = .ok (.istore 4, 2) := by decide +kernel
theorem dX6_readsMark_10 : decode cX6_readsMark 10 = .ok (.iload 4, 2) := by decide +kernel
theorem dX6_readsMark_12 : decode cX6_readsMark 12 = .ok (.iconst 0, 1) := by decide +kernel
theorem dX6_readsMark_13 : decode cX6_readsMark 13 = .ok (.iconst 5, 1) := by decide +kernel
theorem dX6_readsMark_14 : decode cX6_readsMark 14 = .ok (.invokestatic 51, 3) := by decide +kernel
theorem dX6_readsMark_17 : decode cX6_readsMark 17 = .ok (.istore 5, 2) := by decide +kernel
theorem dX6_readsMark_19 : decode cX6_readsMark 19 = .ok (.iconst 0, 1) := by decide +kernel
theorem dX6_readsMark_20 : decode cX6_readsMark 20 = .ok (.istore 6, 2) := by decide +kernel
theorem dX6_readsMark_22 : decode cX6_readsMark 22 = .ok (.iload 6, 2) := by decide +kernel
theorem dX6_readsMark_24 : decode cX6_readsMark 24 = .ok (.iload_n 3, 1) := by decide +kernel
theorem dX6_readsMark_25 : decode cX6_readsMark 25 = .ok (.if_icmp .ge 35, 3) := by decide +kernel
theorem dX6_readsMark_28 : decode cX6_readsMark 28 = .ok (.iload 5, 2) := by decide +kernel
theorem dX6_readsMark_30 : decode cX6_readsMark 30 = .ok (.ifCond .eq 21, 3) := by decide +kernel
theorem dX6_readsMark_33 : decode cX6_readsMark 33 = .ok (.aload_n 0, 1) := by decide +kernel
theorem dX6_readsMark_34 : decode cX6_readsMark 34 = .ok (.iload_n 2, 1) := by decide +kernel
theorem dX6_readsMark_35 : decode cX6_readsMark 35 = .ok (.iconst 3, 1) := by decide +kernel
theorem dX6_readsMark_36 : decode cX6_readsMark 36 = .ok (.iload 6, 2) := by decide +kernel
theorem dX6_readsMark_38 : decode cX6_readsMark 38 = .ok (.iadd, 1) := by decide +kernel
theorem dX6_readsMark_39 : decode cX6_readsMark 39 = .ok (.invokevirtual 89, 3) := by decide +kernel
theorem dX6_readsMark_42 : decode cX6_readsMark 42 = .ok (.iload 4, 2) := by decide +kernel
theorem dX6_readsMark_44 : decode cX6_readsMark 44 = .ok (.if_icmp .eq 7, 3) := by decide +kernel
theorem dX6_readsMark_47 : decode cX6_readsMark 47 = .ok (.iconst 1, 1) := by decide +kernel
theorem dX6_readsMark_48 : decode cX6_readsMark 48 = .ok (.goto 4, 3) := by decide +kernel
theorem dX6_readsMark_51 : decode cX6_readsMark 51 = .ok (.iconst 0, 1) := by decide +kernel
theorem dX6_readsMark_52 : decode cX6_readsMark 52 = .ok (.istore 5, 2) := by decide +kernel
theorem dX6_readsMark_54 : decode cX6_readsMark 54 = .ok (.iinc 6 1, 3) := by decide +kernel
theorem dX6_readsMark_57 : decode cX6_readsMark 57 = .ok (.goto (-35), 3) := by decide +kernel
theorem dX6_readsMark_60 : decode cX6_readsMark 60 = .ok (.aload_n 0, 1) := by decide +kernel
theorem dX6_readsMark_61 : decode cX6_readsMark 61 = .ok (.iload_n 2, 1) := by decide +kernel
theorem dX6_readsMark_62 : decode cX6_readsMark 62 = .ok (.iconst 3, 1) := by decide +kernel
theorem dX6_readsMark_63 : decode cX6_readsMark 63 = .ok (.iload_n 3, 1) := by decide +kernel
theorem dX6_readsMark_64 : decode cX6_readsMark 64 = .ok (.iadd, 1) := by decide +kernel
theorem dX6_readsMark_65 : decode cX6_readsMark 65 = .ok (.iload 4, 2) := by decide +kernel
theorem dX6_readsMark_67 : decode cX6_readsMark 67 = .ok (.invokevirtual 101, 3) := by decide +kernel
theorem dX6_readsMark_70 : decode cX6_readsMark 70 = .ok (.aload_n 0, 1) := by decide +kernel
theorem dX6_readsMark_71 : decode cX6_readsMark 71 = .ok (.dup, 1) := by decide +kernel
theorem dX6_readsMark_72 : decode cX6_readsMark 72 = .ok (.getfield 86, 3) := by decide +kernel
theorem dX6_readsMark_75 : decode cX6_readsMark 75 = .ok (.iload 5, 2) := by decide +kernel
theorem dX6_readsMark_77 : decode cX6_readsMark 77 = .ok (.ifCond .eq 7, 3) := by decide +kernel
theorem dX6_readsMark_80 : decode cX6_readsMark 80 = .ok (.iconst 1, 1) := by decide +kernel
theorem dX6_readsMark_81 : decode cX6_readsMark 81 = .ok (.goto 4, 3) := by decide +kernel
theorem dX6_readsMark_84 : decode cX6_readsMark 84 = .ok (.iconst 0, 1) := by decide +kernel
theorem dX6_readsMark_85 : decode cX6_readsMark 85 = .ok (.iadd, 1) := by decide +kernel
theorem dX6_readsMark_86 : decode cX6_readsMark 86 = .ok (.putfield 86, 3) := by decide +kernel
theorem dX6_readsMark_89 : decode cX6_readsMark 89 = .ok (.iload 5, 2) := by decide +kernel
theorem dX6_readsMark_91 : decode cX6_readsMark 91 = .ok (.ireturn, 1) := by decide +kernel
theorem dX6_readsBrick_0 : decode cX6_readsBrick 0 = .ok (.aload_n 0, 1) := by decide +kernel
theorem dX6_readsBrick_1 : decode cX6_readsBrick 1 = .ok (.iload_n 1, 1) := by decide +kernel
theorem dX6_readsBrick_2 : decode cX6_readsBrick 2 = .ok (.invokevirtual 95, 3) := by decide +kernel
theorem dX6_readsBrick_5 : decode cX6_readsBrick 5 = .ok (.invokestatic 104, 3) := by decide +kernel
theorem dX6_readsBrick_8 : decode cX6_readsBrick 8 = .ok (.istore_n 2, 1) := by decide +kernel
theorem dX6_readsBrick_9 : decode cX6_readsBrick 9 = .ok (.iload_n 2, 1) := by decide +kernel
theorem dX6_readsBrick_10 : decode cX6_readsBrick 10 = .ok (.bipush (-9), 2) := by decide +kernel
theorem dX6_readsBrick_12 : decode cX6_readsBrick 12 = .ok (.if_icmp .eq 12, 3) := by decide +kernel
theorem dX6_readsBrick_15 : decode cX6_readsBrick 15 = .ok (.aload_n 0, 1) := by decide +kernel
theorem dX6_readsBrick_16 : decode cX6_readsBrick 16 = .ok (.getfield 107, 3) := by decide +kernel
theorem dX6_readsBrick_19 : decode cX6_readsBrick 19 = .ok (.bipush 14, 2) := by decide +kernel
theorem dX6_readsBrick_21 : decode cX6_readsBrick 21 = .ok (.if_icmp .ne 5, 3) := by decide +kernel
theorem dX6_readsBrick_24 : decode cX6_readsBrick 24 = .ok (.iconst 0, 1) := by decide +kernel
theorem dX6_readsBrick_25 : decode cX6_readsBrick 25 = .ok (.ireturn, 1) := by decide +kernel
theorem dX6_readsBrick_26 : decode cX6_readsBrick 26 = .ok (.aload_n 0, 1) := by decide +kernel
theorem dX6_readsBrick_27 : decode cX6_readsBrick 27 = .ok (.dup, 1) := by decide +kernel
theorem dX6_readsBrick_28 : decode cX6_readsBrick 28 = .ok (.getfield 86, 3) := by decide +kernel
theorem dX6_readsBrick_31 : decode cX6_readsBrick 31 = .ok (.iconst 1, 1) := by decide +kernel
theorem dX6_readsBrick_32 : decode cX6_readsBrick 32 = .ok (.iadd, 1) := by decide +kernel
theorem dX6_readsBrick_33 : decode cX6_readsBrick 33 = .ok (.putfield 86, 3) := by decide +kernel
theorem dX6_readsBrick_36 : decode cX6_readsBrick 36 = .ok (.bipush 14, 2) := by decide +kernel
theorem dX6_readsBrick_38 : decode cX6_readsBrick 38 = .ok (.aload_n 0, 1) := by decide +kernel
theorem dX6_readsBrick_39 : decode cX6_readsBrick 39 = .ok (.getfield 107, 3) := by decide +kernel
theorem dX6_readsBrick_42 : decode cX6_readsBrick 42 = .ok (.iadd, 1) := by decide +kernel
theorem dX6_readsBrick_43 : decode cX6_readsBrick 43 = .ok (.istore_n 3, 1) := by decide +kernel
theorem dX6_readsBrick_44 : decode cX6_readsBrick 44 = .ok (.aload_n 0, 1) := by decide +kernel
theorem dX6_readsBrick_45 : decode cX6_readsBrick 45 = .ok (.iload_n 3, 1) := by decide +kernel
theorem dX6_readsBrick_46 : decode cX6_readsBrick 46 = .ok (.iconst 0, 1) := by decide +kernel
theorem dX6_readsBrick_47 : decode cX6_readsBrick 47 = .ok (.iload_n 2, 1) := by decide +kernel
theorem dX6_readsBrick_48 : decode cX6_readsBrick 48 = .ok (.invokevirtual 101, 3) := by decide +kernel
theorem dX6_readsBrick_51 : decode cX6_readsBrick 51 = .ok (.aload_n 0, 1) := by decide +kernel
theorem dX6_readsBrick_52 : decode cX6_readsBrick 52 = .ok (.iload_n 1, 1) := by decide +kernel
theorem dX6_readsBrick_53 : decode cX6_readsBrick 53 = .ok (.invokevirtual 95, 3) := by decide +kernel
theorem dX6_readsBrick_56 : decode cX6_readsBrick 56 = .ok (.bipush 48, 2) := by decide +kernel
theorem dX6_readsBrick_58 : decode cX6_readsBrick 58 = .ok (.bipush 53, 2) := by decide +kernel
theorem dX6_readsBrick_60 : decode cX6_readsBrick 60 = .ok (.invokestatic 51, 3) := by decide +kernel
theorem dX6_readsBrick_63 : decode cX6_readsBrick 63 = .ok (.ifCond .ne 5, 3) := by decide +kernel
theorem dX6_readsBrick_66 : decode cX6_readsBrick 66 = .ok (.iconst 0, 1) := by decide +kernel
theorem dX6_readsBrick_67 : decode cX6_readsBrick 67 = .ok (.ireturn, 1) := by decide +kernel
theorem dX6_readsBrick_68 : decode cX6_readsBrick 68 = .ok (.aload_n 0, 1) := by decide +kernel
theorem dX6_readsBrick_69 : decode cX6_readsBrick 69 = .ok (.iload_n 3, 1) := by decide +kernel
theorem dX6_readsBrick_70 : decode cX6_readsBrick 70 = .ok (.iconst 1, 1) := by decide +kernel
theorem dX6_readsBrick_71 : decode cX6_readsBrick 71 = .ok (.aload_n 0, 1) := by decide +kernel
theorem dX6_readsBrick_72 : decode cX6_readsBrick 72 = .ok (.iload_n 1, 1) := by decide +kernel
theorem dX6_readsBrick_73 : decode cX6_readsBrick 73 = .ok (.invokevirtual 95, 3) := by decide +kernel
theorem dX6_readsBrick_76 : decode cX6_readsBrick 76 = .ok (.bipush 48, 2) := by decide +kernel
theorem dX6_readsBrick_78 : decode cX6_readsBrick 78 = .ok (.isub, 1) := by decide +kernel
theorem dX6_readsBrick_79 : decode cX6_readsBrick 79 = .ok (.invokevirtual 101, 3) := by decide +kernel
theorem dX6_readsBrick_82 : decode cX6_readsBrick 82 = .ok (.aload_n 0, 1) := by decide +kernel
theorem dX6_readsBrick_83 : decode cX6_readsBrick 83 = .ok (.dup, 1) := by decide +kernel
theorem dX6_readsBrick_84 : decode cX6_readsBrick 84 = .ok (.getfield 86, 3) := by decide +kernel
theorem dX6_readsBrick_87 : decode cX6_readsBrick 87 = .ok (.iconst 1, 1) := by decide +kernel
theorem dX6_readsBrick_88 : decode cX6_readsBrick 88 = .ok (.iadd, 1) := by decide +kernel
theorem dX6_readsBrick_89 : decode cX6_readsBrick 89 = .ok (.putfield 86, 3) := by decide +kernel
theorem dX6_readsBrick_92 : decode cX6_readsBrick 92 = .ok (.aload_n 0, 1) := by decide +kernel
theorem dX6_readsBrick_93 : decode cX6_readsBrick 93 = .ok (.iload_n 1, 1) := by decide +kernel
theorem dX6_readsBrick_94 : decode cX6_readsBrick 94 = .ok (.invokevirtual 95, 3) := by decide +kernel
theorem dX6_readsBrick_97 : decode cX6_readsBrick 97 = .ok (.bipush 48, 2) := by decide +kernel
theorem dX6_readsBrick_99 : decode cX6_readsBrick 99 = .ok (.isub, 1) := by decide +kernel
theorem dX6_readsBrick_100 : decode cX6_readsBrick 100 = .ok (.istore 4, 2) := by decide +kernel
theorem dX6_readsBrick_102 : decode cX6_readsBrick 102 = .ok (.iload 4, 2) := by decide +kernel
theorem dX6_readsBrick_104 : decode cX6_readsBrick 104 = .ok (.iconst 0, 1) := by decide +kernel
theorem dX6_readsBrick_105 : decode cX6_readsBrick 105 = .ok (.aload_n 0, 1) := by decide +kernel
theorem dX6_readsBrick_106 : decode cX6_readsBrick 106 = .ok (.getfield 98, 3) := by decide +kernel
theorem dX6_readsBrick_109 : decode cX6_readsBrick 109 = .ok (.iload_n 2, 1) := by decide +kernel
theorem dX6_readsBrick_110 : decode cX6_readsBrick 110 = .ok (.invokestatic 92, 3) := by decide +kernel
theorem dX6_readsBrick_113 : decode cX6_readsBrick 113 = .ok (.isub, 1) := by decide +kernel
theorem dX6_readsBrick_114 : decode cX6_readsBrick 114 = .ok (.invokestatic 51, 3) := by decide +kernel
theorem dX6_readsBrick_117 : decode cX6_readsBrick 117 = .ok (.ifCond .ne 5, 3) := by decide +kernel
theorem dX6_readsBrick_120 : decode cX6_readsBrick 120 = .ok (.iconst 0, 1) := by decide +kernel
theorem dX6_readsBrick_121 : decode cX6_readsBrick 121 = .ok (.ireturn, 1) := by decide +kernel
theorem dX6_readsBrick_122 : decode cX6_readsBrick 122 = .ok (.aload_n 0, 1) := by decide +kernel
theorem dX6_readsBrick_123 : decode cX6_readsBrick 123 = .ok (.iload_n 3, 1) := by decide +kernel
theorem dX6_readsBrick_124 : decode cX6_readsBrick 124 = .ok (.iconst 2, 1) := by decide +kernel
theorem dX6_readsBrick_125 : decode cX6_readsBrick 125 = .ok (.iload 4, 2) := by decide +kernel
theorem dX6_readsBrick_127 : decode cX6_readsBrick 127 = .ok (.invokevirtual 101, 3) := by decide +kernel
theorem dX6_readsBrick_130 : decode cX6_readsBrick 130 = .ok (.bipush 14, 2) := by decide +kernel
theorem dX6_readsBrick_132 : decode cX6_readsBrick 132 = .ok (.istore 5, 2) := by decide +kernel
theorem dX6_readsBrick_134 : decode cX6_readsBrick 134 = .ok (.iload 5, 2) := by decide +kernel
theorem dX6_readsBrick_136 : decode cX6_readsBrick 136 = .ok (.iload_n 3, 1) := by decide +kernel
theorem dX6_readsBrick_137 : decode cX6_readsBrick 137 = .ok (.if_icmp .ge 37, 3) := by decide +kernel
theorem dX6_readsBrick_140 : decode cX6_readsBrick 140 = .ok (.aload_n 0, 1) := by decide +kernel
theorem dX6_readsBrick_141 : decode cX6_readsBrick 141 = .ok (.iload 5, 2) := by decide +kernel
theorem dX6_readsBrick_143 : decode cX6_readsBrick 143 = .ok (.iconst 1, 1) := by decide +kernel
theorem dX6_readsBrick_144 : decode cX6_readsBrick 144 = .ok (.invokevirtual 89, 3) := by decide +kernel
theorem dX6_readsBrick_147 : decode cX6_readsBrick 147 = .ok (.aload_n 0, 1) := by decide +kernel
theorem dX6_readsBrick_148 : decode cX6_readsBrick 148 = .ok (.iload_n 3, 1) := by decide +kernel
theorem dX6_readsBrick_149 : decode cX6_readsBrick 149 = .ok (.iconst 1, 1) := by decide +kernel
theorem dX6_readsBrick_150 : decode cX6_readsBrick 150 = .ok (.invokevirtual 89, 3) := by decide +kernel
theorem dX6_readsBrick_153 : decode cX6_readsBrick 153 = .ok (.if_icmp .ne 15, 3) := by decide +kernel
theorem dX6_readsBrick_156 : decode cX6_readsBrick 156 = .ok (.aload_n 0, 1) := by decide +kernel
theorem dX6_readsBrick_157 : decode cX6_readsBrick 157 = .ok (.iload 5, 2) := by decide +kernel
theorem dX6_readsBrick_159 : decode cX6_readsBrick 159 = .ok (.iload_n 3, 1) := by decide +kernel
theorem dX6_readsBrick_160 : decode cX6_readsBrick 160 = .ok (.invokevirtual 110, 3) := by decide +kernel
theorem dX6_readsBrick_163 : decode cX6_readsBrick 163 = .ok (.ifCond .eq 5, 3) := by decide +kernel
theorem dX6_readsBrick_166 : decode cX6_readsBrick 166 = .ok (.iconst 0, 1) := by decide +kernel
theorem dX6_readsBrick_167 : decode cX6_readsBrick 167 = .ok (.ireturn, 1) := by decide +kernel
theorem dX6_readsBrick_168 : decode cX6_readsBrick 168 = .ok (.iinc 5 1, 3) := by decide +kernel
theorem dX6_readsBrick_171 : decode cX6_readsBrick 171 = .ok (.goto (-37), 3) := by decide +kernel
theorem dX6_readsBrick_174 : decode cX6_readsBrick 174 = .ok (.aload_n 0, 1) := by decide +kernel
theorem dX6_readsBrick_175 : decode cX6_readsBrick 175 = .ok (.dup, 1) := by decide +kernel
theorem dX6_readsBrick_176 : decode cX6_readsBrick 176 = .ok (.getfield 86, 3) := by decide +kernel
theorem dX6_readsBrick_179 : decode cX6_readsBrick 179 = .ok (.iconst 1, 1) := by decide +kernel
theorem dX6_readsBrick_180 : decode cX6_readsBrick 180 = .ok (.iadd, 1) := by decide +kernel
theorem dX6_readsBrick_181 : decode cX6_readsBrick 181 = .ok (.putfield 86, 3) := by decide +kernel
theorem dX6_readsBrick_184 : decode cX6_readsBrick 184 = .ok (.aload_n 0, 1) := by decide +kernel
theorem dX6_readsBrick_185 : decode cX6_readsBrick 185 = .ok (.iload_n 3, 1) := by decide +kernel
theorem dX6_readsBrick_186 : decode cX6_readsBrick 186 = .ok (.iconst 5, 1) := by decide +kernel
theorem dX6_readsBrick_187 : decode cX6_readsBrick 187 = .ok (.bipush (-9), 2) := by decide +kernel
theorem dX6_readsBrick_189 : decode cX6_readsBrick 189 = .ok (.invokevirtual 101, 3) := by decide +kernel
theorem dX6_readsBrick_192 : decode cX6_readsBrick 192 = .ok (.aload_n 0, 1) := by decide +kernel
theorem dX6_readsBrick_193 : decode cX6_readsBrick 193 = .ok (.iload_n 3, 1) := by decide +kernel
theorem dX6_readsBrick_194 : decode cX6_readsBrick 194 = .ok (.bipush 6, 2) := by decide +kernel
theorem dX6_readsBrick_196 : decode cX6_readsBrick 196 = .ok (.bipush (-9), 2) := by decide +kernel
theorem dX6_readsBrick_198 : decode cX6_readsBrick 198 = .ok (.invokevirtual 101, 3) := by decide +kernel
theorem dX6_readsBrick_201 : decode cX6_readsBrick 201 = .ok (.iconst 0, 1) := by decide +kernel
theorem dX6_readsBrick_202 : decode cX6_readsBrick 202 = .ok (.istore 5, 2) := by decide +kernel
theorem dX6_readsBrick_204 : decode cX6_readsBrick 204 = .ok (.iload 5, 2) := by decide +kernel
theorem dX6_readsBrick_206 : decode cX6_readsBrick 206 = .ok (.iload_n 2, 1) := by decide +kernel
theorem dX6_readsBrick_207 : decode cX6_readsBrick 207 = .ok (.iconst 3, 1) := by decide +kernel
theorem dX6_readsBrick_208 : decode cX6_readsBrick 208 = .ok (.if_icmp .ne 7, 3) := by decide +kernel
theorem dX6_readsBrick_211 : decode cX6_readsBrick 211 = .ok (.iconst 3, 1) := by decide +kernel
theorem dX6_readsBrick_212 : decode cX6_readsBrick 212 = .ok (.goto 4, 3) := by decide +kernel
theorem dX6_readsBrick_215 : decode cX6_readsBrick 215 = .ok (.iconst 2, 1) := by decide +kernel
theorem dX6_readsBrick_216 : decode cX6_readsBrick 216 = .ok (.if_icmp .ge 22, 3) := by decide +kernel
theorem dX6_readsBrick_219 : decode cX6_readsBrick 219 = .ok (.aload_n 0, 1) := by decide +kernel
theorem dX6_readsBrick_220 : decode cX6_readsBrick 220 = .ok (.iload_n 1, 1) := by decide +kernel
theorem dX6_readsBrick_221 : decode cX6_readsBrick 221 = .ok (.iload_n 3, 1) := by decide +kernel
theorem dX6_readsBrick_222 : decode cX6_readsBrick 222 = .ok (.iload 5, 2) := by decide +kernel
theorem dX6_readsBrick_224 : decode cX6_readsBrick 224 = .ok (.invokevirtual 114, 3) := by decide +kernel
theorem dX6_readsBrick_227 : decode cX6_readsBrick 227 = .ok (.ifCond .ne 5, 3) := by decide +kernel
theorem dX6_readsBrick_230 : decode cX6_readsBrick 230 = .ok (.iconst 0, 1) := by decide +kernel
theorem dX6_readsBrick_231 : decode cX6_readsBrick 231 = .ok (.ireturn, 1) := by decide +kernel
theorem dX6_readsBrick_232 : decode cX6_readsBrick 232 = .ok (.iinc 5 1, 3) := by decide +kernel
theorem dX6_readsBrick_235 : decode cX6_readsBrick 235 = .ok (.goto (-31), 3) := by decide +kernel
theorem dX6_readsBrick_238 : decode cX6_readsBrick 238 = .ok (.aload_n 0, 1) := by decide +kernel
theorem dX6_readsBrick_239 : decode cX6_readsBrick 239 = .ok (.dup, 1) := by decide +kernel
theorem dX6_readsBrick_240 : decode cX6_readsBrick 240 = .ok (.getfield 107, 3) := by decide +kernel
theorem dX6_readsBrick_243 : decode cX6_readsBrick 243 = .ok (.iconst 1, 1) := by decide +kernel
theorem dX6_readsBrick_244 : decode cX6_readsBrick 244 = .ok (.iadd, 1) := by decide +kernel
theorem dX6_readsBrick_245 : decode cX6_readsBrick 245 = .ok (.putfield 107, 3) := by decide +kernel
theorem dX6_readsBrick_248 : decode cX6_readsBrick 248 = .ok (.iconst 1, 1) := by decide +kernel
theorem dX6_readsBrick_249 : decode cX6_readsBrick 249 = .ok (.ireturn, 1) := by decide +kernel
theorem dX6_goesOn_0 : decode cX6_goesOn 0 = .ok (.aload_n 0, 1) := by decide +kernel
theorem dX6_goesOn_1 : decode cX6_goesOn 1 = .ok (.iconst 0, 1) := by decide +kernel
theorem dX6_goesOn_2 : decode cX6_goesOn 2 = .ok (.putfield 86, 3) := by decide +kernel
theorem dX6_goesOn_5 : decode cX6_goesOn 5 = .ok (.aload_n 0, 1) := by decide +kernel
theorem dX6_goesOn_6 : decode cX6_goesOn 6 = .ok (.iconst 0, 1) := by decide +kernel
theorem dX6_goesOn_7 : decode cX6_goesOn 7 = .ok (.putfield 98, 3) := by decide +kernel
theorem dX6_goesOn_10 : decode cX6_goesOn 10 = .ok (.aload_n 0, 1) := by decide +kernel
theorem dX6_goesOn_11 : decode cX6_goesOn 11 = .ok (.iconst 0, 1) := by decide +kernel
theorem dX6_goesOn_12 : decode cX6_goesOn 12 = .ok (.putfield 107, 3) := by decide +kernel
theorem dX6_goesOn_15 : decode cX6_goesOn 15 = .ok (.aload_n 0, 1) := by decide +kernel
theorem dX6_goesOn_16 : decode cX6_goesOn 16 = .ok (.getfield 86, 3) := by decide +kernel
theorem dX6_goesOn_19 : decode cX6_goesOn 19 = .ok (.aload_n 0, 1) := by decide +kernel
theorem dX6_goesOn_20 : decode cX6_goesOn 20 = .ok (.getfield 26, 3) := by decide +kernel
theorem dX6_goesOn_23 : decode cX6_goesOn 23 = .ok (.iload_n 1, 1) := by decide +kernel
theorem dX6_goesOn_24 : decode cX6_goesOn 24 = .ok (.iaload, 1) := by decide +kernel
theorem dX6_goesOn_25 : decode cX6_goesOn 25 = .ok (.if_icmp .ge 57, 3) := by decide +kernel
theorem dX6_goesOn_28 : decode cX6_goesOn 28 = .ok (.aload_n 0, 1) := by decide +kernel
theorem dX6_goesOn_29 : decode cX6_goesOn 29 = .ok (.iload_n 1, 1) := by decide +kernel
theorem dX6_goesOn_30 : decode cX6_goesOn 30 = .ok (.invokevirtual 95, 3) := by decide +kernel
theorem dX6_goesOn_33 : decode cX6_goesOn 33 = .ok (.bipush 32, 2) := by decide +kernel
theorem dX6_goesOn_35 : decode cX6_goesOn 35 = .ok (.if_icmp .ne 16, 3) := by decide +kernel
theorem dX6_goesOn_38 : decode cX6_goesOn 38 = .ok (.aload_n 0, 1) := by decide +kernel
theorem dX6_goesOn_39 : decode cX6_goesOn 39 = .ok (.dup, 1) := by decide +kernel
theorem dX6_goesOn_40 : decode cX6_goesOn 40 = .ok (.getfield 86, 3) := by decide +kernel
theorem dX6_goesOn_43 : decode cX6_goesOn 43 = .ok (.iconst 1, 1) := by decide +kernel
theorem dX6_goesOn_44 : decode cX6_goesOn 44 = .ok (.iadd, 1) := by decide +kernel
theorem dX6_goesOn_45 : decode cX6_goesOn 45 = .ok (.putfield 86, 3) := by decide +kernel
theorem dX6_goesOn_48 : decode cX6_goesOn 48 = .ok (.goto (-33), 3) := by decide +kernel
theorem dX6_goesOn_51 : decode cX6_goesOn 51 = .ok (.aload_n 0, 1) := by decide +kernel
theorem dX6_goesOn_52 : decode cX6_goesOn 52 = .ok (.getfield 98, 3) := by decide +kernel
theorem dX6_goesOn_55 : decode cX6_goesOn 55 = .ok (.ifCond .ne 14, 3) := by decide +kernel
theorem dX6_goesOn_58 : decode cX6_goesOn 58 = .ok (.aload_n 0, 1) := by decide +kernel
theorem dX6_goesOn_59 : decode cX6_goesOn 59 = .ok (.iload_n 1, 1) := by decide +kernel
theorem dX6_goesOn_60 : decode cX6_goesOn 60 = .ok (.invokevirtual 117, 3) := by decide +kernel
theorem dX6_goesOn_63 : decode cX6_goesOn 63 = .ok (.ifCond .ne (-48), 3) := by decide +kernel
theorem dX6_goesOn_66 : decode cX6_goesOn 66 = .ok (.goto 11, 3) := by decide +kernel
theorem dX6_goesOn_69 : decode cX6_goesOn 69 = .ok (.aload_n 0, 1) := by decide +kernel
theorem dX6_goesOn_70 : decode cX6_goesOn 70 = .ok (.iload_n 1, 1) := by decide +kernel
theorem dX6_goesOn_71 : decode cX6_goesOn 71 = .ok (.invokevirtual 120, 3) := by decide +kernel
theorem dX6_goesOn_74 : decode cX6_goesOn 74 = .ok (.ifCond .ne (-59), 3) := by decide +kernel
theorem dX6_goesOn_77 : decode cX6_goesOn 77 = .ok (.aload_n 0, 1) := by decide +kernel
theorem dX6_goesOn_78 : decode cX6_goesOn 78 = .ok (.getfield 86, 3) := by decide +kernel
theorem dX6_goesOn_81 : decode cX6_goesOn 81 = .ok (.ireturn, 1) := by decide +kernel
theorem dX6_goesOn_82 : decode cX6_goesOn 82 = .ok (.aload_n 0, 1) := by decide +kernel
theorem dX6_goesOn_83 : decode cX6_goesOn 83 = .ok (.getfield 98, 3) := by decide +kernel
theorem dX6_goesOn_86 : decode cX6_goesOn 86 = .ok (.ifCond .ne 12, 3) := by decide +kernel
theorem dX6_goesOn_89 : decode cX6_goesOn 89 = .ok (.aload_n 0, 1) := by decide +kernel
theorem dX6_goesOn_90 : decode cX6_goesOn 90 = .ok (.getfield 26, 3) := by decide +kernel
theorem dX6_goesOn_93 : decode cX6_goesOn 93 = .ok (.iload_n 1, 1) := by decide +kernel
theorem dX6_goesOn_94 : decode cX6_goesOn 94 = .ok (.iaload, 1) := by decide +kernel
theorem dX6_goesOn_95 : decode cX6_goesOn 95 = .ok (.goto 5, 3) := by decide +kernel
theorem dX6_goesOn_98 : decode cX6_goesOn 98 = .ok (.bipush (-9), 2) := by decide +kernel
theorem dX6_goesOn_100 : decode cX6_goesOn 100 = .ok (.ireturn, 1) := by decide +kernel
theorem dX6_fault_0 : decode cX6_fault 0 = .ok (.aload_n 0, 1) := by decide +kernel
theorem dX6_fault_1 : decode cX6_fault 1 = .ok (.iload_n 1, 1) := by decide +kernel
theorem dX6_fault_2 : decode cX6_fault 2 = .ok (.invokevirtual 83, 3) := by decide +kernel
theorem dX6_fault_5 : decode cX6_fault 5 = .ok (.istore_n 2, 1) := by decide +kernel
theorem dX6_fault_6 : decode cX6_fault 6 = .ok (.iload_n 2, 1) := by decide +kernel
theorem dX6_fault_7 : decode cX6_fault 7 = .ok (.ifCond .ge 7, 3) := by decide +kernel
theorem dX6_fault_10 : decode cX6_fault 10 = .ok (.iload_n 2, 1) := by decide +kernel
theorem dX6_fault_11 : decode cX6_fault 11 = .ok (.goto 8, 3) := by decide +kernel
theorem dX6_fault_14 : decode cX6_fault 14 = .ok (.aload_n 0, 1) := by decide +kernel
theorem dX6_fault_15 : decode cX6_fault 15 = .ok (.iload_n 1, 1) := by decide +kernel
theorem dX6_fault_16 : decode cX6_fault 16 = .ok (.invokevirtual 123, 3) := by decide +kernel
theorem dX6_fault_19 : decode cX6_fault 19 = .ok (.ireturn, 1) := by decide +kernel
theorem dX6_wall_0 : decode cX6_wall 0 = .ok (.aload_n 0, 1) := by decide +kernel
theorem dX6_wall_1 : decode cX6_wall 1 = .ok (.iload_n 1, 1) := by decide +kernel
theorem dX6_wall_2 : decode cX6_wall 2 = .ok (.invokevirtual 83, 3) := by decide +kernel
theorem dX6_wall_5 : decode cX6_wall 5 = .ok (.istore_n 2, 1) := by decide +kernel
theorem dX6_wall_6 : decode cX6_wall 6 = .ok (.iload_n 2, 1) := by decide +kernel
theorem dX6_wall_7 : decode cX6_wall 7 = .ok (.ifCond .ge 5, 3) := by decide +kernel
theorem dX6_wall_10 : decode cX6_wall 10 = .ok (.iload_n 2, 1) := by decide +kernel
theorem dX6_wall_11 : decode cX6_wall 11 = .ok (.ireturn, 1) := by decide +kernel
theorem dX6_wall_12 : decode cX6_wall 12 = .ok (.aload_n 0, 1) := by decide +kernel
theorem dX6_wall_13 : decode cX6_wall 13 = .ok (.iload_n 1, 1) := by decide +kernel
theorem dX6_wall_14 : decode cX6_wall 14 = .ok (.invokevirtual 123, 3) := by decide +kernel
theorem dX6_wall_17 : decode cX6_wall 17 = .ok (.bipush (-9), 2) := by decide +kernel
theorem dX6_wall_19 : decode cX6_wall 19 = .ok (.if_icmp .eq 6, 3) := by decide +kernel
theorem dX6_wall_22 : decode cX6_wall 22 = .ok (.bipush (-4), 2) := by decide +kernel
theorem dX6_wall_24 : decode cX6_wall 24 = .ok (.ireturn, 1) := by decide +kernel
theorem dX6_wall_25 : decode cX6_wall 25 = .ok (.aload_n 0, 1) := by decide +kernel
theorem dX6_wall_26 : decode cX6_wall 26 = .ok (.aload_n 0, 1) := by decide +kernel
theorem dX6_wall_27 : decode cX6_wall 27 = .ok (.getfield 98, 3) := by decide +kernel
theorem dX6_wall_30 : decode cX6_wall 30 = .ok (.putfield 126, 3) := by decide +kernel
theorem dX6_wall_33 : decode cX6_wall 33 = .ok (.aload_n 0, 1) := by decide +kernel
theorem dX6_wall_34 : decode cX6_wall 34 = .ok (.aload_n 0, 1) := by decide +kernel
theorem dX6_wall_35 : decode cX6_wall 35 = .ok (.getfield 107, 3) := by decide +kernel
theorem dX6_wall_38 : decode cX6_wall 38 = .ok (.putfield 129, 3) := by decide +kernel
theorem dX6_wall_41 : decode cX6_wall 41 = .ok (.iconst 0, 1) := by decide +kernel
theorem dX6_wall_42 : decode cX6_wall 42 = .ok (.istore_n 3, 1) := by decide +kernel
theorem dX6_wall_43 : decode cX6_wall 43 = .ok (.iload_n 3, 1) := by decide +kernel
theorem dX6_wall_44 : decode cX6_wall 44 = .ok (.bipush 98, 2) := by decide +kernel
theorem dX6_wall_46 : decode cX6_wall 46 = .ok (.if_icmp .ge 24, 3) := by decide +kernel
theorem dX6_wall_49 : decode cX6_wall 49 = .ok (.aload_n 0, 1) := by decide +kernel
theorem dX6_wall_50 : decode cX6_wall 50 = .ok (.getfield 32, 3) := by decide +kernel
theorem dX6_wall_53 : decode cX6_wall 53 = .ok (.iload_n 3, 1) := by decide +kernel
theorem dX6_wall_54 : decode cX6_wall 54 = .ok (.aload_n 0, 1) := by decide +kernel
theorem dX6_wall_55 : decode cX6_wall 55 = .ok (.getfield 32, 3) := by decide +kernel
theorem dX6_wall_58 : decode cX6_wall 58 = .ok (.bipush 98, 2) := by decide +kernel
theorem dX6_wall_60 : decode cX6_wall 60 = .ok (.iload_n 3, 1) := by decide +kernel
theorem dX6_wall_61 : decode cX6_wall 61 = .ok (.iadd, 1) := by decide +kernel
theorem dX6_wall_62 : decode cX6_wall 62 = .ok (.iaload, 1) := by decide +kernel
theorem dX6_wall_63 : decode cX6_wall 63 = .ok (.iastore, 1) := by decide +kernel
theorem dX6_wall_64 : decode cX6_wall 64 = .ok (.iinc 3 1, 3) := by decide +kernel
theorem dX6_wall_67 : decode cX6_wall 67 = .ok (.goto (-24), 3) := by decide +kernel
theorem dX6_wall_70 : decode cX6_wall 70 = .ok (.aload_n 0, 1) := by decide +kernel
theorem dX6_wall_71 : decode cX6_wall 71 = .ok (.iconst 1, 1) := by decide +kernel
theorem dX6_wall_72 : decode cX6_wall 72 = .ok (.aload_n 0, 1) := by decide +kernel
theorem dX6_wall_73 : decode cX6_wall 73 = .ok (.getfield 129, 3) := by decide +kernel
theorem dX6_wall_76 : decode cX6_wall 76 = .ok (.ishl, 1) := by decide +kernel
theorem dX6_wall_77 : decode cX6_wall 77 = .ok (.iconst 1, 1) := by decide +kernel
theorem dX6_wall_78 : decode cX6_wall 78 = .ok (.isub, 1) := by decide +kernel
theorem dX6_wall_79 : decode cX6_wall 79 = .ok (.putfield 132, 3) := by decide +kernel
theorem dX6_wall_82 : decode cX6_wall 82 = .ok (.aload_n 0, 1) := by decide +kernel
theorem dX6_wall_83 : decode cX6_wall 83 = .ok (.iconst 0, 1) := by decide +kernel
theorem dX6_wall_84 : decode cX6_wall 84 = .ok (.putfield 135, 3) := by decide +kernel
theorem dX6_wall_87 : decode cX6_wall 87 = .ok (.aload_n 0, 1) := by decide +kernel
theorem dX6_wall_88 : decode cX6_wall 88 = .ok (.iconst 0, 1) := by decide +kernel
theorem dX6_wall_89 : decode cX6_wall 89 = .ok (.putfield 138, 3) := by decide +kernel
theorem dX6_wall_92 : decode cX6_wall 92 = .ok (.aload_n 0, 1) := by decide +kernel
theorem dX6_wall_93 : decode cX6_wall 93 = .ok (.iconst 0, 1) := by decide +kernel
theorem dX6_wall_94 : decode cX6_wall 94 = .ok (.putfield 141, 3) := by decide +kernel
theorem dX6_wall_97 : decode cX6_wall 97 = .ok (.aload_n 0, 1) := by decide +kernel
theorem dX6_wall_98 : decode cX6_wall 98 = .ok (.iconst 0, 1) := by decide +kernel
theorem dX6_wall_99 : decode cX6_wall 99 = .ok (.putfield 144, 3) := by decide +kernel
theorem dX6_wall_102 : decode cX6_wall 102 = .ok (.aload_n 0, 1) := by decide +kernel
theorem dX6_wall_103 : decode cX6_wall 103 = .ok (.iconst 0, 1) := by decide +kernel
theorem dX6_wall_104 : decode cX6_wall 104 = .ok (.putfield 147, 3) := by decide +kernel
theorem dX6_wall_107 : decode cX6_wall 107 = .ok (.iconst 0, 1) := by decide +kernel
theorem dX6_wall_108 : decode cX6_wall 108 = .ok (.istore_n 3, 1) := by decide +kernel
theorem dX6_wall_109 : decode cX6_wall 109 = .ok (.iload_n 3, 1) := by decide +kernel
theorem dX6_wall_110 : decode cX6_wall 110 = .ok (.iconst 3, 1) := by decide +kernel
theorem dX6_wall_111 : decode cX6_wall 111 = .ok (.if_icmp .ge 20, 3) := by decide +kernel
theorem dX6_wall_114 : decode cX6_wall 114 = .ok (.aload_n 0, 1) := by decide +kernel
theorem dX6_wall_115 : decode cX6_wall 115 = .ok (.getfield 38, 3) := by decide +kernel
theorem dX6_wall_118 : decode cX6_wall 118 = .ok (.bipush 120, 2) := by decide +kernel
theorem dX6_wall_120 : decode cX6_wall 120 = .ok (.iload_n 3, 1) := by decide +kernel
theorem dX6_wall_121 : decode cX6_wall 121 = .ok (.imul, 1) := by decide +kernel
theorem dX6_wall_122 : decode cX6_wall 122 = .ok (.bipush (-9), 2) := by decide +kernel
theorem dX6_wall_124 : decode cX6_wall 124 = .ok (.iastore, 1) := by decide +kernel
theorem dX6_wall_125 : decode cX6_wall 125 = .ok (.iinc 3 1, 3) := by decide +kernel
theorem dX6_wall_128 : decode cX6_wall 128 = .ok (.goto (-19), 3) := by decide +kernel
theorem dX6_wall_131 : decode cX6_wall 131 = .ok (.aload_n 0, 1) := by decide +kernel
theorem dX6_wall_132 : decode cX6_wall 132 = .ok (.getfield 129, 3) := by decide +kernel
theorem dX6_wall_135 : decode cX6_wall 135 = .ok (.ireturn, 1) := by decide +kernel
theorem dX6_isBrick_0 : decode cX6_isBrick 0 = .ok (.iload_n 1, 1) := by decide +kernel
theorem dX6_isBrick_1 : decode cX6_isBrick 1 = .ok (.iconst 0, 1) := by decide +kernel
theorem dX6_isBrick_2 : decode cX6_isBrick 2 = .ok (.aload_n 0, 1) := by decide +kernel
theorem dX6_isBrick_3 : decode cX6_isBrick 3 = .ok (.getfield 129, 3) := by decide +kernel
theorem dX6_isBrick_6 : decode cX6_isBrick 6 = .ok (.iconst 1, 1) := by decide +kernel
theorem dX6_isBrick_7 : decode cX6_isBrick 7 = .ok (.isub, 1) := by decide +kernel
theorem dX6_isBrick_8 : decode cX6_isBrick 8 = .ok (.invokestatic 51, 3) := by decide +kernel
theorem dX6_isBrick_11 : decode cX6_isBrick 11 = .ok (.ireturn, 1) := by decide +kernel
theorem dX6_isOne_0 : decode cX6_isOne 0 = .ok (.iload_n 0, 1) := by decide +kernel
theorem dX6_isOne_1 : decode cX6_isOne 1 = .ok (.iconst 0, 1) := by decide +kernel
theorem dX6_isOne_2 : decode cX6_isOne 2 = .ok (.iconst 5, 1) := by decide +kernel
theorem dX6_isOne_3 : decode cX6_isOne 3 = .ok (.invokestatic 51, 3) := by decide +kernel
theorem dX6_isOne_6 : decode cX6_isOne 6 = .ok (.ireturn, 1) := by decide +kernel
theorem dX6_isSet_0 : decode cX6_isSet 0 = .ok (.iload_n 1, 1) := by decide +kernel
theorem dX6_isSet_1 : decode cX6_isSet 1 = .ok (.iconst 0, 1) := by decide +kernel
theorem dX6_isSet_2 : decode cX6_isSet 2 = .ok (.iconst 1, 1) := by decide +kernel
theorem dX6_isSet_3 : decode cX6_isSet 3 = .ok (.aload_n 0, 1) := by decide +kernel
theorem dX6_isSet_4 : decode cX6_isSet 4 = .ok (.getfield 129, 3) := by decide +kernel
theorem dX6_isSet_7 : decode cX6_isSet 7 = .ok (.ishl, 1) := by decide +kernel
theorem dX6_isSet_8 : decode cX6_isSet 8 = .ok (.iconst 1, 1) := by decide +kernel
theorem dX6_isSet_9 : decode cX6_isSet 9 = .ok (.isub, 1) := by decide +kernel
theorem dX6_isSet_10 : decode cX6_isSet 10 = .ok (.invokestatic 51, 3) := by decide +kernel
theorem dX6_isSet_13 : decode cX6_isSet 13 = .ok (.ireturn, 1) := by decide +kernel
theorem dX6_brickOf_0 : decode cX6_brickOf 0 = .ok (.iload_n 2, 1) := by decide +kernel
theorem dX6_brickOf_1 : decode cX6_brickOf 1 = .ok (.iconst 5, 1) := by decide +kernel
theorem dX6_brickOf_2 : decode cX6_brickOf 2 = .ok (.if_icmp .gt 10, 3) := by decide +kernel
theorem dX6_brickOf_5 : decode cX6_brickOf 5 = .ok (.aload_n 0, 1) := by decide +kernel
theorem dX6_brickOf_6 : decode cX6_brickOf 6 = .ok (.iload_n 1, 1) := by decide +kernel
theorem dX6_brickOf_7 : decode cX6_brickOf 7 = .ok (.iload_n 2, 1) := by decide +kernel
theorem dX6_brickOf_8 : decode cX6_brickOf 8 = .ok (.invokevirtual 89, 3) := by decide +kernel
theorem dX6_brickOf_11 : decode cX6_brickOf 11 = .ok (.ireturn, 1) := by decide +kernel
theorem dX6_brickOf_12 : decode cX6_brickOf 12 = .ok (.iload_n 2, 1) := by decide +kernel
theorem dX6_brickOf_13 : decode cX6_brickOf 13 = .ok (.bipush 6, 2) := by decide +kernel
theorem dX6_brickOf_15 : decode cX6_brickOf 15 = .ok (.if_icmp .ne 22, 3) := by decide +kernel
theorem dX6_brickOf_18 : decode cX6_brickOf 18 = .ok (.aload_n 0, 1) := by decide +kernel
theorem dX6_brickOf_19 : decode cX6_brickOf 19 = .ok (.getfield 132, 3) := by decide +kernel
theorem dX6_brickOf_22 : decode cX6_brickOf 22 = .ok (.iload_n 1, 1) := by decide +kernel
theorem dX6_brickOf_23 : decode cX6_brickOf 23 = .ok (.invokestatic 150, 3) := by decide +kernel
theorem dX6_brickOf_26 : decode cX6_brickOf 26 = .ok (.ifCond .eq 7, 3) := by decide +kernel
theorem dX6_brickOf_29 : decode cX6_brickOf 29 = .ok (.iconst 1, 1) := by decide +kernel
theorem dX6_brickOf_30 : decode cX6_brickOf 30 = .ok (.goto 56, 3) := by decide +kernel
theorem dX6_brickOf_33 : decode cX6_brickOf 33 = .ok (.iconst 0, 1) := by decide +kernel
theorem dX6_brickOf_34 : decode cX6_brickOf 34 = .ok (.goto 52, 3) := by decide +kernel
theorem dX6_brickOf_37 : decode cX6_brickOf 37 = .ok (.iload_n 2, 1) := by decide +kernel
theorem dX6_brickOf_38 : decode cX6_brickOf 38 = .ok (.bipush 7, 2) := by decide +kernel
theorem dX6_brickOf_40 : decode cX6_brickOf 40 = .ok (.if_icmp .ne 39, 3) := by decide +kernel
theorem dX6_brickOf_43 : decode cX6_brickOf 43 = .ok (.aload_n 0, 1) := by decide +kernel
theorem dX6_brickOf_44 : decode cX6_brickOf 44 = .ok (.getfield 135, 3) := by decide +kernel
theorem dX6_brickOf_47 : decode cX6_brickOf 47 = .ok (.iload_n 1, 1) := by decide +kernel
theorem dX6_brickOf_48 : decode cX6_brickOf 48 = .ok (.invokestatic 150, 3) := by decide +kernel
theorem dX6_brickOf_51 : decode cX6_brickOf 51 = .ok (.ifCond .eq 7, 3) := by decide +kernel
theorem dX6_brickOf_54 : decode cX6_brickOf 54 = .ok (.iconst 1, 1) := by decide +kernel
theorem dX6_brickOf_55 : decode cX6_brickOf 55 = .ok (.goto 4, 3) := by decide +kernel
theorem dX6_brickOf_58 : decode cX6_brickOf 58 = .ok (.iconst 0, 1) := by decide +kernel
theorem dX6_brickOf_59 : decode cX6_brickOf 59 = .ok (.aload_n 0, 1) := by decide +kernel
theorem dX6_brickOf_60 : decode cX6_brickOf 60 = .ok (.getfield 138, 3) := by decide +kernel
theorem dX6_brickOf_63 : decode cX6_brickOf 63 = .ok (.iload_n 1, 1) := by decide +kernel
theorem dX6_brickOf_64 : decode cX6_brickOf 64 = .ok (.invokestatic 150, 3) := by decide +kernel
theorem dX6_brickOf_67 : decode cX6_brickOf 67 = .ok (.ifCond .eq 7, 3) := by decide +kernel
theorem dX6_brickOf_70 : decode cX6_brickOf 70 = .ok (.iconst 2, 1) := by decide +kernel
theorem dX6_brickOf_71 : decode cX6_brickOf 71 = .ok (.goto 4, 3) := by decide +kernel
theorem dX6_brickOf_74 : decode cX6_brickOf 74 = .ok (.iconst 0, 1) := by decide +kernel
theorem dX6_brickOf_75 : decode cX6_brickOf 75 = .ok (.iadd, 1) := by decide +kernel
theorem dX6_brickOf_76 : decode cX6_brickOf 76 = .ok (.goto 10, 3) := by decide +kernel
theorem dX6_brickOf_79 : decode cX6_brickOf 79 = .ok (.aload_n 0, 1) := by decide +kernel
theorem dX6_brickOf_80 : decode cX6_brickOf 80 = .ok (.iload_n 1, 1) := by decide +kernel
theorem dX6_brickOf_81 : decode cX6_brickOf 81 = .ok (.bipush 6, 2) := by decide +kernel
theorem dX6_brickOf_83 : decode cX6_brickOf 83 = .ok (.invokevirtual 89, 3) := by decide +kernel
theorem dX6_brickOf_86 : decode cX6_brickOf 86 = .ok (.ireturn, 1) := by decide +kernel
theorem dX6_brick_0 : decode cX6_brick 0 = .ok (.aload_n 0, 1) := by decide +kernel
theorem dX6_brick_1 : decode cX6_brick 1 = .ok (.iload_n 1, 1) := by decide +kernel
theorem dX6_brick_2 : decode cX6_brick 2 = .ok (.invokevirtual 153, 3) := by decide +kernel
theorem dX6_brick_5 : decode cX6_brick 5 = .ok (.ifCond .eq 27, 3) := by decide +kernel
theorem dX6_brick_8 : decode cX6_brick 8 = .ok (.iload_n 2, 1) := by decide +kernel
theorem dX6_brick_9 : decode cX6_brick 9 = .ok (.iconst 0, 1) := by decide +kernel
theorem dX6_brick_10 : decode cX6_brick 10 = .ok (.bipush 8, 2) := by decide +kernel
theorem dX6_brick_12 : decode cX6_brick 12 = .ok (.invokestatic 51, 3) := by decide +kernel
theorem dX6_brick_15 : decode cX6_brick 15 = .ok (.ifCond .eq 17, 3) := by decide +kernel
theorem dX6_brick_18 : decode cX6_brick 18 = .ok (.aload_n 0, 1) := by decide +kernel
theorem dX6_brick_19 : decode cX6_brick 19 = .ok (.aload_n 0, 1) := by decide +kernel
theorem dX6_brick_20 : decode cX6_brick 20 = .ok (.iload_n 1, 1) := by decide +kernel
theorem dX6_brick_21 : decode cX6_brick 21 = .ok (.iload_n 2, 1) := by decide +kernel
theorem dX6_brick_22 : decode cX6_brick 22 = .ok (.invokevirtual 156, 3) := by decide +kernel
theorem dX6_brick_25 : decode cX6_brick 25 = .ok (.iconst 1, 1) := by decide +kernel
theorem dX6_brick_26 : decode cX6_brick 26 = .ok (.invokevirtual 77, 3) := by decide +kernel
theorem dX6_brick_29 : decode cX6_brick 29 = .ok (.goto 4, 3) := by decide +kernel
theorem dX6_brick_32 : decode cX6_brick 32 = .ok (.iconst (-1), 1) := by decide +kernel
theorem dX6_brick_33 : decode cX6_brick 33 = .ok (.ireturn, 1) := by decide +kernel
theorem dX6_restsOn_0 : decode cX6_restsOn 0 = .ok (.iconst 0, 1) := by decide +kernel
theorem dX6_restsOn_1 : decode cX6_restsOn 1 = .ok (.istore_n 3, 1) := by decide +kernel
theorem dX6_restsOn_2 : decode cX6_restsOn 2 = .ok (.iconst 0, 1) := by decide +kernel
theorem dX6_restsOn_3 : decode cX6_restsOn 3 = .ok (.istore 4, 2) := by decide +kernel
theorem dX6_restsOn_5 : decode cX6_restsOn 5 = .ok (.iload 4, 2) := by decide +kernel
theorem dX6_restsOn_7 : decode cX6_restsOn 7 = .ok (.aload_n 0, 1) := by decide +kernel
theorem dX6_restsOn_8 : decode cX6_restsOn 8 = .ok (.iload_n 1, 1) := by decide +kernel
theorem dX6_restsOn_9 : decode cX6_restsOn 9 = .ok (.iconst 0, 1) := by decide +kernel
theorem dX6_restsOn_10 : decode cX6_restsOn 10 = .ok (.invokevirtual 89, 3) := by decide +kernel
theorem dX6_restsOn_13 : decode cX6_restsOn 13 = .ok (.invokestatic 92, 3) := by decide +kernel
theorem dX6_restsOn_16 : decode cX6_restsOn 16 = .ok (.if_icmp .ge 137, 3) := by decide +kernel
theorem dX6_restsOn_19 : decode cX6_restsOn 19 = .ok (.aload_n 0, 1) := by decide +kernel
theorem dX6_restsOn_20 : decode cX6_restsOn 20 = .ok (.iload_n 1, 1) := by decide +kernel
theorem dX6_restsOn_21 : decode cX6_restsOn 21 = .ok (.iconst 1, 1) := by decide +kernel
theorem dX6_restsOn_22 : decode cX6_restsOn 22 = .ok (.invokevirtual 89, 3) := by decide +kernel
theorem dX6_restsOn_25 : decode cX6_restsOn 25 = .ok (.ifCond .ne 7, 3) := by decide +kernel
theorem dX6_restsOn_28 : decode cX6_restsOn 28 = .ok (.iconst 1, 1) := by decide +kernel
theorem dX6_restsOn_29 : decode cX6_restsOn 29 = .ok (.goto 4, 3) := by decide +kernel
theorem dX6_restsOn_32 : decode cX6_restsOn 32 = .ok (.iconst 0, 1) := by decide +kernel
theorem dX6_restsOn_33 : decode cX6_restsOn 33 = .ok (.istore 5, 2) := by decide +kernel
theorem dX6_restsOn_35 : decode cX6_restsOn 35 = .ok (.iconst 0, 1) := by decide +kernel
theorem dX6_restsOn_36 : decode cX6_restsOn 36 = .ok (.istore 6, 2) := by decide +kernel
theorem dX6_restsOn_38 : decode cX6_restsOn 38 = .ok (.iload 6, 2) := by decide +kernel
theorem dX6_restsOn_40 : decode cX6_restsOn 40 = .ok (.aload_n 0, 1) := by decide +kernel
theorem dX6_restsOn_41 : decode cX6_restsOn 41 = .ok (.getfield 129, 3) := by decide +kernel
theorem dX6_restsOn_44 : decode cX6_restsOn 44 = .ok (.if_icmp .ge 87, 3) := by decide +kernel
theorem dX6_restsOn_47 : decode cX6_restsOn 47 = .ok (.aload_n 0, 1) := by decide +kernel
theorem dX6_restsOn_48 : decode cX6_restsOn 48 = .ok (.iload_n 1, 1) := by decide +kernel
theorem dX6_restsOn_49 : decode cX6_restsOn 49 = .ok (.iconst 2, 1) := by decide +kernel
theorem dX6_restsOn_50 : decode cX6_restsOn 50 = .ok (.invokevirtual 89, 3) := by decide +kernel
theorem dX6_restsOn_53 : decode cX6_restsOn 53 = .ok (.iload 4, 2) := by decide +kernel
theorem dX6_restsOn_55 : decode cX6_restsOn 55 = .ok (.iadd, 1) := by decide +kernel
theorem dX6_restsOn_56 : decode cX6_restsOn 56 = .ok (.aload_n 0, 1) := by decide +kernel
theorem dX6_restsOn_57 : decode cX6_restsOn 57 = .ok (.iload 6, 2) := by decide +kernel
theorem dX6_restsOn_59 : decode cX6_restsOn 59 = .ok (.iconst 2, 1) := by decide +kernel
theorem dX6_restsOn_60 : decode cX6_restsOn 60 = .ok (.invokevirtual 89, 3) := by decide +kernel
theorem dX6_restsOn_63 : decode cX6_restsOn 63 = .ok (.isub, 1) := by decide +kernel
theorem dX6_restsOn_64 : decode cX6_restsOn 64 = .ok (.istore 7, 2) := by decide +kernel
theorem dX6_restsOn_66 : decode cX6_restsOn 66 = .ok (.iload 5, 2) := by decide +kernel
theorem dX6_restsOn_68 : decode cX6_restsOn 68 = .ok (.ifCond .ne 50, 3) := by decide +kernel
theorem dX6_restsOn_71 : decode cX6_restsOn 71 = .ok (.iload_n 2, 1) := by decide +kernel
theorem dX6_restsOn_72 : decode cX6_restsOn 72 = .ok (.iload 6, 2) := by decide +kernel
theorem dX6_restsOn_74 : decode cX6_restsOn 74 = .ok (.invokestatic 150, 3) := by decide +kernel
theorem dX6_restsOn_77 : decode cX6_restsOn 77 = .ok (.ifCond .eq 45, 3) := by decide +kernel
theorem dX6_restsOn_80 : decode cX6_restsOn 80 = .ok (.aload_n 0, 1) := by decide +kernel
theorem dX6_restsOn_81 : decode cX6_restsOn 81 = .ok (.iload 6, 2) := by decide +kernel
theorem dX6_restsOn_83 : decode cX6_restsOn 83 = .ok (.iconst 1, 1) := by decide +kernel
theorem dX6_restsOn_84 : decode cX6_restsOn 84 = .ok (.invokevirtual 89, 3) := by decide +kernel
theorem dX6_restsOn_87 : decode cX6_restsOn 87 = .ok (.aload_n 0, 1) := by decide +kernel
theorem dX6_restsOn_88 : decode cX6_restsOn 88 = .ok (.iload_n 1, 1) := by decide +kernel
theorem dX6_restsOn_89 : decode cX6_restsOn 89 = .ok (.iconst 1, 1) := by decide +kernel
theorem dX6_restsOn_90 : decode cX6_restsOn 90 = .ok (.invokevirtual 89, 3) := by decide +kernel
theorem dX6_restsOn_93 : decode cX6_restsOn 93 = .ok (.iconst 1, 1) := by decide +kernel
theorem dX6_restsOn_94 : decode cX6_restsOn 94 = .ok (.isub, 1) := by decide +kernel
theorem dX6_restsOn_95 : decode cX6_restsOn 95 = .ok (.if_icmp .ne 27, 3) := by decide +kernel
theorem dX6_restsOn_98 : decode cX6_restsOn 98 = .ok (.iload 7, 2) := by decide +kernel
theorem dX6_restsOn_100 : decode cX6_restsOn 100 = .ok (.ifCond .lt 22, 3) := by decide +kernel
theorem dX6_restsOn_103 : decode cX6_restsOn 103 = .ok (.iload 7, 2) := by decide +kernel
theorem dX6_restsOn_105 : decode cX6_restsOn 105 = .ok (.aload_n 0, 1) := by decide +kernel
theorem dX6_restsOn_106 : decode cX6_restsOn 106 = .ok (.iload 6, 2) := by decide +kernel
theorem dX6_restsOn_108 : decode cX6_restsOn 108 = .ok (.iconst 0, 1) := by decide +kernel
theorem dX6_restsOn_109 : decode cX6_restsOn 109 = .ok (.invokevirtual 89, 3) := by decide +kernel
theorem dX6_restsOn_112 : decode cX6_restsOn 112 = .ok (.invokestatic 92, 3) := by decide +kernel
theorem dX6_restsOn_115 : decode cX6_restsOn 115 = .ok (.if_icmp .ge 7, 3) := by decide +kernel
theorem dX6_restsOn_118 : decode cX6_restsOn 118 = .ok (.iconst 1, 1) := by decide +kernel
theorem dX6_restsOn_119 : decode cX6_restsOn 119 = .ok (.goto 4, 3) := by decide +kernel
theorem dX6_restsOn_122 : decode cX6_restsOn 122 = .ok (.iconst 0, 1) := by decide +kernel
theorem dX6_restsOn_123 : decode cX6_restsOn 123 = .ok (.istore 5, 2) := by decide +kernel
theorem dX6_restsOn_125 : decode cX6_restsOn 125 = .ok (.iinc 6 1, 3) := by decide +kernel
theorem dX6_restsOn_128 : decode cX6_restsOn 128 = .ok (.goto (-90), 3) := by decide +kernel
theorem dX6_restsOn_131 : decode cX6_restsOn 131 = .ok (.iload_n 3, 1) := by decide +kernel
theorem dX6_restsOn_132 : decode cX6_restsOn 132 = .ok (.iload 5, 2) := by decide +kernel
theorem dX6_restsOn_134 : decode cX6_restsOn 134 = .ok (.ifCond .eq 10, 3) := by decide +kernel
theorem dX6_restsOn_137 : decode cX6_restsOn 137 = .ok (.iconst 1, 1) := by decide +kernel
theorem dX6_restsOn_138 : decode cX6_restsOn 138 = .ok (.iload 4, 2) := by decide +kernel
theorem dX6_restsOn_140 : decode cX6_restsOn 140 = .ok (.ishl, 1) := by decide +kernel
theorem dX6_restsOn_141 : decode cX6_restsOn 141 = .ok (.goto 4, 3) := by decide +kernel
theorem dX6_restsOn_144 : decode cX6_restsOn 144 = .ok (.iconst 0, 1) := by decide +kernel
theorem dX6_restsOn_145 : decode cX6_restsOn 145 = .ok (.ior, 1) := by decide +kernel
theorem dX6_restsOn_146 : decode cX6_restsOn 146 = .ok (.istore_n 3, 1) := by decide +kernel
theorem dX6_restsOn_147 : decode cX6_restsOn 147 = .ok (.iinc 4 1, 3) := by decide +kernel
theorem dX6_restsOn_150 : decode cX6_restsOn 150 = .ok (.goto (-145), 3) := by decide +kernel
theorem dX6_restsOn_153 : decode cX6_restsOn 153 = .ok (.iload_n 3, 1) := by decide +kernel
theorem dX6_restsOn_154 : decode cX6_restsOn 154 = .ok (.ireturn, 1) := by decide +kernel
theorem dX6_touches_0 : decode cX6_touches 0 = .ok (.aload_n 0, 1) := by decide +kernel
theorem dX6_touches_1 : decode cX6_touches 1 = .ok (.iload_n 1, 1) := by decide +kernel
theorem dX6_touches_2 : decode cX6_touches 2 = .ok (.iconst 1, 1) := by decide +kernel
theorem dX6_touches_3 : decode cX6_touches 3 = .ok (.invokevirtual 89, 3) := by decide +kernel
theorem dX6_touches_6 : decode cX6_touches 6 = .ok (.aload_n 0, 1) := by decide +kernel
theorem dX6_touches_7 : decode cX6_touches 7 = .ok (.iload_n 2, 1) := by decide +kernel
theorem dX6_touches_8 : decode cX6_touches 8 = .ok (.iconst 1, 1) := by decide +kernel
theorem dX6_touches_9 : decode cX6_touches 9 = .ok (.invokevirtual 89, 3) := by decide +kernel
theorem dX6_touches_12 : decode cX6_touches 12 = .ok (.if_icmp .ne 32, 3) := by decide +kernel
theorem dX6_touches_15 : decode cX6_touches 15 = .ok (.aload_n 0, 1) := by decide +kernel
theorem dX6_touches_16 : decode cX6_touches 16 = .ok (.iload_n 1, 1) := by decide +kernel
theorem dX6_touches_17 : decode cX6_touches 17 = .ok (.iconst 2, 1) := by decide +kernel
theorem dX6_touches_18 : decode cX6_touches 18 = .ok (.invokevirtual 89, 3) := by decide +kernel
theorem dX6_touches_21 : decode cX6_touches 21 = .ok (.aload_n 0, 1) := by decide +kernel
theorem dX6_touches_22 : decode cX6_touches 22 = .ok (.iload_n 1, 1) := by decide +kernel
theorem dX6_touches_23 : decode cX6_touches 23 = .ok (.iconst 0, 1) := by decide +kernel
theorem dX6_touches_24 : decode cX6_touches 24 = .ok (.invokevirtual 89, 3) := by decide +kernel
theorem dX6_touches_27 : decode cX6_touches 27 = .ok (.invokestatic 92, 3) := by decide +kernel
theorem dX6_touches_30 : decode cX6_touches 30 = .ok (.iadd, 1) := by decide +kernel
theorem dX6_touches_31 : decode cX6_touches 31 = .ok (.aload_n 0, 1) := by decide +kernel
theorem dX6_touches_32 : decode cX6_touches 32 = .ok (.iload_n 2, 1) := by decide +kernel
theorem dX6_touches_33 : decode cX6_touches 33 = .ok (.iconst 2, 1) := by decide +kernel
theorem dX6_touches_34 : decode cX6_touches 34 = .ok (.invokevirtual 89, 3) := by decide +kernel
theorem dX6_touches_37 : decode cX6_touches 37 = .ok (.if_icmp .ne 7, 3) := by decide +kernel
theorem dX6_touches_40 : decode cX6_touches 40 = .ok (.iconst 1, 1) := by decide +kernel
theorem dX6_touches_41 : decode cX6_touches 41 = .ok (.goto 4, 3) := by decide +kernel
theorem dX6_touches_44 : decode cX6_touches 44 = .ok (.iconst 0, 1) := by decide +kernel
theorem dX6_touches_45 : decode cX6_touches 45 = .ok (.ireturn, 1) := by decide +kernel
theorem dX6_standsBy_0 : decode cX6_standsBy 0 = .ok (.iload_n 3, 1) := by decide +kernel
theorem dX6_standsBy_1 : decode cX6_standsBy 1 = .ok (.iload_n 1, 1) := by decide +kernel
theorem dX6_standsBy_2 : decode cX6_standsBy 2 = .ok (.invokestatic 150, 3) := by decide +kernel
theorem dX6_standsBy_5 : decode cX6_standsBy 5 = .ok (.ifCond .eq 5, 3) := by decide +kernel
theorem dX6_standsBy_8 : decode cX6_standsBy 8 = .ok (.iconst 1, 1) := by decide +kernel
theorem dX6_standsBy_9 : decode cX6_standsBy 9 = .ok (.ireturn, 1) := by decide +kernel
theorem dX6_standsBy_10 : decode cX6_standsBy 10 = .ok (.aload_n 0, 1) := by decide +kernel
theorem dX6_standsBy_11 : decode cX6_standsBy 11 = .ok (.iload_n 1, 1) := by decide +kernel
theorem dX6_standsBy_12 : decode cX6_standsBy 12 = .ok (.iload_n 2, 1) := by decide +kernel
theorem dX6_standsBy_13 : decode cX6_standsBy 13 = .ok (.invokevirtual 159, 3) := by decide +kernel
theorem dX6_standsBy_16 : decode cX6_standsBy 16 = .ok (.istore 4, 2) := by decide +kernel
theorem dX6_standsBy_18 : decode cX6_standsBy 18 = .ok (.aload_n 0, 1) := by decide +kernel
theorem dX6_standsBy_19 : decode cX6_standsBy 19 = .ok (.iload_n 1, 1) := by decide +kernel
theorem dX6_standsBy_20 : decode cX6_standsBy 20 = .ok (.iconst 0, 1) := by decide +kernel
theorem dX6_standsBy_21 : decode cX6_standsBy 21 = .ok (.invokevirtual 89, 3) := by decide +kernel
theorem dX6_standsBy_24 : decode cX6_standsBy 24 = .ok (.istore 5, 2) := by decide +kernel
theorem dX6_standsBy_26 : decode cX6_standsBy 26 = .ok (.iload 5, 2) := by decide +kernel
theorem dX6_standsBy_28 : decode cX6_standsBy 28 = .ok (.iconst 4, 1) := by decide +kernel
theorem dX6_standsBy_29 : decode cX6_standsBy 29 = .ok (.if_icmp .ge 34, 3) := by decide +kernel
theorem dX6_standsBy_32 : decode cX6_standsBy 32 = .ok (.iload 5, 2) := by decide +kernel
theorem dX6_standsBy_34 : decode cX6_standsBy 34 = .ok (.iconst 1, 1) := by decide +kernel
theorem dX6_standsBy_35 : decode cX6_standsBy 35 = .ok (.if_icmp .ne 17, 3) := by decide +kernel
theorem dX6_standsBy_38 : decode cX6_standsBy 38 = .ok (.iload 4, 2) := by decide +kernel
theorem dX6_standsBy_40 : decode cX6_standsBy 40 = .ok (.iconst 3, 1) := by decide +kernel
theorem dX6_standsBy_41 : decode cX6_standsBy 41 = .ok (.if_icmp .ne 7, 3) := by decide +kernel
theorem dX6_standsBy_44 : decode cX6_standsBy 44 = .ok (.iconst 1, 1) := by decide +kernel
theorem dX6_standsBy_45 : decode cX6_standsBy 45 = .ok (.goto 17, 3) := by decide +kernel
theorem dX6_standsBy_48 : decode cX6_standsBy 48 = .ok (.iconst 0, 1) := by decide +kernel
theorem dX6_standsBy_49 : decode cX6_standsBy 49 = .ok (.goto 13, 3) := by decide +kernel
theorem dX6_standsBy_52 : decode cX6_standsBy 52 = .ok (.iload 4, 2) := by decide +kernel
theorem dX6_standsBy_54 : decode cX6_standsBy 54 = .ok (.ifCond .eq 7, 3) := by decide +kernel
theorem dX6_standsBy_57 : decode cX6_standsBy 57 = .ok (.iconst 1, 1) := by decide +kernel
theorem dX6_standsBy_58 : decode cX6_standsBy 58 = .ok (.goto 4, 3) := by decide +kernel
theorem dX6_standsBy_61 : decode cX6_standsBy 61 = .ok (.iconst 0, 1) := by decide +kernel
theorem dX6_standsBy_62 : decode cX6_standsBy 62 = .ok (.ireturn, 1) := by decide +kernel
theorem dX6_standsBy_63 : decode cX6_standsBy 63 = .ok (.iconst 0, 1) := by decide +kernel
theorem dX6_standsBy_64 : decode cX6_standsBy 64 = .ok (.istore 6, 2) := by decide +kernel
theorem dX6_standsBy_66 : decode cX6_standsBy 66 = .ok (.iconst 0, 1) := by decide +kernel
theorem dX6_standsBy_67 : decode cX6_standsBy 67 = .ok (.istore 7, 2) := by decide +kernel
theorem dX6_standsBy_69 : decode cX6_standsBy 69 = .ok (.iconst 0, 1) := by decide +kernel
theorem dX6_standsBy_70 : decode cX6_standsBy 70 = .ok (.istore 8, 2) := by decide +kernel
theorem dX6_standsBy_72 : decode cX6_standsBy 72 = .ok (.iload 8, 2) := by decide +kernel
theorem dX6_standsBy_74 : decode cX6_standsBy 74 = .ok (.aload_n 0, 1) := by decide +kernel
theorem dX6_standsBy_75 : decode cX6_standsBy 75 = .ok (.getfield 129, 3) := by decide +kernel
theorem dX6_standsBy_78 : decode cX6_standsBy 78 = .ok (.if_icmp .ge 96, 3) := by decide +kernel
theorem dX6_standsBy_81 : decode cX6_standsBy 81 = .ok (.iload 5, 2) := by decide +kernel
theorem dX6_standsBy_83 : decode cX6_standsBy 83 = .ok (.iconst 5, 1) := by decide +kernel
theorem dX6_standsBy_84 : decode cX6_standsBy 84 = .ok (.if_icmp .ne 90, 3) := by decide +kernel
theorem dX6_standsBy_87 : decode cX6_standsBy 87 = .ok (.iload_n 2, 1) := by decide +kernel
theorem dX6_standsBy_88 : decode cX6_standsBy 88 = .ok (.iload 8, 2) := by decide +kernel
theorem dX6_standsBy_90 : decode cX6_standsBy 90 = .ok (.invokestatic 150, 3) := by decide +kernel
theorem dX6_standsBy_93 : decode cX6_standsBy 93 = .ok (.ifCond .eq 18, 3) := by decide +kernel
theorem dX6_standsBy_96 : decode cX6_standsBy 96 = .ok (.aload_n 0, 1) := by decide +kernel
theorem dX6_standsBy_97 : decode cX6_standsBy 97 = .ok (.iload 8, 2) := by decide +kernel
theorem dX6_standsBy_99 : decode cX6_standsBy 99 = .ok (.iconst 0, 1) := by decide +kernel
theorem dX6_standsBy_100 : decode cX6_standsBy 100 = .ok (.invokevirtual 89, 3) := by decide +kernel
theorem dX6_standsBy_103 : decode cX6_standsBy 103 = .ok (.iconst 5, 1) := by decide +kernel
theorem dX6_standsBy_104 : decode cX6_standsBy 104 = .ok (.if_icmp .eq 7, 3) := by decide +kernel
theorem dX6_standsBy_107 : decode cX6_standsBy 107 = .ok (.iconst 1, 1) := by decide +kernel
theorem dX6_standsBy_108 : decode cX6_standsBy 108 = .ok (.goto 4, 3) := by decide +kernel
theorem dX6_standsBy_111 : decode cX6_standsBy 111 = .ok (.iconst 0, 1) := by decide +kernel
theorem dX6_standsBy_112 : decode cX6_standsBy 112 = .ok (.istore 9, 2) := by decide +kernel
theorem dX6_standsBy_114 : decode cX6_standsBy 114 = .ok (.iload 6, 2) := by decide +kernel
theorem dX6_standsBy_116 : decode cX6_standsBy 116 = .ok (.ifCond .ne 18, 3) := by decide +kernel
theorem dX6_standsBy_119 : decode cX6_standsBy 119 = .ok (.iload 9, 2) := by decide +kernel
theorem dX6_standsBy_121 : decode cX6_standsBy 121 = .ok (.ifCond .eq 17, 3) := by decide +kernel
theorem dX6_standsBy_124 : decode cX6_standsBy 124 = .ok (.aload_n 0, 1) := by decide +kernel
theorem dX6_standsBy_125 : decode cX6_standsBy 125 = .ok (.iload 8, 2) := by decide +kernel
theorem dX6_standsBy_127 : decode cX6_standsBy 127 = .ok (.iload_n 1, 1) := by decide +kernel
theorem dX6_standsBy_128 : decode cX6_standsBy 128 = .ok (.invokevirtual 162, 3) := by decide +kernel
theorem dX6_standsBy_131 : decode cX6_standsBy 131 = .ok (.ifCond .eq 7, 3) := by decide +kernel
theorem dX6_standsBy_134 : decode cX6_standsBy 134 = .ok (.iconst 1, 1) := by decide +kernel
theorem dX6_standsBy_135 : decode cX6_standsBy 135 = .ok (.goto 4, 3) := by decide +kernel
theorem dX6_standsBy_138 : decode cX6_standsBy 138 = .ok (.iconst 0, 1) := by decide +kernel
theorem dX6_standsBy_139 : decode cX6_standsBy 139 = .ok (.istore 6, 2) := by decide +kernel
theorem dX6_standsBy_141 : decode cX6_standsBy 141 = .ok (.iload 7, 2) := by decide +kernel
theorem dX6_standsBy_143 : decode cX6_standsBy 143 = .ok (.ifCond .ne 18, 3) := by decide +kernel
theorem dX6_standsBy_146 : decode cX6_standsBy 146 = .ok (.iload 9, 2) := by decide +kernel
theorem dX6_standsBy_148 : decode cX6_standsBy 148 = .ok (.ifCond .eq 17, 3) := by decide +kernel
theorem dX6_standsBy_151 : decode cX6_standsBy 151 = .ok (.aload_n 0, 1) := by decide +kernel
theorem dX6_standsBy_152 : decode cX6_standsBy 152 = .ok (.iload_n 1, 1) := by decide +kernel
theorem dX6_standsBy_153 : decode cX6_standsBy 153 = .ok (.iload 8, 2) := by decide +kernel
theorem dX6_standsBy_155 : decode cX6_standsBy 155 = .ok (.invokevirtual 162, 3) := by decide +kernel
theorem dX6_standsBy_158 : decode cX6_standsBy 158 = .ok (.ifCond .eq 7, 3) := by decide +kernel
theorem dX6_standsBy_161 : decode cX6_standsBy 161 = .ok (.iconst 1, 1) := by decide +kernel
theorem dX6_standsBy_162 : decode cX6_standsBy 162 = .ok (.goto 4, 3) := by decide +kernel
theorem dX6_standsBy_165 : decode cX6_standsBy 165 = .ok (.iconst 0, 1) := by decide +kernel
theorem dX6_standsBy_166 : decode cX6_standsBy 166 = .ok (.istore 7, 2) := by decide +kernel
theorem dX6_standsBy_168 : decode cX6_standsBy 168 = .ok (.iinc 8 1, 3) := by decide +kernel
theorem dX6_standsBy_171 : decode cX6_standsBy 171 = .ok (.goto (-99), 3) := by decide +kernel
theorem dX6_standsBy_174 : decode cX6_standsBy 174 = .ok (.iload 4, 2) := by decide +kernel
theorem dX6_standsBy_176 : decode cX6_standsBy 176 = .ok (.iconst 5, 1) := by decide +kernel
theorem dX6_standsBy_177 : decode cX6_standsBy 177 = .ok (.iand, 1) := by decide +kernel
theorem dX6_standsBy_178 : decode cX6_standsBy 178 = .ok (.iconst 5, 1) := by decide +kernel
theorem dX6_standsBy_179 : decode cX6_standsBy 179 = .ok (.if_icmp .eq 13, 3) := by decide +kernel
theorem dX6_standsBy_182 : decode cX6_standsBy 182 = .ok (.iload 6, 2) := by decide +kernel
theorem dX6_standsBy_184 : decode cX6_standsBy 184 = .ok (.ifCond .eq 12, 3) := by decide +kernel
theorem dX6_standsBy_187 : decode cX6_standsBy 187 = .ok (.iload 7, 2) := by decide +kernel
theorem dX6_standsBy_189 : decode cX6_standsBy 189 = .ok (.ifCond .eq 7, 3) := by decide +kernel
theorem dX6_standsBy_192 : decode cX6_standsBy 192 = .ok (.iconst 1, 1) := by decide +kernel
theorem dX6_standsBy_193 : decode cX6_standsBy 193 = .ok (.goto 4, 3) := by decide +kernel
theorem dX6_standsBy_196 : decode cX6_standsBy 196 = .ok (.iconst 0, 1) := by decide +kernel
theorem dX6_standsBy_197 : decode cX6_standsBy 197 = .ok (.ireturn, 1) := by decide +kernel
theorem dX6_standing_0 : decode cX6_standing 0 = .ok (.iconst 0, 1) := by decide +kernel
theorem dX6_standing_1 : decode cX6_standing 1 = .ok (.istore_n 3, 1) := by decide +kernel
theorem dX6_standing_2 : decode cX6_standing 2 = .ok (.iconst 0, 1) := by decide +kernel
theorem dX6_standing_3 : decode cX6_standing 3 = .ok (.istore 4, 2) := by decide +kernel
theorem dX6_standing_5 : decode cX6_standing 5 = .ok (.iload 4, 2) := by decide +kernel
theorem dX6_standing_7 : decode cX6_standing 7 = .ok (.bipush 6, 2) := by decide +kernel
theorem dX6_standing_9 : decode cX6_standing 9 = .ok (.if_icmp .ge 135, 3) := by decide +kernel
theorem dX6_standing_12 : decode cX6_standing 12 = .ok (.iconst 0, 1) := by decide +kernel
theorem dX6_standing_13 : decode cX6_standing 13 = .ok (.istore 5, 2) := by decide +kernel
theorem dX6_standing_15 : decode cX6_standing 15 = .ok (.iload 5, 2) := by decide +kernel
theorem dX6_standing_17 : decode cX6_standing 17 = .ok (.iconst 2, 1) := by decide +kernel
theorem dX6_standing_18 : decode cX6_standing 18 = .ok (.if_icmp .ge 120, 3) := by decide +kernel
theorem dX6_standing_21 : decode cX6_standing 21 = .ok (.iload_n 3, 1) := by decide +kernel
theorem dX6_standing_22 : decode cX6_standing 22 = .ok (.istore 6, 2) := by decide +kernel
theorem dX6_standing_24 : decode cX6_standing 24 = .ok (.iconst 0, 1) := by decide +kernel
theorem dX6_standing_25 : decode cX6_standing 25 = .ok (.istore 7, 2) := by decide +kernel
theorem dX6_standing_27 : decode cX6_standing 27 = .ok (.iload 7, 2) := by decide +kernel
theorem dX6_standing_29 : decode cX6_standing 29 = .ok (.aload_n 0, 1) := by decide +kernel
theorem dX6_standing_30 : decode cX6_standing 30 = .ok (.getfield 129, 3) := by decide +kernel
theorem dX6_standing_33 : decode cX6_standing 33 = .ok (.if_icmp .ge 96, 3) := by decide +kernel
theorem dX6_standing_36 : decode cX6_standing 36 = .ok (.iload_n 1, 1) := by decide +kernel
theorem dX6_standing_37 : decode cX6_standing 37 = .ok (.iload 7, 2) := by decide +kernel
theorem dX6_standing_39 : decode cX6_standing 39 = .ok (.invokestatic 150, 3) := by decide +kernel
theorem dX6_standing_42 : decode cX6_standing 42 = .ok (.ifCond .eq 49, 3) := by decide +kernel
theorem dX6_standing_45 : decode cX6_standing 45 = .ok (.aload_n 0, 1) := by decide +kernel
theorem dX6_standing_46 : decode cX6_standing 46 = .ok (.iload 7, 2) := by decide +kernel
theorem dX6_standing_48 : decode cX6_standing 48 = .ok (.iconst 1, 1) := by decide +kernel
theorem dX6_standing_49 : decode cX6_standing 49 = .ok (.invokevirtual 89, 3) := by decide +kernel
theorem dX6_standing_52 : decode cX6_standing 52 = .ok (.iload 4, 2) := by decide +kernel
theorem dX6_standing_54 : decode cX6_standing 54 = .ok (.if_icmp .ne 37, 3) := by decide +kernel
theorem dX6_standing_57 : decode cX6_standing 57 = .ok (.aload_n 0, 1) := by decide +kernel
theorem dX6_standing_58 : decode cX6_standing 58 = .ok (.iload 7, 2) := by decide +kernel
theorem dX6_standing_60 : decode cX6_standing 60 = .ok (.iconst 0, 1) := by decide +kernel
theorem dX6_standing_61 : decode cX6_standing 61 = .ok (.invokevirtual 89, 3) := by decide +kernel
theorem dX6_standing_64 : decode cX6_standing 64 = .ok (.iconst 5, 1) := by decide +kernel
theorem dX6_standing_65 : decode cX6_standing 65 = .ok (.if_icmp .ne 7, 3) := by decide +kernel
theorem dX6_standing_68 : decode cX6_standing 68 = .ok (.iconst 1, 1) := by decide +kernel
theorem dX6_standing_69 : decode cX6_standing 69 = .ok (.goto 4, 3) := by decide +kernel
theorem dX6_standing_72 : decode cX6_standing 72 = .ok (.iconst 0, 1) := by decide +kernel
theorem dX6_standing_73 : decode cX6_standing 73 = .ok (.iload 5, 2) := by decide +kernel
theorem dX6_standing_75 : decode cX6_standing 75 = .ok (.iconst 1, 1) := by decide +kernel
theorem dX6_standing_76 : decode cX6_standing 76 = .ok (.if_icmp .ne 7, 3) := by decide +kernel
theorem dX6_standing_79 : decode cX6_standing 79 = .ok (.iconst 1, 1) := by decide +kernel
theorem dX6_standing_80 : decode cX6_standing 80 = .ok (.goto 4, 3) := by decide +kernel
theorem dX6_standing_83 : decode cX6_standing 83 = .ok (.iconst 0, 1) := by decide +kernel
theorem dX6_standing_84 : decode cX6_standing 84 = .ok (.if_icmp .ne 7, 3) := by decide +kernel
theorem dX6_standing_87 : decode cX6_standing 87 = .ok (.iconst 1, 1) := by decide +kernel
theorem dX6_standing_88 : decode cX6_standing 88 = .ok (.goto 4, 3) := by decide +kernel
theorem dX6_standing_91 : decode cX6_standing 91 = .ok (.iconst 0, 1) := by decide +kernel
theorem dX6_standing_92 : decode cX6_standing 92 = .ok (.istore 8, 2) := by decide +kernel
theorem dX6_standing_94 : decode cX6_standing 94 = .ok (.iload 6, 2) := by decide +kernel
theorem dX6_standing_96 : decode cX6_standing 96 = .ok (.iload 8, 2) := by decide +kernel
theorem dX6_standing_98 : decode cX6_standing 98 = .ok (.ifCond .eq 21, 3) := by decide +kernel
theorem dX6_standing_101 : decode cX6_standing 101 = .ok (.aload_n 0, 1) := by decide +kernel
theorem dX6_standing_102 : decode cX6_standing 102 = .ok (.iload 7, 2) := by decide +kernel
theorem dX6_standing_104 : decode cX6_standing 104 = .ok (.iload_n 3, 1) := by decide +kernel
theorem dX6_standing_105 : decode cX6_standing 105 = .ok (.iload_n 2, 1) := by decide +kernel
theorem dX6_standing_106 : decode cX6_standing 106 = .ok (.invokevirtual 165, 3) := by decide +kernel
theorem dX6_standing_109 : decode cX6_standing 109 = .ok (.ifCond .eq 10, 3) := by decide +kernel
theorem dX6_standing_112 : decode cX6_standing 112 = .ok (.iconst 1, 1) := by decide +kernel
theorem dX6_standing_113 : decode cX6_standing 113 = .ok (.iload 7, 2) := by decide +kernel
theorem dX6_standing_115 : decode cX6_standing 115 = .ok (.ishl, 1) := by decide +kernel
theorem dX6_standing_116 : decode cX6_standing 116 = .ok (.goto 4, 3) := by decide +kernel
theorem dX6_standing_119 : decode cX6_standing 119 = .ok (.iconst 0, 1) := by decide +kernel
theorem dX6_standing_120 : decode cX6_standing 120 = .ok (.ior, 1) := by decide +kernel
theorem dX6_standing_121 : decode cX6_standing 121 = .ok (.istore 6, 2) := by decide +kernel
theorem dX6_standing_123 : decode cX6_standing 123 = .ok (.iinc 7 1, 3) := by decide +kernel
theorem dX6_standing_126 : decode cX6_standing 126 = .ok (.goto (-99), 3) := by decide +kernel
theorem dX6_standing_129 : decode cX6_standing 129 = .ok (.iload 6, 2) := by decide +kernel
theorem dX6_standing_131 : decode cX6_standing 131 = .ok (.istore_n 3, 1) := by decide +kernel
theorem dX6_standing_132 : decode cX6_standing 132 = .ok (.iinc 5 1, 3) := by decide +kernel
theorem dX6_standing_135 : decode cX6_standing 135 = .ok (.goto (-120), 3) := by decide +kernel
theorem dX6_standing_138 : decode cX6_standing 138 = .ok (.iinc 4 1, 3) := by decide +kernel
theorem dX6_standing_141 : decode cX6_standing 141 = .ok (.goto (-136), 3) := by decide +kernel
theorem dX6_standing_144 : decode cX6_standing 144 = .ok (.iload_n 3, 1) := by decide +kernel
theorem dX6_standing_145 : decode cX6_standing 145 = .ok (.ireturn, 1) := by decide +kernel
theorem dX6_standingNow_0 : decode cX6_standingNow 0 = .ok (.aload_n 0, 1) := by decide +kernel
theorem dX6_standingNow_1 : decode cX6_standingNow 1 = .ok (.aload_n 0, 1) := by decide +kernel
theorem dX6_standingNow_2 : decode cX6_standingNow 2 = .ok (.getfield 132, 3) := by decide +kernel
theorem dX6_standingNow_5 : decode cX6_standingNow 5 = .ok (.iload_n 1, 1) := by decide +kernel
theorem dX6_standingNow_6 : decode cX6_standingNow 6 = .ok (.iconst (-1), 1) := by decide +kernel
theorem dX6_standingNow_7 : decode cX6_standingNow 7 = .ok (.ixor, 1) := by decide +kernel
theorem dX6_standingNow_8 : decode cX6_standingNow 8 = .ok (.iand, 1) := by decide +kernel
theorem dX6_standingNow_9 : decode cX6_standingNow 9 = .ok (.aload_n 0, 1) := by decide +kernel
theorem dX6_standingNow_10 : decode cX6_standingNow 10 = .ok (.getfield 135, 3) := by decide +kernel
theorem dX6_standingNow_13 : decode cX6_standingNow 13 = .ok (.aload_n 0, 1) := by decide +kernel
theorem dX6_standingNow_14 : decode cX6_standingNow 14 = .ok (.getfield 138, 3) := by decide +kernel
theorem dX6_standingNow_17 : decode cX6_standingNow 17 = .ok (.ior, 1) := by decide +kernel
theorem dX6_standingNow_18 : decode cX6_standingNow 18 = .ok (.invokevirtual 168, 3) := by decide +kernel
theorem dX6_standingNow_21 : decode cX6_standingNow 21 = .ok (.ireturn, 1) := by decide +kernel
theorem dX6_fallsOf_0 : decode cX6_fallsOf 0 = .ok (.aload_n 0, 1) := by decide +kernel
theorem dX6_fallsOf_1 : decode cX6_fallsOf 1 = .ok (.iconst 0, 1) := by decide +kernel
theorem dX6_fallsOf_2 : decode cX6_fallsOf 2 = .ok (.invokevirtual 171, 3) := by decide +kernel
theorem dX6_fallsOf_5 : decode cX6_fallsOf 5 = .ok (.aload_n 0, 1) := by decide +kernel
theorem dX6_fallsOf_6 : decode cX6_fallsOf 6 = .ok (.iload_n 1, 1) := by decide +kernel
theorem dX6_fallsOf_7 : decode cX6_fallsOf 7 = .ok (.invokevirtual 171, 3) := by decide +kernel
theorem dX6_fallsOf_10 : decode cX6_fallsOf 10 = .ok (.iconst (-1), 1) := by decide +kernel
theorem dX6_fallsOf_11 : decode cX6_fallsOf 11 = .ok (.ixor, 1) := by decide +kernel
theorem dX6_fallsOf_12 : decode cX6_fallsOf 12 = .ok (.iand, 1) := by decide +kernel
theorem dX6_fallsOf_13 : decode cX6_fallsOf 13 = .ok (.iload_n 1, 1) := by decide +kernel
theorem dX6_fallsOf_14 : decode cX6_fallsOf 14 = .ok (.iconst (-1), 1) := by decide +kernel
theorem dX6_fallsOf_15 : decode cX6_fallsOf 15 = .ok (.ixor, 1) := by decide +kernel
theorem dX6_fallsOf_16 : decode cX6_fallsOf 16 = .ok (.iand, 1) := by decide +kernel
theorem dX6_fallsOf_17 : decode cX6_fallsOf 17 = .ok (.ireturn, 1) := by decide +kernel
theorem dX6_askedIn_0 : decode cX6_askedIn 0 = .ok (.aload_n 0, 1) := by decide +kernel
theorem dX6_askedIn_1 : decode cX6_askedIn 1 = .ok (.iload_n 1, 1) := by decide +kernel
theorem dX6_askedIn_2 : decode cX6_askedIn 2 = .ok (.invokevirtual 153, 3) := by decide +kernel
theorem dX6_askedIn_5 : decode cX6_askedIn 5 = .ok (.ifCond .ne 7, 3) := by decide +kernel
theorem dX6_askedIn_8 : decode cX6_askedIn 8 = .ok (.iconst (-1), 1) := by decide +kernel
theorem dX6_askedIn_9 : decode cX6_askedIn 9 = .ok (.goto 23, 3) := by decide +kernel
theorem dX6_askedIn_12 : decode cX6_askedIn 12 = .ok (.aload_n 0, 1) := by decide +kernel
theorem dX6_askedIn_13 : decode cX6_askedIn 13 = .ok (.getfield 132, 3) := by decide +kernel
theorem dX6_askedIn_16 : decode cX6_askedIn 16 = .ok (.iload_n 1, 1) := by decide +kernel
theorem dX6_askedIn_17 : decode cX6_askedIn 17 = .ok (.invokestatic 150, 3) := by decide +kernel
theorem dX6_askedIn_20 : decode cX6_askedIn 20 = .ok (.ifCond .eq 7, 3) := by decide +kernel
theorem dX6_askedIn_23 : decode cX6_askedIn 23 = .ok (.iconst 0, 1) := by decide +kernel
theorem dX6_askedIn_24 : decode cX6_askedIn 24 = .ok (.goto 8, 3) := by decide +kernel
theorem dX6_askedIn_27 : decode cX6_askedIn 27 = .ok (.aload_n 0, 1) := by decide +kernel
theorem dX6_askedIn_28 : decode cX6_askedIn 28 = .ok (.iconst 1, 1) := by decide +kernel
theorem dX6_askedIn_29 : decode cX6_askedIn 29 = .ok (.invokevirtual 59, 3) := by decide +kernel
theorem dX6_askedIn_32 : decode cX6_askedIn 32 = .ok (.ireturn, 1) := by decide +kernel
theorem dX6_marked_0 : decode cX6_marked 0 = .ok (.aload_n 0, 1) := by decide +kernel
theorem dX6_marked_1 : decode cX6_marked 1 = .ok (.iconst 0, 1) := by decide +kernel
theorem dX6_marked_2 : decode cX6_marked 2 = .ok (.invokevirtual 171, 3) := by decide +kernel
theorem dX6_marked_5 : decode cX6_marked 5 = .ok (.istore_n 3, 1) := by decide +kernel
theorem dX6_marked_6 : decode cX6_marked 6 = .ok (.bipush (-9), 2) := by decide +kernel
theorem dX6_marked_8 : decode cX6_marked 8 = .ok (.istore 4, 2) := by decide +kernel
theorem dX6_marked_10 : decode cX6_marked 10 = .ok (.iconst 0, 1) := by decide +kernel
theorem dX6_marked_11 : decode cX6_marked 11 = .ok (.istore 5, 2) := by decide +kernel
theorem dX6_marked_13 : decode cX6_marked 13 = .ok (.iload 5, 2) := by decide +kernel
theorem dX6_marked_15 : decode cX6_marked 15 = .ok (.iconst 3, 1) := by decide +kernel
theorem dX6_marked_16 : decode cX6_marked 16 = .ok (.if_icmp .ge 39, 3) := by decide +kernel
theorem dX6_marked_19 : decode cX6_marked 19 = .ok (.aload_n 0, 1) := by decide +kernel
theorem dX6_marked_20 : decode cX6_marked 20 = .ok (.iload_n 1, 1) := by decide +kernel
theorem dX6_marked_21 : decode cX6_marked 21 = .ok (.iconst 3, 1) := by decide +kernel
theorem dX6_marked_22 : decode cX6_marked 22 = .ok (.iload 5, 2) := by decide +kernel
theorem dX6_marked_24 : decode cX6_marked 24 = .ok (.iadd, 1) := by decide +kernel
theorem dX6_marked_25 : decode cX6_marked 25 = .ok (.invokevirtual 89, 3) := by decide +kernel
theorem dX6_marked_28 : decode cX6_marked 28 = .ok (.iload 4, 2) := by decide +kernel
theorem dX6_marked_30 : decode cX6_marked 30 = .ok (.if_icmp .le 15, 3) := by decide +kernel
theorem dX6_marked_33 : decode cX6_marked 33 = .ok (.aload_n 0, 1) := by decide +kernel
theorem dX6_marked_34 : decode cX6_marked 34 = .ok (.iload_n 1, 1) := by decide +kernel
theorem dX6_marked_35 : decode cX6_marked 35 = .ok (.iconst 3, 1) := by decide +kernel
theorem dX6_marked_36 : decode cX6_marked 36 = .ok (.iload 5, 2) := by decide +kernel
theorem dX6_marked_38 : decode cX6_marked 38 = .ok (.iadd, 1) := by decide +kernel
theorem dX6_marked_39 : decode cX6_marked 39 = .ok (.invokevirtual 89, 3) := by decide +kernel
theorem dX6_marked_42 : decode cX6_marked 42 = .ok (.goto 5, 3) := by decide +kernel
theorem dX6_marked_45 : decode cX6_marked 45 = .ok (.iload 4, 2) := by decide +kernel
theorem dX6_marked_47 : decode cX6_marked 47 = .ok (.istore 4, 2) := by decide +kernel
theorem dX6_marked_49 : decode cX6_marked 49 = .ok (.iinc 5 1, 3) := by decide +kernel
theorem dX6_marked_52 : decode cX6_marked 52 = .ok (.goto (-39), 3) := by decide +kernel
theorem dX6_marked_55 : decode cX6_marked 55 = .ok (.iconst 0, 1) := by decide +kernel
theorem dX6_marked_56 : decode cX6_marked 56 = .ok (.istore 5, 2) := by decide +kernel
theorem dX6_marked_58 : decode cX6_marked 58 = .ok (.iconst 0, 1) := by decide +kernel
theorem dX6_marked_59 : decode cX6_marked 59 = .ok (.istore 6, 2) := by decide +kernel
theorem dX6_marked_61 : decode cX6_marked 61 = .ok (.iload 6, 2) := by decide +kernel
theorem dX6_marked_63 : decode cX6_marked 63 = .ok (.aload_n 0, 1) := by decide +kernel
theorem dX6_marked_64 : decode cX6_marked 64 = .ok (.getfield 129, 3) := by decide +kernel
theorem dX6_marked_67 : decode cX6_marked 67 = .ok (.if_icmp .ge 48, 3) := by decide +kernel
theorem dX6_marked_70 : decode cX6_marked 70 = .ok (.iload 5, 2) := by decide +kernel
theorem dX6_marked_72 : decode cX6_marked 72 = .ok (.iload_n 3, 1) := by decide +kernel
theorem dX6_marked_73 : decode cX6_marked 73 = .ok (.iload 6, 2) := by decide +kernel
theorem dX6_marked_75 : decode cX6_marked 75 = .ok (.invokestatic 150, 3) := by decide +kernel
theorem dX6_marked_78 : decode cX6_marked 78 = .ok (.ifCond .eq 27, 3) := by decide +kernel
theorem dX6_marked_81 : decode cX6_marked 81 = .ok (.aload_n 0, 1) := by decide +kernel
theorem dX6_marked_82 : decode cX6_marked 82 = .ok (.iload 6, 2) := by decide +kernel
theorem dX6_marked_84 : decode cX6_marked 84 = .ok (.iload_n 1, 1) := by decide +kernel
theorem dX6_marked_85 : decode cX6_marked 85 = .ok (.invokevirtual 162, 3) := by decide +kernel
theorem dX6_marked_88 : decode cX6_marked 88 = .ok (.ifCond .ne 13, 3) := by decide +kernel
theorem dX6_marked_91 : decode cX6_marked 91 = .ok (.aload_n 0, 1) := by decide +kernel
theorem dX6_marked_92 : decode cX6_marked 92 = .ok (.iload_n 1, 1) := by decide +kernel
theorem dX6_marked_93 : decode cX6_marked 93 = .ok (.iload 6, 2) := by decide +kernel
theorem dX6_marked_95 : decode cX6_marked 95 = .ok (.invokevirtual 162, 3) := by decide +kernel
theorem dX6_marked_98 : decode cX6_marked 98 = .ok (.ifCond .eq 7, 3) := by decide +kernel
theorem dX6_marked_101 : decode cX6_marked 101 = .ok (.iconst 1, 1) := by decide +kernel
theorem dX6_marked_102 : decode cX6_marked 102 = .ok (.goto 4, 3) := by decide +kernel
theorem dX6_marked_105 : decode cX6_marked 105 = .ok (.iconst 0, 1) := by decide +kernel
theorem dX6_marked_106 : decode cX6_marked 106 = .ok (.iadd, 1) := by decide +kernel
theorem dX6_marked_107 : decode cX6_marked 107 = .ok (.istore 5, 2) := by decide +kernel
theorem dX6_marked_109 : decode cX6_marked 109 = .ok (.iinc 6 1, 3) := by decide +kernel
theorem dX6_marked_112 : decode cX6_marked 112 = .ok (.goto (-51), 3) := by decide +kernel
theorem dX6_marked_115 : decode cX6_marked 115 = .ok (.iload_n 2, 1) := by decide +kernel
theorem dX6_marked_116 : decode cX6_marked 116 = .ok (.tableswitch 63 1 4 #[32, 42, 49, 52], 32) := by decide +kernel
theorem dX6_marked_148 : decode cX6_marked 148 = .ok (.aload_n 0, 1) := by decide +kernel
theorem dX6_marked_149 : decode cX6_marked 149 = .ok (.iload_n 1, 1) := by decide +kernel
theorem dX6_marked_150 : decode cX6_marked 150 = .ok (.iload_n 3, 1) := by decide +kernel
theorem dX6_marked_151 : decode cX6_marked 151 = .ok (.invokevirtual 159, 3) := by decide +kernel
theorem dX6_marked_154 : decode cX6_marked 154 = .ok (.invokestatic 174, 3) := by decide +kernel
theorem dX6_marked_157 : decode cX6_marked 157 = .ok (.ireturn, 1) := by decide +kernel
theorem dX6_marked_158 : decode cX6_marked 158 = .ok (.aload_n 0, 1) := by decide +kernel
theorem dX6_marked_159 : decode cX6_marked 159 = .ok (.iload_n 1, 1) := by decide +kernel
theorem dX6_marked_160 : decode cX6_marked 160 = .ok (.iconst 4, 1) := by decide +kernel
theorem dX6_marked_161 : decode cX6_marked 161 = .ok (.invokevirtual 89, 3) := by decide +kernel
theorem dX6_marked_164 : decode cX6_marked 164 = .ok (.ireturn, 1) := by decide +kernel
theorem dX6_marked_165 : decode cX6_marked 165 = .ok (.iload 4, 2) := by decide +kernel
theorem dX6_marked_167 : decode cX6_marked 167 = .ok (.ireturn, 1) := by decide +kernel
theorem dX6_marked_168 : decode cX6_marked 168 = .ok (.aload_n 0, 1) := by decide +kernel
theorem dX6_marked_169 : decode cX6_marked 169 = .ok (.iload_n 1, 1) := by decide +kernel
theorem dX6_marked_170 : decode cX6_marked 170 = .ok (.iload_n 3, 1) := by decide +kernel
theorem dX6_marked_171 : decode cX6_marked 171 = .ok (.invokevirtual 159, 3) := by decide +kernel
theorem dX6_marked_174 : decode cX6_marked 174 = .ok (.iconst 1, 1) := by decide +kernel
theorem dX6_marked_175 : decode cX6_marked 175 = .ok (.ishr, 1) := by decide +kernel
theorem dX6_marked_176 : decode cX6_marked 176 = .ok (.iconst 1, 1) := by decide +kernel
theorem dX6_marked_177 : decode cX6_marked 177 = .ok (.iand, 1) := by decide +kernel
theorem dX6_marked_178 : decode cX6_marked 178 = .ok (.ireturn, 1) := by decide +kernel
theorem dX6_marked_179 : decode cX6_marked 179 = .ok (.iload 5, 2) := by decide +kernel
theorem dX6_marked_181 : decode cX6_marked 181 = .ok (.ireturn, 1) := by decide +kernel
theorem dX6_mark_0 : decode cX6_mark 0 = .ok (.aload_n 0, 1) := by decide +kernel
theorem dX6_mark_1 : decode cX6_mark 1 = .ok (.iload_n 1, 1) := by decide +kernel
theorem dX6_mark_2 : decode cX6_mark 2 = .ok (.invokevirtual 153, 3) := by decide +kernel
theorem dX6_mark_5 : decode cX6_mark 5 = .ok (.ifCond .eq 12, 3) := by decide +kernel
theorem dX6_mark_8 : decode cX6_mark 8 = .ok (.iload_n 2, 1) := by decide +kernel
theorem dX6_mark_9 : decode cX6_mark 9 = .ok (.iconst 1, 1) := by decide +kernel
theorem dX6_mark_10 : decode cX6_mark 10 = .ok (.iconst 5, 1) := by decide +kernel
theorem dX6_mark_11 : decode cX6_mark 11 = .ok (.invokestatic 51, 3) := by decide +kernel
theorem dX6_mark_14 : decode cX6_mark 14 = .ok (.ifCond .ne 5, 3) := by decide +kernel
theorem dX6_mark_17 : decode cX6_mark 17 = .ok (.iconst (-1), 1) := by decide +kernel
theorem dX6_mark_18 : decode cX6_mark 18 = .ok (.ireturn, 1) := by decide +kernel
theorem dX6_mark_19 : decode cX6_mark 19 = .ok (.aload_n 0, 1) := by decide +kernel
theorem dX6_mark_20 : decode cX6_mark 20 = .ok (.getfield 132, 3) := by decide +kernel
theorem dX6_mark_23 : decode cX6_mark 23 = .ok (.iload_n 1, 1) := by decide +kernel
theorem dX6_mark_24 : decode cX6_mark 24 = .ok (.invokestatic 150, 3) := by decide +kernel
theorem dX6_mark_27 : decode cX6_mark 27 = .ok (.ifCond .ne 9, 3) := by decide +kernel
theorem dX6_mark_30 : decode cX6_mark 30 = .ok (.aload_n 0, 1) := by decide +kernel
theorem dX6_mark_31 : decode cX6_mark 31 = .ok (.iconst 1, 1) := by decide +kernel
theorem dX6_mark_32 : decode cX6_mark 32 = .ok (.invokevirtual 59, 3) := by decide +kernel
theorem dX6_mark_35 : decode cX6_mark 35 = .ok (.ireturn, 1) := by decide +kernel
theorem dX6_mark_36 : decode cX6_mark 36 = .ok (.aload_n 0, 1) := by decide +kernel
theorem dX6_mark_37 : decode cX6_mark 37 = .ok (.iload_n 1, 1) := by decide +kernel
theorem dX6_mark_38 : decode cX6_mark 38 = .ok (.iconst 0, 1) := by decide +kernel
theorem dX6_mark_39 : decode cX6_mark 39 = .ok (.invokevirtual 89, 3) := by decide +kernel
theorem dX6_mark_42 : decode cX6_mark 42 = .ok (.iload_n 2, 1) := by decide +kernel
theorem dX6_mark_43 : decode cX6_mark 43 = .ok (.if_icmp .eq 18, 3) := by decide +kernel
theorem dX6_mark_46 : decode cX6_mark 46 = .ok (.iload_n 2, 1) := by decide +kernel
theorem dX6_mark_47 : decode cX6_mark 47 = .ok (.iconst 4, 1) := by decide +kernel
theorem dX6_mark_48 : decode cX6_mark 48 = .ok (.if_icmp .ne 17, 3) := by decide +kernel
theorem dX6_mark_51 : decode cX6_mark 51 = .ok (.aload_n 0, 1) := by decide +kernel
theorem dX6_mark_52 : decode cX6_mark 52 = .ok (.iload_n 1, 1) := by decide +kernel
theorem dX6_mark_53 : decode cX6_mark 53 = .ok (.iconst 0, 1) := by decide +kernel
theorem dX6_mark_54 : decode cX6_mark 54 = .ok (.invokevirtual 89, 3) := by decide +kernel
theorem dX6_mark_57 : decode cX6_mark 57 = .ok (.iconst 5, 1) := by decide +kernel
theorem dX6_mark_58 : decode cX6_mark 58 = .ok (.if_icmp .ne 7, 3) := by decide +kernel
theorem dX6_mark_61 : decode cX6_mark 61 = .ok (.iconst 1, 1) := by decide +kernel
theorem dX6_mark_62 : decode cX6_mark 62 = .ok (.goto 4, 3) := by decide +kernel
theorem dX6_mark_65 : decode cX6_mark 65 = .ok (.iconst 0, 1) := by decide +kernel
theorem dX6_mark_66 : decode cX6_mark 66 = .ok (.istore_n 3, 1) := by decide +kernel
theorem dX6_mark_67 : decode cX6_mark 67 = .ok (.iload_n 3, 1) := by decide +kernel
theorem dX6_mark_68 : decode cX6_mark 68 = .ok (.ifCond .eq 12, 3) := by decide +kernel
theorem dX6_mark_71 : decode cX6_mark 71 = .ok (.aload_n 0, 1) := by decide +kernel
theorem dX6_mark_72 : decode cX6_mark 72 = .ok (.iload_n 1, 1) := by decide +kernel
theorem dX6_mark_73 : decode cX6_mark 73 = .ok (.iload_n 2, 1) := by decide +kernel
theorem dX6_mark_74 : decode cX6_mark 74 = .ok (.invokevirtual 177, 3) := by decide +kernel
theorem dX6_mark_77 : decode cX6_mark 77 = .ok (.goto 8, 3) := by decide +kernel
theorem dX6_mark_80 : decode cX6_mark 80 = .ok (.aload_n 0, 1) := by decide +kernel
theorem dX6_mark_81 : decode cX6_mark 81 = .ok (.iconst 3, 1) := by decide +kernel
theorem dX6_mark_82 : decode cX6_mark 82 = .ok (.invokevirtual 59, 3) := by decide +kernel
theorem dX6_mark_85 : decode cX6_mark 85 = .ok (.ireturn, 1) := by decide +kernel
theorem dX6_yes_0 : decode cX6_yes 0 = .ok (.iload_n 1, 1) := by decide +kernel
theorem dX6_yes_1 : decode cX6_yes 1 = .ok (.invokestatic 180, 3) := by decide +kernel
theorem dX6_yes_4 : decode cX6_yes 4 = .ok (.ifCond .eq 12, 3) := by decide +kernel
theorem dX6_yes_7 : decode cX6_yes 7 = .ok (.iload_n 2, 1) := by decide +kernel
theorem dX6_yes_8 : decode cX6_yes 8 = .ok (.iconst 0, 1) := by decide +kernel
theorem dX6_yes_9 : decode cX6_yes 9 = .ok (.iconst 1, 1) := by decide +kernel
theorem dX6_yes_10 : decode cX6_yes 10 = .ok (.invokestatic 51, 3) := by decide +kernel
theorem dX6_yes_13 : decode cX6_yes 13 = .ok (.ifCond .ne 5, 3) := by decide +kernel
theorem dX6_yes_16 : decode cX6_yes 16 = .ok (.iconst (-1), 1) := by decide +kernel
theorem dX6_yes_17 : decode cX6_yes 17 = .ok (.ireturn, 1) := by decide +kernel
theorem dX6_yes_18 : decode cX6_yes 18 = .ok (.aload_n 0, 1) := by decide +kernel
theorem dX6_yes_19 : decode cX6_yes 19 = .ok (.getfield 141, 3) := by decide +kernel
theorem dX6_yes_22 : decode cX6_yes 22 = .ok (.iload_n 1, 1) := by decide +kernel
theorem dX6_yes_23 : decode cX6_yes 23 = .ok (.ishr, 1) := by decide +kernel
theorem dX6_yes_24 : decode cX6_yes 24 = .ok (.iconst 1, 1) := by decide +kernel
theorem dX6_yes_25 : decode cX6_yes 25 = .ok (.iand, 1) := by decide +kernel
theorem dX6_yes_26 : decode cX6_yes 26 = .ok (.istore_n 3, 1) := by decide +kernel
theorem dX6_yes_27 : decode cX6_yes 27 = .ok (.aload_n 0, 1) := by decide +kernel
theorem dX6_yes_28 : decode cX6_yes 28 = .ok (.iload_n 2, 1) := by decide +kernel
theorem dX6_yes_29 : decode cX6_yes 29 = .ok (.iconst 1, 1) := by decide +kernel
theorem dX6_yes_30 : decode cX6_yes 30 = .ok (.if_icmp .ne 14, 3) := by decide +kernel
theorem dX6_yes_33 : decode cX6_yes 33 = .ok (.aload_n 0, 1) := by decide +kernel
theorem dX6_yes_34 : decode cX6_yes 34 = .ok (.getfield 141, 3) := by decide +kernel
theorem dX6_yes_37 : decode cX6_yes 37 = .ok (.iconst 1, 1) := by decide +kernel
theorem dX6_yes_38 : decode cX6_yes 38 = .ok (.iload_n 1, 1) := by decide +kernel
theorem dX6_yes_39 : decode cX6_yes 39 = .ok (.ishl, 1) := by decide +kernel
theorem dX6_yes_40 : decode cX6_yes 40 = .ok (.ior, 1) := by decide +kernel
theorem dX6_yes_41 : decode cX6_yes 41 = .ok (.goto 13, 3) := by decide +kernel
theorem dX6_yes_44 : decode cX6_yes 44 = .ok (.aload_n 0, 1) := by decide +kernel
theorem dX6_yes_45 : decode cX6_yes 45 = .ok (.getfield 141, 3) := by decide +kernel
theorem dX6_yes_48 : decode cX6_yes 48 = .ok (.iconst 1, 1) := by decide +kernel
theorem dX6_yes_49 : decode cX6_yes 49 = .ok (.iload_n 1, 1) := by decide +kernel
theorem dX6_yes_50 : decode cX6_yes 50 = .ok (.ishl, 1) := by decide +kernel
theorem dX6_yes_51 : decode cX6_yes 51 = .ok (.iconst (-1), 1) := by decide +kernel
theorem dX6_yes_52 : decode cX6_yes 52 = .ok (.ixor, 1) := by decide +kernel
theorem dX6_yes_53 : decode cX6_yes 53 = .ok (.iand, 1) := by decide +kernel
theorem dX6_yes_54 : decode cX6_yes 54 = .ok (.putfield 141, 3) := by decide +kernel
theorem dX6_yes_57 : decode cX6_yes 57 = .ok (.iload_n 3, 1) := by decide +kernel
theorem dX6_yes_58 : decode cX6_yes 58 = .ok (.ireturn, 1) := by decide +kernel
theorem dX6_heir_0 : decode cX6_heir 0 = .ok (.iload_n 1, 1) := by decide +kernel
theorem dX6_heir_1 : decode cX6_heir 1 = .ok (.invokestatic 180, 3) := by decide +kernel
theorem dX6_heir_4 : decode cX6_heir 4 = .ok (.ifCond .eq 15, 3) := by decide +kernel
theorem dX6_heir_7 : decode cX6_heir 7 = .ok (.iload_n 2, 1) := by decide +kernel
theorem dX6_heir_8 : decode cX6_heir 8 = .ok (.invokestatic 180, 3) := by decide +kernel
theorem dX6_heir_11 : decode cX6_heir 11 = .ok (.ifCond .eq 8, 3) := by decide +kernel
theorem dX6_heir_14 : decode cX6_heir 14 = .ok (.iload_n 1, 1) := by decide +kernel
theorem dX6_heir_15 : decode cX6_heir 15 = .ok (.iload_n 2, 1) := by decide +kernel
theorem dX6_heir_16 : decode cX6_heir 16 = .ok (.if_icmp .ne 5, 3) := by decide +kernel
theorem dX6_heir_19 : decode cX6_heir 19 = .ok (.iconst (-1), 1) := by decide +kernel
theorem dX6_heir_20 : decode cX6_heir 20 = .ok (.ireturn, 1) := by decide +kernel
theorem dX6_heir_21 : decode cX6_heir 21 = .ok (.iconst 0, 1) := by decide +kernel
theorem dX6_heir_22 : decode cX6_heir 22 = .ok (.istore_n 3, 1) := by decide +kernel
theorem dX6_heir_23 : decode cX6_heir 23 = .ok (.iconst 0, 1) := by decide +kernel
theorem dX6_heir_24 : decode cX6_heir 24 = .ok (.istore 4, 2) := by decide +kernel
theorem dX6_heir_26 : decode cX6_heir 26 = .ok (.iload 4, 2) := by decide +kernel
theorem dX6_heir_28 : decode cX6_heir 28 = .ok (.aload_n 0, 1) := by decide +kernel
theorem dX6_heir_29 : decode cX6_heir 29 = .ok (.getfield 129, 3) := by decide +kernel
theorem dX6_heir_32 : decode cX6_heir 32 = .ok (.if_icmp .ge 84, 3) := by decide +kernel
theorem dX6_heir_35 : decode cX6_heir 35 = .ok (.iconst 0, 1) := by decide +kernel
theorem dX6_heir_36 : decode cX6_heir 36 = .ok (.istore 5, 2) := by decide +kernel
theorem dX6_heir_38 : decode cX6_heir 38 = .ok (.iload 5, 2) := by decide +kernel
theorem dX6_heir_40 : decode cX6_heir 40 = .ok (.iconst 3, 1) := by decide +kernel
theorem dX6_heir_41 : decode cX6_heir 41 = .ok (.if_icmp .ge 69, 3) := by decide +kernel
theorem dX6_heir_44 : decode cX6_heir 44 = .ok (.iload_n 3, 1) := by decide +kernel
theorem dX6_heir_45 : decode cX6_heir 45 = .ok (.aload_n 0, 1) := by decide +kernel
theorem dX6_heir_46 : decode cX6_heir 46 = .ok (.iload 4, 2) := by decide +kernel
theorem dX6_heir_48 : decode cX6_heir 48 = .ok (.iconst 3, 1) := by decide +kernel
theorem dX6_heir_49 : decode cX6_heir 49 = .ok (.iload 5, 2) := by decide +kernel
theorem dX6_heir_51 : decode cX6_heir 51 = .ok (.iadd, 1) := by decide +kernel
theorem dX6_heir_52 : decode cX6_heir 52 = .ok (.invokevirtual 89, 3) := by decide +kernel
theorem dX6_heir_55 : decode cX6_heir 55 = .ok (.iload_n 1, 1) := by decide +kernel
theorem dX6_heir_56 : decode cX6_heir 56 = .ok (.if_icmp .ne 7, 3) := by decide +kernel
theorem dX6_heir_59 : decode cX6_heir 59 = .ok (.iconst 1, 1) := by decide +kernel
theorem dX6_heir_60 : decode cX6_heir 60 = .ok (.goto 4, 3) := by decide +kernel
theorem dX6_heir_63 : decode cX6_heir 63 = .ok (.iconst 0, 1) := by decide +kernel
theorem dX6_heir_64 : decode cX6_heir 64 = .ok (.iadd, 1) := by decide +kernel
theorem dX6_heir_65 : decode cX6_heir 65 = .ok (.istore_n 3, 1) := by decide +kernel
theorem dX6_heir_66 : decode cX6_heir 66 = .ok (.aload_n 0, 1) := by decide +kernel
theorem dX6_heir_67 : decode cX6_heir 67 = .ok (.iload 4, 2) := by decide +kernel
theorem dX6_heir_69 : decode cX6_heir 69 = .ok (.iconst 3, 1) := by decide +kernel
theorem dX6_heir_70 : decode cX6_heir 70 = .ok (.iload 5, 2) := by decide +kernel
theorem dX6_heir_72 : decode cX6_heir 72 = .ok (.iadd, 1) := by decide +kernel
theorem dX6_heir_73 : decode cX6_heir 73 = .ok (.aload_n 0, 1) := by decide +kernel
theorem dX6_heir_74 : decode cX6_heir 74 = .ok (.iload 4, 2) := by decide +kernel
theorem dX6_heir_76 : decode cX6_heir 76 = .ok (.iconst 3, 1) := by decide +kernel
theorem dX6_heir_77 : decode cX6_heir 77 = .ok (.iload 5, 2) := by decide +kernel
theorem dX6_heir_79 : decode cX6_heir 79 = .ok (.iadd, 1) := by decide +kernel
theorem dX6_heir_80 : decode cX6_heir 80 = .ok (.invokevirtual 89, 3) := by decide +kernel
theorem dX6_heir_83 : decode cX6_heir 83 = .ok (.iload_n 1, 1) := by decide +kernel
theorem dX6_heir_84 : decode cX6_heir 84 = .ok (.if_icmp .ne 7, 3) := by decide +kernel
theorem dX6_heir_87 : decode cX6_heir 87 = .ok (.iload_n 2, 1) := by decide +kernel
theorem dX6_heir_88 : decode cX6_heir 88 = .ok (.goto 13, 3) := by decide +kernel
theorem dX6_heir_91 : decode cX6_heir 91 = .ok (.aload_n 0, 1) := by decide +kernel
theorem dX6_heir_92 : decode cX6_heir 92 = .ok (.iload 4, 2) := by decide +kernel
theorem dX6_heir_94 : decode cX6_heir 94 = .ok (.iconst 3, 1) := by decide +kernel
theorem dX6_heir_95 : decode cX6_heir 95 = .ok (.iload 5, 2) := by decide +kernel
theorem dX6_heir_97 : decode cX6_heir 97 = .ok (.iadd, 1) := by decide +kernel
theorem dX6_heir_98 : decode cX6_heir 98 = .ok (.invokevirtual 89, 3) := by decide +kernel
theorem dX6_heir_101 : decode cX6_heir 101 = .ok (.invokevirtual 101, 3) := by decide +kernel
theorem dX6_heir_104 : decode cX6_heir 104 = .ok (.iinc 5 1, 3) := by decide +kernel
theorem dX6_heir_107 : decode cX6_heir 107 = .ok (.goto (-69), 3) := by decide +kernel
theorem dX6_heir_110 : decode cX6_heir 110 = .ok (.iinc 4 1, 3) := by decide +kernel
theorem dX6_heir_113 : decode cX6_heir 113 = .ok (.goto (-87), 3) := by decide +kernel
theorem dX6_heir_116 : decode cX6_heir 116 = .ok (.iload_n 3, 1) := by decide +kernel
theorem dX6_heir_117 : decode cX6_heir 117 = .ok (.ireturn, 1) := by decide +kernel
theorem dX6_hang_0 : decode cX6_hang 0 = .ok (.aload_n 0, 1) := by decide +kernel
theorem dX6_hang_1 : decode cX6_hang 1 = .ok (.iload_n 1, 1) := by decide +kernel
theorem dX6_hang_2 : decode cX6_hang 2 = .ok (.invokevirtual 153, 3) := by decide +kernel
theorem dX6_hang_5 : decode cX6_hang 5 = .ok (.ifCond .eq 22, 3) := by decide +kernel
theorem dX6_hang_8 : decode cX6_hang 8 = .ok (.iload_n 2, 1) := by decide +kernel
theorem dX6_hang_9 : decode cX6_hang 9 = .ok (.bipush (-9), 2) := by decide +kernel
theorem dX6_hang_11 : decode cX6_hang 11 = .ok (.if_icmp .eq 18, 3) := by decide +kernel
theorem dX6_hang_14 : decode cX6_hang 14 = .ok (.aload_n 0, 1) := by decide +kernel
theorem dX6_hang_15 : decode cX6_hang 15 = .ok (.iload_n 2, 1) := by decide +kernel
theorem dX6_hang_16 : decode cX6_hang 16 = .ok (.invokevirtual 153, 3) := by decide +kernel
theorem dX6_hang_19 : decode cX6_hang 19 = .ok (.ifCond .eq 8, 3) := by decide +kernel
theorem dX6_hang_22 : decode cX6_hang 22 = .ok (.iload_n 2, 1) := by decide +kernel
theorem dX6_hang_23 : decode cX6_hang 23 = .ok (.iload_n 1, 1) := by decide +kernel
theorem dX6_hang_24 : decode cX6_hang 24 = .ok (.if_icmp .ne 5, 3) := by decide +kernel
theorem dX6_hang_27 : decode cX6_hang 27 = .ok (.iconst (-1), 1) := by decide +kernel
theorem dX6_hang_28 : decode cX6_hang 28 = .ok (.ireturn, 1) := by decide +kernel
theorem dX6_hang_29 : decode cX6_hang 29 = .ok (.aload_n 0, 1) := by decide +kernel
theorem dX6_hang_30 : decode cX6_hang 30 = .ok (.iload_n 1, 1) := by decide +kernel
theorem dX6_hang_31 : decode cX6_hang 31 = .ok (.bipush 6, 2) := by decide +kernel
theorem dX6_hang_33 : decode cX6_hang 33 = .ok (.invokevirtual 89, 3) := by decide +kernel
theorem dX6_hang_36 : decode cX6_hang 36 = .ok (.istore_n 3, 1) := by decide +kernel
theorem dX6_hang_37 : decode cX6_hang 37 = .ok (.aload_n 0, 1) := by decide +kernel
theorem dX6_hang_38 : decode cX6_hang 38 = .ok (.iload_n 1, 1) := by decide +kernel
theorem dX6_hang_39 : decode cX6_hang 39 = .ok (.bipush 6, 2) := by decide +kernel
theorem dX6_hang_41 : decode cX6_hang 41 = .ok (.iload_n 2, 1) := by decide +kernel
theorem dX6_hang_42 : decode cX6_hang 42 = .ok (.invokevirtual 101, 3) := by decide +kernel
theorem dX6_hang_45 : decode cX6_hang 45 = .ok (.iload_n 3, 1) := by decide +kernel
theorem dX6_hang_46 : decode cX6_hang 46 = .ok (.ireturn, 1) := by decide +kernel
theorem dX6_wedge_0 : decode cX6_wedge 0 = .ok (.aload_n 0, 1) := by decide +kernel
theorem dX6_wedge_1 : decode cX6_wedge 1 = .ok (.iload_n 1, 1) := by decide +kernel
theorem dX6_wedge_2 : decode cX6_wedge 2 = .ok (.invokevirtual 153, 3) := by decide +kernel
theorem dX6_wedge_5 : decode cX6_wedge 5 = .ok (.ifCond .eq 12, 3) := by decide +kernel
theorem dX6_wedge_8 : decode cX6_wedge 8 = .ok (.iload_n 2, 1) := by decide +kernel
theorem dX6_wedge_9 : decode cX6_wedge 9 = .ok (.iconst 0, 1) := by decide +kernel
theorem dX6_wedge_10 : decode cX6_wedge 10 = .ok (.iconst 1, 1) := by decide +kernel
theorem dX6_wedge_11 : decode cX6_wedge 11 = .ok (.invokestatic 51, 3) := by decide +kernel
theorem dX6_wedge_14 : decode cX6_wedge 14 = .ok (.ifCond .ne 5, 3) := by decide +kernel
theorem dX6_wedge_17 : decode cX6_wedge 17 = .ok (.iconst (-1), 1) := by decide +kernel
theorem dX6_wedge_18 : decode cX6_wedge 18 = .ok (.ireturn, 1) := by decide +kernel
theorem dX6_wedge_19 : decode cX6_wedge 19 = .ok (.aload_n 0, 1) := by decide +kernel
theorem dX6_wedge_20 : decode cX6_wedge 20 = .ok (.iload_n 1, 1) := by decide +kernel
theorem dX6_wedge_21 : decode cX6_wedge 21 = .ok (.invokevirtual 183, 3) := by decide +kernel
theorem dX6_wedge_24 : decode cX6_wedge 24 = .ok (.istore_n 3, 1) := by decide +kernel
theorem dX6_wedge_25 : decode cX6_wedge 25 = .ok (.iload_n 3, 1) := by decide +kernel
theorem dX6_wedge_26 : decode cX6_wedge 26 = .ok (.ifCond .ge 5, 3) := by decide +kernel
theorem dX6_wedge_29 : decode cX6_wedge 29 = .ok (.iload_n 3, 1) := by decide +kernel
theorem dX6_wedge_30 : decode cX6_wedge 30 = .ok (.ireturn, 1) := by decide +kernel
theorem dX6_wedge_31 : decode cX6_wedge 31 = .ok (.aload_n 0, 1) := by decide +kernel
theorem dX6_wedge_32 : decode cX6_wedge 32 = .ok (.getfield 135, 3) := by decide +kernel
theorem dX6_wedge_35 : decode cX6_wedge 35 = .ok (.iload_n 1, 1) := by decide +kernel
theorem dX6_wedge_36 : decode cX6_wedge 36 = .ok (.ishr, 1) := by decide +kernel
theorem dX6_wedge_37 : decode cX6_wedge 37 = .ok (.iconst 1, 1) := by decide +kernel
theorem dX6_wedge_38 : decode cX6_wedge 38 = .ok (.iand, 1) := by decide +kernel
theorem dX6_wedge_39 : decode cX6_wedge 39 = .ok (.iload_n 2, 1) := by decide +kernel
theorem dX6_wedge_40 : decode cX6_wedge 40 = .ok (.if_icmp .ne 6, 3) := by decide +kernel
theorem dX6_wedge_43 : decode cX6_wedge 43 = .ok (.bipush (-4), 2) := by decide +kernel
theorem dX6_wedge_45 : decode cX6_wedge 45 = .ok (.ireturn, 1) := by decide +kernel
theorem dX6_wedge_46 : decode cX6_wedge 46 = .ok (.aload_n 0, 1) := by decide +kernel
theorem dX6_wedge_47 : decode cX6_wedge 47 = .ok (.getfield 135, 3) := by decide +kernel
theorem dX6_wedge_50 : decode cX6_wedge 50 = .ok (.iconst 1, 1) := by decide +kernel
theorem dX6_wedge_51 : decode cX6_wedge 51 = .ok (.iload_n 1, 1) := by decide +kernel
theorem dX6_wedge_52 : decode cX6_wedge 52 = .ok (.ishl, 1) := by decide +kernel
theorem dX6_wedge_53 : decode cX6_wedge 53 = .ok (.ixor, 1) := by decide +kernel
theorem dX6_wedge_54 : decode cX6_wedge 54 = .ok (.istore 4, 2) := by decide +kernel
theorem dX6_wedge_56 : decode cX6_wedge 56 = .ok (.iload_n 2, 1) := by decide +kernel
theorem dX6_wedge_57 : decode cX6_wedge 57 = .ok (.ifCond .ne 32, 3) := by decide +kernel
theorem dX6_wedge_60 : decode cX6_wedge 60 = .ok (.aload_n 0, 1) := by decide +kernel
theorem dX6_wedge_61 : decode cX6_wedge 61 = .ok (.iconst 0, 1) := by decide +kernel
theorem dX6_wedge_62 : decode cX6_wedge 62 = .ok (.invokevirtual 171, 3) := by decide +kernel
theorem dX6_wedge_65 : decode cX6_wedge 65 = .ok (.aload_n 0, 1) := by decide +kernel
theorem dX6_wedge_66 : decode cX6_wedge 66 = .ok (.aload_n 0, 1) := by decide +kernel
theorem dX6_wedge_67 : decode cX6_wedge 67 = .ok (.getfield 132, 3) := by decide +kernel
theorem dX6_wedge_70 : decode cX6_wedge 70 = .ok (.iload 4, 2) := by decide +kernel
theorem dX6_wedge_72 : decode cX6_wedge 72 = .ok (.aload_n 0, 1) := by decide +kernel
theorem dX6_wedge_73 : decode cX6_wedge 73 = .ok (.getfield 138, 3) := by decide +kernel
theorem dX6_wedge_76 : decode cX6_wedge 76 = .ok (.ior, 1) := by decide +kernel
theorem dX6_wedge_77 : decode cX6_wedge 77 = .ok (.invokevirtual 168, 3) := by decide +kernel
theorem dX6_wedge_80 : decode cX6_wedge 80 = .ok (.iconst (-1), 1) := by decide +kernel
theorem dX6_wedge_81 : decode cX6_wedge 81 = .ok (.ixor, 1) := by decide +kernel
theorem dX6_wedge_82 : decode cX6_wedge 82 = .ok (.iand, 1) := by decide +kernel
theorem dX6_wedge_83 : decode cX6_wedge 83 = .ok (.ifCond .eq 6, 3) := by decide +kernel
theorem dX6_wedge_86 : decode cX6_wedge 86 = .ok (.bipush (-4), 2) := by decide +kernel
theorem dX6_wedge_88 : decode cX6_wedge 88 = .ok (.ireturn, 1) := by decide +kernel
theorem dX6_wedge_89 : decode cX6_wedge 89 = .ok (.iload_n 2, 1) := by decide +kernel
theorem dX6_wedge_90 : decode cX6_wedge 90 = .ok (.iconst 1, 1) := by decide +kernel
theorem dX6_wedge_91 : decode cX6_wedge 91 = .ok (.if_icmp .ne 17, 3) := by decide +kernel
theorem dX6_wedge_94 : decode cX6_wedge 94 = .ok (.aload_n 0, 1) := by decide +kernel
theorem dX6_wedge_95 : decode cX6_wedge 95 = .ok (.getfield 135, 3) := by decide +kernel
theorem dX6_wedge_98 : decode cX6_wedge 98 = .ok (.invokestatic 174, 3) := by decide +kernel
theorem dX6_wedge_101 : decode cX6_wedge 101 = .ok (.iconst 4, 1) := by decide +kernel
theorem dX6_wedge_102 : decode cX6_wedge 102 = .ok (.if_icmp .ne 6, 3) := by decide +kernel
theorem dX6_wedge_105 : decode cX6_wedge 105 = .ok (.bipush (-2), 2) := by decide +kernel
theorem dX6_wedge_107 : decode cX6_wedge 107 = .ok (.ireturn, 1) := by decide +kernel
theorem dX6_wedge_108 : decode cX6_wedge 108 = .ok (.aload_n 0, 1) := by decide +kernel
theorem dX6_wedge_109 : decode cX6_wedge 109 = .ok (.iload 4, 2) := by decide +kernel
theorem dX6_wedge_111 : decode cX6_wedge 111 = .ok (.putfield 135, 3) := by decide +kernel
theorem dX6_wedge_114 : decode cX6_wedge 114 = .ok (.aload_n 0, 1) := by decide +kernel
theorem dX6_wedge_115 : decode cX6_wedge 115 = .ok (.getfield 135, 3) := by decide +kernel
theorem dX6_wedge_118 : decode cX6_wedge 118 = .ok (.invokestatic 174, 3) := by decide +kernel
theorem dX6_wedge_121 : decode cX6_wedge 121 = .ok (.ireturn, 1) := by decide +kernel
theorem dX6_vine_0 : decode cX6_vine 0 = .ok (.aload_n 0, 1) := by decide +kernel
theorem dX6_vine_1 : decode cX6_vine 1 = .ok (.iload_n 1, 1) := by decide +kernel
theorem dX6_vine_2 : decode cX6_vine 2 = .ok (.invokevirtual 183, 3) := by decide +kernel
theorem dX6_vine_5 : decode cX6_vine 5 = .ok (.istore_n 2, 1) := by decide +kernel
theorem dX6_vine_6 : decode cX6_vine 6 = .ok (.iload_n 2, 1) := by decide +kernel
theorem dX6_vine_7 : decode cX6_vine 7 = .ok (.ifCond .ge 5, 3) := by decide +kernel
theorem dX6_vine_10 : decode cX6_vine 10 = .ok (.iload_n 2, 1) := by decide +kernel
theorem dX6_vine_11 : decode cX6_vine 11 = .ok (.ireturn, 1) := by decide +kernel
theorem dX6_vine_12 : decode cX6_vine 12 = .ok (.aload_n 0, 1) := by decide +kernel
theorem dX6_vine_13 : decode cX6_vine 13 = .ok (.getfield 138, 3) := by decide +kernel
theorem dX6_vine_16 : decode cX6_vine 16 = .ok (.iload_n 1, 1) := by decide +kernel
theorem dX6_vine_17 : decode cX6_vine 17 = .ok (.invokestatic 150, 3) := by decide +kernel
theorem dX6_vine_20 : decode cX6_vine 20 = .ok (.ifCond .eq 6, 3) := by decide +kernel
theorem dX6_vine_23 : decode cX6_vine 23 = .ok (.bipush (-4), 2) := by decide +kernel
theorem dX6_vine_25 : decode cX6_vine 25 = .ok (.ireturn, 1) := by decide +kernel
theorem dX6_vine_26 : decode cX6_vine 26 = .ok (.aload_n 0, 1) := by decide +kernel
theorem dX6_vine_27 : decode cX6_vine 27 = .ok (.dup, 1) := by decide +kernel
theorem dX6_vine_28 : decode cX6_vine 28 = .ok (.getfield 138, 3) := by decide +kernel
theorem dX6_vine_31 : decode cX6_vine 31 = .ok (.iconst 1, 1) := by decide +kernel
theorem dX6_vine_32 : decode cX6_vine 32 = .ok (.iload_n 1, 1) := by decide +kernel
theorem dX6_vine_33 : decode cX6_vine 33 = .ok (.ishl, 1) := by decide +kernel
theorem dX6_vine_34 : decode cX6_vine 34 = .ok (.ior, 1) := by decide +kernel
theorem dX6_vine_35 : decode cX6_vine 35 = .ok (.putfield 138, 3) := by decide +kernel
theorem dX6_vine_38 : decode cX6_vine 38 = .ok (.aload_n 0, 1) := by decide +kernel
theorem dX6_vine_39 : decode cX6_vine 39 = .ok (.getfield 138, 3) := by decide +kernel
theorem dX6_vine_42 : decode cX6_vine 42 = .ok (.invokestatic 174, 3) := by decide +kernel
theorem dX6_vine_45 : decode cX6_vine 45 = .ok (.ireturn, 1) := by decide +kernel
theorem dX6_stands_0 : decode cX6_stands 0 = .ok (.aload_n 0, 1) := by decide +kernel
theorem dX6_stands_1 : decode cX6_stands 1 = .ok (.iconst 0, 1) := by decide +kernel
theorem dX6_stands_2 : decode cX6_stands 2 = .ok (.invokevirtual 171, 3) := by decide +kernel
theorem dX6_stands_5 : decode cX6_stands 5 = .ok (.istore_n 1, 1) := by decide +kernel
theorem dX6_stands_6 : decode cX6_stands 6 = .ok (.aload_n 0, 1) := by decide +kernel
theorem dX6_stands_7 : decode cX6_stands 7 = .ok (.aload_n 0, 1) := by decide +kernel
theorem dX6_stands_8 : decode cX6_stands 8 = .ok (.getfield 132, 3) := by decide +kernel
theorem dX6_stands_11 : decode cX6_stands 11 = .ok (.iload_n 1, 1) := by decide +kernel
theorem dX6_stands_12 : decode cX6_stands 12 = .ok (.iconst (-1), 1) := by decide +kernel
theorem dX6_stands_13 : decode cX6_stands 13 = .ok (.ixor, 1) := by decide +kernel
theorem dX6_stands_14 : decode cX6_stands 14 = .ok (.iand, 1) := by decide +kernel
theorem dX6_stands_15 : decode cX6_stands 15 = .ok (.iload_n 1, 1) := by decide +kernel
theorem dX6_stands_16 : decode cX6_stands 16 = .ok (.invokevirtual 77, 3) := by decide +kernel
theorem dX6_stands_19 : decode cX6_stands 19 = .ok (.ireturn, 1) := by decide +kernel
theorem dX6_falls_0 : decode cX6_falls 0 = .ok (.aload_n 0, 1) := by decide +kernel
theorem dX6_falls_1 : decode cX6_falls 1 = .ok (.iload_n 1, 1) := by decide +kernel
theorem dX6_falls_2 : decode cX6_falls 2 = .ok (.invokevirtual 186, 3) := by decide +kernel
theorem dX6_falls_5 : decode cX6_falls 5 = .ok (.ifCond .ne 5, 3) := by decide +kernel
theorem dX6_falls_8 : decode cX6_falls 8 = .ok (.iconst (-1), 1) := by decide +kernel
theorem dX6_falls_9 : decode cX6_falls 9 = .ok (.ireturn, 1) := by decide +kernel
theorem dX6_falls_10 : decode cX6_falls 10 = .ok (.iload_n 1, 1) := by decide +kernel
theorem dX6_falls_11 : decode cX6_falls 11 = .ok (.aload_n 0, 1) := by decide +kernel
theorem dX6_falls_12 : decode cX6_falls 12 = .ok (.getfield 132, 3) := by decide +kernel
theorem dX6_falls_15 : decode cX6_falls 15 = .ok (.iconst (-1), 1) := by decide +kernel
theorem dX6_falls_16 : decode cX6_falls 16 = .ok (.ixor, 1) := by decide +kernel
theorem dX6_falls_17 : decode cX6_falls 17 = .ok (.iand, 1) := by decide +kernel
theorem dX6_falls_18 : decode cX6_falls 18 = .ok (.ifCond .eq 11, 3) := by decide +kernel
theorem dX6_falls_21 : decode cX6_falls 21 = .ok (.aload_n 0, 1) := by decide +kernel
theorem dX6_falls_22 : decode cX6_falls 22 = .ok (.iconst 1, 1) := by decide +kernel
theorem dX6_falls_23 : decode cX6_falls 23 = .ok (.invokevirtual 59, 3) := by decide +kernel
theorem dX6_falls_26 : decode cX6_falls 26 = .ok (.goto 8, 3) := by decide +kernel
theorem dX6_falls_29 : decode cX6_falls 29 = .ok (.aload_n 0, 1) := by decide +kernel
theorem dX6_falls_30 : decode cX6_falls 30 = .ok (.iload_n 1, 1) := by decide +kernel
theorem dX6_falls_31 : decode cX6_falls 31 = .ok (.invokevirtual 189, 3) := by decide +kernel
theorem dX6_falls_34 : decode cX6_falls 34 = .ok (.ireturn, 1) := by decide +kernel
theorem dX6_load_0 : decode cX6_load 0 = .ok (.aload_n 0, 1) := by decide +kernel
theorem dX6_load_1 : decode cX6_load 1 = .ok (.iload_n 1, 1) := by decide +kernel
theorem dX6_load_2 : decode cX6_load 2 = .ok (.invokevirtual 183, 3) := by decide +kernel
theorem dX6_load_5 : decode cX6_load 5 = .ok (.istore_n 2, 1) := by decide +kernel
theorem dX6_load_6 : decode cX6_load 6 = .ok (.iload_n 2, 1) := by decide +kernel
theorem dX6_load_7 : decode cX6_load 7 = .ok (.ifCond .ge 7, 3) := by decide +kernel
theorem dX6_load_10 : decode cX6_load 10 = .ok (.iload_n 2, 1) := by decide +kernel
theorem dX6_load_11 : decode cX6_load 11 = .ok (.goto 13, 3) := by decide +kernel
theorem dX6_load_14 : decode cX6_load 14 = .ok (.aload_n 0, 1) := by decide +kernel
theorem dX6_load_15 : decode cX6_load 15 = .ok (.iconst 1, 1) := by decide +kernel
theorem dX6_load_16 : decode cX6_load 16 = .ok (.iload_n 1, 1) := by decide +kernel
theorem dX6_load_17 : decode cX6_load 17 = .ok (.ishl, 1) := by decide +kernel
theorem dX6_load_18 : decode cX6_load 18 = .ok (.invokevirtual 189, 3) := by decide +kernel
theorem dX6_load_21 : decode cX6_load 21 = .ok (.invokestatic 174, 3) := by decide +kernel
theorem dX6_load_24 : decode cX6_load 24 = .ok (.ireturn, 1) := by decide +kernel
theorem dX6_great_0 : decode cX6_great 0 = .ok (.bipush (-9), 2) := by decide +kernel
theorem dX6_great_2 : decode cX6_great 2 = .ok (.istore_n 1, 1) := by decide +kernel
theorem dX6_great_3 : decode cX6_great 3 = .ok (.iconst (-1), 1) := by decide +kernel
theorem dX6_great_4 : decode cX6_great 4 = .ok (.istore_n 2, 1) := by decide +kernel
theorem dX6_great_5 : decode cX6_great 5 = .ok (.iconst 0, 1) := by decide +kernel
theorem dX6_great_6 : decode cX6_great 6 = .ok (.istore_n 3, 1) := by decide +kernel
theorem dX6_great_7 : decode cX6_great 7 = .ok (.iload_n 3, 1) := by decide +kernel
theorem dX6_great_8 : decode cX6_great 8 = .ok (.aload_n 0, 1) := by decide +kernel
theorem dX6_great_9 : decode cX6_great 9 = .ok (.getfield 129, 3) := by decide +kernel
theorem dX6_great_12 : decode cX6_great 12 = .ok (.if_icmp .ge 61, 3) := by decide +kernel
theorem dX6_great_15 : decode cX6_great 15 = .ok (.aload_n 0, 1) := by decide +kernel
theorem dX6_great_16 : decode cX6_great 16 = .ok (.getfield 132, 3) := by decide +kernel
theorem dX6_great_19 : decode cX6_great 19 = .ok (.iload_n 3, 1) := by decide +kernel
theorem dX6_great_20 : decode cX6_great 20 = .ok (.invokestatic 150, 3) := by decide +kernel
theorem dX6_great_23 : decode cX6_great 23 = .ok (.ifCond .eq 16, 3) := by decide +kernel
theorem dX6_great_26 : decode cX6_great 26 = .ok (.aload_n 0, 1) := by decide +kernel
theorem dX6_great_27 : decode cX6_great 27 = .ok (.iconst 1, 1) := by decide +kernel
theorem dX6_great_28 : decode cX6_great 28 = .ok (.iload_n 3, 1) := by decide +kernel
theorem dX6_great_29 : decode cX6_great 29 = .ok (.ishl, 1) := by decide +kernel
theorem dX6_great_30 : decode cX6_great 30 = .ok (.invokevirtual 189, 3) := by decide +kernel
theorem dX6_great_33 : decode cX6_great 33 = .ok (.invokestatic 174, 3) := by decide +kernel
theorem dX6_great_36 : decode cX6_great 36 = .ok (.goto 4, 3) := by decide +kernel
theorem dX6_great_39 : decode cX6_great 39 = .ok (.iconst (-1), 1) := by decide +kernel
theorem dX6_great_40 : decode cX6_great 40 = .ok (.istore 4, 2) := by decide +kernel
theorem dX6_great_42 : decode cX6_great 42 = .ok (.iload 4, 2) := by decide +kernel
theorem dX6_great_44 : decode cX6_great 44 = .ok (.iload_n 2, 1) := by decide +kernel
theorem dX6_great_45 : decode cX6_great 45 = .ok (.if_icmp .le 7, 3) := by decide +kernel
theorem dX6_great_48 : decode cX6_great 48 = .ok (.iload_n 3, 1) := by decide +kernel
theorem dX6_great_49 : decode cX6_great 49 = .ok (.goto 4, 3) := by decide +kernel
theorem dX6_great_52 : decode cX6_great 52 = .ok (.iload_n 1, 1) := by decide +kernel
theorem dX6_great_53 : decode cX6_great 53 = .ok (.istore_n 1, 1) := by decide +kernel
theorem dX6_great_54 : decode cX6_great 54 = .ok (.iload 4, 2) := by decide +kernel
theorem dX6_great_56 : decode cX6_great 56 = .ok (.iload_n 2, 1) := by decide +kernel
theorem dX6_great_57 : decode cX6_great 57 = .ok (.if_icmp .le 8, 3) := by decide +kernel
theorem dX6_great_60 : decode cX6_great 60 = .ok (.iload 4, 2) := by decide +kernel
theorem dX6_great_62 : decode cX6_great 62 = .ok (.goto 4, 3) := by decide +kernel
theorem dX6_great_65 : decode cX6_great 65 = .ok (.iload_n 2, 1) := by decide +kernel
theorem dX6_great_66 : decode cX6_great 66 = .ok (.istore_n 2, 1) := by decide +kernel
theorem dX6_great_67 : decode cX6_great 67 = .ok (.iinc 3 1, 3) := by decide +kernel
theorem dX6_great_70 : decode cX6_great 70 = .ok (.goto (-63), 3) := by decide +kernel
theorem dX6_great_73 : decode cX6_great 73 = .ok (.iload_n 1, 1) := by decide +kernel
theorem dX6_great_74 : decode cX6_great 74 = .ok (.bipush (-9), 2) := by decide +kernel
theorem dX6_great_76 : decode cX6_great 76 = .ok (.if_icmp .ne 8, 3) := by decide +kernel
theorem dX6_great_79 : decode cX6_great 79 = .ok (.bipush (-9), 2) := by decide +kernel
theorem dX6_great_81 : decode cX6_great 81 = .ok (.goto 9, 3) := by decide +kernel
theorem dX6_great_84 : decode cX6_great 84 = .ok (.aload_n 0, 1) := by decide +kernel
theorem dX6_great_85 : decode cX6_great 85 = .ok (.iload_n 2, 1) := by decide +kernel
theorem dX6_great_86 : decode cX6_great 86 = .ok (.iload_n 1, 1) := by decide +kernel
theorem dX6_great_87 : decode cX6_great 87 = .ok (.invokevirtual 77, 3) := by decide +kernel
theorem dX6_great_90 : decode cX6_great 90 = .ok (.ireturn, 1) := by decide +kernel
theorem dX6_marksOf_0 : decode cX6_marksOf 0 = .ok (.iconst 1, 1) := by decide +kernel
theorem dX6_marksOf_1 : decode cX6_marksOf 1 = .ok (.aload_n 0, 1) := by decide +kernel
theorem dX6_marksOf_2 : decode cX6_marksOf 2 = .ok (.iload_n 1, 1) := by decide +kernel
theorem dX6_marksOf_3 : decode cX6_marksOf 3 = .ok (.iconst 3, 1) := by decide +kernel
theorem dX6_marksOf_4 : decode cX6_marksOf 4 = .ok (.invokevirtual 89, 3) := by decide +kernel
theorem dX6_marksOf_7 : decode cX6_marksOf 7 = .ok (.ishl, 1) := by decide +kernel
theorem dX6_marksOf_8 : decode cX6_marksOf 8 = .ok (.istore_n 2, 1) := by decide +kernel
theorem dX6_marksOf_9 : decode cX6_marksOf 9 = .ok (.iconst 1, 1) := by decide +kernel
theorem dX6_marksOf_10 : decode cX6_marksOf 10 = .ok (.istore_n 3, 1) := by decide +kernel
theorem dX6_marksOf_11 : decode cX6_marksOf 11 = .ok (.iload_n 3, 1) := by decide +kernel
theorem dX6_marksOf_12 : decode cX6_marksOf 12 = .ok (.iconst 3, 1) := by decide +kernel
theorem dX6_marksOf_13 : decode cX6_marksOf 13 = .ok (.if_icmp .ge 49, 3) := by decide +kernel
theorem dX6_marksOf_16 : decode cX6_marksOf 16 = .ok (.aload_n 0, 1) := by decide +kernel
theorem dX6_marksOf_17 : decode cX6_marksOf 17 = .ok (.iload_n 1, 1) := by decide +kernel
theorem dX6_marksOf_18 : decode cX6_marksOf 18 = .ok (.iconst 0, 1) := by decide +kernel
theorem dX6_marksOf_19 : decode cX6_marksOf 19 = .ok (.invokevirtual 89, 3) := by decide +kernel
theorem dX6_marksOf_22 : decode cX6_marksOf 22 = .ok (.iconst 2, 1) := by decide +kernel
theorem dX6_marksOf_23 : decode cX6_marksOf 23 = .ok (.if_icmp .eq 39, 3) := by decide +kernel
theorem dX6_marksOf_26 : decode cX6_marksOf 26 = .ok (.iload_n 2, 1) := by decide +kernel
theorem dX6_marksOf_27 : decode cX6_marksOf 27 = .ok (.aload_n 0, 1) := by decide +kernel
theorem dX6_marksOf_28 : decode cX6_marksOf 28 = .ok (.iload_n 1, 1) := by decide +kernel
theorem dX6_marksOf_29 : decode cX6_marksOf 29 = .ok (.iconst 3, 1) := by decide +kernel
theorem dX6_marksOf_30 : decode cX6_marksOf 30 = .ok (.iload_n 3, 1) := by decide +kernel
theorem dX6_marksOf_31 : decode cX6_marksOf 31 = .ok (.iadd, 1) := by decide +kernel
theorem dX6_marksOf_32 : decode cX6_marksOf 32 = .ok (.invokevirtual 89, 3) := by decide +kernel
theorem dX6_marksOf_35 : decode cX6_marksOf 35 = .ok (.bipush (-9), 2) := by decide +kernel
theorem dX6_marksOf_37 : decode cX6_marksOf 37 = .ok (.if_icmp .ne 7, 3) := by decide +kernel
theorem dX6_marksOf_40 : decode cX6_marksOf 40 = .ok (.iconst 0, 1) := by decide +kernel
theorem dX6_marksOf_41 : decode cX6_marksOf 41 = .ok (.goto 13, 3) := by decide +kernel
theorem dX6_marksOf_44 : decode cX6_marksOf 44 = .ok (.iconst 1, 1) := by decide +kernel
theorem dX6_marksOf_45 : decode cX6_marksOf 45 = .ok (.aload_n 0, 1) := by decide +kernel
theorem dX6_marksOf_46 : decode cX6_marksOf 46 = .ok (.iload_n 1, 1) := by decide +kernel
theorem dX6_marksOf_47 : decode cX6_marksOf 47 = .ok (.iconst 3, 1) := by decide +kernel
theorem dX6_marksOf_48 : decode cX6_marksOf 48 = .ok (.iload_n 3, 1) := by decide +kernel
