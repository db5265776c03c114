theorem dX0_init_0 : decode cX0_init 0 = .ok (.aload_n 0, 1) := by decide +kernel
theorem dX0_init_1 : decode cX0_init 1 = .ok (.invokespecial 3, 3) := by decide +kernel
theorem dX0_init_4 : decode cX0_init 4 = .ok (.return_, 1) := by decide +kernel
theorem dX0_lieAt_0 : decode cX0_lieAt 0 = .ok (.aload_n 0, 1) := by decide +kernel
theorem dX0_lieAt_1 : decode cX0_lieAt 1 = .ok (.iload_n 1, 1) := by decide +kernel
theorem dX0_lieAt_2 : decode cX0_lieAt 2 = .ok (.putfield 9, 3) := by decide +kernel
theorem dX0_lieAt_5 : decode cX0_lieAt 5 = .ok (.aload_n 0, 1) := by decide +kernel
theorem dX0_lieAt_6 : decode cX0_lieAt 6 = .ok (.iload_n 2, 1) := by decide +kernel
theorem dX0_lieAt_7 : decode cX0_lieAt 7 = .ok (.putfield 15, 3) := by decide +kernel
theorem dX0_lieAt_10 : decode cX0_lieAt 10 = .ok (.aload_n 0, 1) := by decide +kernel
theorem dX0_lieAt_11 : decode cX0_lieAt 11 = .ok (.iload_n 3, 1) := by decide +kernel
theorem dX0_lieAt_12 : decode cX0_lieAt 12 = .ok (.putfield 18, 3) := by decide +kernel
theorem dX0_lieAt_15 : decode cX0_lieAt 15 = .ok (.aload_n 0, 1) := by decide +kernel
theorem dX0_lieAt_16 : decode cX0_lieAt 16 = .ok (.iload_n 1, 1) := by decide +kernel
theorem dX0_lieAt_17 : decode cX0_lieAt 17 = .ok (.iload_n 3, 1) := by decide +kernel
theorem dX0_lieAt_18 : decode cX0_lieAt 18 = .ok (.invokestatic 21, 3) := by decide +kernel
theorem dX0_lieAt_21 : decode cX0_lieAt 21 = .ok (.putfield 25, 3) := by decide +kernel
theorem dX0_lieAt_24 : decode cX0_lieAt 24 = .ok (.aload_n 0, 1) := by decide +kernel
theorem dX0_lieAt_25 : decode cX0_lieAt 25 = .ok (.bipush (-9), 2) := by decide +kernel
theorem dX0_lieAt_27 : decode cX0_lieAt 27 = .ok (.putfield 28, 3) := by decide +kernel
theorem dX0_lieAt_30 : decode cX0_lieAt 30 = .ok (.return_, 1) := by decide +kernel
theorem dX0_setMarks_0 : decode cX0_setMarks 0 = .ok (.aload_n 0, 1) := by decide +kernel
theorem dX0_setMarks_1 : decode cX0_setMarks 1 = .ok (.iload_n 1, 1) := by decide +kernel
theorem dX0_setMarks_2 : decode cX0_setMarks 2 = .ok (.putfield 31, 3) := by decide +kernel
theorem dX0_setMarks_5 : decode cX0_setMarks 5 = .ok (.aload_n 0, 1) := by decide +kernel
theorem dX0_setMarks_6 : decode cX0_setMarks 6 = .ok (.iload_n 2, 1) := by decide +kernel
theorem dX0_setMarks_7 : decode cX0_setMarks 7 = .ok (.putfield 34, 3) := by decide +kernel
theorem dX0_setMarks_10 : decode cX0_setMarks 10 = .ok (.aload_n 0, 1) := by decide +kernel
theorem dX0_setMarks_11 : decode cX0_setMarks 11 = .ok (.iload_n 3, 1) := by decide +kernel
theorem dX0_setMarks_12 : decode cX0_setMarks 12 = .ok (.putfield 37, 3) := by decide +kernel
theorem dX0_setMarks_15 : decode cX0_setMarks 15 = .ok (.return_, 1) := by decide +kernel
theorem dX0_become_0 : decode cX0_become 0 = .ok (.aload_n 0, 1) := by decide +kernel
theorem dX0_become_1 : decode cX0_become 1 = .ok (.aload_n 1, 1) := by decide +kernel
theorem dX0_become_2 : decode cX0_become 2 = .ok (.getfield 9, 3) := by decide +kernel
theorem dX0_become_5 : decode cX0_become 5 = .ok (.aload_n 1, 1) := by decide +kernel
theorem dX0_become_6 : decode cX0_become 6 = .ok (.getfield 15, 3) := by decide +kernel
theorem dX0_become_9 : decode cX0_become 9 = .ok (.aload_n 1, 1) := by decide +kernel
theorem dX0_become_10 : decode cX0_become 10 = .ok (.getfield 18, 3) := by decide +kernel
theorem dX0_become_13 : decode cX0_become 13 = .ok (.invokevirtual 40, 3) := by decide +kernel
theorem dX0_become_16 : decode cX0_become 16 = .ok (.aload_n 0, 1) := by decide +kernel
theorem dX0_become_17 : decode cX0_become 17 = .ok (.aload_n 1, 1) := by decide +kernel
theorem dX0_become_18 : decode cX0_become 18 = .ok (.getfield 31, 3) := by decide +kernel
theorem dX0_become_21 : decode cX0_become 21 = .ok (.aload_n 1, 1) := by decide +kernel
theorem dX0_become_22 : decode cX0_become 22 = .ok (.getfield 34, 3) := by decide +kernel
theorem dX0_become_25 : decode cX0_become 25 = .ok (.aload_n 1, 1) := by decide +kernel
theorem dX0_become_26 : decode cX0_become 26 = .ok (.getfield 37, 3) := by decide +kernel
theorem dX0_become_29 : decode cX0_become 29 = .ok (.invokevirtual 44, 3) := by decide +kernel
theorem dX0_become_32 : decode cX0_become 32 = .ok (.aload_n 0, 1) := by decide +kernel
theorem dX0_become_33 : decode cX0_become 33 = .ok (.aload_n 1, 1) := by decide +kernel
theorem dX0_become_34 : decode cX0_become 34 = .ok (.getfield 28, 3) := by decide +kernel
theorem dX0_become_37 : decode cX0_become 37 = .ok (.putfield 28, 3) := by decide +kernel
theorem dX0_become_40 : decode cX0_become 40 = .ok (.return_, 1) := by decide +kernel
theorem dX0_isBridge_0 : decode cX0_isBridge 0 = .ok (.aload_n 0, 1) := by decide +kernel
theorem dX0_isBridge_1 : decode cX0_isBridge 1 = .ok (.getfield 9, 3) := by decide +kernel
theorem dX0_isBridge_4 : decode cX0_isBridge 4 = .ok (.iconst 4, 1) := by decide +kernel
theorem dX0_isBridge_5 : decode cX0_isBridge 5 = .ok (.if_icmp .lt 7, 3) := by decide +kernel
theorem dX0_isBridge_8 : decode cX0_isBridge 8 = .ok (.iconst 1, 1) := by decide +kernel
theorem dX0_isBridge_9 : decode cX0_isBridge 9 = .ok (.goto 4, 3) := by decide +kernel
theorem dX0_isBridge_12 : decode cX0_isBridge 12 = .ok (.iconst 0, 1) := by decide +kernel
theorem dX0_isBridge_13 : decode cX0_isBridge 13 = .ok (.ireturn, 1) := by decide +kernel
theorem dX0_isOf_0 : decode cX0_isOf 0 = .ok (.aload_n 0, 1) := by decide +kernel
theorem dX0_isOf_1 : decode cX0_isOf 1 = .ok (.getfield 9, 3) := by decide +kernel
theorem dX0_isOf_4 : decode cX0_isOf 4 = .ok (.iload_n 1, 1) := by decide +kernel
theorem dX0_isOf_5 : decode cX0_isOf 5 = .ok (.if_icmp .eq 16, 3) := by decide +kernel
theorem dX0_isOf_8 : decode cX0_isOf 8 = .ok (.iload_n 1, 1) := by decide +kernel
theorem dX0_isOf_9 : decode cX0_isOf 9 = .ok (.iconst 4, 1) := by decide +kernel
theorem dX0_isOf_10 : decode cX0_isOf 10 = .ok (.if_icmp .ne 15, 3) := by decide +kernel
theorem dX0_isOf_13 : decode cX0_isOf 13 = .ok (.aload_n 0, 1) := by decide +kernel
theorem dX0_isOf_14 : decode cX0_isOf 14 = .ok (.getfield 9, 3) := by decide +kernel
theorem dX0_isOf_17 : decode cX0_isOf 17 = .ok (.iconst 5, 1) := by decide +kernel
theorem dX0_isOf_18 : decode cX0_isOf 18 = .ok (.if_icmp .ne 7, 3) := by decide +kernel
theorem dX0_isOf_21 : decode cX0_isOf 21 = .ok (.iconst 1, 1) := by decide +kernel
theorem dX0_isOf_22 : decode cX0_isOf 22 = .ok (.goto 4, 3) := by decide +kernel
theorem dX0_isOf_25 : decode cX0_isOf 25 = .ok (.iconst 0, 1) := by decide +kernel
theorem dX0_isOf_26 : decode cX0_isOf 26 = .ok (.ireturn, 1) := by decide +kernel
theorem dX0_lengthOf_0 : decode cX0_lengthOf 0 = .ok (.iload_n 0, 1) := by decide +kernel
theorem dX0_lengthOf_1 : decode cX0_lengthOf 1 = .ok (.iconst 4, 1) := by decide +kernel
theorem dX0_lengthOf_2 : decode cX0_lengthOf 2 = .ok (.if_icmp .lt 7, 3) := by decide +kernel
theorem dX0_lengthOf_5 : decode cX0_lengthOf 5 = .ok (.iconst 3, 1) := by decide +kernel
theorem dX0_lengthOf_6 : decode cX0_lengthOf 6 = .ok (.goto 4, 3) := by decide +kernel
theorem dX0_lengthOf_9 : decode cX0_lengthOf 9 = .ok (.iconst 2, 1) := by decide +kernel
theorem dX0_lengthOf_10 : decode cX0_lengthOf 10 = .ok (.ireturn, 1) := by decide +kernel
theorem dX0_maskOf_0 : decode cX0_maskOf 0 = .ok (.iload_n 0, 1) := by decide +kernel
theorem dX0_maskOf_1 : decode cX0_maskOf 1 = .ok (.iconst 4, 1) := by decide +kernel
theorem dX0_maskOf_2 : decode cX0_maskOf 2 = .ok (.if_icmp .lt 8, 3) := by decide +kernel
theorem dX0_maskOf_5 : decode cX0_maskOf 5 = .ok (.bipush 7, 2) := by decide +kernel
theorem dX0_maskOf_7 : decode cX0_maskOf 7 = .ok (.goto 4, 3) := by decide +kernel
theorem dX0_maskOf_10 : decode cX0_maskOf 10 = .ok (.iconst 3, 1) := by decide +kernel
theorem dX0_maskOf_11 : decode cX0_maskOf 11 = .ok (.iload_n 1, 1) := by decide +kernel
theorem dX0_maskOf_12 : decode cX0_maskOf 12 = .ok (.iconst 1, 1) := by decide +kernel
theorem dX0_maskOf_13 : decode cX0_maskOf 13 = .ok (.iadd, 1) := by decide +kernel
theorem dX0_maskOf_14 : decode cX0_maskOf 14 = .ok (.ishl, 1) := by decide +kernel
theorem dX0_maskOf_15 : decode cX0_maskOf 15 = .ok (.ireturn, 1) := by decide +kernel
theorem dX0_middle_0 : decode cX0_middle 0 = .ok (.iconst 2, 1) := by decide +kernel
theorem dX0_middle_1 : decode cX0_middle 1 = .ok (.aload_n 0, 1) := by decide +kernel
theorem dX0_middle_2 : decode cX0_middle 2 = .ok (.getfield 18, 3) := by decide +kernel
theorem dX0_middle_5 : decode cX0_middle 5 = .ok (.iconst 1, 1) := by decide +kernel
theorem dX0_middle_6 : decode cX0_middle 6 = .ok (.iadd, 1) := by decide +kernel
theorem dX0_middle_7 : decode cX0_middle 7 = .ok (.ishl, 1) := by decide +kernel
theorem dX0_middle_8 : decode cX0_middle 8 = .ok (.ireturn, 1) := by decide +kernel
theorem dX0_sides_0 : decode cX0_sides 0 = .ok (.iconst 1, 1) := by decide +kernel
theorem dX0_sides_1 : decode cX0_sides 1 = .ok (.aload_n 0, 1) := by decide +kernel
theorem dX0_sides_2 : decode cX0_sides 2 = .ok (.getfield 18, 3) := by decide +kernel
theorem dX0_sides_5 : decode cX0_sides 5 = .ok (.ishl, 1) := by decide +kernel
theorem dX0_sides_6 : decode cX0_sides 6 = .ok (.iconst 1, 1) := by decide +kernel
theorem dX0_sides_7 : decode cX0_sides 7 = .ok (.aload_n 0, 1) := by decide +kernel
theorem dX0_sides_8 : decode cX0_sides 8 = .ok (.getfield 18, 3) := by decide +kernel
theorem dX0_sides_11 : decode cX0_sides 11 = .ok (.iconst 4, 1) := by decide +kernel
theorem dX0_sides_12 : decode cX0_sides 12 = .ok (.iadd, 1) := by decide +kernel
theorem dX0_sides_13 : decode cX0_sides 13 = .ok (.ishl, 1) := by decide +kernel
theorem dX0_sides_14 : decode cX0_sides 14 = .ok (.ior, 1) := by decide +kernel
theorem dX0_sides_15 : decode cX0_sides 15 = .ok (.ireturn, 1) := by decide +kernel
theorem dX0_rank_0 : decode cX0_rank 0 = .ok (.iconst 2, 1) := by decide +kernel
theorem dX0_rank_1 : decode cX0_rank 1 = .ok (.aload_n 0, 1) := by decide +kernel
theorem dX0_rank_2 : decode cX0_rank 2 = .ok (.getfield 15, 3) := by decide +kernel
theorem dX0_rank_5 : decode cX0_rank 5 = .ok (.imul, 1) := by decide +kernel
theorem dX0_rank_6 : decode cX0_rank 6 = .ok (.aload_n 0, 1) := by decide +kernel
theorem dX0_rank_7 : decode cX0_rank 7 = .ok (.getfield 9, 3) := by decide +kernel
theorem dX0_rank_10 : decode cX0_rank 10 = .ok (.iconst 5, 1) := by decide +kernel
theorem dX0_rank_11 : decode cX0_rank 11 = .ok (.if_icmp .ne 7, 3) := by decide +kernel
theorem dX0_rank_14 : decode cX0_rank 14 = .ok (.iconst 1, 1) := by decide +kernel
theorem dX0_rank_15 : decode cX0_rank 15 = .ok (.goto 4, 3) := by decide +kernel
theorem dX0_rank_18 : decode cX0_rank 18 = .ok (.iconst 0, 1) := by decide +kernel
theorem dX0_rank_19 : decode cX0_rank 19 = .ok (.iadd, 1) := by decide +kernel
theorem dX0_rank_20 : decode cX0_rank 20 = .ok (.ireturn, 1) := by decide +kernel
theorem dX0_holds_0 : decode cX0_holds 0 = .ok (.aload_n 0, 1) := by decide +kernel
theorem dX0_holds_1 : decode cX0_holds 1 = .ok (.getfield 25, 3) := by decide +kernel
theorem dX0_holds_4 : decode cX0_holds 4 = .ok (.aload_n 0, 1) := by decide +kernel
theorem dX0_holds_5 : decode cX0_holds 5 = .ok (.invokevirtual 47, 3) := by decide +kernel
theorem dX0_holds_8 : decode cX0_holds 8 = .ok (.iconst (-1), 1) := by decide +kernel
theorem dX0_holds_9 : decode cX0_holds 9 = .ok (.ixor, 1) := by decide +kernel
theorem dX0_holds_10 : decode cX0_holds 10 = .ok (.iand, 1) := by decide +kernel
theorem dX0_holds_11 : decode cX0_holds 11 = .ok (.istore_n 3, 1) := by decide +kernel
theorem dX0_holds_12 : decode cX0_holds 12 = .ok (.aload_n 0, 1) := by decide +kernel
theorem dX0_holds_13 : decode cX0_holds 13 = .ok (.invokevirtual 51, 3) := by decide +kernel
theorem dX0_holds_16 : decode cX0_holds 16 = .ok (.istore 4, 2) := by decide +kernel
theorem dX0_holds_18 : decode cX0_holds 18 = .ok (.aload_n 0, 1) := by decide +kernel
theorem dX0_holds_19 : decode cX0_holds 19 = .ok (.getfield 9, 3) := by decide +kernel
theorem dX0_holds_22 : decode cX0_holds 22 = .ok (.tableswitch 88 1 5 #[34, 88, 88, 53, 66], 34) := by decide +kernel
theorem dX0_holds_56 : decode cX0_holds 56 = .ok (.iload_n 1, 1) := by decide +kernel
theorem dX0_holds_57 : decode cX0_holds 57 = .ok (.aload_n 0, 1) := by decide +kernel
theorem dX0_holds_58 : decode cX0_holds 58 = .ok (.getfield 25, 3) := by decide +kernel
theorem dX0_holds_61 : decode cX0_holds 61 = .ok (.iand, 1) := by decide +kernel
theorem dX0_holds_62 : decode cX0_holds 62 = .ok (.aload_n 0, 1) := by decide +kernel
theorem dX0_holds_63 : decode cX0_holds 63 = .ok (.getfield 25, 3) := by decide +kernel
theorem dX0_holds_66 : decode cX0_holds 66 = .ok (.if_icmp .ne 7, 3) := by decide +kernel
theorem dX0_holds_69 : decode cX0_holds 69 = .ok (.iconst 1, 1) := by decide +kernel
theorem dX0_holds_70 : decode cX0_holds 70 = .ok (.goto 4, 3) := by decide +kernel
theorem dX0_holds_73 : decode cX0_holds 73 = .ok (.iconst 0, 1) := by decide +kernel
theorem dX0_holds_74 : decode cX0_holds 74 = .ok (.ireturn, 1) := by decide +kernel
theorem dX0_holds_75 : decode cX0_holds 75 = .ok (.iload_n 1, 1) := by decide +kernel
theorem dX0_holds_76 : decode cX0_holds 76 = .ok (.iload_n 3, 1) := by decide +kernel
theorem dX0_holds_77 : decode cX0_holds 77 = .ok (.iand, 1) := by decide +kernel
theorem dX0_holds_78 : decode cX0_holds 78 = .ok (.iload_n 3, 1) := by decide +kernel
theorem dX0_holds_79 : decode cX0_holds 79 = .ok (.if_icmp .ne 7, 3) := by decide +kernel
theorem dX0_holds_82 : decode cX0_holds 82 = .ok (.iconst 1, 1) := by decide +kernel
theorem dX0_holds_83 : decode cX0_holds 83 = .ok (.goto 4, 3) := by decide +kernel
theorem dX0_holds_86 : decode cX0_holds 86 = .ok (.iconst 0, 1) := by decide +kernel
theorem dX0_holds_87 : decode cX0_holds 87 = .ok (.ireturn, 1) := by decide +kernel
theorem dX0_holds_88 : decode cX0_holds 88 = .ok (.iload_n 1, 1) := by decide +kernel
theorem dX0_holds_89 : decode cX0_holds 89 = .ok (.iload_n 3, 1) := by decide +kernel
theorem dX0_holds_90 : decode cX0_holds 90 = .ok (.iand, 1) := by decide +kernel
theorem dX0_holds_91 : decode cX0_holds 91 = .ok (.iload_n 3, 1) := by decide +kernel
theorem dX0_holds_92 : decode cX0_holds 92 = .ok (.if_icmp .eq 12, 3) := by decide +kernel
theorem dX0_holds_95 : decode cX0_holds 95 = .ok (.iload_n 2, 1) := by decide +kernel
theorem dX0_holds_96 : decode cX0_holds 96 = .ok (.iload 4, 2) := by decide +kernel
theorem dX0_holds_98 : decode cX0_holds 98 = .ok (.iand, 1) := by decide +kernel
theorem dX0_holds_99 : decode cX0_holds 99 = .ok (.iload 4, 2) := by decide +kernel
theorem dX0_holds_101 : decode cX0_holds 101 = .ok (.if_icmp .ne 7, 3) := by decide +kernel
theorem dX0_holds_104 : decode cX0_holds 104 = .ok (.iconst 1, 1) := by decide +kernel
theorem dX0_holds_105 : decode cX0_holds 105 = .ok (.goto 4, 3) := by decide +kernel
theorem dX0_holds_108 : decode cX0_holds 108 = .ok (.iconst 0, 1) := by decide +kernel
theorem dX0_holds_109 : decode cX0_holds 109 = .ok (.ireturn, 1) := by decide +kernel
theorem dX0_holds_110 : decode cX0_holds 110 = .ok (.iload_n 1, 1) := by decide +kernel
theorem dX0_holds_111 : decode cX0_holds 111 = .ok (.aload_n 0, 1) := by decide +kernel
theorem dX0_holds_112 : decode cX0_holds 112 = .ok (.getfield 25, 3) := by decide +kernel
theorem dX0_holds_115 : decode cX0_holds 115 = .ok (.iand, 1) := by decide +kernel
theorem dX0_holds_116 : decode cX0_holds 116 = .ok (.ifCond .eq 7, 3) := by decide +kernel
theorem dX0_holds_119 : decode cX0_holds 119 = .ok (.iconst 1, 1) := by decide +kernel
theorem dX0_holds_120 : decode cX0_holds 120 = .ok (.goto 4, 3) := by decide +kernel
theorem dX0_holds_123 : decode cX0_holds 123 = .ok (.iconst 0, 1) := by decide +kernel
theorem dX0_holds_124 : decode cX0_holds 124 = .ok (.ireturn, 1) := by decide +kernel
theorem dX0_touches_0 : decode cX0_touches 0 = .ok (.aload_n 0, 1) := by decide +kernel
theorem dX0_touches_1 : decode cX0_touches 1 = .ok (.getfield 15, 3) := by decide +kernel
theorem dX0_touches_4 : decode cX0_touches 4 = .ok (.aload_n 1, 1) := by decide +kernel
theorem dX0_touches_5 : decode cX0_touches 5 = .ok (.getfield 15, 3) := by decide +kernel
theorem dX0_touches_8 : decode cX0_touches 8 = .ok (.if_icmp .ne 19, 3) := by decide +kernel
theorem dX0_touches_11 : decode cX0_touches 11 = .ok (.aload_n 0, 1) := by decide +kernel
theorem dX0_touches_12 : decode cX0_touches 12 = .ok (.getfield 25, 3) := by decide +kernel
theorem dX0_touches_15 : decode cX0_touches 15 = .ok (.iconst 1, 1) := by decide +kernel
theorem dX0_touches_16 : decode cX0_touches 16 = .ok (.ishl, 1) := by decide +kernel
theorem dX0_touches_17 : decode cX0_touches 17 = .ok (.aload_n 0, 1) := by decide +kernel
theorem dX0_touches_18 : decode cX0_touches 18 = .ok (.getfield 25, 3) := by decide +kernel
theorem dX0_touches_21 : decode cX0_touches 21 = .ok (.iconst 1, 1) := by decide +kernel
theorem dX0_touches_22 : decode cX0_touches 22 = .ok (.ishr, 1) := by decide +kernel
theorem dX0_touches_23 : decode cX0_touches 23 = .ok (.ior, 1) := by decide +kernel
theorem dX0_touches_24 : decode cX0_touches 24 = .ok (.goto 7, 3) := by decide +kernel
theorem dX0_touches_27 : decode cX0_touches 27 = .ok (.aload_n 0, 1) := by decide +kernel
theorem dX0_touches_28 : decode cX0_touches 28 = .ok (.getfield 25, 3) := by decide +kernel
theorem dX0_touches_31 : decode cX0_touches 31 = .ok (.istore_n 2, 1) := by decide +kernel
theorem dX0_touches_32 : decode cX0_touches 32 = .ok (.aload_n 0, 1) := by decide +kernel
theorem dX0_touches_33 : decode cX0_touches 33 = .ok (.getfield 15, 3) := by decide +kernel
theorem dX0_touches_36 : decode cX0_touches 36 = .ok (.aload_n 1, 1) := by decide +kernel
theorem dX0_touches_37 : decode cX0_touches 37 = .ok (.getfield 15, 3) := by decide +kernel
theorem dX0_touches_40 : decode cX0_touches 40 = .ok (.isub, 1) := by decide +kernel
theorem dX0_touches_41 : decode cX0_touches 41 = .ok (.invokestatic 54, 3) := by decide +kernel
theorem dX0_touches_44 : decode cX0_touches 44 = .ok (.iconst 1, 1) := by decide +kernel
theorem dX0_touches_45 : decode cX0_touches 45 = .ok (.if_icmp .gt 16, 3) := by decide +kernel
theorem dX0_touches_48 : decode cX0_touches 48 = .ok (.iload_n 2, 1) := by decide +kernel
theorem dX0_touches_49 : decode cX0_touches 49 = .ok (.aload_n 1, 1) := by decide +kernel
theorem dX0_touches_50 : decode cX0_touches 50 = .ok (.getfield 25, 3) := by decide +kernel
theorem dX0_touches_53 : decode cX0_touches 53 = .ok (.iand, 1) := by decide +kernel
theorem dX0_touches_54 : decode cX0_touches 54 = .ok (.ifCond .eq 7, 3) := by decide +kernel
theorem dX0_touches_57 : decode cX0_touches 57 = .ok (.iconst 1, 1) := by decide +kernel
theorem dX0_touches_58 : decode cX0_touches 58 = .ok (.goto 4, 3) := by decide +kernel
theorem dX0_touches_61 : decode cX0_touches 61 = .ok (.iconst 0, 1) := by decide +kernel
theorem dX0_touches_62 : decode cX0_touches 62 = .ok (.ireturn, 1) := by decide +kernel
theorem dX0_people_0 : decode cX0_people 0 = .ok (.iconst 1, 1) := by decide +kernel
theorem dX0_people_1 : decode cX0_people 1 = .ok (.aload_n 0, 1) := by decide +kernel
theorem dX0_people_2 : decode cX0_people 2 = .ok (.getfield 31, 3) := by decide +kernel
theorem dX0_people_5 : decode cX0_people 5 = .ok (.ishl, 1) := by decide +kernel
theorem dX0_people_6 : decode cX0_people 6 = .ok (.istore_n 1, 1) := by decide +kernel
theorem dX0_people_7 : decode cX0_people 7 = .ok (.aload_n 0, 1) := by decide +kernel
theorem dX0_people_8 : decode cX0_people 8 = .ok (.getfield 9, 3) := by decide +kernel
theorem dX0_people_11 : decode cX0_people 11 = .ok (.iconst 2, 1) := by decide +kernel
theorem dX0_people_12 : decode cX0_people 12 = .ok (.if_icmp .eq 12, 3) := by decide +kernel
theorem dX0_people_15 : decode cX0_people 15 = .ok (.iload_n 1, 1) := by decide +kernel
theorem dX0_people_16 : decode cX0_people 16 = .ok (.iconst 1, 1) := by decide +kernel
theorem dX0_people_17 : decode cX0_people 17 = .ok (.aload_n 0, 1) := by decide +kernel
theorem dX0_people_18 : decode cX0_people 18 = .ok (.getfield 34, 3) := by decide +kernel
theorem dX0_people_21 : decode cX0_people 21 = .ok (.ishl, 1) := by decide +kernel
theorem dX0_people_22 : decode cX0_people 22 = .ok (.ior, 1) := by decide +kernel
theorem dX0_people_23 : decode cX0_people 23 = .ok (.istore_n 1, 1) := by decide +kernel
theorem dX0_people_24 : decode cX0_people 24 = .ok (.aload_n 0, 1) := by decide +kernel
theorem dX0_people_25 : decode cX0_people 25 = .ok (.getfield 9, 3) := by decide +kernel
theorem dX0_people_28 : decode cX0_people 28 = .ok (.iconst 3, 1) := by decide +kernel
theorem dX0_people_29 : decode cX0_people 29 = .ok (.if_icmp .ne 12, 3) := by decide +kernel
theorem dX0_people_32 : decode cX0_people 32 = .ok (.iload_n 1, 1) := by decide +kernel
theorem dX0_people_33 : decode cX0_people 33 = .ok (.iconst 1, 1) := by decide +kernel
theorem dX0_people_34 : decode cX0_people 34 = .ok (.aload_n 0, 1) := by decide +kernel
theorem dX0_people_35 : decode cX0_people 35 = .ok (.getfield 37, 3) := by decide +kernel
theorem dX0_people_38 : decode cX0_people 38 = .ok (.ishl, 1) := by decide +kernel
theorem dX0_people_39 : decode cX0_people 39 = .ok (.ior, 1) := by decide +kernel
theorem dX0_people_40 : decode cX0_people 40 = .ok (.istore_n 1, 1) := by decide +kernel
theorem dX0_people_41 : decode cX0_people 41 = .ok (.iload_n 1, 1) := by decide +kernel
theorem dX0_people_42 : decode cX0_people 42 = .ok (.ireturn, 1) := by decide +kernel
theorem dX0_debt_0 : decode cX0_debt 0 = .ok (.aload_n 0, 1) := by decide +kernel
theorem dX0_debt_1 : decode cX0_debt 1 = .ok (.getfield 9, 3) := by decide +kernel
theorem dX0_debt_4 : decode cX0_debt 4 = .ok (.iconst 2, 1) := by decide +kernel
theorem dX0_debt_5 : decode cX0_debt 5 = .ok (.if_icmp .eq 11, 3) := by decide +kernel
theorem dX0_debt_8 : decode cX0_debt 8 = .ok (.aload_n 0, 1) := by decide +kernel
theorem dX0_debt_9 : decode cX0_debt 9 = .ok (.getfield 31, 3) := by decide +kernel
theorem dX0_debt_12 : decode cX0_debt 12 = .ok (.iload_n 1, 1) := by decide +kernel
theorem dX0_debt_13 : decode cX0_debt 13 = .ok (.if_icmp .eq 5, 3) := by decide +kernel
theorem dX0_debt_16 : decode cX0_debt 16 = .ok (.iconst 0, 1) := by decide +kernel
theorem dX0_debt_17 : decode cX0_debt 17 = .ok (.ireturn, 1) := by decide +kernel
theorem dX0_debt_18 : decode cX0_debt 18 = .ok (.aload_n 0, 1) := by decide +kernel
theorem dX0_debt_19 : decode cX0_debt 19 = .ok (.getfield 34, 3) := by decide +kernel
theorem dX0_debt_22 : decode cX0_debt 22 = .ok (.iload_n 2, 1) := by decide +kernel
theorem dX0_debt_23 : decode cX0_debt 23 = .ok (.if_icmp .ne 7, 3) := by decide +kernel
theorem dX0_debt_26 : decode cX0_debt 26 = .ok (.iconst 1, 1) := by decide +kernel
theorem dX0_debt_27 : decode cX0_debt 27 = .ok (.goto 4, 3) := by decide +kernel
theorem dX0_debt_30 : decode cX0_debt 30 = .ok (.iconst 0, 1) := by decide +kernel
theorem dX0_debt_31 : decode cX0_debt 31 = .ok (.aload_n 0, 1) := by decide +kernel
theorem dX0_debt_32 : decode cX0_debt 32 = .ok (.getfield 37, 3) := by decide +kernel
theorem dX0_debt_35 : decode cX0_debt 35 = .ok (.iload_n 2, 1) := by decide +kernel
theorem dX0_debt_36 : decode cX0_debt 36 = .ok (.if_icmp .ne 7, 3) := by decide +kernel
theorem dX0_debt_39 : decode cX0_debt 39 = .ok (.iconst 1, 1) := by decide +kernel
theorem dX0_debt_40 : decode cX0_debt 40 = .ok (.goto 4, 3) := by decide +kernel
theorem dX0_debt_43 : decode cX0_debt 43 = .ok (.iconst 0, 1) := by decide +kernel
theorem dX0_debt_44 : decode cX0_debt 44 = .ok (.iadd, 1) := by decide +kernel
theorem dX0_debt_45 : decode cX0_debt 45 = .ok (.ireturn, 1) := by decide +kernel
theorem dX0_passMarks_0 : decode cX0_passMarks 0 = .ok (.aload_n 0, 1) := by decide +kernel
theorem dX0_passMarks_1 : decode cX0_passMarks 1 = .ok (.getfield 31, 3) := by decide +kernel
theorem dX0_passMarks_4 : decode cX0_passMarks 4 = .ok (.iload_n 1, 1) := by decide +kernel
theorem dX0_passMarks_5 : decode cX0_passMarks 5 = .ok (.if_icmp .ne 7, 3) := by decide +kernel
theorem dX0_passMarks_8 : decode cX0_passMarks 8 = .ok (.iconst 1, 1) := by decide +kernel
theorem dX0_passMarks_9 : decode cX0_passMarks 9 = .ok (.goto 4, 3) := by decide +kernel
theorem dX0_passMarks_12 : decode cX0_passMarks 12 = .ok (.iconst 0, 1) := by decide +kernel
theorem dX0_passMarks_13 : decode cX0_passMarks 13 = .ok (.aload_n 0, 1) := by decide +kernel
theorem dX0_passMarks_14 : decode cX0_passMarks 14 = .ok (.getfield 34, 3) := by decide +kernel
theorem dX0_passMarks_17 : decode cX0_passMarks 17 = .ok (.iload_n 1, 1) := by decide +kernel
theorem dX0_passMarks_18 : decode cX0_passMarks 18 = .ok (.if_icmp .ne 7, 3) := by decide +kernel
theorem dX0_passMarks_21 : decode cX0_passMarks 21 = .ok (.iconst 1, 1) := by decide +kernel
theorem dX0_passMarks_22 : decode cX0_passMarks 22 = .ok (.goto 4, 3) := by decide +kernel
theorem dX0_passMarks_25 : decode cX0_passMarks 25 = .ok (.iconst 0, 1) := by decide +kernel
theorem dX0_passMarks_26 : decode cX0_passMarks 26 = .ok (.iadd, 1) := by decide +kernel
theorem dX0_passMarks_27 : decode cX0_passMarks 27 = .ok (.aload_n 0, 1) := by decide +kernel
theorem dX0_passMarks_28 : decode cX0_passMarks 28 = .ok (.getfield 37, 3) := by decide +kernel
theorem dX0_passMarks_31 : decode cX0_passMarks 31 = .ok (.iload_n 1, 1) := by decide +kernel
theorem dX0_passMarks_32 : decode cX0_passMarks 32 = .ok (.if_icmp .ne 7, 3) := by decide +kernel
theorem dX0_passMarks_35 : decode cX0_passMarks 35 = .ok (.iconst 1, 1) := by decide +kernel
theorem dX0_passMarks_36 : decode cX0_passMarks 36 = .ok (.goto 4, 3) := by decide +kernel
theorem dX0_passMarks_39 : decode cX0_passMarks 39 = .ok (.iconst 0, 1) := by decide +kernel
theorem dX0_passMarks_40 : decode cX0_passMarks 40 = .ok (.iadd, 1) := by decide +kernel
theorem dX0_passMarks_41 : decode cX0_passMarks 41 = .ok (.istore_n 3, 1) := by decide +kernel
theorem dX0_passMarks_42 : decode cX0_passMarks 42 = .ok (.aload_n 0, 1) := by decide +kernel
theorem dX0_passMarks_43 : decode cX0_passMarks 43 = .ok (.aload_n 0, 1) := by decide +kernel
theorem dX0_passMarks_44 : decode cX0_passMarks 44 = .ok (.getfield 31, 3) := by decide +kernel
theorem dX0_passMarks_47 : decode cX0_passMarks 47 = .ok (.iload_n 1, 1) := by decide +kernel
theorem dX0_passMarks_48 : decode cX0_passMarks 48 = .ok (.if_icmp .ne 7, 3) := by decide +kernel
theorem dX0_passMarks_51 : decode cX0_passMarks 51 = .ok (.iload_n 2, 1) := by decide +kernel
theorem dX0_passMarks_52 : decode cX0_passMarks 52 = .ok (.goto 7, 3) := by decide +kernel
theorem dX0_passMarks_55 : decode cX0_passMarks 55 = .ok (.aload_n 0, 1) := by decide +kernel
theorem dX0_passMarks_56 : decode cX0_passMarks 56 = .ok (.getfield 31, 3) := by decide +kernel
theorem dX0_passMarks_59 : decode cX0_passMarks 59 = .ok (.putfield 31, 3) := by decide +kernel
theorem dX0_passMarks_62 : decode cX0_passMarks 62 = .ok (.aload_n 0, 1) := by decide +kernel
theorem dX0_passMarks_63 : decode cX0_passMarks 63 = .ok (.aload_n 0, 1) := by decide +kernel
theorem dX0_passMarks_64 : decode cX0_passMarks 64 = .ok (.getfield 34, 3) := by decide +kernel
theorem dX0_passMarks_67 : decode cX0_passMarks 67 = .ok (.iload_n 1, 1) := by decide +kernel
theorem dX0_passMarks_68 : decode cX0_passMarks 68 = .ok (.if_icmp .ne 7, 3) := by decide +kernel
theorem dX0_passMarks_71 : decode cX0_passMarks 71 = .ok (.iload_n 2, 1) := by decide +kernel
theorem dX0_passMarks_72 : decode cX0_passMarks 72 = .ok (.goto 7, 3) := by decide +kernel
theorem dX0_passMarks_75 : decode cX0_passMarks 75 = .ok (.aload_n 0, 1) := by decide +kernel
theorem dX0_passMarks_76 : decode cX0_passMarks 76 = .ok (.getfield 34, 3) := by decide +kernel
theorem dX0_passMarks_79 : decode cX0_passMarks 79 = .ok (.putfield 34, 3) := by decide +kernel
theorem dX0_passMarks_82 : decode cX0_passMarks 82 = .ok (.aload_n 0, 1) := by decide +kernel
theorem dX0_passMarks_83 : decode cX0_passMarks 83 = .ok (.aload_n 0, 1) := by decide +kernel
theorem dX0_passMarks_84 : decode cX0_passMarks 84 = .ok (.getfield 37, 3) := by decide +kernel
theorem dX0_passMarks_87 : decode cX0_passMarks 87 = .ok (.iload_n 1, 1) := by decide +kernel
theorem dX0_passMarks_88 : decode cX0_passMarks 88 = .ok (.if_icmp .ne 7, 3) := by decide +kernel
theorem dX0_passMarks_91 : decode cX0_passMarks 91 = .ok (.iload_n 2, 1) := by decide +kernel
theorem dX0_passMarks_92 : decode cX0_passMarks 92 = .ok (.goto 7, 3) := by decide +kernel
theorem dX0_passMarks_95 : decode cX0_passMarks 95 = .ok (.aload_n 0, 1) := by decide +kernel
theorem dX0_passMarks_96 : decode cX0_passMarks 96 = .ok (.getfield 37, 3) := by decide +kernel
theorem dX0_passMarks_99 : decode cX0_passMarks 99 = .ok (.putfield 37, 3) := by decide +kernel
theorem dX0_passMarks_102 : decode cX0_passMarks 102 = .ok (.iload_n 3, 1) := by decide +kernel
theorem dX0_passMarks_103 : decode cX0_passMarks 103 = .ok (.ireturn, 1) := by decide +kernel
theorem dX1_init_0 : decode cX1_init 0 = .ok (.aload_n 0, 1) := by decide +kernel
theorem dX1_init_1 : decode cX1_init 1 = .ok (.invokespecial 3, 3) := by decide +kernel
theorem dX1_init_4 : decode cX1_init 4 = .ok (.aload_n 0, 1) := by decide +kernel
theorem dX1_init_5 : decode cX1_init 5 = .ok (.new 9, 3) := by decide +kernel
theorem dX1_init_8 : decode cX1_init 8 = .ok (.dup, 1) := by decide +kernel
theorem dX1_init_9 : decode cX1_init 9 = .ok (.invokespecial 11, 3) := by decide +kernel
theorem dX1_init_12 : decode cX1_init 12 = .ok (.putfield 12, 3) := by decide +kernel
theorem dX1_init_15 : decode cX1_init 15 = .ok (.aload_n 0, 1) := by decide +kernel
theorem dX1_init_16 : decode cX1_init 16 = .ok (.iconst 0, 1) := by decide +kernel
theorem dX1_init_17 : decode cX1_init 17 = .ok (.newarray .byte, 2) := by decide +kernel
theorem dX1_init_19 : decode cX1_init 19 = .ok (.putfield 18, 3) := by decide +kernel
theorem dX1_init_22 : decode cX1_init 22 = .ok (.return_, 1) := by decide +kernel
theorem dX1_read_0 : decode cX1_read 0 = .ok (.aload_n 0, 1) := by decide +kernel
theorem dX1_read_1 : decode cX1_read 1 = .ok (.aload_n 1, 1) := by decide +kernel
theorem dX1_read_2 : decode cX1_read 2 = .ok (.putfield 18, 3) := by decide +kernel
theorem dX1_read_5 : decode cX1_read 5 = .ok (.aload_n 0, 1) := by decide +kernel
theorem dX1_read_6 : decode cX1_read 6 = .ok (.iload_n 2, 1) := by decide +kernel
theorem dX1_read_7 : decode cX1_read 7 = .ok (.putfield 22, 3) := by decide +kernel
theorem dX1_read_10 : decode cX1_read 10 = .ok (.aload_n 0, 1) := by decide +kernel
theorem dX1_read_11 : decode cX1_read 11 = .ok (.iconst 0, 1) := by decide +kernel
theorem dX1_read_12 : decode cX1_read 12 = .ok (.putfield 26, 3) := by decide +kernel
theorem dX1_read_15 : decode cX1_read 15 = .ok (.aload_n 0, 1) := by decide +kernel
theorem dX1_read_16 : decode cX1_read 16 = .ok (.getfield 12, 3) := by decide +kernel
theorem dX1_read_19 : decode cX1_read 19 = .ok (.invokevirtual 29, 3) := by decide +kernel
theorem dX1_read_22 : decode cX1_read 22 = .ok (.aload_n 0, 1) := by decide +kernel
theorem dX1_read_23 : decode cX1_read 23 = .ok (.invokevirtual 32, 3) := by decide +kernel
theorem dX1_read_26 : decode cX1_read 26 = .ok (.aload_n 0, 1) := by decide +kernel
theorem dX1_read_27 : decode cX1_read 27 = .ok (.invokevirtual 35, 3) := by decide +kernel
theorem dX1_read_30 : decode cX1_read 30 = .ok (.ifCond .ne 8, 3) := by decide +kernel
theorem dX1_read_33 : decode cX1_read 33 = .ok (.aload_n 0, 1) := by decide +kernel
theorem dX1_read_34 : decode cX1_read 34 = .ok (.getfield 26, 3) := by decide +kernel
theorem dX1_read_37 : decode cX1_read 37 = .ok (.ireturn, 1) := by decide +kernel
theorem dX1_read_38 : decode cX1_read 38 = .ok (.iconst 0, 1) := by decide +kernel
theorem dX1_read_39 : decode cX1_read 39 = .ok (.istore_n 3, 1) := by decide +kernel
theorem dX1_read_40 : decode cX1_read 40 = .ok (.iload_n 3, 1) := by decide +kernel
theorem dX1_read_41 : decode cX1_read 41 = .ok (.bipush 14, 2) := by decide +kernel
theorem dX1_read_43 : decode cX1_read 43 = .ok (.if_icmp .gt 39, 3) := by decide +kernel
theorem dX1_read_46 : decode cX1_read 46 = .ok (.aload_n 0, 1) := by decide +kernel
theorem dX1_read_47 : decode cX1_read 47 = .ok (.invokevirtual 32, 3) := by decide +kernel
theorem dX1_read_50 : decode cX1_read 50 = .ok (.aload_n 0, 1) := by decide +kernel
theorem dX1_read_51 : decode cX1_read 51 = .ok (.getfield 26, 3) := by decide +kernel
theorem dX1_read_54 : decode cX1_read 54 = .ok (.aload_n 0, 1) := by decide +kernel
theorem dX1_read_55 : decode cX1_read 55 = .ok (.getfield 22, 3) := by decide +kernel
theorem dX1_read_58 : decode cX1_read 58 = .ok (.if_icmp .lt 6, 3) := by decide +kernel
theorem dX1_read_61 : decode cX1_read 61 = .ok (.bipush (-9), 2) := by decide +kernel
theorem dX1_read_63 : decode cX1_read 63 = .ok (.ireturn, 1) := by decide +kernel
theorem dX1_read_64 : decode cX1_read 64 = .ok (.aload_n 0, 1) := by decide +kernel
theorem dX1_read_65 : decode cX1_read 65 = .ok (.invokevirtual 39, 3) := by decide +kernel
theorem dX1_read_68 : decode cX1_read 68 = .ok (.ifCond .ne 8, 3) := by decide +kernel
theorem dX1_read_71 : decode cX1_read 71 = .ok (.aload_n 0, 1) := by decide +kernel
theorem dX1_read_72 : decode cX1_read 72 = .ok (.getfield 26, 3) := by decide +kernel
theorem dX1_read_75 : decode cX1_read 75 = .ok (.ireturn, 1) := by decide +kernel
theorem dX1_read_76 : decode cX1_read 76 = .ok (.iinc 3 1, 3) := by decide +kernel
theorem dX1_read_79 : decode cX1_read 79 = .ok (.goto (-39), 3) := by decide +kernel
theorem dX1_read_82 : decode cX1_read 82 = .ok (.aload_n 0, 1) := by decide +kernel
theorem dX1_read_83 : decode cX1_read 83 = .ok (.getfield 26, 3) := by decide +kernel
theorem dX1_read_86 : decode cX1_read 86 = .ok (.ireturn, 1) := by decide +kernel
theorem dX1_sign_0 : decode cX1_sign 0 = .ok (.aload_n 0, 1) := by decide +kernel
theorem dX1_sign_1 : decode cX1_sign 1 = .ok (.getfield 26, 3) := by decide +kernel
theorem dX1_sign_4 : decode cX1_sign 4 = .ok (.aload_n 0, 1) := by decide +kernel
theorem dX1_sign_5 : decode cX1_sign 5 = .ok (.getfield 22, 3) := by decide +kernel
theorem dX1_sign_8 : decode cX1_sign 8 = .ok (.if_icmp .ge 27, 3) := by decide +kernel
theorem dX1_sign_11 : decode cX1_sign 11 = .ok (.aload_n 0, 1) := by decide +kernel
theorem dX1_sign_12 : decode cX1_sign 12 = .ok (.getfield 26, 3) := by decide +kernel
theorem dX1_sign_15 : decode cX1_sign 15 = .ok (.aload_n 0, 1) := by decide +kernel
theorem dX1_sign_16 : decode cX1_sign 16 = .ok (.getfield 18, 3) := by decide +kernel
theorem dX1_sign_19 : decode cX1_sign 19 = .ok (.arraylength, 1) := by decide +kernel
theorem dX1_sign_20 : decode cX1_sign 20 = .ok (.if_icmp .ge 15, 3) := by decide +kernel
theorem dX1_sign_23 : decode cX1_sign 23 = .ok (.aload_n 0, 1) := by decide +kernel
theorem dX1_sign_24 : decode cX1_sign 24 = .ok (.getfield 18, 3) := by decide +kernel
theorem dX1_sign_27 : decode cX1_sign 27 = .ok (.aload_n 0, 1) := by decide +kernel
theorem dX1_sign_28 : decode cX1_sign 28 = .ok (.getfield 26, 3) := by decide +kernel
theorem dX1_sign_31 : decode cX1_sign 31 = .ok (.baload, 1) := by decide +kernel
theorem dX1_sign_32 : decode cX1_sign 32 = .ok (.goto 6, 3) := by decide +kernel
theorem dX1_sign_35 : decode cX1_sign 35 = .ok (.sipush 1000, 3) := by decide +kernel
theorem dX1_sign_38 : decode cX1_sign 38 = .ok (.ireturn, 1) := by decide +kernel
theorem dX1_skipBlanks_0 : decode cX1_skipBlanks 0 = .ok (.aload_n 0, 1) := by decide +kernel
theorem dX1_skipBlanks_1 : decode cX1_skipBlanks 1 = .ok (.getfield 26, 3) := by decide +kernel
theorem dX1_skipBlanks_4 : decode cX1_skipBlanks 4 = .ok (.aload_n 0, 1) := by decide +kernel
theorem dX1_skipBlanks_5 : decode cX1_skipBlanks 5 = .ok (.getfield 22, 3) := by decide +kernel
theorem dX1_skipBlanks_8 : decode cX1_skipBlanks 8 = .ok (.if_icmp .ge 25, 3) := by decide +kernel
theorem dX1_skipBlanks_11 : decode cX1_skipBlanks 11 = .ok (.aload_n 0, 1) := by decide +kernel
theorem dX1_skipBlanks_12 : decode cX1_skipBlanks 12 = .ok (.invokevirtual 42, 3) := by decide +kernel
theorem dX1_skipBlanks_15 : decode cX1_skipBlanks 15 = .ok (.bipush 32, 2) := by decide +kernel
theorem dX1_skipBlanks_17 : decode cX1_skipBlanks 17 = .ok (.if_icmp .ne 16, 3) := by decide +kernel
theorem dX1_skipBlanks_20 : decode cX1_skipBlanks 20 = .ok (.aload_n 0, 1) := by decide +kernel
theorem dX1_skipBlanks_21 : decode cX1_skipBlanks 21 = .ok (.dup, 1) := by decide +kernel
theorem dX1_skipBlanks_22 : decode cX1_skipBlanks 22 = .ok (.getfield 26, 3) := by decide +kernel
theorem dX1_skipBlanks_25 : decode cX1_skipBlanks 25 = .ok (.iconst 1, 1) := by decide +kernel
theorem dX1_skipBlanks_26 : decode cX1_skipBlanks 26 = .ok (.iadd, 1) := by decide +kernel
theorem dX1_skipBlanks_27 : decode cX1_skipBlanks 27 = .ok (.putfield 26, 3) := by decide +kernel
theorem dX1_skipBlanks_30 : decode cX1_skipBlanks 30 = .ok (.goto (-30), 3) := by decide +kernel
theorem dX1_skipBlanks_33 : decode cX1_skipBlanks 33 = .ok (.return_, 1) := by decide +kernel
theorem dX1_readWidth_0 : decode cX1_readWidth 0 = .ok (.aload_n 0, 1) := by decide +kernel
theorem dX1_readWidth_1 : decode cX1_readWidth 1 = .ok (.invokevirtual 42, 3) := by decide +kernel
theorem dX1_readWidth_4 : decode cX1_readWidth 4 = .ok (.bipush 119, 2) := by decide +kernel
theorem dX1_readWidth_6 : decode cX1_readWidth 6 = .ok (.if_icmp .eq 5, 3) := by decide +kernel
theorem dX1_readWidth_9 : decode cX1_readWidth 9 = .ok (.iconst 0, 1) := by decide +kernel
theorem dX1_readWidth_10 : decode cX1_readWidth 10 = .ok (.ireturn, 1) := by decide +kernel
theorem dX1_readWidth_11 : decode cX1_readWidth 11 = .ok (.aload_n 0, 1) := by decide +kernel
theorem dX1_readWidth_12 : decode cX1_readWidth 12 = .ok (.dup, 1) := by decide +kernel
theorem dX1_readWidth_13 : decode cX1_readWidth 13 = .ok (.getfield 26, 3) := by decide +kernel
theorem dX1_readWidth_16 : decode cX1_readWidth 16 = .ok (.iconst 1, 1) := by decide +kernel
theorem dX1_readWidth_17 : decode cX1_readWidth 17 = .ok (.iadd, 1) := by decide +kernel
theorem dX1_readWidth_18 : decode cX1_readWidth 18 = .ok (.putfield 26, 3) := by decide +kernel
theorem dX1_readWidth_21 : decode cX1_readWidth 21 = .ok (.aload_n 0, 1) := by decide +kernel
theorem dX1_readWidth_22 : decode cX1_readWidth 22 = .ok (.invokevirtual 42, 3) := by decide +kernel
theorem dX1_readWidth_25 : decode cX1_readWidth 25 = .ok (.bipush 48, 2) := by decide +kernel
theorem dX1_readWidth_27 : decode cX1_readWidth 27 = .ok (.isub, 1) := by decide +kernel
theorem dX1_readWidth_28 : decode cX1_readWidth 28 = .ok (.istore_n 1, 1) := by decide +kernel
theorem dX1_readWidth_29 : decode cX1_readWidth 29 = .ok (.iload_n 1, 1) := by decide +kernel
theorem dX1_readWidth_30 : decode cX1_readWidth 30 = .ok (.iconst 2, 1) := by decide +kernel
theorem dX1_readWidth_31 : decode cX1_readWidth 31 = .ok (.if_icmp .lt 9, 3) := by decide +kernel
theorem dX1_readWidth_34 : decode cX1_readWidth 34 = .ok (.iload_n 1, 1) := by decide +kernel
theorem dX1_readWidth_35 : decode cX1_readWidth 35 = .ok (.bipush 9, 2) := by decide +kernel
theorem dX1_readWidth_37 : decode cX1_readWidth 37 = .ok (.if_icmp .le 5, 3) := by decide +kernel
theorem dX1_readWidth_40 : decode cX1_readWidth 40 = .ok (.iconst 0, 1) := by decide +kernel
theorem dX1_readWidth_41 : decode cX1_readWidth 41 = .ok (.ireturn, 1) := by decide +kernel
theorem dX1_readWidth_42 : decode cX1_readWidth 42 = .ok (.aload_n 0, 1) := by decide +kernel
theorem dX1_readWidth_43 : decode cX1_readWidth 43 = .ok (.getfield 12, 3) := by decide +kernel
theorem dX1_readWidth_46 : decode cX1_readWidth 46 = .ok (.iload_n 1, 1) := by decide +kernel
theorem dX1_readWidth_47 : decode cX1_readWidth 47 = .ok (.putfield 46, 3) := by decide +kernel
theorem dX1_readWidth_50 : decode cX1_readWidth 50 = .ok (.aload_n 0, 1) := by decide +kernel
theorem dX1_readWidth_51 : decode cX1_readWidth 51 = .ok (.getfield 12, 3) := by decide +kernel
theorem dX1_readWidth_54 : decode cX1_readWidth 54 = .ok (.iconst 1, 1) := by decide +kernel
theorem dX1_readWidth_55 : decode cX1_readWidth 55 = .ok (.putfield 49, 3) := by decide +kernel
theorem dX1_readWidth_58 : decode cX1_readWidth 58 = .ok (.aload_n 0, 1) := by decide +kernel
theorem dX1_readWidth_59 : decode cX1_readWidth 59 = .ok (.dup, 1) := by decide +kernel
theorem dX1_readWidth_60 : decode cX1_readWidth 60 = .ok (.getfield 26, 3) := by decide +kernel
theorem dX1_readWidth_63 : decode cX1_readWidth 63 = .ok (.iconst 1, 1) := by decide +kernel
theorem dX1_readWidth_64 : decode cX1_readWidth 64 = .ok (.iadd, 1) := by decide +kernel
theorem dX1_readWidth_65 : decode cX1_readWidth 65 = .ok (.putfield 26, 3) := by decide +kernel
theorem dX1_readWidth_68 : decode cX1_readWidth 68 = .ok (.iconst 1, 1) := by decide +kernel
theorem dX1_readWidth_69 : decode cX1_readWidth 69 = .ok (.ireturn, 1) := by decide +kernel
theorem dX1_readBrick_0 : decode cX1_readBrick 0 = .ok (.aload_n 0, 1) := by decide +kernel
theorem dX1_readBrick_1 : decode cX1_readBrick 1 = .ok (.invokevirtual 42, 3) := by decide +kernel
theorem dX1_readBrick_4 : decode cX1_readBrick 4 = .ok (.invokestatic 53, 3) := by decide +kernel
theorem dX1_readBrick_7 : decode cX1_readBrick 7 = .ok (.istore_n 1, 1) := by decide +kernel
theorem dX1_readBrick_8 : decode cX1_readBrick 8 = .ok (.iload_n 1, 1) := by decide +kernel
theorem dX1_readBrick_9 : decode cX1_readBrick 9 = .ok (.ifCond .lt 15, 3) := by decide +kernel
theorem dX1_readBrick_12 : decode cX1_readBrick 12 = .ok (.aload_n 0, 1) := by decide +kernel
theorem dX1_readBrick_13 : decode cX1_readBrick 13 = .ok (.getfield 12, 3) := by decide +kernel
theorem dX1_readBrick_16 : decode cX1_readBrick 16 = .ok (.getfield 57, 3) := by decide +kernel
theorem dX1_readBrick_19 : decode cX1_readBrick 19 = .ok (.bipush 14, 2) := by decide +kernel
theorem dX1_readBrick_21 : decode cX1_readBrick 21 = .ok (.if_icmp .lt 5, 3) := by decide +kernel
theorem dX1_readBrick_24 : decode cX1_readBrick 24 = .ok (.iconst 0, 1) := by decide +kernel
theorem dX1_readBrick_25 : decode cX1_readBrick 25 = .ok (.ireturn, 1) := by decide +kernel
theorem dX1_readBrick_26 : decode cX1_readBrick 26 = .ok (.aload_n 0, 1) := by decide +kernel
theorem dX1_readBrick_27 : decode cX1_readBrick 27 = .ok (.dup, 1) := by decide +kernel
theorem dX1_readBrick_28 : decode cX1_readBrick 28 = .ok (.getfield 26, 3) := by decide +kernel
theorem dX1_readBrick_31 : decode cX1_readBrick 31 = .ok (.iconst 1, 1) := by decide +kernel
theorem dX1_readBrick_32 : decode cX1_readBrick 32 = .ok (.iadd, 1) := by decide +kernel
theorem dX1_readBrick_33 : decode cX1_readBrick 33 = .ok (.putfield 26, 3) := by decide +kernel
theorem dX1_readBrick_36 : decode cX1_readBrick 36 = .ok (.aload_n 0, 1) := by decide +kernel
theorem dX1_readBrick_37 : decode cX1_readBrick 37 = .ok (.invokevirtual 42, 3) := by decide +kernel
theorem dX1_readBrick_40 : decode cX1_readBrick 40 = .ok (.bipush 48, 2) := by decide +kernel
theorem dX1_readBrick_42 : decode cX1_readBrick 42 = .ok (.isub, 1) := by decide +kernel
theorem dX1_readBrick_43 : decode cX1_readBrick 43 = .ok (.istore_n 2, 1) := by decide +kernel
theorem dX1_readBrick_44 : decode cX1_readBrick 44 = .ok (.iload_n 2, 1) := by decide +kernel
theorem dX1_readBrick_45 : decode cX1_readBrick 45 = .ok (.ifCond .lt 9, 3) := by decide +kernel
theorem dX1_readBrick_48 : decode cX1_readBrick 48 = .ok (.iload_n 2, 1) := by decide +kernel
theorem dX1_readBrick_49 : decode cX1_readBrick 49 = .ok (.bipush 6, 2) := by decide +kernel
theorem dX1_readBrick_51 : decode cX1_readBrick 51 = .ok (.if_icmp .lt 5, 3) := by decide +kernel
theorem dX1_readBrick_54 : decode cX1_readBrick 54 = .ok (.iconst 0, 1) := by decide +kernel
theorem dX1_readBrick_55 : decode cX1_readBrick 55 = .ok (.ireturn, 1) := by decide +kernel
theorem dX1_readBrick_56 : decode cX1_readBrick 56 = .ok (.aload_n 0, 1) := by decide +kernel
theorem dX1_readBrick_57 : decode cX1_readBrick 57 = .ok (.dup, 1) := by decide +kernel
theorem dX1_readBrick_58 : decode cX1_readBrick 58 = .ok (.getfield 26, 3) := by decide +kernel
theorem dX1_readBrick_61 : decode cX1_readBrick 61 = .ok (.iconst 1, 1) := by decide +kernel
theorem dX1_readBrick_62 : decode cX1_readBrick 62 = .ok (.iadd, 1) := by decide +kernel
theorem dX1_readBrick_63 : decode cX1_readBrick 63 = .ok (.putfield 26, 3) := by decide +kernel
theorem dX1_readBrick_66 : decode cX1_readBrick 66 = .ok (.aload_n 0, 1) := by decide +kernel
theorem dX1_readBrick_67 : decode cX1_readBrick 67 = .ok (.invokevirtual 42, 3) := by decide +kernel
theorem dX1_readBrick_70 : decode cX1_readBrick 70 = .ok (.bipush 48, 2) := by decide +kernel
theorem dX1_readBrick_72 : decode cX1_readBrick 72 = .ok (.isub, 1) := by decide +kernel
theorem dX1_readBrick_73 : decode cX1_readBrick 73 = .ok (.istore_n 3, 1) := by decide +kernel
theorem dX1_readBrick_74 : decode cX1_readBrick 74 = .ok (.iload_n 3, 1) := by decide +kernel
theorem dX1_readBrick_75 : decode cX1_readBrick 75 = .ok (.ifCond .lt 22, 3) := by decide +kernel
theorem dX1_readBrick_78 : decode cX1_readBrick 78 = .ok (.iload_n 3, 1) := by decide +kernel
theorem dX1_readBrick_79 : decode cX1_readBrick 79 = .ok (.bipush 9, 2) := by decide +kernel
theorem dX1_readBrick_81 : decode cX1_readBrick 81 = .ok (.if_icmp .ge 16, 3) := by decide +kernel
theorem dX1_readBrick_84 : decode cX1_readBrick 84 = .ok (.aload_n 0, 1) := by decide +kernel
theorem dX1_readBrick_85 : decode cX1_readBrick 85 = .ok (.getfield 12, 3) := by decide +kernel
theorem dX1_readBrick_88 : decode cX1_readBrick 88 = .ok (.iload_n 1, 1) := by decide +kernel
theorem dX1_readBrick_89 : decode cX1_readBrick 89 = .ok (.iload_n 2, 1) := by decide +kernel
theorem dX1_readBrick_90 : decode cX1_readBrick 90 = .ok (.iload_n 3, 1) := by decide +kernel
theorem dX1_readBrick_91 : decode cX1_readBrick 91 = .ok (.invokevirtual 60, 3) := by decide +kernel
theorem dX1_readBrick_94 : decode cX1_readBrick 94 = .ok (.ifCond .ne 5, 3) := by decide +kernel
theorem dX1_readBrick_97 : decode cX1_readBrick 97 = .ok (.iconst 0, 1) := by decide +kernel
theorem dX1_readBrick_98 : decode cX1_readBrick 98 = .ok (.ireturn, 1) := by decide +kernel
theorem dX1_readBrick_99 : decode cX1_readBrick 99 = .ok (.aload_n 0, 1) := by decide +kernel
theorem dX1_readBrick_100 : decode cX1_readBrick 100 = .ok (.dup, 1) := by decide +kernel
theorem dX1_readBrick_101 : decode cX1_readBrick 101 = .ok (.getfield 26, 3) := by decide +kernel
theorem dX1_readBrick_104 : decode cX1_readBrick 104 = .ok (.iconst 1, 1) := by decide +kernel
theorem dX1_readBrick_105 : decode cX1_readBrick 105 = .ok (.iadd, 1) := by decide +kernel
theorem dX1_readBrick_106 : decode cX1_readBrick 106 = .ok (.putfield 26, 3) := by decide +kernel
theorem dX1_readBrick_109 : decode cX1_readBrick 109 = .ok (.aload_n 0, 1) := by decide +kernel
theorem dX1_readBrick_110 : decode cX1_readBrick 110 = .ok (.iload_n 1, 1) := by decide +kernel
theorem dX1_readBrick_111 : decode cX1_readBrick 111 = .ok (.iload_n 2, 1) := by decide +kernel
theorem dX1_readBrick_112 : decode cX1_readBrick 112 = .ok (.iload_n 3, 1) := by decide +kernel
theorem dX1_readBrick_113 : decode cX1_readBrick 113 = .ok (.invokevirtual 64, 3) := by decide +kernel
theorem dX1_readBrick_116 : decode cX1_readBrick 116 = .ok (.ireturn, 1) := by decide +kernel
theorem dX1_readMarks_0 : decode cX1_readMarks 0 = .ok (.aload_n 0, 1) := by decide +kernel
theorem dX1_readMarks_1 : decode cX1_readMarks 1 = .ok (.bipush (-9), 2) := by decide +kernel
theorem dX1_readMarks_3 : decode cX1_readMarks 3 = .ok (.bipush (-9), 2) := by decide +kernel
theorem dX1_readMarks_5 : decode cX1_readMarks 5 = .ok (.invokevirtual 67, 3) := by decide +kernel
theorem dX1_readMarks_8 : decode cX1_readMarks 8 = .ok (.istore 4, 2) := by decide +kernel
theorem dX1_readMarks_10 : decode cX1_readMarks 10 = .ok (.iload 4, 2) := by decide +kernel
theorem dX1_readMarks_12 : decode cX1_readMarks 12 = .ok (.bipush (-9), 2) := by decide +kernel
theorem dX1_readMarks_14 : decode cX1_readMarks 14 = .ok (.if_icmp .ne 5, 3) := by decide +kernel
theorem dX1_readMarks_17 : decode cX1_readMarks 17 = .ok (.iconst 0, 1) := by decide +kernel
theorem dX1_readMarks_18 : decode cX1_readMarks 18 = .ok (.ireturn, 1) := by decide +kernel
theorem dX1_readMarks_19 : decode cX1_readMarks 19 = .ok (.aload_n 0, 1) := by decide +kernel
theorem dX1_readMarks_20 : decode cX1_readMarks 20 = .ok (.iload 4, 2) := by decide +kernel
theorem dX1_readMarks_22 : decode cX1_readMarks 22 = .ok (.bipush (-9), 2) := by decide +kernel
theorem dX1_readMarks_24 : decode cX1_readMarks 24 = .ok (.invokevirtual 67, 3) := by decide +kernel
theorem dX1_readMarks_27 : decode cX1_readMarks 27 = .ok (.istore 5, 2) := by decide +kernel
theorem dX1_readMarks_29 : decode cX1_readMarks 29 = .ok (.iload 5, 2) := by decide +kernel
theorem dX1_readMarks_31 : decode cX1_readMarks 31 = .ok (.bipush (-9), 2) := by decide +kernel
theorem dX1_readMarks_33 : decode cX1_readMarks 33 = .ok (.if_icmp .ne 5, 3) := by decide +kernel
theorem dX1_readMarks_36 : decode cX1_readMarks 36 = .ok (.iconst 0, 1) := by decide +kernel
theorem dX1_readMarks_37 : decode cX1_readMarks 37 = .ok (.ireturn, 1) := by decide +kernel
theorem dX1_readMarks_38 : decode cX1_readMarks 38 = .ok (.iload_n 1, 1) := by decide +kernel
theorem dX1_readMarks_39 : decode cX1_readMarks 39 = .ok (.iconst 3, 1) := by decide +kernel
theorem dX1_readMarks_40 : decode cX1_readMarks 40 = .ok (.if_icmp .ne 14, 3) := by decide +kernel
theorem dX1_readMarks_43 : decode cX1_readMarks 43 = .ok (.aload_n 0, 1) := by decide +kernel
theorem dX1_readMarks_44 : decode cX1_readMarks 44 = .ok (.iload 4, 2) := by decide +kernel
theorem dX1_readMarks_46 : decode cX1_readMarks 46 = .ok (.iload 5, 2) := by decide +kernel
theorem dX1_readMarks_48 : decode cX1_readMarks 48 = .ok (.invokevirtual 67, 3) := by decide +kernel
theorem dX1_readMarks_51 : decode cX1_readMarks 51 = .ok (.goto 5, 3) := by decide +kernel
theorem dX1_readMarks_54 : decode cX1_readMarks 54 = .ok (.bipush (-9), 2) := by decide +kernel
theorem dX1_readMarks_56 : decode cX1_readMarks 56 = .ok (.istore 6, 2) := by decide +kernel
theorem dX1_readMarks_58 : decode cX1_readMarks 58 = .ok (.iload_n 1, 1) := by decide +kernel
theorem dX1_readMarks_59 : decode cX1_readMarks 59 = .ok (.iconst 3, 1) := by decide +kernel
theorem dX1_readMarks_60 : decode cX1_readMarks 60 = .ok (.if_icmp .ne 12, 3) := by decide +kernel
theorem dX1_readMarks_63 : decode cX1_readMarks 63 = .ok (.iload 6, 2) := by decide +kernel
theorem dX1_readMarks_65 : decode cX1_readMarks 65 = .ok (.bipush (-9), 2) := by decide +kernel
theorem dX1_readMarks_67 : decode cX1_readMarks 67 = .ok (.if_icmp .ne 5, 3) := by decide +kernel
theorem dX1_readMarks_70 : decode cX1_readMarks 70 = .ok (.iconst 0, 1) := by decide +kernel
theorem dX1_readMarks_71 : decode cX1_readMarks 71 = .ok (.ireturn, 1) := by decide +kernel
theorem dX1_readMarks_72 : decode cX1_readMarks 72 = .ok (.aload_n 0, 1) := by decide +kernel
theorem dX1_readMarks_73 : decode cX1_readMarks 73 = .ok (.getfield 12, 3) := by decide +kernel
theorem dX1_readMarks_76 : decode cX1_readMarks 76 = .ok (.iload_n 1, 1) := by decide +kernel
theorem dX1_readMarks_77 : decode cX1_readMarks 77 = .ok (.iload_n 2, 1) := by decide +kernel
theorem dX1_readMarks_78 : decode cX1_readMarks 78 = .ok (.iload_n 3, 1) := by decide +kernel
theorem dX1_readMarks_79 : decode cX1_readMarks 79 = .ok (.invokevirtual 71, 3) := by decide +kernel
theorem dX1_readMarks_82 : decode cX1_readMarks 82 = .ok (.aload_n 0, 1) := by decide +kernel
theorem dX1_readMarks_83 : decode cX1_readMarks 83 = .ok (.getfield 12, 3) := by decide +kernel
theorem dX1_readMarks_86 : decode cX1_readMarks 86 = .ok (.getfield 75, 3) := by decide +kernel
theorem dX1_readMarks_89 : decode cX1_readMarks 89 = .ok (.aload_n 0, 1) := by decide +kernel
theorem dX1_readMarks_90 : decode cX1_readMarks 90 = .ok (.getfield 12, 3) := by decide +kernel
theorem dX1_readMarks_93 : decode cX1_readMarks 93 = .ok (.getfield 57, 3) := by decide +kernel
theorem dX1_readMarks_96 : decode cX1_readMarks 96 = .ok (.iconst 1, 1) := by decide +kernel
theorem dX1_readMarks_97 : decode cX1_readMarks 97 = .ok (.isub, 1) := by decide +kernel
theorem dX1_readMarks_98 : decode cX1_readMarks 98 = .ok (.aaload, 1) := by decide +kernel
theorem dX1_readMarks_99 : decode cX1_readMarks 99 = .ok (.iload 4, 2) := by decide +kernel
theorem dX1_readMarks_101 : decode cX1_readMarks 101 = .ok (.iload 5, 2) := by decide +kernel
theorem dX1_readMarks_103 : decode cX1_readMarks 103 = .ok (.iload 6, 2) := by decide +kernel
theorem dX1_readMarks_105 : decode cX1_readMarks 105 = .ok (.invokevirtual 79, 3) := by decide +kernel
theorem dX1_readMarks_108 : decode cX1_readMarks 108 = .ok (.iconst 1, 1) := by decide +kernel
theorem dX1_readMarks_109 : decode cX1_readMarks 109 = .ok (.ireturn, 1) := by decide +kernel
theorem dX1_readPerson_0 : decode cX1_readPerson 0 = .ok (.aload_n 0, 1) := by decide +kernel
theorem dX1_readPerson_1 : decode cX1_readPerson 1 = .ok (.invokevirtual 42, 3) := by decide +kernel
theorem dX1_readPerson_4 : decode cX1_readPerson 4 = .ok (.bipush 65, 2) := by decide +kernel
theorem dX1_readPerson_6 : decode cX1_readPerson 6 = .ok (.isub, 1) := by decide +kernel
theorem dX1_readPerson_7 : decode cX1_readPerson 7 = .ok (.istore_n 3, 1) := by decide +kernel
theorem dX1_readPerson_8 : decode cX1_readPerson 8 = .ok (.iload_n 3, 1) := by decide +kernel
theorem dX1_readPerson_9 : decode cX1_readPerson 9 = .ok (.invokestatic 84, 3) := by decide +kernel
theorem dX1_readPerson_12 : decode cX1_readPerson 12 = .ok (.ifCond .eq 13, 3) := by decide +kernel
theorem dX1_readPerson_15 : decode cX1_readPerson 15 = .ok (.iload_n 3, 1) := by decide +kernel
theorem dX1_readPerson_16 : decode cX1_readPerson 16 = .ok (.iload_n 1, 1) := by decide +kernel
theorem dX1_readPerson_17 : decode cX1_readPerson 17 = .ok (.if_icmp .eq 8, 3) := by decide +kernel
theorem dX1_readPerson_20 : decode cX1_readPerson 20 = .ok (.iload_n 3, 1) := by decide +kernel
theorem dX1_readPerson_21 : decode cX1_readPerson 21 = .ok (.iload_n 2, 1) := by decide +kernel
theorem dX1_readPerson_22 : decode cX1_readPerson 22 = .ok (.if_icmp .ne 6, 3) := by decide +kernel
theorem dX1_readPerson_25 : decode cX1_readPerson 25 = .ok (.bipush (-9), 2) := by decide +kernel
theorem dX1_readPerson_27 : decode cX1_readPerson 27 = .ok (.ireturn, 1) := by decide +kernel
theorem dX1_readPerson_28 : decode cX1_readPerson 28 = .ok (.aload_n 0, 1) := by decide +kernel
theorem dX1_readPerson_29 : decode cX1_readPerson 29 = .ok (.dup, 1) := by decide +kernel
theorem dX1_readPerson_30 : decode cX1_readPerson 30 = .ok (.getfield 26, 3) := by decide +kernel
theorem dX1_readPerson_33 : decode cX1_readPerson 33 = .ok (.iconst 1, 1) := by decide +kernel
theorem dX1_readPerson_34 : decode cX1_readPerson 34 = .ok (.iadd, 1) := by decide +kernel
theorem dX1_readPerson_35 : decode cX1_readPerson 35 = .ok (.putfield 26, 3) := by decide +kernel
theorem dX1_readPerson_38 : decode cX1_readPerson 38 = .ok (.iload_n 3, 1) := by decide +kernel
theorem dX1_readPerson_39 : decode cX1_readPerson 39 = .ok (.ireturn, 1) := by decide +kernel
theorem dX1_kindOf_0 : decode cX1_kindOf 0 = .ok (.iload_n 0, 1) := by decide +kernel
theorem dX1_kindOf_1 : decode cX1_kindOf 1 = .ok (.tableswitch 107 97 116 #[105, 95, 97, 107, 107, 99, 107, 107, 107, 107, 107, 107, 107, 107, 107, 107, 107, 103, 107, 101], 95) := by decide +kernel
theorem dX1_kindOf_96 : decode cX1_kindOf 96 = .ok (.iconst 0, 1) := by decide +kernel
theorem dX1_kindOf_97 : decode cX1_kindOf 97 = .ok (.ireturn, 1) := by decide +kernel
theorem dX1_kindOf_98 : decode cX1_kindOf 98 = .ok (.iconst 1, 1) := by decide +kernel
theorem dX1_kindOf_99 : decode cX1_kindOf 99 = .ok (.ireturn, 1) := by decide +kernel
theorem dX1_kindOf_100 : decode cX1_kindOf 100 = .ok (.iconst 2, 1) := by decide +kernel
theorem dX1_kindOf_101 : decode cX1_kindOf 101 = .ok (.ireturn, 1) := by decide +kernel
theorem dX1_kindOf_102 : decode cX1_kindOf 102 = .ok (.iconst 3, 1) := by decide +kernel
theorem dX1_kindOf_103 : decode cX1_kindOf 103 = .ok (.ireturn, 1) := by decide +kernel
theorem dX1_kindOf_104 : decode cX1_kindOf 104 = .ok (.iconst 4, 1) := by decide +kernel
theorem dX1_kindOf_105 : decode cX1_kindOf 105 = .ok (.ireturn, 1) := by decide +kernel
theorem dX1_kindOf_106 : decode cX1_kindOf 106 = .ok (.iconst 5, 1) := by decide +kernel
theorem dX1_kindOf_107 : decode cX1_kindOf 107 = .ok (.ireturn, 1) := by decide +kernel
theorem dX1_kindOf_108 : decode cX1_kindOf 108 = .ok (.iconst (-1), 1) := by decide +kernel
theorem dX1_kindOf_109 : decode cX1_kindOf 109 = .ok (.ireturn, 1) := by decide +kernel
theorem dX2_init_0 : decode cX2_init 0 = .ok (.aload_n 0, 1) := by decide +kernel
theorem dX2_init_1 : decode cX2_init 1 = .ok (.invokespecial 3, 3) := by decide +kernel
theorem dX2_init_4 : decode cX2_init 4 = .ok (.aload_n 0, 1) := by decide +kernel
theorem dX2_init_5 : decode cX2_init 5 = .ok (.bipush 6, 2) := by decide +kernel
theorem dX2_init_7 : decode cX2_init 7 = .ok (.bipush 40, 2) := by decide +kernel
theorem dX2_init_9 : decode cX2_init 9 = .ok (.multianewarray 9 2, 4) := by decide +kernel
theorem dX2_init_13 : decode cX2_init 13 = .ok (.putfield 11, 3) := by decide +kernel
theorem dX2_init_16 : decode cX2_init 16 = .ok (.aload_n 0, 1) := by decide +kernel
theorem dX2_init_17 : decode cX2_init 17 = .ok (.bipush 6, 2) := by decide +kernel
theorem dX2_init_19 : decode cX2_init 19 = .ok (.newarray .int, 2) := by decide +kernel
theorem dX2_init_21 : decode cX2_init 21 = .ok (.putfield 16, 3) := by decide +kernel
theorem dX2_init_24 : decode cX2_init 24 = .ok (.iconst 0, 1) := by decide +kernel
theorem dX2_init_25 : decode cX2_init 25 = .ok (.istore_n 1, 1) := by decide +kernel
theorem dX2_init_26 : decode cX2_init 26 = .ok (.iload_n 1, 1) := by decide +kernel
theorem dX2_init_27 : decode cX2_init 27 = .ok (.bipush 6, 2) := by decide +kernel
theorem dX2_init_29 : decode cX2_init 29 = .ok (.if_icmp .ge 16, 3) := by decide +kernel
theorem dX2_init_32 : decode cX2_init 32 = .ok (.aload_n 0, 1) := by decide +kernel
theorem dX2_init_33 : decode cX2_init 33 = .ok (.getfield 16, 3) := by decide +kernel
theorem dX2_init_36 : decode cX2_init 36 = .ok (.iload_n 1, 1) := by decide +kernel
theorem dX2_init_37 : decode cX2_init 37 = .ok (.iconst (-1), 1) := by decide +kernel
theorem dX2_init_38 : decode cX2_init 38 = .ok (.iastore, 1) := by decide +kernel
theorem dX2_init_39 : decode cX2_init 39 = .ok (.iinc 1 1, 3) := by decide +kernel
theorem dX2_init_42 : decode cX2_init 42 = .ok (.goto (-16), 3) := by decide +kernel
theorem dX2_init_45 : decode cX2_init 45 = .ok (.return_, 1) := by decide +kernel
theorem dX2_begin_0 : decode cX2_begin 0 = .ok (.aload_n 0, 1) := by decide +kernel
theorem dX2_begin_1 : decode cX2_begin 1 = .ok (.getfield 16, 3) := by decide +kernel
theorem dX2_begin_4 : decode cX2_begin 4 = .ok (.iload_n 1, 1) := by decide +kernel
theorem dX2_begin_5 : decode cX2_begin 5 = .ok (.iload_n 2, 1) := by decide +kernel
theorem dX2_begin_6 : decode cX2_begin 6 = .ok (.iastore, 1) := by decide +kernel
theorem dX2_begin_7 : decode cX2_begin 7 = .ok (.iconst 0, 1) := by decide +kernel
theorem dX2_begin_8 : decode cX2_begin 8 = .ok (.istore_n 3, 1) := by decide +kernel
theorem dX2_begin_9 : decode cX2_begin 9 = .ok (.iload_n 3, 1) := by decide +kernel
theorem dX2_begin_10 : decode cX2_begin 10 = .ok (.iload_n 2, 1) := by decide +kernel
theorem dX2_begin_11 : decode cX2_begin 11 = .ok (.if_icmp .ge 18, 3) := by decide +kernel
theorem dX2_begin_14 : decode cX2_begin 14 = .ok (.aload_n 0, 1) := by decide +kernel
theorem dX2_begin_15 : decode cX2_begin 15 = .ok (.getfield 11, 3) := by decide +kernel
theorem dX2_begin_18 : decode cX2_begin 18 = .ok (.iload_n 1, 1) := by decide +kernel
theorem dX2_begin_19 : decode cX2_begin 19 = .ok (.aaload, 1) := by decide +kernel
theorem dX2_begin_20 : decode cX2_begin 20 = .ok (.iload_n 3, 1) := by decide +kernel
theorem dX2_begin_21 : decode cX2_begin 21 = .ok (.iconst 0, 1) := by decide +kernel
theorem dX2_begin_22 : decode cX2_begin 22 = .ok (.iastore, 1) := by decide +kernel
theorem dX2_begin_23 : decode cX2_begin 23 = .ok (.iinc 3 1, 3) := by decide +kernel
theorem dX2_begin_26 : decode cX2_begin 26 = .ok (.goto (-17), 3) := by decide +kernel
theorem dX2_begin_29 : decode cX2_begin 29 = .ok (.return_, 1) := by decide +kernel
theorem dX2_hasPlaces_0 : decode cX2_hasPlaces 0 = .ok (.iload_n 2, 1) := by decide +kernel
theorem dX2_hasPlaces_1 : decode cX2_hasPlaces 1 = .ok (.ifCond .lt 19, 3) := by decide +kernel
theorem dX2_hasPlaces_4 : decode cX2_hasPlaces 4 = .ok (.iload_n 3, 1) := by decide +kernel
theorem dX2_hasPlaces_5 : decode cX2_hasPlaces 5 = .ok (.aload_n 0, 1) := by decide +kernel
theorem dX2_hasPlaces_6 : decode cX2_hasPlaces 6 = .ok (.getfield 16, 3) := by decide +kernel
theorem dX2_hasPlaces_9 : decode cX2_hasPlaces 9 = .ok (.iload_n 1, 1) := by decide +kernel
theorem dX2_hasPlaces_10 : decode cX2_hasPlaces 10 = .ok (.iaload, 1) := by decide +kernel
theorem dX2_hasPlaces_11 : decode cX2_hasPlaces 11 = .ok (.iload_n 2, 1) := by decide +kernel
theorem dX2_hasPlaces_12 : decode cX2_hasPlaces 12 = .ok (.isub, 1) := by decide +kernel
theorem dX2_hasPlaces_13 : decode cX2_hasPlaces 13 = .ok (.if_icmp .gt 7, 3) := by decide +kernel
theorem dX2_hasPlaces_16 : decode cX2_hasPlaces 16 = .ok (.iconst 1, 1) := by decide +kernel
theorem dX2_hasPlaces_17 : decode cX2_hasPlaces 17 = .ok (.goto 4, 3) := by decide +kernel
theorem dX2_hasPlaces_20 : decode cX2_hasPlaces 20 = .ok (.iconst 0, 1) := by decide +kernel
theorem dX2_hasPlaces_21 : decode cX2_hasPlaces 21 = .ok (.ireturn, 1) := by decide +kernel
theorem dX2_sum_0 : decode cX2_sum 0 = .ok (.lconst 0, 1) := by decide +kernel
theorem dX2_sum_1 : decode cX2_sum 1 = .ok (.lstore_n 2, 1) := by decide +kernel
theorem dX2_sum_2 : decode cX2_sum 2 = .ok (.iconst 0, 1) := by decide +kernel
theorem dX2_sum_3 : decode cX2_sum 3 = .ok (.istore 4, 2) := by decide +kernel
theorem dX2_sum_5 : decode cX2_sum 5 = .ok (.iload 4, 2) := by decide +kernel
theorem dX2_sum_7 : decode cX2_sum 7 = .ok (.aload_n 0, 1) := by decide +kernel
theorem dX2_sum_8 : decode cX2_sum 8 = .ok (.getfield 16, 3) := by decide +kernel
theorem dX2_sum_11 : decode cX2_sum 11 = .ok (.iload_n 1, 1) := by decide +kernel
theorem dX2_sum_12 : decode cX2_sum 12 = .ok (.iaload, 1) := by decide +kernel
theorem dX2_sum_13 : decode cX2_sum 13 = .ok (.if_icmp .ge 22, 3) := by decide +kernel
theorem dX2_sum_16 : decode cX2_sum 16 = .ok (.lload_n 2, 1) := by decide +kernel
theorem dX2_sum_17 : decode cX2_sum 17 = .ok (.aload_n 0, 1) := by decide +kernel
theorem dX2_sum_18 : decode cX2_sum 18 = .ok (.getfield 11, 3) := by decide +kernel
theorem dX2_sum_21 : decode cX2_sum 21 = .ok (.iload_n 1, 1) := by decide +kernel
theorem dX2_sum_22 : decode cX2_sum 22 = .ok (.aaload, 1) := by decide +kernel
theorem dX2_sum_23 : decode cX2_sum 23 = .ok (.iload 4, 2) := by decide +kernel
theorem dX2_sum_25 : decode cX2_sum 25 = .ok (.iaload, 1) := by decide +kernel
theorem dX2_sum_26 : decode cX2_sum 26 = .ok (.i2l, 1) := by decide +kernel
theorem dX2_sum_27 : decode cX2_sum 27 = .ok (.ladd, 1) := by decide +kernel
theorem dX2_sum_28 : decode cX2_sum 28 = .ok (.lstore_n 2, 1) := by decide +kernel
theorem dX2_sum_29 : decode cX2_sum 29 = .ok (.iinc 4 1, 3) := by decide +kernel
theorem dX2_sum_32 : decode cX2_sum 32 = .ok (.goto (-27), 3) := by decide +kernel
theorem dX2_sum_35 : decode cX2_sum 35 = .ok (.lload_n 2, 1) := by decide +kernel
theorem dX2_sum_36 : decode cX2_sum 36 = .ok (.lreturn, 1) := by decide +kernel
theorem dX2_there_0 : decode cX2_there 0 = .ok (.iconst 0, 1) := by decide +kernel
theorem dX2_there_1 : decode cX2_there 1 = .ok (.istore_n 1, 1) := by decide +kernel
theorem dX2_there_2 : decode cX2_there 2 = .ok (.iconst 0, 1) := by decide +kernel
theorem dX2_there_3 : decode cX2_there 3 = .ok (.istore_n 2, 1) := by decide +kernel
theorem dX2_there_4 : decode cX2_there 4 = .ok (.iload_n 2, 1) := by decide +kernel
theorem dX2_there_5 : decode cX2_there 5 = .ok (.bipush 6, 2) := by decide +kernel
theorem dX2_there_7 : decode cX2_there 7 = .ok (.if_icmp .ge 26, 3) := by decide +kernel
theorem dX2_there_10 : decode cX2_there 10 = .ok (.iload_n 1, 1) := by decide +kernel
theorem dX2_there_11 : decode cX2_there 11 = .ok (.aload_n 0, 1) := by decide +kernel
theorem dX2_there_12 : decode cX2_there 12 = .ok (.getfield 16, 3) := by decide +kernel
theorem dX2_there_15 : decode cX2_there 15 = .ok (.iload_n 2, 1) := by decide +kernel
theorem dX2_there_16 : decode cX2_there 16 = .ok (.iaload, 1) := by decide +kernel
theorem dX2_there_17 : decode cX2_there 17 = .ok (.ifCond .lt 7, 3) := by decide +kernel
theorem dX2_there_20 : decode cX2_there 20 = .ok (.iconst 1, 1) := by decide +kernel
theorem dX2_there_21 : decode cX2_there 21 = .ok (.goto 4, 3) := by decide +kernel
theorem dX2_there_24 : decode cX2_there 24 = .ok (.iconst 0, 1) := by decide +kernel
theorem dX2_there_25 : decode cX2_there 25 = .ok (.iadd, 1) := by decide +kernel
theorem dX2_there_26 : decode cX2_there 26 = .ok (.istore_n 1, 1) := by decide +kernel
theorem dX2_there_27 : decode cX2_there 27 = .ok (.iinc 2 1, 3) := by decide +kernel
theorem dX2_there_30 : decode cX2_there 30 = .ok (.goto (-26), 3) := by decide +kernel
theorem dX2_there_33 : decode cX2_there 33 = .ok (.iload_n 1, 1) := by decide +kernel
theorem dX2_there_34 : decode cX2_there 34 = .ok (.ireturn, 1) := by decide +kernel
theorem dX2_mixInto_0 : decode cX2_mixInto 0 = .ok (.iconst 0, 1) := by decide +kernel
theorem dX2_mixInto_1 : decode cX2_mixInto 1 = .ok (.istore_n 3, 1) := by decide +kernel
theorem dX2_mixInto_2 : decode cX2_mixInto 2 = .ok (.iload_n 3, 1) := by decide +kernel
theorem dX2_mixInto_3 : decode cX2_mixInto 3 = .ok (.bipush 6, 2) := by decide +kernel
theorem dX2_mixInto_5 : decode cX2_mixInto 5 = .ok (.if_icmp .ge 60, 3) := by decide +kernel
theorem dX2_mixInto_8 : decode cX2_mixInto 8 = .ok (.ldc2_w 20, 3) := by decide +kernel
theorem dX2_mixInto_11 : decode cX2_mixInto 11 = .ok (.lload_n 1, 1) := by decide +kernel
theorem dX2_mixInto_12 : decode cX2_mixInto 12 = .ok (.lmul, 1) := by decide +kernel
theorem dX2_mixInto_13 : decode cX2_mixInto 13 = .ok (.aload_n 0, 1) := by decide +kernel
theorem dX2_mixInto_14 : decode cX2_mixInto 14 = .ok (.getfield 16, 3) := by decide +kernel
theorem dX2_mixInto_17 : decode cX2_mixInto 17 = .ok (.iload_n 3, 1) := by decide +kernel
theorem dX2_mixInto_18 : decode cX2_mixInto 18 = .ok (.iaload, 1) := by decide +kernel
theorem dX2_mixInto_19 : decode cX2_mixInto 19 = .ok (.i2l, 1) := by decide +kernel
theorem dX2_mixInto_20 : decode cX2_mixInto 20 = .ok (.ladd, 1) := by decide +kernel
theorem dX2_mixInto_21 : decode cX2_mixInto 21 = .ok (.lstore_n 1, 1) := by decide +kernel
theorem dX2_mixInto_22 : decode cX2_mixInto 22 = .ok (.iconst 0, 1) := by decide +kernel
theorem dX2_mixInto_23 : decode cX2_mixInto 23 = .ok (.istore 4, 2) := by decide +kernel
theorem dX2_mixInto_25 : decode cX2_mixInto 25 = .ok (.iload 4, 2) := by decide +kernel
theorem dX2_mixInto_27 : decode cX2_mixInto 27 = .ok (.aload_n 0, 1) := by decide +kernel
theorem dX2_mixInto_28 : decode cX2_mixInto 28 = .ok (.getfield 16, 3) := by decide +kernel
theorem dX2_mixInto_31 : decode cX2_mixInto 31 = .ok (.iload_n 3, 1) := by decide +kernel
theorem dX2_mixInto_32 : decode cX2_mixInto 32 = .ok (.iaload, 1) := by decide +kernel
theorem dX2_mixInto_33 : decode cX2_mixInto 33 = .ok (.if_icmp .ge 26, 3) := by decide +kernel
theorem dX2_mixInto_36 : decode cX2_mixInto 36 = .ok (.ldc2_w 20, 3) := by decide +kernel
theorem dX2_mixInto_39 : decode cX2_mixInto 39 = .ok (.lload_n 1, 1) := by decide +kernel
theorem dX2_mixInto_40 : decode cX2_mixInto 40 = .ok (.lmul, 1) := by decide +kernel
theorem dX2_mixInto_41 : decode cX2_mixInto 41 = .ok (.aload_n 0, 1) := by decide +kernel
theorem dX2_mixInto_42 : decode cX2_mixInto 42 = .ok (.getfield 11, 3) := by decide +kernel
theorem dX2_mixInto_45 : decode cX2_mixInto 45 = .ok (.iload_n 3, 1) := by decide +kernel
theorem dX2_mixInto_46 : decode cX2_mixInto 46 = .ok (.aaload, 1) := by decide +kernel
theorem dX2_mixInto_47 : decode cX2_mixInto 47 = .ok (.iload 4, 2) := by decide +kernel
theorem dX2_mixInto_49 : decode cX2_mixInto 49 = .ok (.iaload, 1) := by decide +kernel
theorem dX2_mixInto_50 : decode cX2_mixInto 50 = .ok (.i2l, 1) := by decide +kernel
theorem dX2_mixInto_51 : decode cX2_mixInto 51 = .ok (.ladd, 1) := by decide +kernel
theorem dX2_mixInto_52 : decode cX2_mixInto 52 = .ok (.lstore_n 1, 1) := by decide +kernel
theorem dX2_mixInto_53 : decode cX2_mixInto 53 = .ok (.iinc 4 1, 3) := by decide +kernel
theorem dX2_mixInto_56 : decode cX2_mixInto 56 = .ok (.goto (-31), 3) := by decide +kernel
theorem dX2_mixInto_59 : decode cX2_mixInto 59 = .ok (.iinc 3 1, 3) := by decide +kernel
theorem dX2_mixInto_62 : decode cX2_mixInto 62 = .ok (.goto (-60), 3) := by decide +kernel
theorem dX2_mixInto_65 : decode cX2_mixInto 65 = .ok (.lload_n 1, 1) := by decide +kernel
theorem dX2_mixInto_66 : decode cX2_mixInto 66 = .ok (.lreturn, 1) := by decide +kernel
theorem dX3_init_0 : decode cX3_init 0 = .ok (.aload_n 0, 1) := by decide +kernel
theorem dX3_init_1 : decode cX3_init 1 = .ok (.invokespecial 3, 3) := by decide +kernel
theorem dX3_init_4 : decode cX3_init 4 = .ok (.aload_n 0, 1) := by decide +kernel
theorem dX3_init_5 : decode cX3_init 5 = .ok (.iconst 4, 1) := by decide +kernel
theorem dX3_init_6 : decode cX3_init 6 = .ok (.bipush 100, 2) := by decide +kernel
theorem dX3_init_8 : decode cX3_init 8 = .ok (.multianewarray 9 2, 4) := by decide +kernel
theorem dX3_init_12 : decode cX3_init 12 = .ok (.putfield 11, 3) := by decide +kernel
theorem dX3_init_15 : decode cX3_init 15 = .ok (.aload_n 0, 1) := by decide +kernel
theorem dX3_init_16 : decode cX3_init 16 = .ok (.iconst 4, 1) := by decide +kernel
theorem dX3_init_17 : decode cX3_init 17 = .ok (.newarray .int, 2) := by decide +kernel
theorem dX3_init_19 : decode cX3_init 19 = .ok (.putfield 16, 3) := by decide +kernel
theorem dX3_init_22 : decode cX3_init 22 = .ok (.iconst 0, 1) := by decide +kernel
theorem dX3_init_23 : decode cX3_init 23 = .ok (.istore_n 1, 1) := by decide +kernel
theorem dX3_init_24 : decode cX3_init 24 = .ok (.iload_n 1, 1) := by decide +kernel
theorem dX3_init_25 : decode cX3_init 25 = .ok (.iconst 4, 1) := by decide +kernel
theorem dX3_init_26 : decode cX3_init 26 = .ok (.if_icmp .ge 16, 3) := by decide +kernel
theorem dX3_init_29 : decode cX3_init 29 = .ok (.aload_n 0, 1) := by decide +kernel
theorem dX3_init_30 : decode cX3_init 30 = .ok (.getfield 16, 3) := by decide +kernel
theorem dX3_init_33 : decode cX3_init 33 = .ok (.iload_n 1, 1) := by decide +kernel
theorem dX3_init_34 : decode cX3_init 34 = .ok (.iconst (-1), 1) := by decide +kernel
theorem dX3_init_35 : decode cX3_init 35 = .ok (.iastore, 1) := by decide +kernel
theorem dX3_init_36 : decode cX3_init 36 = .ok (.iinc 1 1, 3) := by decide +kernel
theorem dX3_init_39 : decode cX3_init 39 = .ok (.goto (-15), 3) := by decide +kernel
theorem dX3_init_42 : decode cX3_init 42 = .ok (.return_, 1) := by decide +kernel
theorem dX3_begin_0 : decode cX3_begin 0 = .ok (.aload_n 0, 1) := by decide +kernel
theorem dX3_begin_1 : decode cX3_begin 1 = .ok (.getfield 16, 3) := by decide +kernel
theorem dX3_begin_4 : decode cX3_begin 4 = .ok (.iload_n 1, 1) := by decide +kernel
theorem dX3_begin_5 : decode cX3_begin 5 = .ok (.iload_n 2, 1) := by decide +kernel
theorem dX3_begin_6 : decode cX3_begin 6 = .ok (.iastore, 1) := by decide +kernel
theorem dX3_begin_7 : decode cX3_begin 7 = .ok (.iconst 0, 1) := by decide +kernel
theorem dX3_begin_8 : decode cX3_begin 8 = .ok (.istore_n 3, 1) := by decide +kernel
theorem dX3_begin_9 : decode cX3_begin 9 = .ok (.iload_n 3, 1) := by decide +kernel
theorem dX3_begin_10 : decode cX3_begin 10 = .ok (.iload_n 2, 1) := by decide +kernel
theorem dX3_begin_11 : decode cX3_begin 11 = .ok (.if_icmp .ge 19, 3) := by decide +kernel
theorem dX3_begin_14 : decode cX3_begin 14 = .ok (.aload_n 0, 1) := by decide +kernel
theorem dX3_begin_15 : decode cX3_begin 15 = .ok (.getfield 11, 3) := by decide +kernel
theorem dX3_begin_18 : decode cX3_begin 18 = .ok (.iload_n 1, 1) := by decide +kernel
theorem dX3_begin_19 : decode cX3_begin 19 = .ok (.aaload, 1) := by decide +kernel
theorem dX3_begin_20 : decode cX3_begin 20 = .ok (.iload_n 3, 1) := by decide +kernel
theorem dX3_begin_21 : decode cX3_begin 21 = .ok (.bipush 32, 2) := by decide +kernel
theorem dX3_begin_23 : decode cX3_begin 23 = .ok (.bastore, 1) := by decide +kernel
theorem dX3_begin_24 : decode cX3_begin 24 = .ok (.iinc 3 1, 3) := by decide +kernel
theorem dX3_begin_27 : decode cX3_begin 27 = .ok (.goto (-18), 3) := by decide +kernel
theorem dX3_begin_30 : decode cX3_begin 30 = .ok (.return_, 1) := by decide +kernel
theorem dX3_there_0 : decode cX3_there 0 = .ok (.iconst 0, 1) := by decide +kernel
theorem dX3_there_1 : decode cX3_there 1 = .ok (.istore_n 1, 1) := by decide +kernel
theorem dX3_there_2 : decode cX3_there 2 = .ok (.iconst 0, 1) := by decide +kernel
theorem dX3_there_3 : decode cX3_there 3 = .ok (.istore_n 2, 1) := by decide +kernel
theorem dX3_there_4 : decode cX3_there 4 = .ok (.iload_n 2, 1) := by decide +kernel
theorem dX3_there_5 : decode cX3_there 5 = .ok (.iconst 4, 1) := by decide +kernel
theorem dX3_there_6 : decode cX3_there 6 = .ok (.if_icmp .ge 26, 3) := by decide +kernel
theorem dX3_there_9 : decode cX3_there 9 = .ok (.iload_n 1, 1) := by decide +kernel
theorem dX3_there_10 : decode cX3_there 10 = .ok (.aload_n 0, 1) := by decide +kernel
theorem dX3_there_11 : decode cX3_there 11 = .ok (.getfield 16, 3) := by decide +kernel
theorem dX3_there_14 : decode cX3_there 14 = .ok (.iload_n 2, 1) := by decide +kernel
theorem dX3_there_15 : decode cX3_there 15 = .ok (.iaload, 1) := by decide +kernel
theorem dX3_there_16 : decode cX3_there 16 = .ok (.ifCond .lt 7, 3) := by decide +kernel
theorem dX3_there_19 : decode cX3_there 19 = .ok (.iconst 1, 1) := by decide +kernel
theorem dX3_there_20 : decode cX3_there 20 = .ok (.goto 4, 3) := by decide +kernel
theorem dX3_there_23 : decode cX3_there 23 = .ok (.iconst 0, 1) := by decide +kernel
theorem dX3_there_24 : decode cX3_there 24 = .ok (.iadd, 1) := by decide +kernel
theorem dX3_there_25 : decode cX3_there 25 = .ok (.istore_n 1, 1) := by decide +kernel
theorem dX3_there_26 : decode cX3_there 26 = .ok (.iinc 2 1, 3) := by decide +kernel
theorem dX3_there_29 : decode cX3_there 29 = .ok (.goto (-25), 3) := by decide +kernel
theorem dX3_there_32 : decode cX3_there 32 = .ok (.iload_n 1, 1) := by decide +kernel
theorem dX3_there_33 : decode cX3_there 33 = .ok (.ireturn, 1) := by decide +kernel
theorem dX3_mixInto_0 : decode cX3_mixInto 0 = .ok (.iconst 0, 1) := by decide +kernel
theorem dX3_mixInto_1 : decode cX3_mixInto 1 = .ok (.istore_n 3, 1) := by decide +kernel
theorem dX3_mixInto_2 : decode cX3_mixInto 2 = .ok (.iload_n 3, 1) := by decide +kernel
theorem dX3_mixInto_3 : decode cX3_mixInto 3 = .ok (.iconst 4, 1) := by decide +kernel
theorem dX3_mixInto_4 : decode cX3_mixInto 4 = .ok (.if_icmp .ge 60, 3) := by decide +kernel
theorem dX3_mixInto_7 : decode cX3_mixInto 7 = .ok (.ldc2_w 20, 3) := by decide +kernel
theorem dX3_mixInto_10 : decode cX3_mixInto 10 = .ok (.lload_n 1, 1) := by decide +kernel
theorem dX3_mixInto_11 : decode cX3_mixInto 11 = .ok (.lmul, 1) := by decide +kernel
theorem dX3_mixInto_12 : decode cX3_mixInto 12 = .ok (.aload_n 0, 1) := by decide +kernel
theorem dX3_mixInto_13 : decode cX3_mixInto 13 = .ok (.getfield 16, 3) := by decide +kernel
theorem dX3_mixInto_16 : decode cX3_mixInto 16 = .ok (.iload_n 3, 1) := by decide +kernel
theorem dX3_mixInto_17 : decode cX3_mixInto 17 = .ok (.iaload, 1) := by decide +kernel
theorem dX3_mixInto_18 : decode cX3_mixInto 18 = .ok (.i2l, 1) := by decide +kernel
theorem dX3_mixInto_19 : decode cX3_mixInto 19 = .ok (.ladd, 1) := by decide +kernel
theorem dX3_mixInto_20 : decode cX3_mixInto 20 = .ok (.lstore_n 1, 1) := by decide +kernel
theorem dX3_mixInto_21 : decode cX3_mixInto 21 = .ok (.iconst 0, 1) := by decide +kernel
theorem dX3_mixInto_22 : decode cX3_mixInto 22 = .ok (.istore 4, 2) := by decide +kernel
theorem dX3_mixInto_24 : decode cX3_mixInto 24 = .ok (.iload 4, 2) := by decide +kernel
theorem dX3_mixInto_26 : decode cX3_mixInto 26 = .ok (.aload_n 0, 1) := by decide +kernel
theorem dX3_mixInto_27 : decode cX3_mixInto 27 = .ok (.getfield 16, 3) := by decide +kernel
theorem dX3_mixInto_30 : decode cX3_mixInto 30 = .ok (.iload_n 3, 1) := by decide +kernel
theorem dX3_mixInto_31 : decode cX3_mixInto 31 = .ok (.iaload, 1) := by decide +kernel
theorem dX3_mixInto_32 : decode cX3_mixInto 32 = .ok (.if_icmp .ge 26, 3) := by decide +kernel
theorem dX3_mixInto_35 : decode cX3_mixInto 35 = .ok (.ldc2_w 20, 3) := by decide +kernel
theorem dX3_mixInto_38 : decode cX3_mixInto 38 = .ok (.lload_n 1, 1) := by decide +kernel
theorem dX3_mixInto_39 : decode cX3_mixInto 39 = .ok (.lmul, 1) := by decide +kernel
theorem dX3_mixInto_40 : decode cX3_mixInto 40 = .ok (.aload_n 0, 1) := by decide +kernel
theorem dX3_mixInto_41 : decode cX3_mixInto 41 = .ok (.getfield 11, 3) := by decide +kernel
theorem dX3_mixInto_44 : decode cX3_mixInto 44 = .ok (.iload_n 3, 1) := by decide +kernel
theorem dX3_mixInto_45 : decode cX3_mixInto 45 = .ok (.aaload, 1) := by decide +kernel
theorem dX3_mixInto_46 : decode cX3_mixInto 46 = .ok (.iload 4, 2) := by decide +kernel
theorem dX3_mixInto_48 : decode cX3_mixInto 48 = .ok (.baload, 1) := by decide +kernel
theorem dX3_mixInto_49 : decode cX3_mixInto 49 = .ok (.i2l, 1) := by decide +kernel
theorem dX3_mixInto_50 : decode cX3_mixInto 50 = .ok (.ladd, 1) := by decide +kernel
theorem dX3_mixInto_51 : decode cX3_mixInto 51 = .ok (.lstore_n 1, 1) := by decide +kernel
theorem dX3_mixInto_52 : decode cX3_mixInto 52 = .ok (.iinc 4 1, 3) := by decide +kernel
theorem dX3_mixInto_55 : decode cX3_mixInto 55 = .ok (.goto (-31), 3) := by decide +kernel
theorem dX3_mixInto_58 : decode cX3_mixInto 58 = .ok (.iinc 3 1, 3) := by decide +kernel
theorem dX3_mixInto_61 : decode cX3_mixInto 61 = .ok (.goto (-59), 3) := by decide +kernel
theorem dX3_mixInto_64 : decode cX3_mixInto 64 = .ok (.lload_n 1, 1) := by decide +kernel
theorem dX3_mixInto_65 : decode cX3_mixInto 65 = .ok (.lreturn, 1) := by decide +kernel
theorem dX4_init_0 : decode cX4_init 0 = .ok (.aload_n 0, 1) := by decide +kernel
theorem dX4_init_1 : decode cX4_init 1 = .ok (.invokespecial 3, 3) := by decide +kernel
theorem dX4_init_4 : decode cX4_init 4 = .ok (.aload_n 0, 1) := by decide +kernel
theorem dX4_init_5 : decode cX4_init 5 = .ok (.bipush 14, 2) := by decide +kernel
theorem dX4_init_7 : decode cX4_init 7 = .ok (.anewarray 9, 3) := by decide +kernel
theorem dX4_init_10 : decode cX4_init 10 = .ok (.putfield 11, 3) := by decide +kernel
theorem dX4_init_13 : decode cX4_init 13 = .ok (.aload_n 0, 1) := by decide +kernel
theorem dX4_init_14 : decode cX4_init 14 = .ok (.bipush 14, 2) := by decide +kernel
theorem dX4_init_16 : decode cX4_init 16 = .ok (.newarray .int, 2) := by decide +kernel
theorem dX4_init_18 : decode cX4_init 18 = .ok (.putfield 17, 3) := by decide +kernel
theorem dX4_init_21 : decode cX4_init 21 = .ok (.aload_n 0, 1) := by decide +kernel
theorem dX4_init_22 : decode cX4_init 22 = .ok (.bipush 14, 2) := by decide +kernel
theorem dX4_init_24 : decode cX4_init 24 = .ok (.newarray .int, 2) := by decide +kernel
theorem dX4_init_26 : decode cX4_init 26 = .ok (.putfield 21, 3) := by decide +kernel
theorem dX4_init_29 : decode cX4_init 29 = .ok (.aload_n 0, 1) := by decide +kernel
theorem dX4_init_30 : decode cX4_init 30 = .ok (.bipush 6, 2) := by decide +kernel
theorem dX4_init_32 : decode cX4_init 32 = .ok (.newarray .int, 2) := by decide +kernel
theorem dX4_init_34 : decode cX4_init 34 = .ok (.putfield 24, 3) := by decide +kernel
theorem dX4_init_37 : decode cX4_init 37 = .ok (.aload_n 0, 1) := by decide +kernel
theorem dX4_init_38 : decode cX4_init 38 = .ok (.bipush 6, 2) := by decide +kernel
theorem dX4_init_40 : decode cX4_init 40 = .ok (.newarray .int, 2) := by decide +kernel
theorem dX4_init_42 : decode cX4_init 42 = .ok (.putfield 27, 3) := by decide +kernel
theorem dX4_init_45 : decode cX4_init 45 = .ok (.iconst 0, 1) := by decide +kernel
theorem dX4_init_46 : decode cX4_init 46 = .ok (.istore_n 1, 1) := by decide +kernel
theorem dX4_init_47 : decode cX4_init 47 = .ok (.iload_n 1, 1) := by decide +kernel
theorem dX4_init_48 : decode cX4_init 48 = .ok (.bipush 14, 2) := by decide +kernel
theorem dX4_init_50 : decode cX4_init 50 = .ok (.if_icmp .ge 22, 3) := by decide +kernel
theorem dX4_init_53 : decode cX4_init 53 = .ok (.aload_n 0, 1) := by decide +kernel
theorem dX4_init_54 : decode cX4_init 54 = .ok (.getfield 11, 3) := by decide +kernel
theorem dX4_init_57 : decode cX4_init 57 = .ok (.iload_n 1, 1) := by decide +kernel
theorem dX4_init_58 : decode cX4_init 58 = .ok (.new 9, 3) := by decide +kernel
theorem dX4_init_61 : decode cX4_init 61 = .ok (.dup, 1) := by decide +kernel
theorem dX4_init_62 : decode cX4_init 62 = .ok (.invokespecial 30, 3) := by decide +kernel
theorem dX4_init_65 : decode cX4_init 65 = .ok (.aastore, 1) := by decide +kernel
theorem dX4_init_66 : decode cX4_init 66 = .ok (.iinc 1 1, 3) := by decide +kernel
theorem dX4_init_69 : decode cX4_init 69 = .ok (.goto (-22), 3) := by decide +kernel
theorem dX4_init_72 : decode cX4_init 72 = .ok (.return_, 1) := by decide +kernel
theorem dX4_clear_0 : decode cX4_clear 0 = .ok (.aload_n 0, 1) := by decide +kernel
theorem dX4_clear_1 : decode cX4_clear 1 = .ok (.iconst 0, 1) := by decide +kernel
theorem dX4_clear_2 : decode cX4_clear 2 = .ok (.putfield 31, 3) := by decide +kernel
theorem dX4_clear_5 : decode cX4_clear 5 = .ok (.aload_n 0, 1) := by decide +kernel
theorem dX4_clear_6 : decode cX4_clear 6 = .ok (.iconst 0, 1) := by decide +kernel
theorem dX4_clear_7 : decode cX4_clear 7 = .ok (.putfield 35, 3) := by decide +kernel
theorem dX4_clear_10 : decode cX4_clear 10 = .ok (.aload_n 0, 1) := by decide +kernel
theorem dX4_clear_11 : decode cX4_clear 11 = .ok (.iconst 0, 1) := by decide +kernel
theorem dX4_clear_12 : decode cX4_clear 12 = .ok (.putfield 39, 3) := by decide +kernel
theorem dX4_clear_15 : decode cX4_clear 15 = .ok (.aload_n 0, 1) := by decide +kernel
theorem dX4_clear_16 : decode cX4_clear 16 = .ok (.iconst 0, 1) := by decide +kernel
theorem dX4_clear_17 : decode cX4_clear 17 = .ok (.putfield 42, 3) := by decide +kernel
theorem dX4_clear_20 : decode cX4_clear 20 = .ok (.aload_n 0, 1) := by decide +kernel
theorem dX4_clear_21 : decode cX4_clear 21 = .ok (.iconst 0, 1) := by decide +kernel
theorem dX4_clear_22 : decode cX4_clear 22 = .ok (.putfield 45, 3) := by decide +kernel
theorem dX4_clear_25 : decode cX4_clear 25 = .ok (.aload_n 0, 1) := by decide +kernel
theorem dX4_clear_26 : decode cX4_clear 26 = .ok (.iconst 0, 1) := by decide +kernel
theorem dX4_clear_27 : decode cX4_clear 27 = .ok (.putfield 48, 3) := by decide +kernel
theorem dX4_clear_30 : decode cX4_clear 30 = .ok (.aload_n 0, 1) := by decide +kernel
theorem dX4_clear_31 : decode cX4_clear 31 = .ok (.iconst 0, 1) := by decide +kernel
theorem dX4_clear_32 : decode cX4_clear 32 = .ok (.putfield 51, 3) := by decide +kernel
theorem dX4_clear_35 : decode cX4_clear 35 = .ok (.aload_n 0, 1) := by decide +kernel
theorem dX4_clear_36 : decode cX4_clear 36 = .ok (.iconst 0, 1) := by decide +kernel
theorem dX4_clear_37 : decode cX4_clear 37 = .ok (.putfield 54, 3) := by decide +kernel
theorem dX4_clear_40 : decode cX4_clear 40 = .ok (.aload_n 0, 1) := by decide +kernel
theorem dX4_clear_41 : decode cX4_clear 41 = .ok (.iconst 0, 1) := by decide +kernel
theorem dX4_clear_42 : decode cX4_clear 42 = .ok (.putfield 57, 3) := by decide +kernel
theorem dX4_clear_45 : decode cX4_clear 45 = .ok (.return_, 1) := by decide +kernel
theorem dX4_become_0 : decode cX4_become 0 = .ok (.aload_n 0, 1) := by decide +kernel
theorem dX4_become_1 : decode cX4_become 1 = .ok (.aload_n 1, 1) := by decide +kernel
theorem dX4_become_2 : decode cX4_become 2 = .ok (.getfield 31, 3) := by decide +kernel
theorem dX4_become_5 : decode cX4_become 5 = .ok (.putfield 31, 3) := by decide +kernel
theorem dX4_become_8 : decode cX4_become 8 = .ok (.aload_n 0, 1) := by decide +kernel
theorem dX4_become_9 : decode cX4_become 9 = .ok (.aload_n 1, 1) := by decide +kernel
theorem dX4_become_10 : decode cX4_become 10 = .ok (.getfield 35, 3) := by decide +kernel
theorem dX4_become_13 : decode cX4_become 13 = .ok (.putfield 35, 3) := by decide +kernel
theorem dX4_become_16 : decode cX4_become 16 = .ok (.aload_n 0, 1) := by decide +kernel
theorem dX4_become_17 : decode cX4_become 17 = .ok (.aload_n 1, 1) := by decide +kernel
theorem dX4_become_18 : decode cX4_become 18 = .ok (.getfield 39, 3) := by decide +kernel
theorem dX4_become_21 : decode cX4_become 21 = .ok (.putfield 39, 3) := by decide +kernel
theorem dX4_become_24 : decode cX4_become 24 = .ok (.aload_n 0, 1) := by decide +kernel
theorem dX4_become_25 : decode cX4_become 25 = .ok (.aload_n 1, 1) := by decide +kernel
theorem dX4_become_26 : decode cX4_become 26 = .ok (.getfield 42, 3) := by decide +kernel
theorem dX4_become_29 : decode cX4_become 29 = .ok (.putfield 42, 3) := by decide +kernel
theorem dX4_become_32 : decode cX4_become 32 = .ok (.aload_n 0, 1) := by decide +kernel
theorem dX4_become_33 : decode cX4_become 33 = .ok (.aload_n 1, 1) := by decide +kernel
theorem dX4_become_34 : decode cX4_become 34 = .ok (.getfield 45, 3) := by decide +kernel
theorem dX4_become_37 : decode cX4_become 37 = .ok (.putfield 45, 3) := by decide +kernel
theorem dX4_become_40 : decode cX4_become 40 = .ok (.aload_n 0, 1) := by decide +kernel
theorem dX4_become_41 : decode cX4_become 41 = .ok (.aload_n 1, 1) := by decide +kernel
theorem dX4_become_42 : decode cX4_become 42 = .ok (.getfield 48, 3) := by decide +kernel
theorem dX4_become_45 : decode cX4_become 45 = .ok (.putfield 48, 3) := by decide +kernel
theorem dX4_become_48 : decode cX4_become 48 = .ok (.aload_n 0, 1) := by decide +kernel
theorem dX4_become_49 : decode cX4_become 49 = .ok (.aload_n 1, 1) := by decide +kernel
theorem dX4_become_50 : decode cX4_become 50 = .ok (.getfield 51, 3) := by decide +kernel
theorem dX4_become_53 : decode cX4_become 53 = .ok (.putfield 51, 3) := by decide +kernel
theorem dX4_become_56 : decode cX4_become 56 = .ok (.aload_n 0, 1) := by decide +kernel
theorem dX4_become_57 : decode cX4_become 57 = .ok (.aload_n 1, 1) := by decide +kernel
theorem dX4_become_58 : decode cX4_become 58 = .ok (.getfield 54, 3) := by decide +kernel
theorem dX4_become_61 : decode cX4_become 61 = .ok (.putfield 54, 3) := by decide +kernel
theorem dX4_become_64 : decode cX4_become 64 = .ok (.aload_n 0, 1) := by decide +kernel
theorem dX4_become_65 : decode cX4_become 65 = .ok (.aload_n 1, 1) := by decide +kernel
theorem dX4_become_66 : decode cX4_become 66 = .ok (.getfield 57, 3) := by decide +kernel
theorem dX4_become_69 : decode cX4_become 69 = .ok (.putfield 57, 3) := by decide +kernel
theorem dX4_become_72 : decode cX4_become 72 = .ok (.iconst 0, 1) := by decide +kernel
theorem dX4_become_73 : decode cX4_become 73 = .ok (.istore_n 2, 1) := by decide +kernel
theorem dX4_become_74 : decode cX4_become 74 = .ok (.iload_n 2, 1) := by decide +kernel
theorem dX4_become_75 : decode cX4_become 75 = .ok (.bipush 14, 2) := by decide +kernel
theorem dX4_become_77 : decode cX4_become 77 = .ok (.if_icmp .ge 48, 3) := by decide +kernel
theorem dX4_become_80 : decode cX4_become 80 = .ok (.aload_n 0, 1) := by decide +kernel
theorem dX4_become_81 : decode cX4_become 81 = .ok (.getfield 11, 3) := by decide +kernel
theorem dX4_become_84 : decode cX4_become 84 = .ok (.iload_n 2, 1) := by decide +kernel
theorem dX4_become_85 : decode cX4_become 85 = .ok (.aaload, 1) := by decide +kernel
theorem dX4_become_86 : decode cX4_become 86 = .ok (.aload_n 1, 1) := by decide +kernel
theorem dX4_become_87 : decode cX4_become 87 = .ok (.getfield 11, 3) := by decide +kernel
theorem dX4_become_90 : decode cX4_become 90 = .ok (.iload_n 2, 1) := by decide +kernel
theorem dX4_become_91 : decode cX4_become 91 = .ok (.aaload, 1) := by decide +kernel
theorem dX4_become_92 : decode cX4_become 92 = .ok (.invokevirtual 60, 3) := by decide +kernel
theorem dX4_become_95 : decode cX4_become 95 = .ok (.aload_n 0, 1) := by decide +kernel
theorem dX4_become_96 : decode cX4_become 96 = .ok (.getfield 17, 3) := by decide +kernel
theorem dX4_become_99 : decode cX4_become 99 = .ok (.iload_n 2, 1) := by decide +kernel
theorem dX4_become_100 : decode cX4_become 100 = .ok (.aload_n 1, 1) := by decide +kernel
theorem dX4_become_101 : decode cX4_become 101 = .ok (.getfield 17, 3) := by decide +kernel
theorem dX4_become_104 : decode cX4_become 104 = .ok (.iload_n 2, 1) := by decide +kernel
theorem dX4_become_105 : decode cX4_become 105 = .ok (.iaload, 1) := by decide +kernel
theorem dX4_become_106 : decode cX4_become 106 = .ok (.iastore, 1) := by decide +kernel
theorem dX4_become_107 : decode cX4_become 107 = .ok (.aload_n 0, 1) := by decide +kernel
theorem dX4_become_108 : decode cX4_become 108 = .ok (.getfield 21, 3) := by decide +kernel
theorem dX4_become_111 : decode cX4_become 111 = .ok (.iload_n 2, 1) := by decide +kernel
theorem dX4_become_112 : decode cX4_become 112 = .ok (.aload_n 1, 1) := by decide +kernel
theorem dX4_become_113 : decode cX4_become 113 = .ok (.getfield 21, 3) := by decide +kernel
theorem dX4_become_116 : decode cX4_become 116 = .ok (.iload_n 2, 1) := by decide +kernel
theorem dX4_become_117 : decode cX4_become 117 = .ok (.iaload, 1) := by decide +kernel
theorem dX4_become_118 : decode cX4_become 118 = .ok (.iastore, 1) := by decide +kernel
theorem dX4_become_119 : decode cX4_become 119 = .ok (.iinc 2 1, 3) := by decide +kernel
theorem dX4_become_122 : decode cX4_become 122 = .ok (.goto (-48), 3) := by decide +kernel
theorem dX4_become_125 : decode cX4_become 125 = .ok (.return_, 1) := by decide +kernel
theorem dX4_has_0 : decode cX4_has 0 = .ok (.iload_n 1, 1) := by decide +kernel
theorem dX4_has_1 : decode cX4_has 1 = .ok (.ifCond .lt 15, 3) := by decide +kernel
theorem dX4_has_4 : decode cX4_has 4 = .ok (.iload_n 1, 1) := by decide +kernel
theorem dX4_has_5 : decode cX4_has 5 = .ok (.aload_n 0, 1) := by decide +kernel
theorem dX4_has_6 : decode cX4_has 6 = .ok (.getfield 39, 3) := by decide +kernel
theorem dX4_has_9 : decode cX4_has 9 = .ok (.if_icmp .ge 7, 3) := by decide +kernel
theorem dX4_has_12 : decode cX4_has 12 = .ok (.iconst 1, 1) := by decide +kernel
theorem dX4_has_13 : decode cX4_has 13 = .ok (.goto 4, 3) := by decide +kernel
theorem dX4_has_16 : decode cX4_has 16 = .ok (.iconst 0, 1) := by decide +kernel
theorem dX4_has_17 : decode cX4_has 17 = .ok (.ireturn, 1) := by decide +kernel
theorem dX4_hasAll_0 : decode cX4_hasAll 0 = .ok (.iload_n 1, 1) := by decide +kernel
theorem dX4_hasAll_1 : decode cX4_hasAll 1 = .ok (.ifCond .lt 16, 3) := by decide +kernel
theorem dX4_hasAll_4 : decode cX4_hasAll 4 = .ok (.iload_n 1, 1) := by decide +kernel
theorem dX4_hasAll_5 : decode cX4_hasAll 5 = .ok (.aload_n 0, 1) := by decide +kernel
theorem dX4_hasAll_6 : decode cX4_hasAll 6 = .ok (.getfield 39, 3) := by decide +kernel
theorem dX4_hasAll_9 : decode cX4_hasAll 9 = .ok (.ishr, 1) := by decide +kernel
theorem dX4_hasAll_10 : decode cX4_hasAll 10 = .ok (.ifCond .ne 7, 3) := by decide +kernel
theorem dX4_hasAll_13 : decode cX4_hasAll 13 = .ok (.iconst 1, 1) := by decide +kernel
theorem dX4_hasAll_14 : decode cX4_hasAll 14 = .ok (.goto 4, 3) := by decide +kernel
theorem dX4_hasAll_17 : decode cX4_hasAll 17 = .ok (.iconst 0, 1) := by decide +kernel
theorem dX4_hasAll_18 : decode cX4_hasAll 18 = .ok (.ireturn, 1) := by decide +kernel
theorem dX4_isIn_0 : decode cX4_isIn 0 = .ok (.aload_n 0, 1) := by decide +kernel
theorem dX4_isIn_1 : decode cX4_isIn 1 = .ok (.getfield 42, 3) := by decide +kernel
theorem dX4_isIn_4 : decode cX4_isIn 4 = .ok (.iload_n 1, 1) := by decide +kernel
theorem dX4_isIn_5 : decode cX4_isIn 5 = .ok (.ishr, 1) := by decide +kernel
theorem dX4_isIn_6 : decode cX4_isIn 6 = .ok (.iconst 1, 1) := by decide +kernel
theorem dX4_isIn_7 : decode cX4_isIn 7 = .ok (.iand, 1) := by decide +kernel
theorem dX4_isIn_8 : decode cX4_isIn 8 = .ok (.iconst 1, 1) := by decide +kernel
theorem dX4_isIn_9 : decode cX4_isIn 9 = .ok (.if_icmp .ne 7, 3) := by decide +kernel
theorem dX4_isIn_12 : decode cX4_isIn 12 = .ok (.iconst 1, 1) := by decide +kernel
theorem dX4_isIn_13 : decode cX4_isIn 13 = .ok (.goto 4, 3) := by decide +kernel
theorem dX4_isIn_16 : decode cX4_isIn 16 = .ok (.iconst 0, 1) := by decide +kernel
theorem dX4_isIn_17 : decode cX4_isIn 17 = .ok (.ireturn, 1) := by decide +kernel
theorem dX4_hasVine_0 : decode cX4_hasVine 0 = .ok (.aload_n 0, 1) := by decide +kernel
theorem dX4_hasVine_1 : decode cX4_hasVine 1 = .ok (.getfield 48, 3) := by decide +kernel
theorem dX4_hasVine_4 : decode cX4_hasVine 4 = .ok (.iload_n 1, 1) := by decide +kernel
theorem dX4_hasVine_5 : decode cX4_hasVine 5 = .ok (.ishr, 1) := by decide +kernel
theorem dX4_hasVine_6 : decode cX4_hasVine 6 = .ok (.iconst 1, 1) := by decide +kernel
theorem dX4_hasVine_7 : decode cX4_hasVine 7 = .ok (.iand, 1) := by decide +kernel
theorem dX4_hasVine_8 : decode cX4_hasVine 8 = .ok (.iconst 1, 1) := by decide +kernel
theorem dX4_hasVine_9 : decode cX4_hasVine 9 = .ok (.if_icmp .ne 7, 3) := by decide +kernel
theorem dX4_hasVine_12 : decode cX4_hasVine 12 = .ok (.iconst 1, 1) := by decide +kernel
theorem dX4_hasVine_13 : decode cX4_hasVine 13 = .ok (.goto 4, 3) := by decide +kernel
theorem dX4_hasVine_16 : decode cX4_hasVine 16 = .ok (.iconst 0, 1) := by decide +kernel
theorem dX4_hasVine_17 : decode cX4_hasVine 17 = .ok (.ireturn, 1) := by decide +kernel
theorem dX4_hasRoom_0 : decode cX4_hasRoom 0 = .ok (.iload_n 3, 1) := by decide +kernel
theorem dX4_hasRoom_1 : decode cX4_hasRoom 1 = .ok (.iload_n 1, 1) := by decide +kernel
theorem dX4_hasRoom_2 : decode cX4_hasRoom 2 = .ok (.invokestatic 64, 3) := by decide +kernel
theorem dX4_hasRoom_5 : decode cX4_hasRoom 5 = .ok (.iadd, 1) := by decide +kernel
theorem dX4_hasRoom_6 : decode cX4_hasRoom 6 = .ok (.aload_n 0, 1) := by decide +kernel
theorem dX4_hasRoom_7 : decode cX4_hasRoom 7 = .ok (.getfield 35, 3) := by decide +kernel
theorem dX4_hasRoom_10 : decode cX4_hasRoom 10 = .ok (.if_icmp .gt 7, 3) := by decide +kernel
theorem dX4_hasRoom_13 : decode cX4_hasRoom 13 = .ok (.iconst 1, 1) := by decide +kernel
theorem dX4_hasRoom_14 : decode cX4_hasRoom 14 = .ok (.goto 4, 3) := by decide +kernel
theorem dX4_hasRoom_17 : decode cX4_hasRoom 17 = .ok (.iconst 0, 1) := by decide +kernel
theorem dX4_hasRoom_18 : decode cX4_hasRoom 18 = .ok (.istore 4, 2) := by decide +kernel
theorem dX4_hasRoom_20 : decode cX4_hasRoom 20 = .ok (.iload 4, 2) := by decide +kernel
theorem dX4_hasRoom_22 : decode cX4_hasRoom 22 = .ok (.ifCond .eq 24, 3) := by decide +kernel
theorem dX4_hasRoom_25 : decode cX4_hasRoom 25 = .ok (.aload_n 0, 1) := by decide +kernel
theorem dX4_hasRoom_26 : decode cX4_hasRoom 26 = .ok (.iload_n 2, 1) := by decide +kernel
theorem dX4_hasRoom_27 : decode cX4_hasRoom 27 = .ok (.iload_n 1, 1) := by decide +kernel
theorem dX4_hasRoom_28 : decode cX4_hasRoom 28 = .ok (.iload_n 3, 1) := by decide +kernel
theorem dX4_hasRoom_29 : decode cX4_hasRoom 29 = .ok (.invokestatic 68, 3) := by decide +kernel
theorem dX4_hasRoom_32 : decode cX4_hasRoom 32 = .ok (.aload_n 0, 1) := by decide +kernel
theorem dX4_hasRoom_33 : decode cX4_hasRoom 33 = .ok (.getfield 42, 3) := by decide +kernel
theorem dX4_hasRoom_36 : decode cX4_hasRoom 36 = .ok (.invokevirtual 72, 3) := by decide +kernel
theorem dX4_hasRoom_39 : decode cX4_hasRoom 39 = .ok (.ifCond .ne 7, 3) := by decide +kernel
theorem dX4_hasRoom_42 : decode cX4_hasRoom 42 = .ok (.iconst 1, 1) := by decide +kernel
theorem dX4_hasRoom_43 : decode cX4_hasRoom 43 = .ok (.goto 4, 3) := by decide +kernel
theorem dX4_hasRoom_46 : decode cX4_hasRoom 46 = .ok (.iconst 0, 1) := by decide +kernel
theorem dX4_hasRoom_47 : decode cX4_hasRoom 47 = .ok (.ireturn, 1) := by decide +kernel
theorem dX4_over_0 : decode cX4_over 0 = .ok (.iconst 0, 1) := by decide +kernel
theorem dX4_over_1 : decode cX4_over 1 = .ok (.istore 4, 2) := by decide +kernel
theorem dX4_over_3 : decode cX4_over 3 = .ok (.iconst 0, 1) := by decide +kernel
theorem dX4_over_4 : decode cX4_over 4 = .ok (.istore 5, 2) := by decide +kernel
theorem dX4_over_6 : decode cX4_over 6 = .ok (.iload 5, 2) := by decide +kernel
theorem dX4_over_8 : decode cX4_over 8 = .ok (.aload_n 0, 1) := by decide +kernel
theorem dX4_over_9 : decode cX4_over 9 = .ok (.getfield 39, 3) := by decide +kernel
theorem dX4_over_12 : decode cX4_over 12 = .ok (.if_icmp .ge 64, 3) := by decide +kernel
theorem dX4_over_15 : decode cX4_over 15 = .ok (.aload_n 0, 1) := by decide +kernel
theorem dX4_over_16 : decode cX4_over 16 = .ok (.getfield 11, 3) := by decide +kernel
theorem dX4_over_19 : decode cX4_over 19 = .ok (.iload 5, 2) := by decide +kernel
theorem dX4_over_21 : decode cX4_over 21 = .ok (.aaload, 1) := by decide +kernel
theorem dX4_over_22 : decode cX4_over 22 = .ok (.astore 6, 2) := by decide +kernel
theorem dX4_over_24 : decode cX4_over 24 = .ok (.aload 6, 2) := by decide +kernel
theorem dX4_over_26 : decode cX4_over 26 = .ok (.getfield 76, 3) := by decide +kernel
theorem dX4_over_29 : decode cX4_over 29 = .ok (.iload_n 1, 1) := by decide +kernel
theorem dX4_over_30 : decode cX4_over 30 = .ok (.if_icmp .ne 17, 3) := by decide +kernel
theorem dX4_over_33 : decode cX4_over 33 = .ok (.aload 6, 2) := by decide +kernel
theorem dX4_over_35 : decode cX4_over 35 = .ok (.getfield 79, 3) := by decide +kernel
theorem dX4_over_38 : decode cX4_over 38 = .ok (.iload_n 2, 1) := by decide +kernel
theorem dX4_over_39 : decode cX4_over 39 = .ok (.iand, 1) := by decide +kernel
theorem dX4_over_40 : decode cX4_over 40 = .ok (.ifCond .eq 7, 3) := by decide +kernel
theorem dX4_over_43 : decode cX4_over 43 = .ok (.iconst 1, 1) := by decide +kernel
theorem dX4_over_44 : decode cX4_over 44 = .ok (.goto 4, 3) := by decide +kernel
theorem dX4_over_47 : decode cX4_over 47 = .ok (.iconst 0, 1) := by decide +kernel
theorem dX4_over_48 : decode cX4_over 48 = .ok (.istore 7, 2) := by decide +kernel
theorem dX4_over_50 : decode cX4_over 50 = .ok (.iload 4, 2) := by decide +kernel
theorem dX4_over_52 : decode cX4_over 52 = .ok (.iload 7, 2) := by decide +kernel
theorem dX4_over_54 : decode cX4_over 54 = .ok (.ifCond .eq 12, 3) := by decide +kernel
theorem dX4_over_57 : decode cX4_over 57 = .ok (.iload_n 3, 1) := by decide +kernel
theorem dX4_over_58 : decode cX4_over 58 = .ok (.iconst 1, 1) := by decide +kernel
theorem dX4_over_59 : decode cX4_over 59 = .ok (.iload 5, 2) := by decide +kernel
theorem dX4_over_61 : decode cX4_over 61 = .ok (.ishl, 1) := by decide +kernel
theorem dX4_over_62 : decode cX4_over 62 = .ok (.iand, 1) := by decide +kernel
theorem dX4_over_63 : decode cX4_over 63 = .ok (.goto 4, 3) := by decide +kernel
theorem dX4_over_66 : decode cX4_over 66 = .ok (.iconst 0, 1) := by decide +kernel
theorem dX4_over_67 : decode cX4_over 67 = .ok (.ior, 1) := by decide +kernel
theorem dX4_over_68 : decode cX4_over 68 = .ok (.istore 4, 2) := by decide +kernel
theorem dX4_over_70 : decode cX4_over 70 = .ok (.iinc 5 1, 3) := by decide +kernel
theorem dX4_over_73 : decode cX4_over 73 = .ok (.goto (-67), 3) := by decide +kernel
theorem dX4_over_76 : decode cX4_over 76 = .ok (.iload 4, 2) := by decide +kernel
theorem dX4_over_78 : decode cX4_over 78 = .ok (.ireturn, 1) := by decide +kernel
theorem dX4_add_0 : decode cX4_add 0 = .ok (.aload_n 0, 1) := by decide +kernel
theorem dX4_add_1 : decode cX4_add 1 = .ok (.getfield 39, 3) := by decide +kernel
theorem dX4_add_4 : decode cX4_add 4 = .ok (.bipush 14, 2) := by decide +kernel
theorem dX4_add_6 : decode cX4_add 6 = .ok (.if_icmp .lt 4, 3) := by decide +kernel
theorem dX4_add_9 : decode cX4_add 9 = .ok (.return_, 1) := by decide +kernel
theorem dX4_add_10 : decode cX4_add 10 = .ok (.aload_n 0, 1) := by decide +kernel
theorem dX4_add_11 : decode cX4_add 11 = .ok (.getfield 39, 3) := by decide +kernel
theorem dX4_add_14 : decode cX4_add 14 = .ok (.istore 4, 2) := by decide +kernel
theorem dX4_add_16 : decode cX4_add 16 = .ok (.aload_n 0, 1) := by decide +kernel
theorem dX4_add_17 : decode cX4_add 17 = .ok (.getfield 11, 3) := by decide +kernel
theorem dX4_add_20 : decode cX4_add 20 = .ok (.iload 4, 2) := by decide +kernel
theorem dX4_add_22 : decode cX4_add 22 = .ok (.aaload, 1) := by decide +kernel
theorem dX4_add_23 : decode cX4_add 23 = .ok (.iload_n 1, 1) := by decide +kernel
theorem dX4_add_24 : decode cX4_add 24 = .ok (.iload_n 2, 1) := by decide +kernel
theorem dX4_add_25 : decode cX4_add 25 = .ok (.iload_n 3, 1) := by decide +kernel
theorem dX4_add_26 : decode cX4_add 26 = .ok (.invokevirtual 82, 3) := by decide +kernel
theorem dX4_add_29 : decode cX4_add 29 = .ok (.iload 4, 2) := by decide +kernel
theorem dX4_add_31 : decode cX4_add 31 = .ok (.istore 5, 2) := by decide +kernel
theorem dX4_add_33 : decode cX4_add 33 = .ok (.iload 5, 2) := by decide +kernel
theorem dX4_add_35 : decode cX4_add 35 = .ok (.ifCond .le 55, 3) := by decide +kernel
theorem dX4_add_38 : decode cX4_add 38 = .ok (.aload_n 0, 1) := by decide +kernel
theorem dX4_add_39 : decode cX4_add 39 = .ok (.getfield 11, 3) := by decide +kernel
theorem dX4_add_42 : decode cX4_add 42 = .ok (.aload_n 0, 1) := by decide +kernel
theorem dX4_add_43 : decode cX4_add 43 = .ok (.getfield 17, 3) := by decide +kernel
theorem dX4_add_46 : decode cX4_add 46 = .ok (.iload 5, 2) := by decide +kernel
theorem dX4_add_48 : decode cX4_add 48 = .ok (.iconst 1, 1) := by decide +kernel
theorem dX4_add_49 : decode cX4_add 49 = .ok (.isub, 1) := by decide +kernel
theorem dX4_add_50 : decode cX4_add 50 = .ok (.iaload, 1) := by decide +kernel
theorem dX4_add_51 : decode cX4_add 51 = .ok (.aaload, 1) := by decide +kernel
theorem dX4_add_52 : decode cX4_add 52 = .ok (.invokevirtual 86, 3) := by decide +kernel
theorem dX4_add_55 : decode cX4_add 55 = .ok (.aload_n 0, 1) := by decide +kernel
theorem dX4_add_56 : decode cX4_add 56 = .ok (.getfield 11, 3) := by decide +kernel
theorem dX4_add_59 : decode cX4_add 59 = .ok (.iload 4, 2) := by decide +kernel
theorem dX4_add_61 : decode cX4_add 61 = .ok (.aaload, 1) := by decide +kernel
theorem dX4_add_62 : decode cX4_add 62 = .ok (.invokevirtual 86, 3) := by decide +kernel
theorem dX4_add_65 : decode cX4_add 65 = .ok (.if_icmp .le 25, 3) := by decide +kernel
theorem dX4_add_68 : decode cX4_add 68 = .ok (.aload_n 0, 1) := by decide +kernel
theorem dX4_add_69 : decode cX4_add 69 = .ok (.getfield 17, 3) := by decide +kernel
theorem dX4_add_72 : decode cX4_add 72 = .ok (.iload 5, 2) := by decide +kernel
theorem dX4_add_74 : decode cX4_add 74 = .ok (.aload_n 0, 1) := by decide +kernel
theorem dX4_add_75 : decode cX4_add 75 = .ok (.getfield 17, 3) := by decide +kernel
theorem dX4_add_78 : decode cX4_add 78 = .ok (.iload 5, 2) := by decide +kernel
theorem dX4_add_80 : decode cX4_add 80 = .ok (.iconst 1, 1) := by decide +kernel
theorem dX4_add_81 : decode cX4_add 81 = .ok (.isub, 1) := by decide +kernel
theorem dX4_add_82 : decode cX4_add 82 = .ok (.iaload, 1) := by decide +kernel
theorem dX4_add_83 : decode cX4_add 83 = .ok (.iastore, 1) := by decide +kernel
theorem dX4_add_84 : decode cX4_add 84 = .ok (.iinc 5 (-1), 3) := by decide +kernel
theorem dX4_add_87 : decode cX4_add 87 = .ok (.goto (-54), 3) := by decide +kernel
theorem dX4_add_90 : decode cX4_add 90 = .ok (.aload_n 0, 1) := by decide +kernel
theorem dX4_add_91 : decode cX4_add 91 = .ok (.getfield 17, 3) := by decide +kernel
theorem dX4_add_94 : decode cX4_add 94 = .ok (.iload 5, 2) := by decide +kernel
theorem dX4_add_96 : decode cX4_add 96 = .ok (.iload 4, 2) := by decide +kernel
theorem dX4_add_98 : decode cX4_add 98 = .ok (.iastore, 1) := by decide +kernel
theorem dX4_add_99 : decode cX4_add 99 = .ok (.aload_n 0, 1) := by decide +kernel
theorem dX4_add_100 : decode cX4_add 100 = .ok (.dup, 1) := by decide +kernel
theorem dX4_add_101 : decode cX4_add 101 = .ok (.getfield 42, 3) := by decide +kernel
theorem dX4_add_104 : decode cX4_add 104 = .ok (.iconst 1, 1) := by decide +kernel
theorem dX4_add_105 : decode cX4_add 105 = .ok (.iload 4, 2) := by decide +kernel
theorem dX4_add_107 : decode cX4_add 107 = .ok (.ishl, 1) := by decide +kernel
theorem dX4_add_108 : decode cX4_add 108 = .ok (.ior, 1) := by decide +kernel
theorem dX4_add_109 : decode cX4_add 109 = .ok (.putfield 42, 3) := by decide +kernel
theorem dX4_add_112 : decode cX4_add 112 = .ok (.aload_n 0, 1) := by decide +kernel
theorem dX4_add_113 : decode cX4_add 113 = .ok (.dup, 1) := by decide +kernel
theorem dX4_add_114 : decode cX4_add 114 = .ok (.getfield 39, 3) := by decide +kernel
theorem dX4_add_117 : decode cX4_add 117 = .ok (.iconst 1, 1) := by decide +kernel
theorem dX4_add_118 : decode cX4_add 118 = .ok (.iadd, 1) := by decide +kernel
theorem dX4_add_119 : decode cX4_add 119 = .ok (.putfield 39, 3) := by decide +kernel
theorem dX4_add_122 : decode cX4_add 122 = .ok (.return_, 1) := by decide +kernel
theorem dX4_removeLast_0 : decode cX4_removeLast 0 = .ok (.aload_n 0, 1) := by decide +kernel
theorem dX4_removeLast_1 : decode cX4_removeLast 1 = .ok (.getfield 39, 3) := by decide +kernel
theorem dX4_removeLast_4 : decode cX4_removeLast 4 = .ok (.ifCond .gt 4, 3) := by decide +kernel
theorem dX4_removeLast_7 : decode cX4_removeLast 7 = .ok (.return_, 1) := by decide +kernel
theorem dX4_removeLast_8 : decode cX4_removeLast 8 = .ok (.aload_n 0, 1) := by decide +kernel
theorem dX4_removeLast_9 : decode cX4_removeLast 9 = .ok (.getfield 39, 3) := by decide +kernel
theorem dX4_removeLast_12 : decode cX4_removeLast 12 = .ok (.iconst 1, 1) := by decide +kernel
theorem dX4_removeLast_13 : decode cX4_removeLast 13 = .ok (.isub, 1) := by decide +kernel
theorem dX4_removeLast_14 : decode cX4_removeLast 14 = .ok (.istore_n 1, 1) := by decide +kernel
theorem dX4_removeLast_15 : decode cX4_removeLast 15 = .ok (.iconst 0, 1) := by decide +kernel
theorem dX4_removeLast_16 : decode cX4_removeLast 16 = .ok (.istore_n 2, 1) := by decide +kernel
theorem dX4_removeLast_17 : decode cX4_removeLast 17 = .ok (.iconst 0, 1) := by decide +kernel
theorem dX4_removeLast_18 : decode cX4_removeLast 18 = .ok (.istore_n 3, 1) := by decide +kernel
theorem dX4_removeLast_19 : decode cX4_removeLast 19 = .ok (.iload_n 3, 1) := by decide +kernel
theorem dX4_removeLast_20 : decode cX4_removeLast 20 = .ok (.aload_n 0, 1) := by decide +kernel
theorem dX4_removeLast_21 : decode cX4_removeLast 21 = .ok (.getfield 39, 3) := by decide +kernel
theorem dX4_removeLast_24 : decode cX4_removeLast 24 = .ok (.if_icmp .ge 34, 3) := by decide +kernel
theorem dX4_removeLast_27 : decode cX4_removeLast 27 = .ok (.aload_n 0, 1) := by decide +kernel
theorem dX4_removeLast_28 : decode cX4_removeLast 28 = .ok (.getfield 17, 3) := by decide +kernel
theorem dX4_removeLast_31 : decode cX4_removeLast 31 = .ok (.iload_n 3, 1) := by decide +kernel
theorem dX4_removeLast_32 : decode cX4_removeLast 32 = .ok (.iaload, 1) := by decide +kernel
theorem dX4_removeLast_33 : decode cX4_removeLast 33 = .ok (.iload_n 1, 1) := by decide +kernel
theorem dX4_removeLast_34 : decode cX4_removeLast 34 = .ok (.if_icmp .eq 18, 3) := by decide +kernel
theorem dX4_removeLast_37 : decode cX4_removeLast 37 = .ok (.aload_n 0, 1) := by decide +kernel
theorem dX4_removeLast_38 : decode cX4_removeLast 38 = .ok (.getfield 17, 3) := by decide +kernel
theorem dX4_removeLast_41 : decode cX4_removeLast 41 = .ok (.iload_n 2, 1) := by decide +kernel
theorem dX4_removeLast_42 : decode cX4_removeLast 42 = .ok (.aload_n 0, 1) := by decide +kernel
theorem dX4_removeLast_43 : decode cX4_removeLast 43 = .ok (.getfield 17, 3) := by decide +kernel
theorem dX4_removeLast_46 : decode cX4_removeLast 46 = .ok (.iload_n 3, 1) := by decide +kernel
theorem dX4_removeLast_47 : decode cX4_removeLast 47 = .ok (.iaload, 1) := by decide +kernel
theorem dX4_removeLast_48 : decode cX4_removeLast 48 = .ok (.iastore, 1) := by decide +kernel
theorem dX4_removeLast_49 : decode cX4_removeLast 49 = .ok (.iinc 2 1, 3) := by decide +kernel
theorem dX4_removeLast_52 : decode cX4_removeLast 52 = .ok (.iinc 3 1, 3) := by decide +kernel
theorem dX4_removeLast_55 : decode cX4_removeLast 55 = .ok (.goto (-36), 3) := by decide +kernel
theorem dX4_removeLast_58 : decode cX4_removeLast 58 = .ok (.aload_n 0, 1) := by decide +kernel
theorem dX4_removeLast_59 : decode cX4_removeLast 59 = .ok (.dup, 1) := by decide +kernel
theorem dX4_removeLast_60 : decode cX4_removeLast 60 = .ok (.getfield 42, 3) := by decide +kernel
theorem dX4_removeLast_63 : decode cX4_removeLast 63 = .ok (.iconst 1, 1) := by decide +kernel
theorem dX4_removeLast_64 : decode cX4_removeLast 64 = .ok (.iload_n 1, 1) := by decide +kernel
theorem dX4_removeLast_65 : decode cX4_removeLast 65 = .ok (.ishl, 1) := by decide +kernel
theorem dX4_removeLast_66 : decode cX4_removeLast 66 = .ok (.iconst (-1), 1) := by decide +kernel
theorem dX4_removeLast_67 : decode cX4_removeLast 67 = .ok (.ixor, 1) := by decide +kernel
theorem dX4_removeLast_68 : decode cX4_removeLast 68 = .ok (.iand, 1) := by decide +kernel
theorem dX4_removeLast_69 : decode cX4_removeLast 69 = .ok (.putfield 42, 3) := by decide +kernel
theorem dX4_removeLast_72 : decode cX4_removeLast 72 = .ok (.aload_n 0, 1) := by decide +kernel
theorem dX4_removeLast_73 : decode cX4_removeLast 73 = .ok (.dup, 1) := by decide +kernel
theorem dX4_removeLast_74 : decode cX4_removeLast 74 = .ok (.getfield 39, 3) := by decide +kernel
theorem dX4_removeLast_77 : decode cX4_removeLast 77 = .ok (.iconst 1, 1) := by decide +kernel
theorem dX4_removeLast_78 : decode cX4_removeLast 78 = .ok (.isub, 1) := by decide +kernel
theorem dX4_removeLast_79 : decode cX4_removeLast 79 = .ok (.putfield 39, 3) := by decide +kernel
theorem dX4_removeLast_82 : decode cX4_removeLast 82 = .ok (.return_, 1) := by decide +kernel
theorem dX4_standing_0 : decode cX4_standing 0 = .ok (.aload_n 0, 1) := by decide +kernel
theorem dX4_standing_1 : decode cX4_standing 1 = .ok (.invokevirtual 90, 3) := by decide +kernel
theorem dX4_standing_4 : decode cX4_standing 4 = .ok (.iconst 0, 1) := by decide +kernel
theorem dX4_standing_5 : decode cX4_standing 5 = .ok (.istore_n 3, 1) := by decide +kernel
theorem dX4_standing_6 : decode cX4_standing 6 = .ok (.iload_n 2, 1) := by decide +kernel
theorem dX4_standing_7 : decode cX4_standing 7 = .ok (.aload_n 0, 1) := by decide +kernel
theorem dX4_standing_8 : decode cX4_standing 8 = .ok (.getfield 48, 3) := by decide +kernel
theorem dX4_standing_11 : decode cX4_standing 11 = .ok (.ior, 1) := by decide +kernel
theorem dX4_standing_12 : decode cX4_standing 12 = .ok (.istore 4, 2) := by decide +kernel
theorem dX4_standing_14 : decode cX4_standing 14 = .ok (.iconst 0, 1) := by decide +kernel
theorem dX4_standing_15 : decode cX4_standing 15 = .ok (.istore 5, 2) := by decide +kernel
theorem dX4_standing_17 : decode cX4_standing 17 = .ok (.iload 5, 2) := by decide +kernel
theorem dX4_standing_19 : decode cX4_standing 19 = .ok (.aload_n 0, 1) := by decide +kernel
theorem dX4_standing_20 : decode cX4_standing 20 = .ok (.getfield 39, 3) := by decide +kernel
theorem dX4_standing_23 : decode cX4_standing 23 = .ok (.if_icmp .ge 100, 3) := by decide +kernel
theorem dX4_standing_26 : decode cX4_standing 26 = .ok (.aload_n 0, 1) := by decide +kernel
theorem dX4_standing_27 : decode cX4_standing 27 = .ok (.getfield 17, 3) := by decide +kernel
theorem dX4_standing_30 : decode cX4_standing 30 = .ok (.iload 5, 2) := by decide +kernel
theorem dX4_standing_32 : decode cX4_standing 32 = .ok (.iaload, 1) := by decide +kernel
theorem dX4_standing_33 : decode cX4_standing 33 = .ok (.istore 6, 2) := by decide +kernel
theorem dX4_standing_35 : decode cX4_standing 35 = .ok (.aload_n 0, 1) := by decide +kernel
theorem dX4_standing_36 : decode cX4_standing 36 = .ok (.getfield 11, 3) := by decide +kernel
theorem dX4_standing_39 : decode cX4_standing 39 = .ok (.iload 6, 2) := by decide +kernel
theorem dX4_standing_41 : decode cX4_standing 41 = .ok (.aaload, 1) := by decide +kernel
theorem dX4_standing_42 : decode cX4_standing 42 = .ok (.astore 7, 2) := by decide +kernel
theorem dX4_standing_44 : decode cX4_standing 44 = .ok (.iload 4, 2) := by decide +kernel
theorem dX4_standing_46 : decode cX4_standing 46 = .ok (.iload 6, 2) := by decide +kernel
theorem dX4_standing_48 : decode cX4_standing 48 = .ok (.ishr, 1) := by decide +kernel
theorem dX4_standing_49 : decode cX4_standing 49 = .ok (.iconst 1, 1) := by decide +kernel
theorem dX4_standing_50 : decode cX4_standing 50 = .ok (.iand, 1) := by decide +kernel
theorem dX4_standing_51 : decode cX4_standing 51 = .ok (.iconst 1, 1) := by decide +kernel
theorem dX4_standing_52 : decode cX4_standing 52 = .ok (.if_icmp .eq 30, 3) := by decide +kernel
theorem dX4_standing_55 : decode cX4_standing 55 = .ok (.aload 7, 2) := by decide +kernel
theorem dX4_standing_57 : decode cX4_standing 57 = .ok (.aload_n 0, 1) := by decide +kernel
theorem dX4_standing_58 : decode cX4_standing 58 = .ok (.aload 7, 2) := by decide +kernel
theorem dX4_standing_60 : decode cX4_standing 60 = .ok (.getfield 76, 3) := by decide +kernel
theorem dX4_standing_63 : decode cX4_standing 63 = .ok (.invokevirtual 93, 3) := by decide +kernel
theorem dX4_standing_66 : decode cX4_standing 66 = .ok (.aload_n 0, 1) := by decide +kernel
theorem dX4_standing_67 : decode cX4_standing 67 = .ok (.getfield 27, 3) := by decide +kernel
theorem dX4_standing_70 : decode cX4_standing 70 = .ok (.aload 7, 2) := by decide +kernel
theorem dX4_standing_72 : decode cX4_standing 72 = .ok (.getfield 76, 3) := by decide +kernel
theorem dX4_standing_75 : decode cX4_standing 75 = .ok (.iaload, 1) := by decide +kernel
theorem dX4_standing_76 : decode cX4_standing 76 = .ok (.invokevirtual 96, 3) := by decide +kernel
theorem dX4_standing_79 : decode cX4_standing 79 = .ok (.ifCond .eq 7, 3) := by decide +kernel
theorem dX4_standing_82 : decode cX4_standing 82 = .ok (.iconst 1, 1) := by decide +kernel
theorem dX4_standing_83 : decode cX4_standing 83 = .ok (.goto 4, 3) := by decide +kernel
theorem dX4_standing_86 : decode cX4_standing 86 = .ok (.iconst 0, 1) := by decide +kernel
theorem dX4_standing_87 : decode cX4_standing 87 = .ok (.istore 8, 2) := by decide +kernel
theorem dX4_standing_89 : decode cX4_standing 89 = .ok (.iload_n 1, 1) := by decide +kernel
theorem dX4_standing_90 : decode cX4_standing 90 = .ok (.iload 6, 2) := by decide +kernel
theorem dX4_standing_92 : decode cX4_standing 92 = .ok (.ishr, 1) := by decide +kernel
theorem dX4_standing_93 : decode cX4_standing 93 = .ok (.iconst 1, 1) := by decide +kernel
theorem dX4_standing_94 : decode cX4_standing 94 = .ok (.iand, 1) := by decide +kernel
theorem dX4_standing_95 : decode cX4_standing 95 = .ok (.iconst 1, 1) := by decide +kernel
theorem dX4_standing_96 : decode cX4_standing 96 = .ok (.if_icmp .ne 21, 3) := by decide +kernel
theorem dX4_standing_99 : decode cX4_standing 99 = .ok (.iload 8, 2) := by decide +kernel
theorem dX4_standing_101 : decode cX4_standing 101 = .ok (.ifCond .eq 16, 3) := by decide +kernel
theorem dX4_standing_104 : decode cX4_standing 104 = .ok (.iload_n 3, 1) := by decide +kernel
theorem dX4_standing_105 : decode cX4_standing 105 = .ok (.iconst 1, 1) := by decide +kernel
theorem dX4_standing_106 : decode cX4_standing 106 = .ok (.iload 6, 2) := by decide +kernel
theorem dX4_standing_108 : decode cX4_standing 108 = .ok (.ishl, 1) := by decide +kernel
theorem dX4_standing_109 : decode cX4_standing 109 = .ok (.ior, 1) := by decide +kernel
theorem dX4_standing_110 : decode cX4_standing 110 = .ok (.istore_n 3, 1) := by decide +kernel
theorem dX4_standing_111 : decode cX4_standing 111 = .ok (.aload_n 0, 1) := by decide +kernel
theorem dX4_standing_112 : decode cX4_standing 112 = .ok (.aload 7, 2) := by decide +kernel
theorem dX4_standing_114 : decode cX4_standing 114 = .ok (.invokevirtual 100, 3) := by decide +kernel
theorem dX4_standing_117 : decode cX4_standing 117 = .ok (.iinc 5 1, 3) := by decide +kernel
theorem dX4_standing_120 : decode cX4_standing 120 = .ok (.goto (-103), 3) := by decide +kernel
theorem dX4_standing_123 : decode cX4_standing 123 = .ok (.iload_n 3, 1) := by decide +kernel
theorem dX4_standing_124 : decode cX4_standing 124 = .ok (.ireturn, 1) := by decide +kernel
theorem dX4_standingNow_0 : decode cX4_standingNow 0 = .ok (.aload_n 0, 1) := by decide +kernel
theorem dX4_standingNow_1 : decode cX4_standingNow 1 = .ok (.aload_n 0, 1) := by decide +kernel
theorem dX4_standingNow_2 : decode cX4_standingNow 2 = .ok (.getfield 42, 3) := by decide +kernel
theorem dX4_standingNow_5 : decode cX4_standingNow 5 = .ok (.aload_n 0, 1) := by decide +kernel
theorem dX4_standingNow_6 : decode cX4_standingNow 6 = .ok (.getfield 45, 3) := by decide +kernel
theorem dX4_standingNow_9 : decode cX4_standingNow 9 = .ok (.invokevirtual 103, 3) := by decide +kernel
theorem dX4_standingNow_12 : decode cX4_standingNow 12 = .ok (.ireturn, 1) := by decide +kernel
theorem dX4_beneath_0 : decode cX4_beneath 0 = .ok (.iload_n 1, 1) := by decide +kernel
theorem dX4_beneath_1 : decode cX4_beneath 1 = .ok (.ifCond .gt 7, 3) := by decide +kernel
theorem dX4_beneath_4 : decode cX4_beneath 4 = .ok (.iconst (-1), 1) := by decide +kernel
theorem dX4_beneath_5 : decode cX4_beneath 5 = .ok (.goto 11, 3) := by decide +kernel
theorem dX4_beneath_8 : decode cX4_beneath 8 = .ok (.aload_n 0, 1) := by decide +kernel
theorem dX4_beneath_9 : decode cX4_beneath 9 = .ok (.getfield 24, 3) := by decide +kernel
theorem dX4_beneath_12 : decode cX4_beneath 12 = .ok (.iload_n 1, 1) := by decide +kernel
theorem dX4_beneath_13 : decode cX4_beneath 13 = .ok (.iconst 1, 1) := by decide +kernel
theorem dX4_beneath_14 : decode cX4_beneath 14 = .ok (.isub, 1) := by decide +kernel
theorem dX4_beneath_15 : decode cX4_beneath 15 = .ok (.iaload, 1) := by decide +kernel
theorem dX4_beneath_16 : decode cX4_beneath 16 = .ok (.ireturn, 1) := by decide +kernel
theorem dX4_clearHalves_0 : decode cX4_clearHalves 0 = .ok (.iconst 0, 1) := by decide +kernel
theorem dX4_clearHalves_1 : decode cX4_clearHalves 1 = .ok (.istore_n 1, 1) := by decide +kernel
theorem dX4_clearHalves_2 : decode cX4_clearHalves 2 = .ok (.iload_n 1, 1) := by decide +kernel
theorem dX4_clearHalves_3 : decode cX4_clearHalves 3 = .ok (.bipush 6, 2) := by decide +kernel
theorem dX4_clearHalves_5 : decode cX4_clearHalves 5 = .ok (.if_icmp .ge 23, 3) := by decide +kernel
theorem dX4_clearHalves_8 : decode cX4_clearHalves 8 = .ok (.aload_n 0, 1) := by decide +kernel
theorem dX4_clearHalves_9 : decode cX4_clearHalves 9 = .ok (.getfield 24, 3) := by decide +kernel
theorem dX4_clearHalves_12 : decode cX4_clearHalves 12 = .ok (.iload_n 1, 1) := by decide +kernel
theorem dX4_clearHalves_13 : decode cX4_clearHalves 13 = .ok (.iconst 0, 1) := by decide +kernel
theorem dX4_clearHalves_14 : decode cX4_clearHalves 14 = .ok (.iastore, 1) := by decide +kernel
theorem dX4_clearHalves_15 : decode cX4_clearHalves 15 = .ok (.aload_n 0, 1) := by decide +kernel
theorem dX4_clearHalves_16 : decode cX4_clearHalves 16 = .ok (.getfield 27, 3) := by decide +kernel
theorem dX4_clearHalves_19 : decode cX4_clearHalves 19 = .ok (.iload_n 1, 1) := by decide +kernel
theorem dX4_clearHalves_20 : decode cX4_clearHalves 20 = .ok (.iconst 0, 1) := by decide +kernel
theorem dX4_clearHalves_21 : decode cX4_clearHalves 21 = .ok (.iastore, 1) := by decide +kernel
theorem dX4_clearHalves_22 : decode cX4_clearHalves 22 = .ok (.iinc 1 1, 3) := by decide +kernel
theorem dX4_clearHalves_25 : decode cX4_clearHalves 25 = .ok (.goto (-23), 3) := by decide +kernel
theorem dX4_clearHalves_28 : decode cX4_clearHalves 28 = .ok (.return_, 1) := by decide +kernel
theorem dX4_fillHalves_0 : decode cX4_fillHalves 0 = .ok (.aload_n 0, 1) := by decide +kernel
theorem dX4_fillHalves_1 : decode cX4_fillHalves 1 = .ok (.getfield 24, 3) := by decide +kernel
theorem dX4_fillHalves_4 : decode cX4_fillHalves 4 = .ok (.aload_n 1, 1) := by decide +kernel
theorem dX4_fillHalves_5 : decode cX4_fillHalves 5 = .ok (.getfield 76, 3) := by decide +kernel
theorem dX4_fillHalves_8 : decode cX4_fillHalves 8 = .ok (.dup2, 1) := by decide +kernel
theorem dX4_fillHalves_9 : decode cX4_fillHalves 9 = .ok (.iaload, 1) := by decide +kernel
theorem dX4_fillHalves_10 : decode cX4_fillHalves 10 = .ok (.aload_n 1, 1) := by decide +kernel
theorem dX4_fillHalves_11 : decode cX4_fillHalves 11 = .ok (.getfield 79, 3) := by decide +kernel
theorem dX4_fillHalves_14 : decode cX4_fillHalves 14 = .ok (.ior, 1) := by decide +kernel
theorem dX4_fillHalves_15 : decode cX4_fillHalves 15 = .ok (.iastore, 1) := by decide +kernel
theorem dX4_fillHalves_16 : decode cX4_fillHalves 16 = .ok (.aload_n 1, 1) := by decide +kernel
theorem dX4_fillHalves_17 : decode cX4_fillHalves 17 = .ok (.getfield 106, 3) := by decide +kernel
theorem dX4_fillHalves_20 : decode cX4_fillHalves 20 = .ok (.iconst 5, 1) := by decide +kernel
theorem dX4_fillHalves_21 : decode cX4_fillHalves 21 = .ok (.if_icmp .eq 19, 3) := by decide +kernel
theorem dX4_fillHalves_24 : decode cX4_fillHalves 24 = .ok (.aload_n 0, 1) := by decide +kernel
theorem dX4_fillHalves_25 : decode cX4_fillHalves 25 = .ok (.getfield 27, 3) := by decide +kernel
theorem dX4_fillHalves_28 : decode cX4_fillHalves 28 = .ok (.aload_n 1, 1) := by decide +kernel
theorem dX4_fillHalves_29 : decode cX4_fillHalves 29 = .ok (.getfield 76, 3) := by decide +kernel
theorem dX4_fillHalves_32 : decode cX4_fillHalves 32 = .ok (.dup2, 1) := by decide +kernel
theorem dX4_fillHalves_33 : decode cX4_fillHalves 33 = .ok (.iaload, 1) := by decide +kernel
theorem dX4_fillHalves_34 : decode cX4_fillHalves 34 = .ok (.aload_n 1, 1) := by decide +kernel
theorem dX4_fillHalves_35 : decode cX4_fillHalves 35 = .ok (.getfield 79, 3) := by decide +kernel
theorem dX4_fillHalves_38 : decode cX4_fillHalves 38 = .ok (.ior, 1) := by decide +kernel
theorem dX4_fillHalves_39 : decode cX4_fillHalves 39 = .ok (.iastore, 1) := by decide +kernel
theorem dX4_fillHalves_40 : decode cX4_fillHalves 40 = .ok (.return_, 1) := by decide +kernel
theorem dX4_fallsOf_0 : decode cX4_fallsOf 0 = .ok (.aload_n 0, 1) := by decide +kernel
theorem dX4_fallsOf_1 : decode cX4_fallsOf 1 = .ok (.invokevirtual 109, 3) := by decide +kernel
theorem dX4_fallsOf_4 : decode cX4_fallsOf 4 = .ok (.iload_n 1, 1) := by decide +kernel
theorem dX4_fallsOf_5 : decode cX4_fallsOf 5 = .ok (.iconst (-1), 1) := by decide +kernel
theorem dX4_fallsOf_6 : decode cX4_fallsOf 6 = .ok (.ixor, 1) := by decide +kernel
theorem dX4_fallsOf_7 : decode cX4_fallsOf 7 = .ok (.iand, 1) := by decide +kernel
theorem dX4_fallsOf_8 : decode cX4_fallsOf 8 = .ok (.istore_n 2, 1) := by decide +kernel
theorem dX4_fallsOf_9 : decode cX4_fallsOf 9 = .ok (.iload_n 2, 1) := by decide +kernel
theorem dX4_fallsOf_10 : decode cX4_fallsOf 10 = .ok (.aload_n 0, 1) := by decide +kernel
theorem dX4_fallsOf_11 : decode cX4_fallsOf 11 = .ok (.aload_n 0, 1) := by decide +kernel
theorem dX4_fallsOf_12 : decode cX4_fallsOf 12 = .ok (.getfield 42, 3) := by decide +kernel
theorem dX4_fallsOf_15 : decode cX4_fallsOf 15 = .ok (.iload_n 1, 1) := by decide +kernel
theorem dX4_fallsOf_16 : decode cX4_fallsOf 16 = .ok (.iconst (-1), 1) := by decide +kernel
theorem dX4_fallsOf_17 : decode cX4_fallsOf 17 = .ok (.ixor, 1) := by decide +kernel
theorem dX4_fallsOf_18 : decode cX4_fallsOf 18 = .ok (.iand, 1) := by decide +kernel
theorem dX4_fallsOf_19 : decode cX4_fallsOf 19 = .ok (.aload_n 0, 1) := by decide +kernel
theorem dX4_fallsOf_20 : decode cX4_fallsOf 20 = .ok (.getfield 45, 3) := by decide +kernel
theorem dX4_fallsOf_23 : decode cX4_fallsOf 23 = .ok (.invokevirtual 103, 3) := by decide +kernel
theorem dX4_fallsOf_26 : decode cX4_fallsOf 26 = .ok (.iconst (-1), 1) := by decide +kernel
theorem dX4_fallsOf_27 : decode cX4_fallsOf 27 = .ok (.ixor, 1) := by decide +kernel
theorem dX4_fallsOf_28 : decode cX4_fallsOf 28 = .ok (.iand, 1) := by decide +kernel
theorem dX4_fallsOf_29 : decode cX4_fallsOf 29 = .ok (.ireturn, 1) := by decide +kernel
theorem dX4_loadOf_0 : decode cX4_loadOf 0 = .ok (.aload_n 0, 1) := by decide +kernel
theorem dX4_loadOf_1 : decode cX4_loadOf 1 = .ok (.iconst 1, 1) := by decide +kernel
theorem dX4_loadOf_2 : decode cX4_loadOf 2 = .ok (.iload_n 1, 1) := by decide +kernel
theorem dX4_loadOf_3 : decode cX4_loadOf 3 = .ok (.ishl, 1) := by decide +kernel
theorem dX4_loadOf_4 : decode cX4_loadOf 4 = .ok (.invokevirtual 112, 3) := by decide +kernel
theorem dX4_loadOf_7 : decode cX4_loadOf 7 = .ok (.invokestatic 115, 3) := by decide +kernel
theorem dX4_loadOf_10 : decode cX4_loadOf 10 = .ok (.ireturn, 1) := by decide +kernel
theorem dX4_propsOf_0 : decode cX4_propsOf 0 = .ok (.aload_n 0, 1) := by decide +kernel
theorem dX4_propsOf_1 : decode cX4_propsOf 1 = .ok (.invokevirtual 109, 3) := by decide +kernel
theorem dX4_propsOf_4 : decode cX4_propsOf 4 = .ok (.iconst 1, 1) := by decide +kernel
theorem dX4_propsOf_5 : decode cX4_propsOf 5 = .ok (.iload_n 1, 1) := by decide +kernel
theorem dX4_propsOf_6 : decode cX4_propsOf 6 = .ok (.ishl, 1) := by decide +kernel
theorem dX4_propsOf_7 : decode cX4_propsOf 7 = .ok (.iconst (-1), 1) := by decide +kernel
theorem dX4_propsOf_8 : decode cX4_propsOf 8 = .ok (.ixor, 1) := by decide +kernel
theorem dX4_propsOf_9 : decode cX4_propsOf 9 = .ok (.iand, 1) := by decide +kernel
theorem dX4_propsOf_10 : decode cX4_propsOf 10 = .ok (.istore_n 2, 1) := by decide +kernel
theorem dX4_propsOf_11 : decode cX4_propsOf 11 = .ok (.aload_n 0, 1) := by decide +kernel
theorem dX4_propsOf_12 : decode cX4_propsOf 12 = .ok (.getfield 45, 3) := by decide +kernel
theorem dX4_propsOf_15 : decode cX4_propsOf 15 = .ok (.aload_n 0, 1) := by decide +kernel
theorem dX4_propsOf_16 : decode cX4_propsOf 16 = .ok (.getfield 48, 3) := by decide +kernel
theorem dX4_propsOf_19 : decode cX4_propsOf 19 = .ok (.ior, 1) := by decide +kernel
theorem dX4_propsOf_20 : decode cX4_propsOf 20 = .ok (.istore_n 3, 1) := by decide +kernel
theorem dX4_propsOf_21 : decode cX4_propsOf 21 = .ok (.aload_n 0, 1) := by decide +kernel
theorem dX4_propsOf_22 : decode cX4_propsOf 22 = .ok (.invokevirtual 90, 3) := by decide +kernel
theorem dX4_propsOf_25 : decode cX4_propsOf 25 = .ok (.iconst 0, 1) := by decide +kernel
theorem dX4_propsOf_26 : decode cX4_propsOf 26 = .ok (.istore 4, 2) := by decide +kernel
theorem dX4_propsOf_28 : decode cX4_propsOf 28 = .ok (.iload 4, 2) := by decide +kernel
theorem dX4_propsOf_30 : decode cX4_propsOf 30 = .ok (.aload_n 0, 1) := by decide +kernel
theorem dX4_propsOf_31 : decode cX4_propsOf 31 = .ok (.getfield 39, 3) := by decide +kernel
theorem dX4_propsOf_34 : decode cX4_propsOf 34 = .ok (.if_icmp .ge 30, 3) := by decide +kernel
theorem dX4_propsOf_37 : decode cX4_propsOf 37 = .ok (.iload_n 2, 1) := by decide +kernel
theorem dX4_propsOf_38 : decode cX4_propsOf 38 = .ok (.iload 4, 2) := by decide +kernel
theorem dX4_propsOf_40 : decode cX4_propsOf 40 = .ok (.ishr, 1) := by decide +kernel
theorem dX4_propsOf_41 : decode cX4_propsOf 41 = .ok (.iconst 1, 1) := by decide +kernel
theorem dX4_propsOf_42 : decode cX4_propsOf 42 = .ok (.iand, 1) := by decide +kernel
theorem dX4_propsOf_43 : decode cX4_propsOf 43 = .ok (.iconst 1, 1) := by decide +kernel
theorem dX4_propsOf_44 : decode cX4_propsOf 44 = .ok (.if_icmp .ne 14, 3) := by decide +kernel
theorem dX4_propsOf_47 : decode cX4_propsOf 47 = .ok (.aload_n 0, 1) := by decide +kernel
theorem dX4_propsOf_48 : decode cX4_propsOf 48 = .ok (.aload_n 0, 1) := by decide +kernel
theorem dX4_propsOf_49 : decode cX4_propsOf 49 = .ok (.getfield 11, 3) := by decide +kernel
theorem dX4_propsOf_52 : decode cX4_propsOf 52 = .ok (.iload 4, 2) := by decide +kernel
theorem dX4_propsOf_54 : decode cX4_propsOf 54 = .ok (.aaload, 1) := by decide +kernel
theorem dX4_propsOf_55 : decode cX4_propsOf 55 = .ok (.invokevirtual 100, 3) := by decide +kernel
theorem dX4_propsOf_58 : decode cX4_propsOf 58 = .ok (.iinc 4 1, 3) := by decide +kernel
theorem dX4_propsOf_61 : decode cX4_propsOf 61 = .ok (.goto (-33), 3) := by decide +kernel
theorem dX4_propsOf_64 : decode cX4_propsOf 64 = .ok (.iconst 0, 1) := by decide +kernel
theorem dX4_propsOf_65 : decode cX4_propsOf 65 = .ok (.istore 4, 2) := by decide +kernel
theorem dX4_propsOf_67 : decode cX4_propsOf 67 = .ok (.iconst 0, 1) := by decide +kernel
theorem dX4_propsOf_68 : decode cX4_propsOf 68 = .ok (.istore 5, 2) := by decide +kernel
theorem dX4_propsOf_70 : decode cX4_propsOf 70 = .ok (.iload 5, 2) := by decide +kernel
theorem dX4_propsOf_72 : decode cX4_propsOf 72 = .ok (.aload_n 0, 1) := by decide +kernel
theorem dX4_propsOf_73 : decode cX4_propsOf 73 = .ok (.getfield 39, 3) := by decide +kernel
theorem dX4_propsOf_76 : decode cX4_propsOf 76 = .ok (.if_icmp .ge 82, 3) := by decide +kernel
theorem dX4_propsOf_79 : decode cX4_propsOf 79 = .ok (.aload_n 0, 1) := by decide +kernel
theorem dX4_propsOf_80 : decode cX4_propsOf 80 = .ok (.getfield 11, 3) := by decide +kernel
theorem dX4_propsOf_83 : decode cX4_propsOf 83 = .ok (.iload 5, 2) := by decide +kernel
theorem dX4_propsOf_85 : decode cX4_propsOf 85 = .ok (.aaload, 1) := by decide +kernel
theorem dX4_propsOf_86 : decode cX4_propsOf 86 = .ok (.astore 6, 2) := by decide +kernel
theorem dX4_propsOf_88 : decode cX4_propsOf 88 = .ok (.iload_n 3, 1) := by decide +kernel
theorem dX4_propsOf_89 : decode cX4_propsOf 89 = .ok (.iload 5, 2) := by decide +kernel
theorem dX4_propsOf_91 : decode cX4_propsOf 91 = .ok (.ishr, 1) := by decide +kernel
theorem dX4_propsOf_92 : decode cX4_propsOf 92 = .ok (.iconst 1, 1) := by decide +kernel
theorem dX4_propsOf_93 : decode cX4_propsOf 93 = .ok (.iand, 1) := by decide +kernel
theorem dX4_propsOf_94 : decode cX4_propsOf 94 = .ok (.iconst 1, 1) := by decide +kernel
theorem dX4_propsOf_95 : decode cX4_propsOf 95 = .ok (.if_icmp .eq 30, 3) := by decide +kernel
theorem dX4_propsOf_98 : decode cX4_propsOf 98 = .ok (.aload 6, 2) := by decide +kernel
theorem dX4_propsOf_100 : decode cX4_propsOf 100 = .ok (.aload_n 0, 1) := by decide +kernel
theorem dX4_propsOf_101 : decode cX4_propsOf 101 = .ok (.aload 6, 2) := by decide +kernel
theorem dX4_propsOf_103 : decode cX4_propsOf 103 = .ok (.getfield 76, 3) := by decide +kernel
theorem dX4_propsOf_106 : decode cX4_propsOf 106 = .ok (.invokevirtual 93, 3) := by decide +kernel
theorem dX4_propsOf_109 : decode cX4_propsOf 109 = .ok (.aload_n 0, 1) := by decide +kernel
theorem dX4_propsOf_110 : decode cX4_propsOf 110 = .ok (.getfield 27, 3) := by decide +kernel
theorem dX4_propsOf_113 : decode cX4_propsOf 113 = .ok (.aload 6, 2) := by decide +kernel
theorem dX4_propsOf_115 : decode cX4_propsOf 115 = .ok (.getfield 76, 3) := by decide +kernel
theorem dX4_propsOf_118 : decode cX4_propsOf 118 = .ok (.iaload, 1) := by decide +kernel
theorem dX4_propsOf_119 : decode cX4_propsOf 119 = .ok (.invokevirtual 96, 3) := by decide +kernel
theorem dX4_propsOf_122 : decode cX4_propsOf 122 = .ok (.ifCond .eq 7, 3) := by decide +kernel
theorem dX4_propsOf_125 : decode cX4_propsOf 125 = .ok (.iconst 1, 1) := by decide +kernel
theorem dX4_propsOf_126 : decode cX4_propsOf 126 = .ok (.goto 4, 3) := by decide +kernel
theorem dX4_propsOf_129 : decode cX4_propsOf 129 = .ok (.iconst 0, 1) := by decide +kernel
theorem dX4_propsOf_130 : decode cX4_propsOf 130 = .ok (.istore 7, 2) := by decide +kernel
theorem dX4_propsOf_132 : decode cX4_propsOf 132 = .ok (.iload 4, 2) := by decide +kernel
theorem dX4_propsOf_134 : decode cX4_propsOf 134 = .ok (.iload 7, 2) := by decide +kernel
theorem dX4_propsOf_136 : decode cX4_propsOf 136 = .ok (.ifCond .eq 7, 3) := by decide +kernel
theorem dX4_propsOf_139 : decode cX4_propsOf 139 = .ok (.iconst 0, 1) := by decide +kernel
theorem dX4_propsOf_140 : decode cX4_propsOf 140 = .ok (.goto 9, 3) := by decide +kernel
theorem dX4_propsOf_143 : decode cX4_propsOf 143 = .ok (.iload_n 2, 1) := by decide +kernel
theorem dX4_propsOf_144 : decode cX4_propsOf 144 = .ok (.iconst 1, 1) := by decide +kernel
theorem dX4_propsOf_145 : decode cX4_propsOf 145 = .ok (.iload 5, 2) := by decide +kernel
theorem dX4_propsOf_147 : decode cX4_propsOf 147 = .ok (.ishl, 1) := by decide +kernel
theorem dX4_propsOf_148 : decode cX4_propsOf 148 = .ok (.iand, 1) := by decide +kernel
theorem dX4_propsOf_149 : decode cX4_propsOf 149 = .ok (.ior, 1) := by decide +kernel
theorem dX4_propsOf_150 : decode cX4_propsOf 150 = .ok (.istore 4, 2) := by decide +kernel
theorem dX4_propsOf_152 : decode cX4_propsOf 152 = .ok (.iinc 5 1, 3) := by decide +kernel
theorem dX4_propsOf_155 : decode cX4_propsOf 155 = .ok (.goto (-85), 3) := by decide +kernel
theorem dX4_propsOf_158 : decode cX4_propsOf 158 = .ok (.iload 4, 2) := by decide +kernel
theorem dX4_propsOf_160 : decode cX4_propsOf 160 = .ok (.ireturn, 1) := by decide +kernel
theorem dX4_tells_0 : decode cX4_tells 0 = .ok (.aload_n 0, 1) := by decide +kernel
theorem dX4_tells_1 : decode cX4_tells 1 = .ok (.getfield 11, 3) := by decide +kernel
theorem dX4_tells_4 : decode cX4_tells 4 = .ok (.iload_n 1, 1) := by decide +kernel
