theorem dX4_tells_5 : decode cX4_tells 5 = .ok (.aaload, 1) := by decide +kernel
theorem dX4_tells_6 : decode cX4_tells 6 = .ok (.astore_n 3, 1) := by decide +kernel
theorem dX4_tells_7 : decode cX4_tells 7 = .ok (.iload_n 2, 1) := by decide +kernel
theorem dX4_tells_8 : decode cX4_tells 8 = .ok (.tableswitch 107 0 7 #[48, 53, 58, 63, 68, 73, 78, 87], 48) := by decide +kernel
theorem dX4_tells_56 : decode cX4_tells 56 = .ok (.aload_n 3, 1) := by decide +kernel
theorem dX4_tells_57 : decode cX4_tells 57 = .ok (.getfield 106, 3) := by decide +kernel
theorem dX4_tells_60 : decode cX4_tells 60 = .ok (.ireturn, 1) := by decide +kernel
theorem dX4_tells_61 : decode cX4_tells 61 = .ok (.aload_n 3, 1) := by decide +kernel
theorem dX4_tells_62 : decode cX4_tells 62 = .ok (.getfield 76, 3) := by decide +kernel
theorem dX4_tells_65 : decode cX4_tells 65 = .ok (.ireturn, 1) := by decide +kernel
theorem dX4_tells_66 : decode cX4_tells 66 = .ok (.aload_n 3, 1) := by decide +kernel
theorem dX4_tells_67 : decode cX4_tells 67 = .ok (.getfield 120, 3) := by decide +kernel
theorem dX4_tells_70 : decode cX4_tells 70 = .ok (.ireturn, 1) := by decide +kernel
theorem dX4_tells_71 : decode cX4_tells 71 = .ok (.aload_n 3, 1) := by decide +kernel
theorem dX4_tells_72 : decode cX4_tells 72 = .ok (.getfield 123, 3) := by decide +kernel
theorem dX4_tells_75 : decode cX4_tells 75 = .ok (.ireturn, 1) := by decide +kernel
theorem dX4_tells_76 : decode cX4_tells 76 = .ok (.aload_n 3, 1) := by decide +kernel
theorem dX4_tells_77 : decode cX4_tells 77 = .ok (.getfield 126, 3) := by decide +kernel
theorem dX4_tells_80 : decode cX4_tells 80 = .ok (.ireturn, 1) := by decide +kernel
theorem dX4_tells_81 : decode cX4_tells 81 = .ok (.aload_n 3, 1) := by decide +kernel
theorem dX4_tells_82 : decode cX4_tells 82 = .ok (.getfield 129, 3) := by decide +kernel
theorem dX4_tells_85 : decode cX4_tells 85 = .ok (.ireturn, 1) := by decide +kernel
theorem dX4_tells_86 : decode cX4_tells 86 = .ok (.aload_n 0, 1) := by decide +kernel
theorem dX4_tells_87 : decode cX4_tells 87 = .ok (.getfield 42, 3) := by decide +kernel
theorem dX4_tells_90 : decode cX4_tells 90 = .ok (.iload_n 1, 1) := by decide +kernel
theorem dX4_tells_91 : decode cX4_tells 91 = .ok (.ishr, 1) := by decide +kernel
theorem dX4_tells_92 : decode cX4_tells 92 = .ok (.iconst 1, 1) := by decide +kernel
theorem dX4_tells_93 : decode cX4_tells 93 = .ok (.iand, 1) := by decide +kernel
theorem dX4_tells_94 : decode cX4_tells 94 = .ok (.ireturn, 1) := by decide +kernel
theorem dX4_tells_95 : decode cX4_tells 95 = .ok (.aload_n 0, 1) := by decide +kernel
theorem dX4_tells_96 : decode cX4_tells 96 = .ok (.getfield 45, 3) := by decide +kernel
theorem dX4_tells_99 : decode cX4_tells 99 = .ok (.iload_n 1, 1) := by decide +kernel
theorem dX4_tells_100 : decode cX4_tells 100 = .ok (.ishr, 1) := by decide +kernel
theorem dX4_tells_101 : decode cX4_tells 101 = .ok (.iconst 1, 1) := by decide +kernel
theorem dX4_tells_102 : decode cX4_tells 102 = .ok (.iand, 1) := by decide +kernel
theorem dX4_tells_103 : decode cX4_tells 103 = .ok (.iconst 2, 1) := by decide +kernel
theorem dX4_tells_104 : decode cX4_tells 104 = .ok (.aload_n 0, 1) := by decide +kernel
theorem dX4_tells_105 : decode cX4_tells 105 = .ok (.getfield 48, 3) := by decide +kernel
theorem dX4_tells_108 : decode cX4_tells 108 = .ok (.iload_n 1, 1) := by decide +kernel
theorem dX4_tells_109 : decode cX4_tells 109 = .ok (.ishr, 1) := by decide +kernel
theorem dX4_tells_110 : decode cX4_tells 110 = .ok (.iconst 1, 1) := by decide +kernel
theorem dX4_tells_111 : decode cX4_tells 111 = .ok (.iand, 1) := by decide +kernel
theorem dX4_tells_112 : decode cX4_tells 112 = .ok (.imul, 1) := by decide +kernel
theorem dX4_tells_113 : decode cX4_tells 113 = .ok (.iadd, 1) := by decide +kernel
theorem dX4_tells_114 : decode cX4_tells 114 = .ok (.ireturn, 1) := by decide +kernel
theorem dX4_tells_115 : decode cX4_tells 115 = .ok (.aload_n 3, 1) := by decide +kernel
theorem dX4_tells_116 : decode cX4_tells 116 = .ok (.getfield 132, 3) := by decide +kernel
theorem dX4_tells_119 : decode cX4_tells 119 = .ok (.ireturn, 1) := by decide +kernel
theorem dX4_markOf_0 : decode cX4_markOf 0 = .ok (.aload_n 0, 1) := by decide +kernel
theorem dX4_markOf_1 : decode cX4_markOf 1 = .ok (.getfield 11, 3) := by decide +kernel
theorem dX4_markOf_4 : decode cX4_markOf 4 = .ok (.iload_n 1, 1) := by decide +kernel
theorem dX4_markOf_5 : decode cX4_markOf 5 = .ok (.aaload, 1) := by decide +kernel
theorem dX4_markOf_6 : decode cX4_markOf 6 = .ok (.astore_n 3, 1) := by decide +kernel
theorem dX4_markOf_7 : decode cX4_markOf 7 = .ok (.aload_n 0, 1) := by decide +kernel
theorem dX4_markOf_8 : decode cX4_markOf 8 = .ok (.invokevirtual 109, 3) := by decide +kernel
theorem dX4_markOf_11 : decode cX4_markOf 11 = .ok (.pop, 1) := by decide +kernel
theorem dX4_markOf_12 : decode cX4_markOf 12 = .ok (.aload_n 0, 1) := by decide +kernel
theorem dX4_markOf_13 : decode cX4_markOf 13 = .ok (.aload_n 3, 1) := by decide +kernel
theorem dX4_markOf_14 : decode cX4_markOf 14 = .ok (.getfield 76, 3) := by decide +kernel
theorem dX4_markOf_17 : decode cX4_markOf 17 = .ok (.invokevirtual 93, 3) := by decide +kernel
theorem dX4_markOf_20 : decode cX4_markOf 20 = .ok (.istore 4, 2) := by decide +kernel
theorem dX4_markOf_22 : decode cX4_markOf 22 = .ok (.iload_n 2, 1) := by decide +kernel
theorem dX4_markOf_23 : decode cX4_markOf 23 = .ok (.tableswitch 80 1 4 #[29, 40, 45, 64], 29) := by decide +kernel
theorem dX4_markOf_52 : decode cX4_markOf 52 = .ok (.iload 4, 2) := by decide +kernel
theorem dX4_markOf_54 : decode cX4_markOf 54 = .ok (.aload_n 3, 1) := by decide +kernel
theorem dX4_markOf_55 : decode cX4_markOf 55 = .ok (.getfield 79, 3) := by decide +kernel
theorem dX4_markOf_58 : decode cX4_markOf 58 = .ok (.iand, 1) := by decide +kernel
theorem dX4_markOf_59 : decode cX4_markOf 59 = .ok (.invokestatic 115, 3) := by decide +kernel
theorem dX4_markOf_62 : decode cX4_markOf 62 = .ok (.ireturn, 1) := by decide +kernel
theorem dX4_markOf_63 : decode cX4_markOf 63 = .ok (.aload_n 3, 1) := by decide +kernel
theorem dX4_markOf_64 : decode cX4_markOf 64 = .ok (.getfield 126, 3) := by decide +kernel
theorem dX4_markOf_67 : decode cX4_markOf 67 = .ok (.ireturn, 1) := by decide +kernel
theorem dX4_markOf_68 : decode cX4_markOf 68 = .ok (.aload_n 3, 1) := by decide +kernel
theorem dX4_markOf_69 : decode cX4_markOf 69 = .ok (.getfield 123, 3) := by decide +kernel
theorem dX4_markOf_72 : decode cX4_markOf 72 = .ok (.aload_n 3, 1) := by decide +kernel
theorem dX4_markOf_73 : decode cX4_markOf 73 = .ok (.getfield 126, 3) := by decide +kernel
theorem dX4_markOf_76 : decode cX4_markOf 76 = .ok (.aload_n 3, 1) := by decide +kernel
theorem dX4_markOf_77 : decode cX4_markOf 77 = .ok (.getfield 129, 3) := by decide +kernel
theorem dX4_markOf_80 : decode cX4_markOf 80 = .ok (.invokestatic 135, 3) := by decide +kernel
theorem dX4_markOf_83 : decode cX4_markOf 83 = .ok (.invokestatic 135, 3) := by decide +kernel
theorem dX4_markOf_86 : decode cX4_markOf 86 = .ok (.ireturn, 1) := by decide +kernel
theorem dX4_markOf_87 : decode cX4_markOf 87 = .ok (.iload 4, 2) := by decide +kernel
theorem dX4_markOf_89 : decode cX4_markOf 89 = .ok (.aload_n 3, 1) := by decide +kernel
theorem dX4_markOf_90 : decode cX4_markOf 90 = .ok (.invokevirtual 140, 3) := by decide +kernel
theorem dX4_markOf_93 : decode cX4_markOf 93 = .ok (.iand, 1) := by decide +kernel
theorem dX4_markOf_94 : decode cX4_markOf 94 = .ok (.ifCond .eq 7, 3) := by decide +kernel
theorem dX4_markOf_97 : decode cX4_markOf 97 = .ok (.iconst 1, 1) := by decide +kernel
theorem dX4_markOf_98 : decode cX4_markOf 98 = .ok (.goto 4, 3) := by decide +kernel
theorem dX4_markOf_101 : decode cX4_markOf 101 = .ok (.iconst 0, 1) := by decide +kernel
theorem dX4_markOf_102 : decode cX4_markOf 102 = .ok (.ireturn, 1) := by decide +kernel
theorem dX4_markOf_103 : decode cX4_markOf 103 = .ok (.aload_n 0, 1) := by decide +kernel
theorem dX4_markOf_104 : decode cX4_markOf 104 = .ok (.getfield 24, 3) := by decide +kernel
theorem dX4_markOf_107 : decode cX4_markOf 107 = .ok (.aload_n 3, 1) := by decide +kernel
theorem dX4_markOf_108 : decode cX4_markOf 108 = .ok (.getfield 76, 3) := by decide +kernel
theorem dX4_markOf_111 : decode cX4_markOf 111 = .ok (.iaload, 1) := by decide +kernel
theorem dX4_markOf_112 : decode cX4_markOf 112 = .ok (.aload_n 3, 1) := by decide +kernel
theorem dX4_markOf_113 : decode cX4_markOf 113 = .ok (.invokevirtual 143, 3) := by decide +kernel
theorem dX4_markOf_116 : decode cX4_markOf 116 = .ok (.iand, 1) := by decide +kernel
theorem dX4_markOf_117 : decode cX4_markOf 117 = .ok (.invokestatic 115, 3) := by decide +kernel
theorem dX4_markOf_120 : decode cX4_markOf 120 = .ok (.ireturn, 1) := by decide +kernel
theorem dX4_bridges_0 : decode cX4_bridges 0 = .ok (.iconst 0, 1) := by decide +kernel
theorem dX4_bridges_1 : decode cX4_bridges 1 = .ok (.istore_n 1, 1) := by decide +kernel
theorem dX4_bridges_2 : decode cX4_bridges 2 = .ok (.iconst 0, 1) := by decide +kernel
theorem dX4_bridges_3 : decode cX4_bridges 3 = .ok (.istore_n 2, 1) := by decide +kernel
theorem dX4_bridges_4 : decode cX4_bridges 4 = .ok (.iload_n 2, 1) := by decide +kernel
theorem dX4_bridges_5 : decode cX4_bridges 5 = .ok (.aload_n 0, 1) := by decide +kernel
theorem dX4_bridges_6 : decode cX4_bridges 6 = .ok (.getfield 39, 3) := by decide +kernel
theorem dX4_bridges_9 : decode cX4_bridges 9 = .ok (.if_icmp .ge 29, 3) := by decide +kernel
theorem dX4_bridges_12 : decode cX4_bridges 12 = .ok (.iload_n 1, 1) := by decide +kernel
theorem dX4_bridges_13 : decode cX4_bridges 13 = .ok (.aload_n 0, 1) := by decide +kernel
theorem dX4_bridges_14 : decode cX4_bridges 14 = .ok (.getfield 11, 3) := by decide +kernel
theorem dX4_bridges_17 : decode cX4_bridges 17 = .ok (.iload_n 2, 1) := by decide +kernel
theorem dX4_bridges_18 : decode cX4_bridges 18 = .ok (.aaload, 1) := by decide +kernel
theorem dX4_bridges_19 : decode cX4_bridges 19 = .ok (.invokevirtual 146, 3) := by decide +kernel
theorem dX4_bridges_22 : decode cX4_bridges 22 = .ok (.ifCond .eq 7, 3) := by decide +kernel
theorem dX4_bridges_25 : decode cX4_bridges 25 = .ok (.iconst 1, 1) := by decide +kernel
theorem dX4_bridges_26 : decode cX4_bridges 26 = .ok (.goto 4, 3) := by decide +kernel
theorem dX4_bridges_29 : decode cX4_bridges 29 = .ok (.iconst 0, 1) := by decide +kernel
theorem dX4_bridges_30 : decode cX4_bridges 30 = .ok (.iadd, 1) := by decide +kernel
theorem dX4_bridges_31 : decode cX4_bridges 31 = .ok (.istore_n 1, 1) := by decide +kernel
theorem dX4_bridges_32 : decode cX4_bridges 32 = .ok (.iinc 2 1, 3) := by decide +kernel
theorem dX4_bridges_35 : decode cX4_bridges 35 = .ok (.goto (-31), 3) := by decide +kernel
theorem dX4_bridges_38 : decode cX4_bridges 38 = .ok (.iload_n 1, 1) := by decide +kernel
theorem dX4_bridges_39 : decode cX4_bridges 39 = .ok (.ireturn, 1) := by decide +kernel
theorem dX4_mixInto_0 : decode cX4_mixInto 0 = .ok (.ldc2_w 150, 3) := by decide +kernel
theorem dX4_mixInto_3 : decode cX4_mixInto 3 = .ok (.lload_n 1, 1) := by decide +kernel
theorem dX4_mixInto_4 : decode cX4_mixInto 4 = .ok (.lmul, 1) := by decide +kernel
theorem dX4_mixInto_5 : decode cX4_mixInto 5 = .ok (.aload_n 0, 1) := by decide +kernel
theorem dX4_mixInto_6 : decode cX4_mixInto 6 = .ok (.getfield 35, 3) := by decide +kernel
theorem dX4_mixInto_9 : decode cX4_mixInto 9 = .ok (.i2l, 1) := by decide +kernel
theorem dX4_mixInto_10 : decode cX4_mixInto 10 = .ok (.ladd, 1) := by decide +kernel
theorem dX4_mixInto_11 : decode cX4_mixInto 11 = .ok (.lstore_n 1, 1) := by decide +kernel
theorem dX4_mixInto_12 : decode cX4_mixInto 12 = .ok (.ldc2_w 150, 3) := by decide +kernel
theorem dX4_mixInto_15 : decode cX4_mixInto 15 = .ok (.lload_n 1, 1) := by decide +kernel
theorem dX4_mixInto_16 : decode cX4_mixInto 16 = .ok (.lmul, 1) := by decide +kernel
theorem dX4_mixInto_17 : decode cX4_mixInto 17 = .ok (.aload_n 0, 1) := by decide +kernel
theorem dX4_mixInto_18 : decode cX4_mixInto 18 = .ok (.getfield 51, 3) := by decide +kernel
theorem dX4_mixInto_21 : decode cX4_mixInto 21 = .ok (.i2l, 1) := by decide +kernel
theorem dX4_mixInto_22 : decode cX4_mixInto 22 = .ok (.ladd, 1) := by decide +kernel
theorem dX4_mixInto_23 : decode cX4_mixInto 23 = .ok (.lstore_n 1, 1) := by decide +kernel
theorem dX4_mixInto_24 : decode cX4_mixInto 24 = .ok (.iconst 0, 1) := by decide +kernel
theorem dX4_mixInto_25 : decode cX4_mixInto 25 = .ok (.istore_n 3, 1) := by decide +kernel
theorem dX4_mixInto_26 : decode cX4_mixInto 26 = .ok (.iload_n 3, 1) := by decide +kernel
theorem dX4_mixInto_27 : decode cX4_mixInto 27 = .ok (.aload_n 0, 1) := by decide +kernel
theorem dX4_mixInto_28 : decode cX4_mixInto 28 = .ok (.getfield 39, 3) := by decide +kernel
theorem dX4_mixInto_31 : decode cX4_mixInto 31 = .ok (.if_icmp .ge 40, 3) := by decide +kernel
theorem dX4_mixInto_34 : decode cX4_mixInto 34 = .ok (.iconst 0, 1) := by decide +kernel
theorem dX4_mixInto_35 : decode cX4_mixInto 35 = .ok (.istore 4, 2) := by decide +kernel
theorem dX4_mixInto_37 : decode cX4_mixInto 37 = .ok (.iload 4, 2) := by decide +kernel
theorem dX4_mixInto_39 : decode cX4_mixInto 39 = .ok (.bipush 8, 2) := by decide +kernel
theorem dX4_mixInto_41 : decode cX4_mixInto 41 = .ok (.if_icmp .gt 24, 3) := by decide +kernel
theorem dX4_mixInto_44 : decode cX4_mixInto 44 = .ok (.ldc2_w 150, 3) := by decide +kernel
theorem dX4_mixInto_47 : decode cX4_mixInto 47 = .ok (.lload_n 1, 1) := by decide +kernel
theorem dX4_mixInto_48 : decode cX4_mixInto 48 = .ok (.lmul, 1) := by decide +kernel
theorem dX4_mixInto_49 : decode cX4_mixInto 49 = .ok (.aload_n 0, 1) := by decide +kernel
theorem dX4_mixInto_50 : decode cX4_mixInto 50 = .ok (.iload_n 3, 1) := by decide +kernel
theorem dX4_mixInto_51 : decode cX4_mixInto 51 = .ok (.iload 4, 2) := by decide +kernel
theorem dX4_mixInto_53 : decode cX4_mixInto 53 = .ok (.invokevirtual 152, 3) := by decide +kernel
theorem dX4_mixInto_56 : decode cX4_mixInto 56 = .ok (.i2l, 1) := by decide +kernel
theorem dX4_mixInto_57 : decode cX4_mixInto 57 = .ok (.ladd, 1) := by decide +kernel
theorem dX4_mixInto_58 : decode cX4_mixInto 58 = .ok (.lstore_n 1, 1) := by decide +kernel
theorem dX4_mixInto_59 : decode cX4_mixInto 59 = .ok (.iinc 4 1, 3) := by decide +kernel
theorem dX4_mixInto_62 : decode cX4_mixInto 62 = .ok (.goto (-25), 3) := by decide +kernel
theorem dX4_mixInto_65 : decode cX4_mixInto 65 = .ok (.iinc 3 1, 3) := by decide +kernel
theorem dX4_mixInto_68 : decode cX4_mixInto 68 = .ok (.goto (-42), 3) := by decide +kernel
theorem dX4_mixInto_71 : decode cX4_mixInto 71 = .ok (.iconst 0, 1) := by decide +kernel
theorem dX4_mixInto_72 : decode cX4_mixInto 72 = .ok (.istore_n 3, 1) := by decide +kernel
theorem dX4_mixInto_73 : decode cX4_mixInto 73 = .ok (.iload_n 3, 1) := by decide +kernel
theorem dX4_mixInto_74 : decode cX4_mixInto 74 = .ok (.aload_n 0, 1) := by decide +kernel
theorem dX4_mixInto_75 : decode cX4_mixInto 75 = .ok (.getfield 57, 3) := by decide +kernel
theorem dX4_mixInto_78 : decode cX4_mixInto 78 = .ok (.if_icmp .ge 23, 3) := by decide +kernel
theorem dX4_mixInto_81 : decode cX4_mixInto 81 = .ok (.ldc2_w 150, 3) := by decide +kernel
theorem dX4_mixInto_84 : decode cX4_mixInto 84 = .ok (.lload_n 1, 1) := by decide +kernel
theorem dX4_mixInto_85 : decode cX4_mixInto 85 = .ok (.lmul, 1) := by decide +kernel
theorem dX4_mixInto_86 : decode cX4_mixInto 86 = .ok (.aload_n 0, 1) := by decide +kernel
theorem dX4_mixInto_87 : decode cX4_mixInto 87 = .ok (.getfield 21, 3) := by decide +kernel
theorem dX4_mixInto_90 : decode cX4_mixInto 90 = .ok (.iload_n 3, 1) := by decide +kernel
theorem dX4_mixInto_91 : decode cX4_mixInto 91 = .ok (.iaload, 1) := by decide +kernel
theorem dX4_mixInto_92 : decode cX4_mixInto 92 = .ok (.i2l, 1) := by decide +kernel
theorem dX4_mixInto_93 : decode cX4_mixInto 93 = .ok (.ladd, 1) := by decide +kernel
theorem dX4_mixInto_94 : decode cX4_mixInto 94 = .ok (.lstore_n 1, 1) := by decide +kernel
theorem dX4_mixInto_95 : decode cX4_mixInto 95 = .ok (.iinc 3 1, 3) := by decide +kernel
theorem dX4_mixInto_98 : decode cX4_mixInto 98 = .ok (.goto (-25), 3) := by decide +kernel
theorem dX4_mixInto_101 : decode cX4_mixInto 101 = .ok (.lload_n 1, 1) := by decide +kernel
theorem dX4_mixInto_102 : decode cX4_mixInto 102 = .ok (.lreturn, 1) := by decide +kernel
theorem dX4_askedToDraw_0 : decode cX4_askedToDraw 0 = .ok (.aload_n 0, 1) := by decide +kernel
theorem dX4_askedToDraw_1 : decode cX4_askedToDraw 1 = .ok (.getfield 11, 3) := by decide +kernel
theorem dX4_askedToDraw_4 : decode cX4_askedToDraw 4 = .ok (.iload_n 1, 1) := by decide +kernel
theorem dX4_askedToDraw_5 : decode cX4_askedToDraw 5 = .ok (.aaload, 1) := by decide +kernel
theorem dX4_askedToDraw_6 : decode cX4_askedToDraw 6 = .ok (.getfield 132, 3) := by decide +kernel
theorem dX4_askedToDraw_9 : decode cX4_askedToDraw 9 = .ok (.istore_n 2, 1) := by decide +kernel
theorem dX4_askedToDraw_10 : decode cX4_askedToDraw 10 = .ok (.iload_n 2, 1) := by decide +kernel
theorem dX4_askedToDraw_11 : decode cX4_askedToDraw 11 = .ok (.bipush (-9), 2) := by decide +kernel
theorem dX4_askedToDraw_13 : decode cX4_askedToDraw 13 = .ok (.if_icmp .eq 15, 3) := by decide +kernel
theorem dX4_askedToDraw_16 : decode cX4_askedToDraw 16 = .ok (.aload_n 0, 1) := by decide +kernel
theorem dX4_askedToDraw_17 : decode cX4_askedToDraw 17 = .ok (.iload_n 2, 1) := by decide +kernel
theorem dX4_askedToDraw_18 : decode cX4_askedToDraw 18 = .ok (.invokevirtual 155, 3) := by decide +kernel
theorem dX4_askedToDraw_21 : decode cX4_askedToDraw 21 = .ok (.ifCond .ne 7, 3) := by decide +kernel
theorem dX4_askedToDraw_24 : decode cX4_askedToDraw 24 = .ok (.iconst 0, 1) := by decide +kernel
theorem dX4_askedToDraw_25 : decode cX4_askedToDraw 25 = .ok (.goto 12, 3) := by decide +kernel
theorem dX4_askedToDraw_28 : decode cX4_askedToDraw 28 = .ok (.aload_n 0, 1) := by decide +kernel
theorem dX4_askedToDraw_29 : decode cX4_askedToDraw 29 = .ok (.getfield 11, 3) := by decide +kernel
theorem dX4_askedToDraw_32 : decode cX4_askedToDraw 32 = .ok (.iload_n 1, 1) := by decide +kernel
theorem dX4_askedToDraw_33 : decode cX4_askedToDraw 33 = .ok (.aaload, 1) := by decide +kernel
theorem dX4_askedToDraw_34 : decode cX4_askedToDraw 34 = .ok (.invokevirtual 159, 3) := by decide +kernel
theorem dX4_askedToDraw_37 : decode cX4_askedToDraw 37 = .ok (.ireturn, 1) := by decide +kernel
theorem dX4_isAgreed_0 : decode cX4_isAgreed 0 = .ok (.aload_n 0, 1) := by decide +kernel
theorem dX4_isAgreed_1 : decode cX4_isAgreed 1 = .ok (.iload_n 1, 1) := by decide +kernel
theorem dX4_isAgreed_2 : decode cX4_isAgreed 2 = .ok (.invokevirtual 162, 3) := by decide +kernel
theorem dX4_isAgreed_5 : decode cX4_isAgreed 5 = .ok (.aload_n 0, 1) := by decide +kernel
theorem dX4_isAgreed_6 : decode cX4_isAgreed 6 = .ok (.getfield 51, 3) := by decide +kernel
theorem dX4_isAgreed_9 : decode cX4_isAgreed 9 = .ok (.iconst (-1), 1) := by decide +kernel
theorem dX4_isAgreed_10 : decode cX4_isAgreed 10 = .ok (.ixor, 1) := by decide +kernel
theorem dX4_isAgreed_11 : decode cX4_isAgreed 11 = .ok (.iand, 1) := by decide +kernel
theorem dX4_isAgreed_12 : decode cX4_isAgreed 12 = .ok (.ifCond .ne 7, 3) := by decide +kernel
theorem dX4_isAgreed_15 : decode cX4_isAgreed 15 = .ok (.iconst 1, 1) := by decide +kernel
theorem dX4_isAgreed_16 : decode cX4_isAgreed 16 = .ok (.goto 4, 3) := by decide +kernel
theorem dX4_isAgreed_19 : decode cX4_isAgreed 19 = .ok (.iconst 0, 1) := by decide +kernel
theorem dX4_isAgreed_20 : decode cX4_isAgreed 20 = .ok (.ireturn, 1) := by decide +kernel
theorem dX4_isLoose_0 : decode cX4_isLoose 0 = .ok (.aload_n 0, 1) := by decide +kernel
theorem dX4_isLoose_1 : decode cX4_isLoose 1 = .ok (.iload_n 1, 1) := by decide +kernel
theorem dX4_isLoose_2 : decode cX4_isLoose 2 = .ok (.invokevirtual 165, 3) := by decide +kernel
theorem dX4_isLoose_5 : decode cX4_isLoose 5 = .ok (.ifCond .ne 17, 3) := by decide +kernel
theorem dX4_isLoose_8 : decode cX4_isLoose 8 = .ok (.aload_n 0, 1) := by decide +kernel
theorem dX4_isLoose_9 : decode cX4_isLoose 9 = .ok (.iconst 1, 1) := by decide +kernel
theorem dX4_isLoose_10 : decode cX4_isLoose 10 = .ok (.iload_n 1, 1) := by decide +kernel
theorem dX4_isLoose_11 : decode cX4_isLoose 11 = .ok (.ishl, 1) := by decide +kernel
theorem dX4_isLoose_12 : decode cX4_isLoose 12 = .ok (.invokevirtual 112, 3) := by decide +kernel
theorem dX4_isLoose_15 : decode cX4_isLoose 15 = .ok (.ifCond .ne 7, 3) := by decide +kernel
theorem dX4_isLoose_18 : decode cX4_isLoose 18 = .ok (.iconst 1, 1) := by decide +kernel
theorem dX4_isLoose_19 : decode cX4_isLoose 19 = .ok (.goto 4, 3) := by decide +kernel
theorem dX4_isLoose_22 : decode cX4_isLoose 22 = .ok (.iconst 0, 1) := by decide +kernel
theorem dX4_isLoose_23 : decode cX4_isLoose 23 = .ok (.ireturn, 1) := by decide +kernel
theorem dX4_takeOut_0 : decode cX4_takeOut 0 = .ok (.aload_n 0, 1) := by decide +kernel
theorem dX4_takeOut_1 : decode cX4_takeOut 1 = .ok (.dup, 1) := by decide +kernel
theorem dX4_takeOut_2 : decode cX4_takeOut 2 = .ok (.getfield 42, 3) := by decide +kernel
theorem dX4_takeOut_5 : decode cX4_takeOut 5 = .ok (.iload_n 1, 1) := by decide +kernel
theorem dX4_takeOut_6 : decode cX4_takeOut 6 = .ok (.iconst (-1), 1) := by decide +kernel
theorem dX4_takeOut_7 : decode cX4_takeOut 7 = .ok (.ixor, 1) := by decide +kernel
theorem dX4_takeOut_8 : decode cX4_takeOut 8 = .ok (.iand, 1) := by decide +kernel
theorem dX4_takeOut_9 : decode cX4_takeOut 9 = .ok (.putfield 42, 3) := by decide +kernel
theorem dX4_takeOut_12 : decode cX4_takeOut 12 = .ok (.aload_n 0, 1) := by decide +kernel
theorem dX4_takeOut_13 : decode cX4_takeOut 13 = .ok (.dup, 1) := by decide +kernel
theorem dX4_takeOut_14 : decode cX4_takeOut 14 = .ok (.getfield 45, 3) := by decide +kernel
theorem dX4_takeOut_17 : decode cX4_takeOut 17 = .ok (.iload_n 1, 1) := by decide +kernel
theorem dX4_takeOut_18 : decode cX4_takeOut 18 = .ok (.iconst (-1), 1) := by decide +kernel
theorem dX4_takeOut_19 : decode cX4_takeOut 19 = .ok (.ixor, 1) := by decide +kernel
theorem dX4_takeOut_20 : decode cX4_takeOut 20 = .ok (.iand, 1) := by decide +kernel
theorem dX4_takeOut_21 : decode cX4_takeOut 21 = .ok (.putfield 45, 3) := by decide +kernel
theorem dX4_takeOut_24 : decode cX4_takeOut 24 = .ok (.return_, 1) := by decide +kernel
theorem dX4_drawOut_0 : decode cX4_drawOut 0 = .ok (.aload_n 0, 1) := by decide +kernel
theorem dX4_drawOut_1 : decode cX4_drawOut 1 = .ok (.iconst 1, 1) := by decide +kernel
theorem dX4_drawOut_2 : decode cX4_drawOut 2 = .ok (.iload_n 1, 1) := by decide +kernel
theorem dX4_drawOut_3 : decode cX4_drawOut 3 = .ok (.ishl, 1) := by decide +kernel
theorem dX4_drawOut_4 : decode cX4_drawOut 4 = .ok (.invokevirtual 168, 3) := by decide +kernel
theorem dX4_drawOut_7 : decode cX4_drawOut 7 = .ok (.aload_n 0, 1) := by decide +kernel
theorem dX4_drawOut_8 : decode cX4_drawOut 8 = .ok (.getfield 57, 3) := by decide +kernel
theorem dX4_drawOut_11 : decode cX4_drawOut 11 = .ok (.bipush 14, 2) := by decide +kernel
theorem dX4_drawOut_13 : decode cX4_drawOut 13 = .ok (.if_icmp .ge 23, 3) := by decide +kernel
theorem dX4_drawOut_16 : decode cX4_drawOut 16 = .ok (.aload_n 0, 1) := by decide +kernel
theorem dX4_drawOut_17 : decode cX4_drawOut 17 = .ok (.getfield 21, 3) := by decide +kernel
theorem dX4_drawOut_20 : decode cX4_drawOut 20 = .ok (.aload_n 0, 1) := by decide +kernel
theorem dX4_drawOut_21 : decode cX4_drawOut 21 = .ok (.getfield 57, 3) := by decide +kernel
theorem dX4_drawOut_24 : decode cX4_drawOut 24 = .ok (.iload_n 1, 1) := by decide +kernel
theorem dX4_drawOut_25 : decode cX4_drawOut 25 = .ok (.iastore, 1) := by decide +kernel
theorem dX4_drawOut_26 : decode cX4_drawOut 26 = .ok (.aload_n 0, 1) := by decide +kernel
theorem dX4_drawOut_27 : decode cX4_drawOut 27 = .ok (.dup, 1) := by decide +kernel
theorem dX4_drawOut_28 : decode cX4_drawOut 28 = .ok (.getfield 57, 3) := by decide +kernel
theorem dX4_drawOut_31 : decode cX4_drawOut 31 = .ok (.iconst 1, 1) := by decide +kernel
theorem dX4_drawOut_32 : decode cX4_drawOut 32 = .ok (.iadd, 1) := by decide +kernel
theorem dX4_drawOut_33 : decode cX4_drawOut 33 = .ok (.putfield 57, 3) := by decide +kernel
theorem dX4_drawOut_36 : decode cX4_drawOut 36 = .ok (.return_, 1) := by decide +kernel
theorem dX4_lastDrawn_0 : decode cX4_lastDrawn 0 = .ok (.aload_n 0, 1) := by decide +kernel
theorem dX4_lastDrawn_1 : decode cX4_lastDrawn 1 = .ok (.getfield 57, 3) := by decide +kernel
theorem dX4_lastDrawn_4 : decode cX4_lastDrawn 4 = .ok (.ifCond .le 17, 3) := by decide +kernel
theorem dX4_lastDrawn_7 : decode cX4_lastDrawn 7 = .ok (.aload_n 0, 1) := by decide +kernel
theorem dX4_lastDrawn_8 : decode cX4_lastDrawn 8 = .ok (.getfield 21, 3) := by decide +kernel
theorem dX4_lastDrawn_11 : decode cX4_lastDrawn 11 = .ok (.aload_n 0, 1) := by decide +kernel
theorem dX4_lastDrawn_12 : decode cX4_lastDrawn 12 = .ok (.getfield 57, 3) := by decide +kernel
theorem dX4_lastDrawn_15 : decode cX4_lastDrawn 15 = .ok (.iconst 1, 1) := by decide +kernel
theorem dX4_lastDrawn_16 : decode cX4_lastDrawn 16 = .ok (.isub, 1) := by decide +kernel
theorem dX4_lastDrawn_17 : decode cX4_lastDrawn 17 = .ok (.iaload, 1) := by decide +kernel
theorem dX4_lastDrawn_18 : decode cX4_lastDrawn 18 = .ok (.goto 5, 3) := by decide +kernel
theorem dX4_lastDrawn_21 : decode cX4_lastDrawn 21 = .ok (.bipush (-9), 2) := by decide +kernel
theorem dX4_lastDrawn_23 : decode cX4_lastDrawn 23 = .ok (.ireturn, 1) := by decide +kernel
theorem dX4_canComeBack_0 : decode cX4_canComeBack 0 = .ok (.aload_n 0, 1) := by decide +kernel
theorem dX4_canComeBack_1 : decode cX4_canComeBack 1 = .ok (.getfield 11, 3) := by decide +kernel
theorem dX4_canComeBack_4 : decode cX4_canComeBack 4 = .ok (.iload_n 1, 1) := by decide +kernel
theorem dX4_canComeBack_5 : decode cX4_canComeBack 5 = .ok (.aaload, 1) := by decide +kernel
theorem dX4_canComeBack_6 : decode cX4_canComeBack 6 = .ok (.astore_n 2, 1) := by decide +kernel
theorem dX4_canComeBack_7 : decode cX4_canComeBack 7 = .ok (.aload_n 0, 1) := by decide +kernel
theorem dX4_canComeBack_8 : decode cX4_canComeBack 8 = .ok (.aload_n 2, 1) := by decide +kernel
theorem dX4_canComeBack_9 : decode cX4_canComeBack 9 = .ok (.getfield 76, 3) := by decide +kernel
theorem dX4_canComeBack_12 : decode cX4_canComeBack 12 = .ok (.aload_n 2, 1) := by decide +kernel
theorem dX4_canComeBack_13 : decode cX4_canComeBack 13 = .ok (.getfield 79, 3) := by decide +kernel
theorem dX4_canComeBack_16 : decode cX4_canComeBack 16 = .ok (.aload_n 0, 1) := by decide +kernel
theorem dX4_canComeBack_17 : decode cX4_canComeBack 17 = .ok (.getfield 42, 3) := by decide +kernel
theorem dX4_canComeBack_20 : decode cX4_canComeBack 20 = .ok (.invokevirtual 72, 3) := by decide +kernel
theorem dX4_canComeBack_23 : decode cX4_canComeBack 23 = .ok (.ifCond .eq 7, 3) := by decide +kernel
theorem dX4_canComeBack_26 : decode cX4_canComeBack 26 = .ok (.iconst 1, 1) := by decide +kernel
theorem dX4_canComeBack_27 : decode cX4_canComeBack 27 = .ok (.goto 4, 3) := by decide +kernel
theorem dX4_canComeBack_30 : decode cX4_canComeBack 30 = .ok (.iconst 0, 1) := by decide +kernel
theorem dX4_canComeBack_31 : decode cX4_canComeBack 31 = .ok (.istore_n 3, 1) := by decide +kernel
theorem dX4_canComeBack_32 : decode cX4_canComeBack 32 = .ok (.iload_n 3, 1) := by decide +kernel
theorem dX4_canComeBack_33 : decode cX4_canComeBack 33 = .ok (.ifCond .ne 31, 3) := by decide +kernel
theorem dX4_canComeBack_36 : decode cX4_canComeBack 36 = .ok (.aload_n 0, 1) := by decide +kernel
theorem dX4_canComeBack_37 : decode cX4_canComeBack 37 = .ok (.aload_n 0, 1) := by decide +kernel
theorem dX4_canComeBack_38 : decode cX4_canComeBack 38 = .ok (.getfield 42, 3) := by decide +kernel
theorem dX4_canComeBack_41 : decode cX4_canComeBack 41 = .ok (.iconst 1, 1) := by decide +kernel
theorem dX4_canComeBack_42 : decode cX4_canComeBack 42 = .ok (.iload_n 1, 1) := by decide +kernel
theorem dX4_canComeBack_43 : decode cX4_canComeBack 43 = .ok (.ishl, 1) := by decide +kernel
theorem dX4_canComeBack_44 : decode cX4_canComeBack 44 = .ok (.ior, 1) := by decide +kernel
theorem dX4_canComeBack_45 : decode cX4_canComeBack 45 = .ok (.aload_n 0, 1) := by decide +kernel
theorem dX4_canComeBack_46 : decode cX4_canComeBack 46 = .ok (.getfield 45, 3) := by decide +kernel
theorem dX4_canComeBack_49 : decode cX4_canComeBack 49 = .ok (.invokevirtual 103, 3) := by decide +kernel
theorem dX4_canComeBack_52 : decode cX4_canComeBack 52 = .ok (.iload_n 1, 1) := by decide +kernel
theorem dX4_canComeBack_53 : decode cX4_canComeBack 53 = .ok (.ishr, 1) := by decide +kernel
theorem dX4_canComeBack_54 : decode cX4_canComeBack 54 = .ok (.iconst 1, 1) := by decide +kernel
theorem dX4_canComeBack_55 : decode cX4_canComeBack 55 = .ok (.iand, 1) := by decide +kernel
theorem dX4_canComeBack_56 : decode cX4_canComeBack 56 = .ok (.iconst 1, 1) := by decide +kernel
theorem dX4_canComeBack_57 : decode cX4_canComeBack 57 = .ok (.if_icmp .ne 7, 3) := by decide +kernel
theorem dX4_canComeBack_60 : decode cX4_canComeBack 60 = .ok (.iconst 1, 1) := by decide +kernel
theorem dX4_canComeBack_61 : decode cX4_canComeBack 61 = .ok (.goto 4, 3) := by decide +kernel
theorem dX4_canComeBack_64 : decode cX4_canComeBack 64 = .ok (.iconst 0, 1) := by decide +kernel
theorem dX4_canComeBack_65 : decode cX4_canComeBack 65 = .ok (.ireturn, 1) := by decide +kernel
theorem dX4_comeBack_0 : decode cX4_comeBack 0 = .ok (.aload_n 0, 1) := by decide +kernel
theorem dX4_comeBack_1 : decode cX4_comeBack 1 = .ok (.dup, 1) := by decide +kernel
theorem dX4_comeBack_2 : decode cX4_comeBack 2 = .ok (.getfield 42, 3) := by decide +kernel
theorem dX4_comeBack_5 : decode cX4_comeBack 5 = .ok (.iconst 1, 1) := by decide +kernel
theorem dX4_comeBack_6 : decode cX4_comeBack 6 = .ok (.iload_n 1, 1) := by decide +kernel
theorem dX4_comeBack_7 : decode cX4_comeBack 7 = .ok (.ishl, 1) := by decide +kernel
theorem dX4_comeBack_8 : decode cX4_comeBack 8 = .ok (.ior, 1) := by decide +kernel
theorem dX4_comeBack_9 : decode cX4_comeBack 9 = .ok (.putfield 42, 3) := by decide +kernel
theorem dX4_comeBack_12 : decode cX4_comeBack 12 = .ok (.aload_n 0, 1) := by decide +kernel
theorem dX4_comeBack_13 : decode cX4_comeBack 13 = .ok (.dup, 1) := by decide +kernel
theorem dX4_comeBack_14 : decode cX4_comeBack 14 = .ok (.getfield 57, 3) := by decide +kernel
theorem dX4_comeBack_17 : decode cX4_comeBack 17 = .ok (.iconst 1, 1) := by decide +kernel
theorem dX4_comeBack_18 : decode cX4_comeBack 18 = .ok (.isub, 1) := by decide +kernel
theorem dX4_comeBack_19 : decode cX4_comeBack 19 = .ok (.putfield 57, 3) := by decide +kernel
theorem dX4_comeBack_22 : decode cX4_comeBack 22 = .ok (.return_, 1) := by decide +kernel
theorem dX4_listFromTop_0 : decode cX4_listFromTop 0 = .ok (.iconst 0, 1) := by decide +kernel
theorem dX4_listFromTop_1 : decode cX4_listFromTop 1 = .ok (.istore_n 3, 1) := by decide +kernel
theorem dX4_listFromTop_2 : decode cX4_listFromTop 2 = .ok (.bipush 11, 2) := by decide +kernel
theorem dX4_listFromTop_4 : decode cX4_listFromTop 4 = .ok (.istore 4, 2) := by decide +kernel
theorem dX4_listFromTop_6 : decode cX4_listFromTop 6 = .ok (.iload 4, 2) := by decide +kernel
theorem dX4_listFromTop_8 : decode cX4_listFromTop 8 = .ok (.ifCond .lt 66, 3) := by decide +kernel
theorem dX4_listFromTop_11 : decode cX4_listFromTop 11 = .ok (.iconst 0, 1) := by decide +kernel
theorem dX4_listFromTop_12 : decode cX4_listFromTop 12 = .ok (.istore 5, 2) := by decide +kernel
theorem dX4_listFromTop_14 : decode cX4_listFromTop 14 = .ok (.iload 5, 2) := by decide +kernel
theorem dX4_listFromTop_16 : decode cX4_listFromTop 16 = .ok (.aload_n 0, 1) := by decide +kernel
theorem dX4_listFromTop_17 : decode cX4_listFromTop 17 = .ok (.getfield 39, 3) := by decide +kernel
theorem dX4_listFromTop_20 : decode cX4_listFromTop 20 = .ok (.if_icmp .ge 48, 3) := by decide +kernel
theorem dX4_listFromTop_23 : decode cX4_listFromTop 23 = .ok (.iload_n 1, 1) := by decide +kernel
theorem dX4_listFromTop_24 : decode cX4_listFromTop 24 = .ok (.iload 5, 2) := by decide +kernel
theorem dX4_listFromTop_26 : decode cX4_listFromTop 26 = .ok (.ishr, 1) := by decide +kernel
theorem dX4_listFromTop_27 : decode cX4_listFromTop 27 = .ok (.iconst 1, 1) := by decide +kernel
theorem dX4_listFromTop_28 : decode cX4_listFromTop 28 = .ok (.iand, 1) := by decide +kernel
theorem dX4_listFromTop_29 : decode cX4_listFromTop 29 = .ok (.iconst 1, 1) := by decide +kernel
theorem dX4_listFromTop_30 : decode cX4_listFromTop 30 = .ok (.if_icmp .ne 32, 3) := by decide +kernel
theorem dX4_listFromTop_33 : decode cX4_listFromTop 33 = .ok (.aload_n 0, 1) := by decide +kernel
theorem dX4_listFromTop_34 : decode cX4_listFromTop 34 = .ok (.getfield 11, 3) := by decide +kernel
theorem dX4_listFromTop_37 : decode cX4_listFromTop 37 = .ok (.iload 5, 2) := by decide +kernel
theorem dX4_listFromTop_39 : decode cX4_listFromTop 39 = .ok (.aaload, 1) := by decide +kernel
theorem dX4_listFromTop_40 : decode cX4_listFromTop 40 = .ok (.invokevirtual 86, 3) := by decide +kernel
theorem dX4_listFromTop_43 : decode cX4_listFromTop 43 = .ok (.iload 4, 2) := by decide +kernel
theorem dX4_listFromTop_45 : decode cX4_listFromTop 45 = .ok (.if_icmp .ne 17, 3) := by decide +kernel
theorem dX4_listFromTop_48 : decode cX4_listFromTop 48 = .ok (.iload_n 3, 1) := by decide +kernel
theorem dX4_listFromTop_49 : decode cX4_listFromTop 49 = .ok (.aload_n 2, 1) := by decide +kernel
theorem dX4_listFromTop_50 : decode cX4_listFromTop 50 = .ok (.arraylength, 1) := by decide +kernel
theorem dX4_listFromTop_51 : decode cX4_listFromTop 51 = .ok (.if_icmp .ge 11, 3) := by decide +kernel
theorem dX4_listFromTop_54 : decode cX4_listFromTop 54 = .ok (.aload_n 2, 1) := by decide +kernel
theorem dX4_listFromTop_55 : decode cX4_listFromTop 55 = .ok (.iload_n 3, 1) := by decide +kernel
theorem dX4_listFromTop_56 : decode cX4_listFromTop 56 = .ok (.iload 5, 2) := by decide +kernel
theorem dX4_listFromTop_58 : decode cX4_listFromTop 58 = .ok (.iastore, 1) := by decide +kernel
theorem dX4_listFromTop_59 : decode cX4_listFromTop 59 = .ok (.iinc 3 1, 3) := by decide +kernel
theorem dX4_listFromTop_62 : decode cX4_listFromTop 62 = .ok (.iinc 5 1, 3) := by decide +kernel
theorem dX4_listFromTop_65 : decode cX4_listFromTop 65 = .ok (.goto (-51), 3) := by decide +kernel
theorem dX4_listFromTop_68 : decode cX4_listFromTop 68 = .ok (.iinc 4 (-1), 3) := by decide +kernel
theorem dX4_listFromTop_71 : decode cX4_listFromTop 71 = .ok (.goto (-65), 3) := by decide +kernel
theorem dX4_listFromTop_74 : decode cX4_listFromTop 74 = .ok (.return_, 1) := by decide +kernel
theorem dX4_settle_0 : decode cX4_settle 0 = .ok (.aload_n 0, 1) := by decide +kernel
theorem dX4_settle_1 : decode cX4_settle 1 = .ok (.getfield 39, 3) := by decide +kernel
theorem dX4_settle_4 : decode cX4_settle 4 = .ok (.bipush 14, 2) := by decide +kernel
theorem dX4_settle_6 : decode cX4_settle 6 = .ok (.if_icmp .ge 13, 3) := by decide +kernel
theorem dX4_settle_9 : decode cX4_settle 9 = .ok (.aload_n 0, 1) := by decide +kernel
theorem dX4_settle_10 : decode cX4_settle 10 = .ok (.iconst 0, 1) := by decide +kernel
theorem dX4_settle_11 : decode cX4_settle 11 = .ok (.iload_n 1, 1) := by decide +kernel
theorem dX4_settle_12 : decode cX4_settle 12 = .ok (.iload_n 2, 1) := by decide +kernel
theorem dX4_settle_13 : decode cX4_settle 13 = .ok (.invokevirtual 172, 3) := by decide +kernel
theorem dX4_settle_16 : decode cX4_settle 16 = .ok (.ifCond .ne 5, 3) := by decide +kernel
theorem dX4_settle_19 : decode cX4_settle 19 = .ok (.iconst 0, 1) := by decide +kernel
theorem dX4_settle_20 : decode cX4_settle 20 = .ok (.ireturn, 1) := by decide +kernel
theorem dX4_settle_21 : decode cX4_settle 21 = .ok (.aload_n 0, 1) := by decide +kernel
theorem dX4_settle_22 : decode cX4_settle 22 = .ok (.iconst 0, 1) := by decide +kernel
theorem dX4_settle_23 : decode cX4_settle 23 = .ok (.iload_n 1, 1) := by decide +kernel
theorem dX4_settle_24 : decode cX4_settle 24 = .ok (.iload_n 2, 1) := by decide +kernel
theorem dX4_settle_25 : decode cX4_settle 25 = .ok (.invokevirtual 176, 3) := by decide +kernel
theorem dX4_settle_28 : decode cX4_settle 28 = .ok (.aload_n 0, 1) := by decide +kernel
theorem dX4_settle_29 : decode cX4_settle 29 = .ok (.getfield 39, 3) := by decide +kernel
theorem dX4_settle_32 : decode cX4_settle 32 = .ok (.iconst 1, 1) := by decide +kernel
theorem dX4_settle_33 : decode cX4_settle 33 = .ok (.isub, 1) := by decide +kernel
theorem dX4_settle_34 : decode cX4_settle 34 = .ok (.istore 5, 2) := by decide +kernel
theorem dX4_settle_36 : decode cX4_settle 36 = .ok (.aload_n 0, 1) := by decide +kernel
theorem dX4_settle_37 : decode cX4_settle 37 = .ok (.getfield 11, 3) := by decide +kernel
theorem dX4_settle_40 : decode cX4_settle 40 = .ok (.iload 5, 2) := by decide +kernel
theorem dX4_settle_42 : decode cX4_settle 42 = .ok (.aaload, 1) := by decide +kernel
theorem dX4_settle_43 : decode cX4_settle 43 = .ok (.iload_n 3, 1) := by decide +kernel
theorem dX4_settle_44 : decode cX4_settle 44 = .ok (.iload 4, 2) := by decide +kernel
theorem dX4_settle_46 : decode cX4_settle 46 = .ok (.bipush (-9), 2) := by decide +kernel
theorem dX4_settle_48 : decode cX4_settle 48 = .ok (.invokevirtual 179, 3) := by decide +kernel
theorem dX4_settle_51 : decode cX4_settle 51 = .ok (.aload_n 0, 1) := by decide +kernel
theorem dX4_settle_52 : decode cX4_settle 52 = .ok (.invokevirtual 109, 3) := by decide +kernel
theorem dX4_settle_55 : decode cX4_settle 55 = .ok (.iload 5, 2) := by decide +kernel
theorem dX4_settle_57 : decode cX4_settle 57 = .ok (.ishr, 1) := by decide +kernel
theorem dX4_settle_58 : decode cX4_settle 58 = .ok (.iconst 1, 1) := by decide +kernel
theorem dX4_settle_59 : decode cX4_settle 59 = .ok (.iand, 1) := by decide +kernel
theorem dX4_settle_60 : decode cX4_settle 60 = .ok (.iconst 1, 1) := by decide +kernel
theorem dX4_settle_61 : decode cX4_settle 61 = .ok (.if_icmp .ne 7, 3) := by decide +kernel
theorem dX4_settle_64 : decode cX4_settle 64 = .ok (.iconst 1, 1) := by decide +kernel
theorem dX4_settle_65 : decode cX4_settle 65 = .ok (.goto 4, 3) := by decide +kernel
theorem dX4_settle_68 : decode cX4_settle 68 = .ok (.iconst 0, 1) := by decide +kernel
theorem dX4_settle_69 : decode cX4_settle 69 = .ok (.istore 6, 2) := by decide +kernel
theorem dX4_settle_71 : decode cX4_settle 71 = .ok (.iload 6, 2) := by decide +kernel
theorem dX4_settle_73 : decode cX4_settle 73 = .ok (.ifCond .ne 7, 3) := by decide +kernel
theorem dX4_settle_76 : decode cX4_settle 76 = .ok (.aload_n 0, 1) := by decide +kernel
theorem dX4_settle_77 : decode cX4_settle 77 = .ok (.invokevirtual 182, 3) := by decide +kernel
theorem dX4_settle_80 : decode cX4_settle 80 = .ok (.iload 6, 2) := by decide +kernel
theorem dX4_settle_82 : decode cX4_settle 82 = .ok (.ireturn, 1) := by decide +kernel
theorem dX4_isSoonDrawn_0 : decode cX4_isSoonDrawn 0 = .ok (.aload_n 0, 1) := by decide +kernel
theorem dX4_isSoonDrawn_1 : decode cX4_isSoonDrawn 1 = .ok (.iload_n 1, 1) := by decide +kernel
theorem dX4_isSoonDrawn_2 : decode cX4_isSoonDrawn 2 = .ok (.iload_n 2, 1) := by decide +kernel
theorem dX4_isSoonDrawn_3 : decode cX4_isSoonDrawn 3 = .ok (.iconst 0, 1) := by decide +kernel
theorem dX4_isSoonDrawn_4 : decode cX4_isSoonDrawn 4 = .ok (.iconst 1, 1) := by decide +kernel
theorem dX4_isSoonDrawn_5 : decode cX4_isSoonDrawn 5 = .ok (.invokevirtual 185, 3) := by decide +kernel
theorem dX4_isSoonDrawn_8 : decode cX4_isSoonDrawn 8 = .ok (.ifCond .ne 5, 3) := by decide +kernel
theorem dX4_isSoonDrawn_11 : decode cX4_isSoonDrawn 11 = .ok (.iconst 0, 1) := by decide +kernel
theorem dX4_isSoonDrawn_12 : decode cX4_isSoonDrawn 12 = .ok (.ireturn, 1) := by decide +kernel
theorem dX4_isSoonDrawn_13 : decode cX4_isSoonDrawn 13 = .ok (.aload_n 0, 1) := by decide +kernel
theorem dX4_isSoonDrawn_14 : decode cX4_isSoonDrawn 14 = .ok (.iconst 1, 1) := by decide +kernel
theorem dX4_isSoonDrawn_15 : decode cX4_isSoonDrawn 15 = .ok (.aload_n 0, 1) := by decide +kernel
theorem dX4_isSoonDrawn_16 : decode cX4_isSoonDrawn 16 = .ok (.getfield 39, 3) := by decide +kernel
theorem dX4_isSoonDrawn_19 : decode cX4_isSoonDrawn 19 = .ok (.iconst 1, 1) := by decide +kernel
theorem dX4_isSoonDrawn_20 : decode cX4_isSoonDrawn 20 = .ok (.isub, 1) := by decide +kernel
theorem dX4_isSoonDrawn_21 : decode cX4_isSoonDrawn 21 = .ok (.ishl, 1) := by decide +kernel
theorem dX4_isSoonDrawn_22 : decode cX4_isSoonDrawn 22 = .ok (.invokevirtual 112, 3) := by decide +kernel
theorem dX4_isSoonDrawn_25 : decode cX4_isSoonDrawn 25 = .ok (.ifCond .ne 7, 3) := by decide +kernel
theorem dX4_isSoonDrawn_28 : decode cX4_isSoonDrawn 28 = .ok (.iconst 1, 1) := by decide +kernel
theorem dX4_isSoonDrawn_29 : decode cX4_isSoonDrawn 29 = .ok (.goto 4, 3) := by decide +kernel
theorem dX4_isSoonDrawn_32 : decode cX4_isSoonDrawn 32 = .ok (.iconst 0, 1) := by decide +kernel
theorem dX4_isSoonDrawn_33 : decode cX4_isSoonDrawn 33 = .ok (.istore_n 3, 1) := by decide +kernel
theorem dX4_isSoonDrawn_34 : decode cX4_isSoonDrawn 34 = .ok (.aload_n 0, 1) := by decide +kernel
theorem dX4_isSoonDrawn_35 : decode cX4_isSoonDrawn 35 = .ok (.invokevirtual 182, 3) := by decide +kernel
theorem dX4_isSoonDrawn_38 : decode cX4_isSoonDrawn 38 = .ok (.iload_n 3, 1) := by decide +kernel
theorem dX4_isSoonDrawn_39 : decode cX4_isSoonDrawn 39 = .ok (.ireturn, 1) := by decide +kernel
theorem dX4_netDebt_0 : decode cX4_netDebt 0 = .ok (.iconst 0, 1) := by decide +kernel
theorem dX4_netDebt_1 : decode cX4_netDebt 1 = .ok (.istore_n 3, 1) := by decide +kernel
theorem dX4_netDebt_2 : decode cX4_netDebt 2 = .ok (.iconst 0, 1) := by decide +kernel
theorem dX4_netDebt_3 : decode cX4_netDebt 3 = .ok (.istore 4, 2) := by decide +kernel
theorem dX4_netDebt_5 : decode cX4_netDebt 5 = .ok (.iload 4, 2) := by decide +kernel
theorem dX4_netDebt_7 : decode cX4_netDebt 7 = .ok (.aload_n 0, 1) := by decide +kernel
theorem dX4_netDebt_8 : decode cX4_netDebt 8 = .ok (.getfield 39, 3) := by decide +kernel
theorem dX4_netDebt_11 : decode cX4_netDebt 11 = .ok (.if_icmp .ge 46, 3) := by decide +kernel
theorem dX4_netDebt_14 : decode cX4_netDebt 14 = .ok (.aload_n 0, 1) := by decide +kernel
theorem dX4_netDebt_15 : decode cX4_netDebt 15 = .ok (.iload 4, 2) := by decide +kernel
theorem dX4_netDebt_17 : decode cX4_netDebt 17 = .ok (.invokevirtual 155, 3) := by decide +kernel
theorem dX4_netDebt_20 : decode cX4_netDebt 20 = .ok (.ifCond .eq 31, 3) := by decide +kernel
theorem dX4_netDebt_23 : decode cX4_netDebt 23 = .ok (.iload_n 3, 1) := by decide +kernel
theorem dX4_netDebt_24 : decode cX4_netDebt 24 = .ok (.aload_n 0, 1) := by decide +kernel
theorem dX4_netDebt_25 : decode cX4_netDebt 25 = .ok (.getfield 11, 3) := by decide +kernel
theorem dX4_netDebt_28 : decode cX4_netDebt 28 = .ok (.iload 4, 2) := by decide +kernel
theorem dX4_netDebt_30 : decode cX4_netDebt 30 = .ok (.aaload, 1) := by decide +kernel
theorem dX4_netDebt_31 : decode cX4_netDebt 31 = .ok (.iload_n 1, 1) := by decide +kernel
theorem dX4_netDebt_32 : decode cX4_netDebt 32 = .ok (.iload_n 2, 1) := by decide +kernel
theorem dX4_netDebt_33 : decode cX4_netDebt 33 = .ok (.invokevirtual 189, 3) := by decide +kernel
theorem dX4_netDebt_36 : decode cX4_netDebt 36 = .ok (.aload_n 0, 1) := by decide +kernel
theorem dX4_netDebt_37 : decode cX4_netDebt 37 = .ok (.getfield 11, 3) := by decide +kernel
theorem dX4_netDebt_40 : decode cX4_netDebt 40 = .ok (.iload 4, 2) := by decide +kernel
theorem dX4_netDebt_42 : decode cX4_netDebt 42 = .ok (.aaload, 1) := by decide +kernel
theorem dX4_netDebt_43 : decode cX4_netDebt 43 = .ok (.iload_n 2, 1) := by decide +kernel
theorem dX4_netDebt_44 : decode cX4_netDebt 44 = .ok (.iload_n 1, 1) := by decide +kernel
theorem dX4_netDebt_45 : decode cX4_netDebt 45 = .ok (.invokevirtual 189, 3) := by decide +kernel
theorem dX4_netDebt_48 : decode cX4_netDebt 48 = .ok (.isub, 1) := by decide +kernel
theorem dX4_netDebt_49 : decode cX4_netDebt 49 = .ok (.iadd, 1) := by decide +kernel
theorem dX4_netDebt_50 : decode cX4_netDebt 50 = .ok (.istore_n 3, 1) := by decide +kernel
theorem dX4_netDebt_51 : decode cX4_netDebt 51 = .ok (.iinc 4 1, 3) := by decide +kernel
theorem dX4_netDebt_54 : decode cX4_netDebt 54 = .ok (.goto (-49), 3) := by decide +kernel
theorem dX4_netDebt_57 : decode cX4_netDebt 57 = .ok (.iload_n 3, 1) := by decide +kernel
theorem dX4_netDebt_58 : decode cX4_netDebt 58 = .ok (.ireturn, 1) := by decide +kernel
theorem dX4_netCredit_0 : decode cX4_netCredit 0 = .ok (.iconst 0, 1) := by decide +kernel
theorem dX4_netCredit_1 : decode cX4_netCredit 1 = .ok (.istore_n 2, 1) := by decide +kernel
theorem dX4_netCredit_2 : decode cX4_netCredit 2 = .ok (.iconst 0, 1) := by decide +kernel
theorem dX4_netCredit_3 : decode cX4_netCredit 3 = .ok (.istore_n 3, 1) := by decide +kernel
theorem dX4_netCredit_4 : decode cX4_netCredit 4 = .ok (.iload_n 3, 1) := by decide +kernel
theorem dX4_netCredit_5 : decode cX4_netCredit 5 = .ok (.bipush 6, 2) := by decide +kernel
theorem dX4_netCredit_7 : decode cX4_netCredit 7 = .ok (.if_icmp .ge 27, 3) := by decide +kernel
theorem dX4_netCredit_10 : decode cX4_netCredit 10 = .ok (.iload_n 2, 1) := by decide +kernel
theorem dX4_netCredit_11 : decode cX4_netCredit 11 = .ok (.iload_n 3, 1) := by decide +kernel
theorem dX4_netCredit_12 : decode cX4_netCredit 12 = .ok (.iload_n 1, 1) := by decide +kernel
theorem dX4_netCredit_13 : decode cX4_netCredit 13 = .ok (.if_icmp .ne 7, 3) := by decide +kernel
theorem dX4_netCredit_16 : decode cX4_netCredit 16 = .ok (.iconst 0, 1) := by decide +kernel
theorem dX4_netCredit_17 : decode cX4_netCredit 17 = .ok (.goto 9, 3) := by decide +kernel
theorem dX4_netCredit_20 : decode cX4_netCredit 20 = .ok (.aload_n 0, 1) := by decide +kernel
theorem dX4_netCredit_21 : decode cX4_netCredit 21 = .ok (.iload_n 3, 1) := by decide +kernel
theorem dX4_netCredit_22 : decode cX4_netCredit 22 = .ok (.iload_n 1, 1) := by decide +kernel
theorem dX4_netCredit_23 : decode cX4_netCredit 23 = .ok (.invokevirtual 192, 3) := by decide +kernel
theorem dX4_netCredit_26 : decode cX4_netCredit 26 = .ok (.iadd, 1) := by decide +kernel
theorem dX4_netCredit_27 : decode cX4_netCredit 27 = .ok (.istore_n 2, 1) := by decide +kernel
theorem dX4_netCredit_28 : decode cX4_netCredit 28 = .ok (.iinc 3 1, 3) := by decide +kernel
theorem dX4_netCredit_31 : decode cX4_netCredit 31 = .ok (.goto (-27), 3) := by decide +kernel
theorem dX4_netCredit_34 : decode cX4_netCredit 34 = .ok (.iload_n 2, 1) := by decide +kernel
theorem dX4_netCredit_35 : decode cX4_netCredit 35 = .ok (.ireturn, 1) := by decide +kernel
theorem dX4_reachesAll_0 : decode cX4_reachesAll 0 = .ok (.iconst 0, 1) := by decide +kernel
theorem dX4_reachesAll_1 : decode cX4_reachesAll 1 = .ok (.istore_n 3, 1) := by decide +kernel
theorem dX4_reachesAll_2 : decode cX4_reachesAll 2 = .ok (.iload_n 3, 1) := by decide +kernel
theorem dX4_reachesAll_3 : decode cX4_reachesAll 3 = .ok (.aload_n 0, 1) := by decide +kernel
theorem dX4_reachesAll_4 : decode cX4_reachesAll 4 = .ok (.getfield 39, 3) := by decide +kernel
theorem dX4_reachesAll_7 : decode cX4_reachesAll 7 = .ok (.if_icmp .ge 34, 3) := by decide +kernel
theorem dX4_reachesAll_10 : decode cX4_reachesAll 10 = .ok (.iload_n 2, 1) := by decide +kernel
theorem dX4_reachesAll_11 : decode cX4_reachesAll 11 = .ok (.iload_n 3, 1) := by decide +kernel
theorem dX4_reachesAll_12 : decode cX4_reachesAll 12 = .ok (.ishr, 1) := by decide +kernel
theorem dX4_reachesAll_13 : decode cX4_reachesAll 13 = .ok (.iconst 1, 1) := by decide +kernel
theorem dX4_reachesAll_14 : decode cX4_reachesAll 14 = .ok (.iand, 1) := by decide +kernel
theorem dX4_reachesAll_15 : decode cX4_reachesAll 15 = .ok (.iconst 1, 1) := by decide +kernel
theorem dX4_reachesAll_16 : decode cX4_reachesAll 16 = .ok (.if_icmp .ne 19, 3) := by decide +kernel
theorem dX4_reachesAll_19 : decode cX4_reachesAll 19 = .ok (.aload_n 0, 1) := by decide +kernel
theorem dX4_reachesAll_20 : decode cX4_reachesAll 20 = .ok (.getfield 11, 3) := by decide +kernel
theorem dX4_reachesAll_23 : decode cX4_reachesAll 23 = .ok (.iload_n 3, 1) := by decide +kernel
theorem dX4_reachesAll_24 : decode cX4_reachesAll 24 = .ok (.aaload, 1) := by decide +kernel
theorem dX4_reachesAll_25 : decode cX4_reachesAll 25 = .ok (.invokevirtual 159, 3) := by decide +kernel
theorem dX4_reachesAll_28 : decode cX4_reachesAll 28 = .ok (.iload_n 1, 1) := by decide +kernel
theorem dX4_reachesAll_29 : decode cX4_reachesAll 29 = .ok (.iand, 1) := by decide +kernel
theorem dX4_reachesAll_30 : decode cX4_reachesAll 30 = .ok (.ifCond .ne 5, 3) := by decide +kernel
theorem dX4_reachesAll_33 : decode cX4_reachesAll 33 = .ok (.iconst 0, 1) := by decide +kernel
theorem dX4_reachesAll_34 : decode cX4_reachesAll 34 = .ok (.ireturn, 1) := by decide +kernel
theorem dX4_reachesAll_35 : decode cX4_reachesAll 35 = .ok (.iinc 3 1, 3) := by decide +kernel
theorem dX4_reachesAll_38 : decode cX4_reachesAll 38 = .ok (.goto (-36), 3) := by decide +kernel
theorem dX4_reachesAll_41 : decode cX4_reachesAll 41 = .ok (.iconst 1, 1) := by decide +kernel
theorem dX4_reachesAll_42 : decode cX4_reachesAll 42 = .ok (.ireturn, 1) := by decide +kernel
theorem dX4_crack_0 : decode cX4_crack 0 = .ok (.iload_n 1, 1) := by decide +kernel
theorem dX4_crack_1 : decode cX4_crack 1 = .ok (.i2l, 1) := by decide +kernel
theorem dX4_crack_2 : decode cX4_crack 2 = .ok (.lstore_n 3, 1) := by decide +kernel
theorem dX4_crack_3 : decode cX4_crack 3 = .ok (.iconst 0, 1) := by decide +kernel
theorem dX4_crack_4 : decode cX4_crack 4 = .ok (.istore 5, 2) := by decide +kernel
theorem dX4_crack_6 : decode cX4_crack 6 = .ok (.iconst 0, 1) := by decide +kernel
theorem dX4_crack_7 : decode cX4_crack 7 = .ok (.istore 6, 2) := by decide +kernel
theorem dX4_crack_9 : decode cX4_crack 9 = .ok (.iload 6, 2) := by decide +kernel
theorem dX4_crack_11 : decode cX4_crack 11 = .ok (.aload_n 0, 1) := by decide +kernel
theorem dX4_crack_12 : decode cX4_crack 12 = .ok (.getfield 39, 3) := by decide +kernel
theorem dX4_crack_15 : decode cX4_crack 15 = .ok (.if_icmp .ge 72, 3) := by decide +kernel
theorem dX4_crack_18 : decode cX4_crack 18 = .ok (.aload_n 0, 1) := by decide +kernel
theorem dX4_crack_19 : decode cX4_crack 19 = .ok (.iload 6, 2) := by decide +kernel
theorem dX4_crack_21 : decode cX4_crack 21 = .ok (.invokevirtual 155, 3) := by decide +kernel
theorem dX4_crack_24 : decode cX4_crack 24 = .ok (.ifCond .eq 57, 3) := by decide +kernel
theorem dX4_crack_27 : decode cX4_crack 27 = .ok (.lload_n 3, 1) := by decide +kernel
theorem dX4_crack_28 : decode cX4_crack 28 = .ok (.ldc2_w 195, 3) := by decide +kernel
theorem dX4_crack_31 : decode cX4_crack 31 = .ok (.lmul, 1) := by decide +kernel
theorem dX4_crack_32 : decode cX4_crack 32 = .ok (.ldc2_w 197, 3) := by decide +kernel
theorem dX4_crack_35 : decode cX4_crack 35 = .ok (.lrem, 1) := by decide +kernel
theorem dX4_crack_36 : decode cX4_crack 36 = .ok (.lstore_n 3, 1) := by decide +kernel
theorem dX4_crack_37 : decode cX4_crack 37 = .ok (.lload_n 3, 1) := by decide +kernel
theorem dX4_crack_38 : decode cX4_crack 38 = .ok (.ldc2_w 199, 3) := by decide +kernel
theorem dX4_crack_41 : decode cX4_crack 41 = .ok (.lrem, 1) := by decide +kernel
theorem dX4_crack_42 : decode cX4_crack 42 = .ok (.iload_n 2, 1) := by decide +kernel
theorem dX4_crack_43 : decode cX4_crack 43 = .ok (.i2l, 1) := by decide +kernel
theorem dX4_crack_44 : decode cX4_crack 44 = .ok (.lcmp, 1) := by decide +kernel
theorem dX4_crack_45 : decode cX4_crack 45 = .ok (.ifCond .ge 36, 3) := by decide +kernel
theorem dX4_crack_48 : decode cX4_crack 48 = .ok (.aload_n 0, 1) := by decide +kernel
theorem dX4_crack_49 : decode cX4_crack 49 = .ok (.getfield 11, 3) := by decide +kernel
theorem dX4_crack_52 : decode cX4_crack 52 = .ok (.iload 6, 2) := by decide +kernel
theorem dX4_crack_54 : decode cX4_crack 54 = .ok (.aaload, 1) := by decide +kernel
theorem dX4_crack_55 : decode cX4_crack 55 = .ok (.getfield 106, 3) := by decide +kernel
theorem dX4_crack_58 : decode cX4_crack 58 = .ok (.ifCond .ne 23, 3) := by decide +kernel
theorem dX4_crack_61 : decode cX4_crack 61 = .ok (.aload_n 0, 1) := by decide +kernel
theorem dX4_crack_62 : decode cX4_crack 62 = .ok (.getfield 11, 3) := by decide +kernel
theorem dX4_crack_65 : decode cX4_crack 65 = .ok (.iload 6, 2) := by decide +kernel
theorem dX4_crack_67 : decode cX4_crack 67 = .ok (.aaload, 1) := by decide +kernel
theorem dX4_crack_68 : decode cX4_crack 68 = .ok (.iconst 1, 1) := by decide +kernel
theorem dX4_crack_69 : decode cX4_crack 69 = .ok (.putfield 106, 3) := by decide +kernel
theorem dX4_crack_72 : decode cX4_crack 72 = .ok (.iload 5, 2) := by decide +kernel
theorem dX4_crack_74 : decode cX4_crack 74 = .ok (.iconst 1, 1) := by decide +kernel
theorem dX4_crack_75 : decode cX4_crack 75 = .ok (.iload 6, 2) := by decide +kernel
theorem dX4_crack_77 : decode cX4_crack 77 = .ok (.ishl, 1) := by decide +kernel
theorem dX4_crack_78 : decode cX4_crack 78 = .ok (.ior, 1) := by decide +kernel
theorem dX4_crack_79 : decode cX4_crack 79 = .ok (.istore 5, 2) := by decide +kernel
theorem dX4_crack_81 : decode cX4_crack 81 = .ok (.iinc 6 1, 3) := by decide +kernel
theorem dX4_crack_84 : decode cX4_crack 84 = .ok (.goto (-75), 3) := by decide +kernel
theorem dX4_crack_87 : decode cX4_crack 87 = .ok (.iload 5, 2) := by decide +kernel
theorem dX4_crack_89 : decode cX4_crack 89 = .ok (.ireturn, 1) := by decide +kernel
theorem dX4_allBeneath_0 : decode cX4_allBeneath 0 = .ok (.iconst 0, 1) := by decide +kernel
theorem dX4_allBeneath_1 : decode cX4_allBeneath 1 = .ok (.istore_n 2, 1) := by decide +kernel
theorem dX4_allBeneath_2 : decode cX4_allBeneath 2 = .ok (.iconst 0, 1) := by decide +kernel
theorem dX4_allBeneath_3 : decode cX4_allBeneath 3 = .ok (.istore_n 3, 1) := by decide +kernel
theorem dX4_allBeneath_4 : decode cX4_allBeneath 4 = .ok (.iload_n 3, 1) := by decide +kernel
theorem dX4_allBeneath_5 : decode cX4_allBeneath 5 = .ok (.aload_n 0, 1) := by decide +kernel
theorem dX4_allBeneath_6 : decode cX4_allBeneath 6 = .ok (.getfield 39, 3) := by decide +kernel
theorem dX4_allBeneath_9 : decode cX4_allBeneath 9 = .ok (.if_icmp .ge 45, 3) := by decide +kernel
theorem dX4_allBeneath_12 : decode cX4_allBeneath 12 = .ok (.iload_n 2, 1) := by decide +kernel
theorem dX4_allBeneath_13 : decode cX4_allBeneath 13 = .ok (.aload_n 0, 1) := by decide +kernel
theorem dX4_allBeneath_14 : decode cX4_allBeneath 14 = .ok (.getfield 11, 3) := by decide +kernel
theorem dX4_allBeneath_17 : decode cX4_allBeneath 17 = .ok (.iload_n 3, 1) := by decide +kernel
theorem dX4_allBeneath_18 : decode cX4_allBeneath 18 = .ok (.aaload, 1) := by decide +kernel
theorem dX4_allBeneath_19 : decode cX4_allBeneath 19 = .ok (.getfield 76, 3) := by decide +kernel
theorem dX4_allBeneath_22 : decode cX4_allBeneath 22 = .ok (.aload_n 0, 1) := by decide +kernel
theorem dX4_allBeneath_23 : decode cX4_allBeneath 23 = .ok (.getfield 11, 3) := by decide +kernel
theorem dX4_allBeneath_26 : decode cX4_allBeneath 26 = .ok (.iload_n 1, 1) := by decide +kernel
theorem dX4_allBeneath_27 : decode cX4_allBeneath 27 = .ok (.aaload, 1) := by decide +kernel
theorem dX4_allBeneath_28 : decode cX4_allBeneath 28 = .ok (.getfield 76, 3) := by decide +kernel
theorem dX4_allBeneath_31 : decode cX4_allBeneath 31 = .ok (.if_icmp .ge 14, 3) := by decide +kernel
theorem dX4_allBeneath_34 : decode cX4_allBeneath 34 = .ok (.aload_n 0, 1) := by decide +kernel
theorem dX4_allBeneath_35 : decode cX4_allBeneath 35 = .ok (.getfield 42, 3) := by decide +kernel
theorem dX4_allBeneath_38 : decode cX4_allBeneath 38 = .ok (.iconst 1, 1) := by decide +kernel
theorem dX4_allBeneath_39 : decode cX4_allBeneath 39 = .ok (.iload_n 3, 1) := by decide +kernel
theorem dX4_allBeneath_40 : decode cX4_allBeneath 40 = .ok (.ishl, 1) := by decide +kernel
theorem dX4_allBeneath_41 : decode cX4_allBeneath 41 = .ok (.iand, 1) := by decide +kernel
theorem dX4_allBeneath_42 : decode cX4_allBeneath 42 = .ok (.goto 4, 3) := by decide +kernel
theorem dX4_allBeneath_45 : decode cX4_allBeneath 45 = .ok (.iconst 0, 1) := by decide +kernel
theorem dX4_allBeneath_46 : decode cX4_allBeneath 46 = .ok (.ior, 1) := by decide +kernel
theorem dX4_allBeneath_47 : decode cX4_allBeneath 47 = .ok (.istore_n 2, 1) := by decide +kernel
theorem dX4_allBeneath_48 : decode cX4_allBeneath 48 = .ok (.iinc 3 1, 3) := by decide +kernel
theorem dX4_allBeneath_51 : decode cX4_allBeneath 51 = .ok (.goto (-47), 3) := by decide +kernel
theorem dX4_allBeneath_54 : decode cX4_allBeneath 54 = .ok (.iload_n 2, 1) := by decide +kernel
theorem dX4_allBeneath_55 : decode cX4_allBeneath 55 = .ok (.ireturn, 1) := by decide +kernel
theorem dX4_chances_0 : decode cX4_chances 0 = .ok (.iload_n 3, 1) := by decide +kernel
theorem dX4_chances_1 : decode cX4_chances 1 = .ok (.invokestatic 115, 3) := by decide +kernel
theorem dX4_chances_4 : decode cX4_chances 4 = .ok (.istore 4, 2) := by decide +kernel
theorem dX4_chances_6 : decode cX4_chances 6 = .ok (.iload 4, 2) := by decide +kernel
theorem dX4_chances_8 : decode cX4_chances 8 = .ok (.bipush 9, 2) := by decide +kernel
theorem dX4_chances_10 : decode cX4_chances 10 = .ok (.if_icmp .le 5, 3) := by decide +kernel
theorem dX4_chances_13 : decode cX4_chances 13 = .ok (.lconst 0, 1) := by decide +kernel
theorem dX4_chances_14 : decode cX4_chances 14 = .ok (.lreturn, 1) := by decide +kernel
theorem dX4_chances_15 : decode cX4_chances 15 = .ok (.lconst 0, 1) := by decide +kernel
theorem dX4_chances_16 : decode cX4_chances 16 = .ok (.lstore 5, 2) := by decide +kernel
theorem dX4_chances_18 : decode cX4_chances 18 = .ok (.iconst 0, 1) := by decide +kernel
theorem dX4_chances_19 : decode cX4_chances 19 = .ok (.istore 7, 2) := by decide +kernel
theorem dX4_chances_21 : decode cX4_chances 21 = .ok (.iconst 0, 1) := by decide +kernel
theorem dX4_chances_22 : decode cX4_chances 22 = .ok (.istore 8, 2) := by decide +kernel
theorem dX4_chances_24 : decode cX4_chances 24 = .ok (.iload 8, 2) := by decide +kernel
theorem dX4_chances_26 : decode cX4_chances 26 = .ok (.iconst 1, 1) := by decide +kernel
theorem dX4_chances_27 : decode cX4_chances 27 = .ok (.iload 4, 2) := by decide +kernel
theorem dX4_chances_29 : decode cX4_chances 29 = .ok (.ishl, 1) := by decide +kernel
theorem dX4_chances_30 : decode cX4_chances 30 = .ok (.if_icmp .ge 73, 3) := by decide +kernel
theorem dX4_chances_33 : decode cX4_chances 33 = .ok (.aload_n 0, 1) := by decide +kernel
theorem dX4_chances_34 : decode cX4_chances 34 = .ok (.aload_n 0, 1) := by decide +kernel
theorem dX4_chances_35 : decode cX4_chances 35 = .ok (.getfield 42, 3) := by decide +kernel
theorem dX4_chances_38 : decode cX4_chances 38 = .ok (.iload 7, 2) := by decide +kernel
theorem dX4_chances_40 : decode cX4_chances 40 = .ok (.iconst (-1), 1) := by decide +kernel
theorem dX4_chances_41 : decode cX4_chances 41 = .ok (.ixor, 1) := by decide +kernel
theorem dX4_chances_42 : decode cX4_chances 42 = .ok (.iand, 1) := by decide +kernel
theorem dX4_chances_43 : decode cX4_chances 43 = .ok (.aload_n 0, 1) := by decide +kernel
theorem dX4_chances_44 : decode cX4_chances 44 = .ok (.getfield 45, 3) := by decide +kernel
theorem dX4_chances_47 : decode cX4_chances 47 = .ok (.invokevirtual 103, 3) := by decide +kernel
theorem dX4_chances_50 : decode cX4_chances 50 = .ok (.iload_n 1, 1) := by decide +kernel
theorem dX4_chances_51 : decode cX4_chances 51 = .ok (.ishr, 1) := by decide +kernel
theorem dX4_chances_52 : decode cX4_chances 52 = .ok (.iconst 1, 1) := by decide +kernel
theorem dX4_chances_53 : decode cX4_chances 53 = .ok (.iand, 1) := by decide +kernel
theorem dX4_chances_54 : decode cX4_chances 54 = .ok (.iconst 1, 1) := by decide +kernel
theorem dX4_chances_55 : decode cX4_chances 55 = .ok (.if_icmp .ne 34, 3) := by decide +kernel
theorem dX4_chances_58 : decode cX4_chances 58 = .ok (.iload 7, 2) := by decide +kernel
theorem dX4_chances_60 : decode cX4_chances 60 = .ok (.invokestatic 115, 3) := by decide +kernel
theorem dX4_chances_63 : decode cX4_chances 63 = .ok (.istore 9, 2) := by decide +kernel
theorem dX4_chances_65 : decode cX4_chances 65 = .ok (.lload 5, 2) := by decide +kernel
theorem dX4_chances_67 : decode cX4_chances 67 = .ok (.iload_n 2, 1) := by decide +kernel
theorem dX4_chances_68 : decode cX4_chances 68 = .ok (.iload 9, 2) := by decide +kernel
theorem dX4_chances_70 : decode cX4_chances 70 = .ok (.invokestatic 201, 3) := by decide +kernel
theorem dX4_chances_73 : decode cX4_chances 73 = .ok (.bipush 12, 2) := by decide +kernel
theorem dX4_chances_75 : decode cX4_chances 75 = .ok (.iload_n 2, 1) := by decide +kernel
theorem dX4_chances_76 : decode cX4_chances 76 = .ok (.isub, 1) := by decide +kernel
theorem dX4_chances_77 : decode cX4_chances 77 = .ok (.iload 4, 2) := by decide +kernel
theorem dX4_chances_79 : decode cX4_chances 79 = .ok (.iload 9, 2) := by decide +kernel
theorem dX4_chances_81 : decode cX4_chances 81 = .ok (.isub, 1) := by decide +kernel
theorem dX4_chances_82 : decode cX4_chances 82 = .ok (.invokestatic 201, 3) := by decide +kernel
theorem dX4_chances_85 : decode cX4_chances 85 = .ok (.lmul, 1) := by decide +kernel
theorem dX4_chances_86 : decode cX4_chances 86 = .ok (.ladd, 1) := by decide +kernel
theorem dX4_chances_87 : decode cX4_chances 87 = .ok (.lstore 5, 2) := by decide +kernel
theorem dX4_chances_89 : decode cX4_chances 89 = .ok (.iload 7, 2) := by decide +kernel
theorem dX4_chances_91 : decode cX4_chances 91 = .ok (.iload_n 3, 1) := by decide +kernel
theorem dX4_chances_92 : decode cX4_chances 92 = .ok (.isub, 1) := by decide +kernel
theorem dX4_chances_93 : decode cX4_chances 93 = .ok (.iload_n 3, 1) := by decide +kernel
theorem dX4_chances_94 : decode cX4_chances 94 = .ok (.iand, 1) := by decide +kernel
theorem dX4_chances_95 : decode cX4_chances 95 = .ok (.istore 7, 2) := by decide +kernel
theorem dX4_chances_97 : decode cX4_chances 97 = .ok (.iinc 8 1, 3) := by decide +kernel
theorem dX4_chances_100 : decode cX4_chances 100 = .ok (.goto (-76), 3) := by decide +kernel
theorem dX4_chances_103 : decode cX4_chances 103 = .ok (.lload 5, 2) := by decide +kernel
theorem dX4_chances_105 : decode cX4_chances 105 = .ok (.lreturn, 1) := by decide +kernel
theorem dX4_growVine_0 : decode cX4_growVine 0 = .ok (.iconst 0, 1) := by decide +kernel
theorem dX4_growVine_1 : decode cX4_growVine 1 = .ok (.istore_n 1, 1) := by decide +kernel
theorem dX4_growVine_2 : decode cX4_growVine 2 = .ok (.iload_n 1, 1) := by decide +kernel
theorem dX4_growVine_3 : decode cX4_growVine 3 = .ok (.aload_n 0, 1) := by decide +kernel
theorem dX4_growVine_4 : decode cX4_growVine 4 = .ok (.getfield 39, 3) := by decide +kernel
theorem dX4_growVine_7 : decode cX4_growVine 7 = .ok (.if_icmp .ge 46, 3) := by decide +kernel
theorem dX4_growVine_10 : decode cX4_growVine 10 = .ok (.aload_n 0, 1) := by decide +kernel
theorem dX4_growVine_11 : decode cX4_growVine 11 = .ok (.iload_n 1, 1) := by decide +kernel
theorem dX4_growVine_12 : decode cX4_growVine 12 = .ok (.invokevirtual 155, 3) := by decide +kernel
theorem dX4_growVine_15 : decode cX4_growVine 15 = .ok (.ifCond .eq 32, 3) := by decide +kernel
theorem dX4_growVine_18 : decode cX4_growVine 18 = .ok (.aload_n 0, 1) := by decide +kernel
theorem dX4_growVine_19 : decode cX4_growVine 19 = .ok (.iload_n 1, 1) := by decide +kernel
theorem dX4_growVine_20 : decode cX4_growVine 20 = .ok (.invokevirtual 165, 3) := by decide +kernel
theorem dX4_growVine_23 : decode cX4_growVine 23 = .ok (.ifCond .ne 24, 3) := by decide +kernel
theorem dX4_growVine_26 : decode cX4_growVine 26 = .ok (.aload_n 0, 1) := by decide +kernel
theorem dX4_growVine_27 : decode cX4_growVine 27 = .ok (.iload_n 1, 1) := by decide +kernel
theorem dX4_growVine_28 : decode cX4_growVine 28 = .ok (.invokevirtual 205, 3) := by decide +kernel
theorem dX4_growVine_31 : decode cX4_growVine 31 = .ok (.ifCond .eq 16, 3) := by decide +kernel
theorem dX4_growVine_34 : decode cX4_growVine 34 = .ok (.aload_n 0, 1) := by decide +kernel
theorem dX4_growVine_35 : decode cX4_growVine 35 = .ok (.dup, 1) := by decide +kernel
theorem dX4_growVine_36 : decode cX4_growVine 36 = .ok (.getfield 48, 3) := by decide +kernel
theorem dX4_growVine_39 : decode cX4_growVine 39 = .ok (.iconst 1, 1) := by decide +kernel
theorem dX4_growVine_40 : decode cX4_growVine 40 = .ok (.iload_n 1, 1) := by decide +kernel
theorem dX4_growVine_41 : decode cX4_growVine 41 = .ok (.ishl, 1) := by decide +kernel
theorem dX4_growVine_42 : decode cX4_growVine 42 = .ok (.ior, 1) := by decide +kernel
theorem dX4_growVine_43 : decode cX4_growVine 43 = .ok (.putfield 48, 3) := by decide +kernel
theorem dX4_growVine_46 : decode cX4_growVine 46 = .ok (.return_, 1) := by decide +kernel
theorem dX4_growVine_47 : decode cX4_growVine 47 = .ok (.iinc 1 1, 3) := by decide +kernel
theorem dX4_growVine_50 : decode cX4_growVine 50 = .ok (.goto (-48), 3) := by decide +kernel
theorem dX4_growVine_53 : decode cX4_growVine 53 = .ok (.return_, 1) := by decide +kernel
theorem dX4_touchesVine_0 : decode cX4_touchesVine 0 = .ok (.iconst 0, 1) := by decide +kernel
theorem dX4_touchesVine_1 : decode cX4_touchesVine 1 = .ok (.istore_n 2, 1) := by decide +kernel
theorem dX4_touchesVine_2 : decode cX4_touchesVine 2 = .ok (.iload_n 2, 1) := by decide +kernel
theorem dX4_touchesVine_3 : decode cX4_touchesVine 3 = .ok (.aload_n 0, 1) := by decide +kernel
theorem dX4_touchesVine_4 : decode cX4_touchesVine 4 = .ok (.getfield 39, 3) := by decide +kernel
theorem dX4_touchesVine_7 : decode cX4_touchesVine 7 = .ok (.if_icmp .ge 37, 3) := by decide +kernel
theorem dX4_touchesVine_10 : decode cX4_touchesVine 10 = .ok (.aload_n 0, 1) := by decide +kernel
theorem dX4_touchesVine_11 : decode cX4_touchesVine 11 = .ok (.iload_n 2, 1) := by decide +kernel
theorem dX4_touchesVine_12 : decode cX4_touchesVine 12 = .ok (.invokevirtual 165, 3) := by decide +kernel
theorem dX4_touchesVine_15 : decode cX4_touchesVine 15 = .ok (.ifCond .eq 23, 3) := by decide +kernel
theorem dX4_touchesVine_18 : decode cX4_touchesVine 18 = .ok (.aload_n 0, 1) := by decide +kernel
theorem dX4_touchesVine_19 : decode cX4_touchesVine 19 = .ok (.getfield 11, 3) := by decide +kernel
theorem dX4_touchesVine_22 : decode cX4_touchesVine 22 = .ok (.iload_n 1, 1) := by decide +kernel
theorem dX4_touchesVine_23 : decode cX4_touchesVine 23 = .ok (.aaload, 1) := by decide +kernel
theorem dX4_touchesVine_24 : decode cX4_touchesVine 24 = .ok (.aload_n 0, 1) := by decide +kernel
theorem dX4_touchesVine_25 : decode cX4_touchesVine 25 = .ok (.getfield 11, 3) := by decide +kernel
theorem dX4_touchesVine_28 : decode cX4_touchesVine 28 = .ok (.iload_n 2, 1) := by decide +kernel
theorem dX4_touchesVine_29 : decode cX4_touchesVine 29 = .ok (.aaload, 1) := by decide +kernel
theorem dX4_touchesVine_30 : decode cX4_touchesVine 30 = .ok (.invokevirtual 208, 3) := by decide +kernel
theorem dX4_touchesVine_33 : decode cX4_touchesVine 33 = .ok (.ifCond .eq 5, 3) := by decide +kernel
theorem dX4_touchesVine_36 : decode cX4_touchesVine 36 = .ok (.iconst 1, 1) := by decide +kernel
theorem dX4_touchesVine_37 : decode cX4_touchesVine 37 = .ok (.ireturn, 1) := by decide +kernel
theorem dX4_touchesVine_38 : decode cX4_touchesVine 38 = .ok (.iinc 2 1, 3) := by decide +kernel
theorem dX4_touchesVine_41 : decode cX4_touchesVine 41 = .ok (.goto (-39), 3) := by decide +kernel
theorem dX4_touchesVine_44 : decode cX4_touchesVine 44 = .ok (.iconst 0, 1) := by decide +kernel
theorem dX4_touchesVine_45 : decode cX4_touchesVine 45 = .ok (.ireturn, 1) := by decide +kernel
theorem dX5_init_0 : decode cX5_init 0 = .ok (.aload_n 0, 1) := by decide +kernel
theorem dX5_init_1 : decode cX5_init 1 = .ok (.invokespecial 1, 3) := by decide +kernel
theorem dX5_init_4 : decode cX5_init 4 = .ok (.aload_n 0, 1) := by decide +kernel
theorem dX5_init_5 : decode cX5_init 5 = .ok (.new 7, 3) := by decide +kernel
theorem dX5_init_8 : decode cX5_init 8 = .ok (.dup, 1) := by decide +kernel
theorem dX5_init_9 : decode cX5_init 9 = .ok (.invokespecial 9, 3) := by decide +kernel
theorem dX5_init_12 : decode cX5_init 12 = .ok (.putfield 10, 3) := by decide +kernel
theorem dX5_init_15 : decode cX5_init 15 = .ok (.aload_n 0, 1) := by decide +kernel
theorem dX5_init_16 : decode cX5_init 16 = .ok (.new 16, 3) := by decide +kernel
theorem dX5_init_19 : decode cX5_init 19 = .ok (.dup, 1) := by decide +kernel
theorem dX5_init_20 : decode cX5_init 20 = .ok (.invokespecial 18, 3) := by decide +kernel
theorem dX5_init_23 : decode cX5_init 23 = .ok (.putfield 19, 3) := by decide +kernel
theorem dX5_init_26 : decode cX5_init 26 = .ok (.aload_n 0, 1) := by decide +kernel
theorem dX5_init_27 : decode cX5_init 27 = .ok (.new 23, 3) := by decide +kernel
theorem dX5_init_30 : decode cX5_init 30 = .ok (.dup, 1) := by decide +kernel
theorem dX5_init_31 : decode cX5_init 31 = .ok (.invokespecial 25, 3) := by decide +kernel
theorem dX5_init_34 : decode cX5_init 34 = .ok (.putfield 26, 3) := by decide +kernel
theorem dX5_init_37 : decode cX5_init 37 = .ok (.aload_n 0, 1) := by decide +kernel
theorem dX5_init_38 : decode cX5_init 38 = .ok (.new 30, 3) := by decide +kernel
theorem dX5_init_41 : decode cX5_init 41 = .ok (.dup, 1) := by decide +kernel
theorem dX5_init_42 : decode cX5_init 42 = .ok (.invokespecial 32, 3) := by decide +kernel
theorem dX5_init_45 : decode cX5_init 45 = .ok (.putfield 33, 3) := by decide +kernel
theorem dX5_init_48 : decode cX5_init 48 = .ok (.aload_n 0, 1) := by decide +kernel
theorem dX5_init_49 : decode cX5_init 49 = .ok (.iconst 3, 1) := by decide +kernel
theorem dX5_init_50 : decode cX5_init 50 = .ok (.anewarray 30, 3) := by decide +kernel
theorem dX5_init_53 : decode cX5_init 53 = .ok (.putfield 37, 3) := by decide +kernel
theorem dX5_init_56 : decode cX5_init 56 = .ok (.iconst 0, 1) := by decide +kernel
theorem dX5_init_57 : decode cX5_init 57 = .ok (.istore_n 1, 1) := by decide +kernel
theorem dX5_init_58 : decode cX5_init 58 = .ok (.iload_n 1, 1) := by decide +kernel
theorem dX5_init_59 : decode cX5_init 59 = .ok (.iconst 3, 1) := by decide +kernel
theorem dX5_init_60 : decode cX5_init 60 = .ok (.if_icmp .ge 22, 3) := by decide +kernel
theorem dX5_init_63 : decode cX5_init 63 = .ok (.aload_n 0, 1) := by decide +kernel
theorem dX5_init_64 : decode cX5_init 64 = .ok (.getfield 37, 3) := by decide +kernel
theorem dX5_init_67 : decode cX5_init 67 = .ok (.iload_n 1, 1) := by decide +kernel
theorem dX5_init_68 : decode cX5_init 68 = .ok (.new 30, 3) := by decide +kernel
theorem dX5_init_71 : decode cX5_init 71 = .ok (.dup, 1) := by decide +kernel
theorem dX5_init_72 : decode cX5_init 72 = .ok (.invokespecial 32, 3) := by decide +kernel
theorem dX5_init_75 : decode cX5_init 75 = .ok (.aastore, 1) := by decide +kernel
theorem dX5_init_76 : decode cX5_init 76 = .ok (.iinc 1 1, 3) := by decide +kernel
theorem dX5_init_79 : decode cX5_init 79 = .ok (.goto (-21), 3) := by decide +kernel
theorem dX5_init_82 : decode cX5_init 82 = .ok (.aload_n 0, 1) := by decide +kernel
theorem dX5_init_83 : decode cX5_init 83 = .ok (.bipush 6, 2) := by decide +kernel
theorem dX5_init_85 : decode cX5_init 85 = .ok (.newarray .int, 2) := by decide +kernel
theorem dX5_init_87 : decode cX5_init 87 = .ok (.putfield 41, 3) := by decide +kernel
theorem dX5_init_90 : decode cX5_init 90 = .ok (.aload_n 0, 1) := by decide +kernel
theorem dX5_init_91 : decode cX5_init 91 = .ok (.lconst 1, 1) := by decide +kernel
theorem dX5_init_92 : decode cX5_init 92 = .ok (.putfield 45, 3) := by decide +kernel
theorem dX5_init_95 : decode cX5_init 95 = .ok (.return_, 1) := by decide +kernel
theorem dX5_row_0 : decode cX5_row 0 = .ok (.iload_n 1, 1) := by decide +kernel
theorem dX5_row_1 : decode cX5_row 1 = .ok (.invokestatic 49, 3) := by decide +kernel
theorem dX5_row_4 : decode cX5_row 4 = .ok (.ifCond .eq 9, 3) := by decide +kernel
theorem dX5_row_7 : decode cX5_row 7 = .ok (.iload_n 2, 1) := by decide +kernel
theorem dX5_row_8 : decode cX5_row 8 = .ok (.bipush 40, 2) := by decide +kernel
theorem dX5_row_10 : decode cX5_row 10 = .ok (.if_icmp .le 5, 3) := by decide +kernel
theorem dX5_row_13 : decode cX5_row 13 = .ok (.iconst (-1), 1) := by decide +kernel
theorem dX5_row_14 : decode cX5_row 14 = .ok (.ireturn, 1) := by decide +kernel
theorem dX5_row_15 : decode cX5_row 15 = .ok (.iload_n 2, 1) := by decide +kernel
theorem dX5_row_16 : decode cX5_row 16 = .ok (.ifCond .ge 9, 3) := by decide +kernel
theorem dX5_row_19 : decode cX5_row 19 = .ok (.aload_n 0, 1) := by decide +kernel
theorem dX5_row_20 : decode cX5_row 20 = .ok (.iconst 5, 1) := by decide +kernel
theorem dX5_row_21 : decode cX5_row 21 = .ok (.invokevirtual 53, 3) := by decide +kernel
theorem dX5_row_24 : decode cX5_row 24 = .ok (.ireturn, 1) := by decide +kernel
theorem dX5_row_25 : decode cX5_row 25 = .ok (.aload_n 0, 1) := by decide +kernel
theorem dX5_row_26 : decode cX5_row 26 = .ok (.getfield 10, 3) := by decide +kernel
theorem dX5_row_29 : decode cX5_row 29 = .ok (.iload_n 1, 1) := by decide +kernel
theorem dX5_row_30 : decode cX5_row 30 = .ok (.iload_n 2, 1) := by decide +kernel
theorem dX5_row_31 : decode cX5_row 31 = .ok (.invokevirtual 57, 3) := by decide +kernel
theorem dX5_row_34 : decode cX5_row 34 = .ok (.iload_n 2, 1) := by decide +kernel
theorem dX5_row_35 : decode cX5_row 35 = .ok (.ireturn, 1) := by decide +kernel
theorem dX5_lay_0 : decode cX5_lay 0 = .ok (.iload_n 1, 1) := by decide +kernel
theorem dX5_lay_1 : decode cX5_lay 1 = .ok (.invokestatic 49, 3) := by decide +kernel
theorem dX5_lay_4 : decode cX5_lay 4 = .ok (.ifCond .ne 5, 3) := by decide +kernel
theorem dX5_lay_7 : decode cX5_lay 7 = .ok (.iconst (-1), 1) := by decide +kernel
theorem dX5_lay_8 : decode cX5_lay 8 = .ok (.ireturn, 1) := by decide +kernel
theorem dX5_lay_9 : decode cX5_lay 9 = .ok (.aload_n 0, 1) := by decide +kernel
theorem dX5_lay_10 : decode cX5_lay 10 = .ok (.getfield 10, 3) := by decide +kernel
theorem dX5_lay_13 : decode cX5_lay 13 = .ok (.getfield 61, 3) := by decide +kernel
theorem dX5_lay_16 : decode cX5_lay 16 = .ok (.iload_n 1, 1) := by decide +kernel
theorem dX5_lay_17 : decode cX5_lay 17 = .ok (.iaload, 1) := by decide +kernel
theorem dX5_lay_18 : decode cX5_lay 18 = .ok (.ifCond .ge 9, 3) := by decide +kernel
theorem dX5_lay_21 : decode cX5_lay 21 = .ok (.aload_n 0, 1) := by decide +kernel
theorem dX5_lay_22 : decode cX5_lay 22 = .ok (.iconst 1, 1) := by decide +kernel
theorem dX5_lay_23 : decode cX5_lay 23 = .ok (.invokevirtual 53, 3) := by decide +kernel
theorem dX5_lay_26 : decode cX5_lay 26 = .ok (.ireturn, 1) := by decide +kernel
theorem dX5_lay_27 : decode cX5_lay 27 = .ok (.iload_n 2, 1) := by decide +kernel
theorem dX5_lay_28 : decode cX5_lay 28 = .ok (.ifCond .lt 16, 3) := by decide +kernel
theorem dX5_lay_31 : decode cX5_lay 31 = .ok (.iload_n 2, 1) := by decide +kernel
theorem dX5_lay_32 : decode cX5_lay 32 = .ok (.aload_n 0, 1) := by decide +kernel
theorem dX5_lay_33 : decode cX5_lay 33 = .ok (.getfield 10, 3) := by decide +kernel
theorem dX5_lay_36 : decode cX5_lay 36 = .ok (.getfield 61, 3) := by decide +kernel
theorem dX5_lay_39 : decode cX5_lay 39 = .ok (.iload_n 1, 1) := by decide +kernel
theorem dX5_lay_40 : decode cX5_lay 40 = .ok (.iaload, 1) := by decide +kernel
theorem dX5_lay_41 : decode cX5_lay 41 = .ok (.if_icmp .lt 9, 3) := by decide +kernel
theorem dX5_lay_44 : decode cX5_lay 44 = .ok (.aload_n 0, 1) := by decide +kernel
theorem dX5_lay_45 : decode cX5_lay 45 = .ok (.iconst 2, 1) := by decide +kernel
theorem dX5_lay_46 : decode cX5_lay 46 = .ok (.invokevirtual 53, 3) := by decide +kernel
theorem dX5_lay_49 : decode cX5_lay 49 = .ok (.ireturn, 1) := by decide +kernel
theorem dX5_lay_50 : decode cX5_lay 50 = .ok (.aload_n 0, 1) := by decide +kernel
theorem dX5_lay_51 : decode cX5_lay 51 = .ok (.aload_n 0, 1) := by decide +kernel
theorem dX5_lay_52 : decode cX5_lay 52 = .ok (.getfield 10, 3) := by decide +kernel
theorem dX5_lay_55 : decode cX5_lay 55 = .ok (.getfield 64, 3) := by decide +kernel
theorem dX5_lay_58 : decode cX5_lay 58 = .ok (.iload_n 1, 1) := by decide +kernel
theorem dX5_lay_59 : decode cX5_lay 59 = .ok (.aaload, 1) := by decide +kernel
theorem dX5_lay_60 : decode cX5_lay 60 = .ok (.iload_n 2, 1) := by decide +kernel
theorem dX5_lay_61 : decode cX5_lay 61 = .ok (.iaload, 1) := by decide +kernel
theorem dX5_lay_62 : decode cX5_lay 62 = .ok (.putfield 68, 3) := by decide +kernel
theorem dX5_lay_65 : decode cX5_lay 65 = .ok (.aload_n 0, 1) := by decide +kernel
theorem dX5_lay_66 : decode cX5_lay 66 = .ok (.getfield 10, 3) := by decide +kernel
theorem dX5_lay_69 : decode cX5_lay 69 = .ok (.getfield 64, 3) := by decide +kernel
theorem dX5_lay_72 : decode cX5_lay 72 = .ok (.iload_n 1, 1) := by decide +kernel
theorem dX5_lay_73 : decode cX5_lay 73 = .ok (.aaload, 1) := by decide +kernel
theorem dX5_lay_74 : decode cX5_lay 74 = .ok (.iload_n 2, 1) := by decide +kernel
theorem dX5_lay_75 : decode cX5_lay 75 = .ok (.iload_n 3, 1) := by decide +kernel
theorem dX5_lay_76 : decode cX5_lay 76 = .ok (.iastore, 1) := by decide +kernel
theorem dX5_lay_77 : decode cX5_lay 77 = .ok (.iconst 1, 1) := by decide +kernel
theorem dX5_lay_78 : decode cX5_lay 78 = .ok (.ireturn, 1) := by decide +kernel
theorem dX5_at_0 : decode cX5_at 0 = .ok (.iload_n 1, 1) := by decide +kernel
theorem dX5_at_1 : decode cX5_at 1 = .ok (.invokestatic 49, 3) := by decide +kernel
theorem dX5_at_4 : decode cX5_at 4 = .ok (.ifCond .ne 5, 3) := by decide +kernel
theorem dX5_at_7 : decode cX5_at 7 = .ok (.iconst (-1), 1) := by decide +kernel
theorem dX5_at_8 : decode cX5_at 8 = .ok (.ireturn, 1) := by decide +kernel
theorem dX5_at_9 : decode cX5_at 9 = .ok (.aload_n 0, 1) := by decide +kernel
theorem dX5_at_10 : decode cX5_at 10 = .ok (.getfield 10, 3) := by decide +kernel
theorem dX5_at_13 : decode cX5_at 13 = .ok (.getfield 61, 3) := by decide +kernel
theorem dX5_at_16 : decode cX5_at 16 = .ok (.iload_n 1, 1) := by decide +kernel
theorem dX5_at_17 : decode cX5_at 17 = .ok (.iaload, 1) := by decide +kernel
theorem dX5_at_18 : decode cX5_at 18 = .ok (.ifCond .ge 9, 3) := by decide +kernel
theorem dX5_at_21 : decode cX5_at 21 = .ok (.aload_n 0, 1) := by decide +kernel
theorem dX5_at_22 : decode cX5_at 22 = .ok (.iconst 1, 1) := by decide +kernel
theorem dX5_at_23 : decode cX5_at 23 = .ok (.invokevirtual 53, 3) := by decide +kernel
theorem dX5_at_26 : decode cX5_at 26 = .ok (.ireturn, 1) := by decide +kernel
theorem dX5_at_27 : decode cX5_at 27 = .ok (.iload_n 2, 1) := by decide +kernel
theorem dX5_at_28 : decode cX5_at 28 = .ok (.ifCond .lt 16, 3) := by decide +kernel
theorem dX5_at_31 : decode cX5_at 31 = .ok (.iload_n 2, 1) := by decide +kernel
theorem dX5_at_32 : decode cX5_at 32 = .ok (.aload_n 0, 1) := by decide +kernel
theorem dX5_at_33 : decode cX5_at 33 = .ok (.getfield 10, 3) := by decide +kernel
theorem dX5_at_36 : decode cX5_at 36 = .ok (.getfield 61, 3) := by decide +kernel
theorem dX5_at_39 : decode cX5_at 39 = .ok (.iload_n 1, 1) := by decide +kernel
theorem dX5_at_40 : decode cX5_at 40 = .ok (.iaload, 1) := by decide +kernel
theorem dX5_at_41 : decode cX5_at 41 = .ok (.if_icmp .lt 9, 3) := by decide +kernel
theorem dX5_at_44 : decode cX5_at 44 = .ok (.aload_n 0, 1) := by decide +kernel
theorem dX5_at_45 : decode cX5_at 45 = .ok (.iconst 2, 1) := by decide +kernel
theorem dX5_at_46 : decode cX5_at 46 = .ok (.invokevirtual 53, 3) := by decide +kernel
theorem dX5_at_49 : decode cX5_at 49 = .ok (.ireturn, 1) := by decide +kernel
theorem dX5_at_50 : decode cX5_at 50 = .ok (.aload_n 0, 1) := by decide +kernel
theorem dX5_at_51 : decode cX5_at 51 = .ok (.aload_n 0, 1) := by decide +kernel
theorem dX5_at_52 : decode cX5_at 52 = .ok (.getfield 10, 3) := by decide +kernel
theorem dX5_at_55 : decode cX5_at 55 = .ok (.getfield 64, 3) := by decide +kernel
theorem dX5_at_58 : decode cX5_at 58 = .ok (.iload_n 1, 1) := by decide +kernel
theorem dX5_at_59 : decode cX5_at 59 = .ok (.aaload, 1) := by decide +kernel
theorem dX5_at_60 : decode cX5_at 60 = .ok (.iload_n 2, 1) := by decide +kernel
theorem dX5_at_61 : decode cX5_at 61 = .ok (.iaload, 1) := by decide +kernel
theorem dX5_at_62 : decode cX5_at 62 = .ok (.putfield 68, 3) := by decide +kernel
theorem dX5_at_65 : decode cX5_at 65 = .ok (.iconst 1, 1) := by decide +kernel
theorem dX5_at_66 : decode cX5_at 66 = .ok (.ireturn, 1) := by decide +kernel
theorem dX5_tear_0 : decode cX5_tear 0 = .ok (.iload_n 1, 1) := by decide +kernel
theorem dX5_tear_1 : decode cX5_tear 1 = .ok (.invokestatic 49, 3) := by decide +kernel
theorem dX5_tear_4 : decode cX5_tear 4 = .ok (.ifCond .ne 5, 3) := by decide +kernel
theorem dX5_tear_7 : decode cX5_tear 7 = .ok (.iconst (-1), 1) := by decide +kernel
theorem dX5_tear_8 : decode cX5_tear 8 = .ok (.ireturn, 1) := by decide +kernel
theorem dX5_tear_9 : decode cX5_tear 9 = .ok (.aload_n 0, 1) := by decide +kernel
theorem dX5_tear_10 : decode cX5_tear 10 = .ok (.getfield 10, 3) := by decide +kernel
theorem dX5_tear_13 : decode cX5_tear 13 = .ok (.getfield 61, 3) := by decide +kernel
theorem dX5_tear_16 : decode cX5_tear 16 = .ok (.iload_n 1, 1) := by decide +kernel
theorem dX5_tear_17 : decode cX5_tear 17 = .ok (.iaload, 1) := by decide +kernel
theorem dX5_tear_18 : decode cX5_tear 18 = .ok (.ifCond .ge 9, 3) := by decide +kernel
theorem dX5_tear_21 : decode cX5_tear 21 = .ok (.aload_n 0, 1) := by decide +kernel
theorem dX5_tear_22 : decode cX5_tear 22 = .ok (.iconst 1, 1) := by decide +kernel
theorem dX5_tear_23 : decode cX5_tear 23 = .ok (.invokevirtual 53, 3) := by decide +kernel
theorem dX5_tear_26 : decode cX5_tear 26 = .ok (.ireturn, 1) := by decide +kernel
theorem dX5_tear_27 : decode cX5_tear 27 = .ok (.aload_n 0, 1) := by decide +kernel
theorem dX5_tear_28 : decode cX5_tear 28 = .ok (.getfield 10, 3) := by decide +kernel
theorem dX5_tear_31 : decode cX5_tear 31 = .ok (.getfield 61, 3) := by decide +kernel
theorem dX5_tear_34 : decode cX5_tear 34 = .ok (.iload_n 1, 1) := by decide +kernel
theorem dX5_tear_35 : decode cX5_tear 35 = .ok (.iconst (-1), 1) := by decide +kernel
theorem dX5_tear_36 : decode cX5_tear 36 = .ok (.iastore, 1) := by decide +kernel
theorem dX5_tear_37 : decode cX5_tear 37 = .ok (.iconst 1, 1) := by decide +kernel
theorem dX5_tear_38 : decode cX5_tear 38 = .ok (.ireturn, 1) := by decide +kernel
theorem dX5_copy_0 : decode cX5_copy 0 = .ok (.iload_n 1, 1) := by decide +kernel
theorem dX5_copy_1 : decode cX5_copy 1 = .ok (.invokestatic 49, 3) := by decide +kernel
theorem dX5_copy_4 : decode cX5_copy 4 = .ok (.ifCond .eq 10, 3) := by decide +kernel
theorem dX5_copy_7 : decode cX5_copy 7 = .ok (.iload_n 3, 1) := by decide +kernel
theorem dX5_copy_8 : decode cX5_copy 8 = .ok (.invokestatic 49, 3) := by decide +kernel
theorem dX5_copy_11 : decode cX5_copy 11 = .ok (.ifCond .ne 5, 3) := by decide +kernel
theorem dX5_copy_14 : decode cX5_copy 14 = .ok (.iconst (-1), 1) := by decide +kernel
theorem dX5_copy_15 : decode cX5_copy 15 = .ok (.ireturn, 1) := by decide +kernel
theorem dX5_copy_16 : decode cX5_copy 16 = .ok (.iload 5, 2) := by decide +kernel
theorem dX5_copy_18 : decode cX5_copy 18 = .ok (.ifCond .ge 9, 3) := by decide +kernel
theorem dX5_copy_21 : decode cX5_copy 21 = .ok (.aload_n 0, 1) := by decide +kernel
theorem dX5_copy_22 : decode cX5_copy 22 = .ok (.iconst 5, 1) := by decide +kernel
theorem dX5_copy_23 : decode cX5_copy 23 = .ok (.invokevirtual 53, 3) := by decide +kernel
theorem dX5_copy_26 : decode cX5_copy 26 = .ok (.ireturn, 1) := by decide +kernel
theorem dX5_copy_27 : decode cX5_copy 27 = .ok (.aload_n 0, 1) := by decide +kernel
theorem dX5_copy_28 : decode cX5_copy 28 = .ok (.getfield 10, 3) := by decide +kernel
theorem dX5_copy_31 : decode cX5_copy 31 = .ok (.getfield 61, 3) := by decide +kernel
theorem dX5_copy_34 : decode cX5_copy 34 = .ok (.iload_n 1, 1) := by decide +kernel
theorem dX5_copy_35 : decode cX5_copy 35 = .ok (.iaload, 1) := by decide +kernel
theorem dX5_copy_36 : decode cX5_copy 36 = .ok (.ifCond .lt 15, 3) := by decide +kernel
theorem dX5_copy_39 : decode cX5_copy 39 = .ok (.aload_n 0, 1) := by decide +kernel
theorem dX5_copy_40 : decode cX5_copy 40 = .ok (.getfield 10, 3) := by decide +kernel
theorem dX5_copy_43 : decode cX5_copy 43 = .ok (.getfield 61, 3) := by decide +kernel
theorem dX5_copy_46 : decode cX5_copy 46 = .ok (.iload_n 3, 1) := by decide +kernel
theorem dX5_copy_47 : decode cX5_copy 47 = .ok (.iaload, 1) := by decide +kernel
theorem dX5_copy_48 : decode cX5_copy 48 = .ok (.ifCond .ge 9, 3) := by decide +kernel
theorem dX5_copy_51 : decode cX5_copy 51 = .ok (.aload_n 0, 1) := by decide +kernel
theorem dX5_copy_52 : decode cX5_copy 52 = .ok (.iconst 1, 1) := by decide +kernel
theorem dX5_copy_53 : decode cX5_copy 53 = .ok (.invokevirtual 53, 3) := by decide +kernel
theorem dX5_copy_56 : decode cX5_copy 56 = .ok (.ireturn, 1) := by decide +kernel
theorem dX5_copy_57 : decode cX5_copy 57 = .ok (.aload_n 0, 1) := by decide +kernel
theorem dX5_copy_58 : decode cX5_copy 58 = .ok (.getfield 10, 3) := by decide +kernel
theorem dX5_copy_61 : decode cX5_copy 61 = .ok (.iload_n 1, 1) := by decide +kernel
theorem dX5_copy_62 : decode cX5_copy 62 = .ok (.iload_n 2, 1) := by decide +kernel
theorem dX5_copy_63 : decode cX5_copy 63 = .ok (.iload 5, 2) := by decide +kernel
theorem dX5_copy_65 : decode cX5_copy 65 = .ok (.invokevirtual 72, 3) := by decide +kernel
theorem dX5_copy_68 : decode cX5_copy 68 = .ok (.ifCond .eq 18, 3) := by decide +kernel
theorem dX5_copy_71 : decode cX5_copy 71 = .ok (.aload_n 0, 1) := by decide +kernel
theorem dX5_copy_72 : decode cX5_copy 72 = .ok (.getfield 10, 3) := by decide +kernel
theorem dX5_copy_75 : decode cX5_copy 75 = .ok (.iload_n 3, 1) := by decide +kernel
theorem dX5_copy_76 : decode cX5_copy 76 = .ok (.iload 4, 2) := by decide +kernel
theorem dX5_copy_78 : decode cX5_copy 78 = .ok (.iload 5, 2) := by decide +kernel
theorem dX5_copy_80 : decode cX5_copy 80 = .ok (.invokevirtual 72, 3) := by decide +kernel
theorem dX5_copy_83 : decode cX5_copy 83 = .ok (.ifCond .ne 9, 3) := by decide +kernel
theorem dX5_copy_86 : decode cX5_copy 86 = .ok (.aload_n 0, 1) := by decide +kernel
theorem dX5_copy_87 : decode cX5_copy 87 = .ok (.iconst 2, 1) := by decide +kernel
theorem dX5_copy_88 : decode cX5_copy 88 = .ok (.invokevirtual 53, 3) := by decide +kernel
theorem dX5_copy_91 : decode cX5_copy 91 = .ok (.ireturn, 1) := by decide +kernel
theorem dX5_copy_92 : decode cX5_copy 92 = .ok (.aload_n 0, 1) := by decide +kernel
theorem dX5_copy_93 : decode cX5_copy 93 = .ok (.getfield 10, 3) := by decide +kernel
theorem dX5_copy_96 : decode cX5_copy 96 = .ok (.getfield 64, 3) := by decide +kernel
theorem dX5_copy_99 : decode cX5_copy 99 = .ok (.iload_n 1, 1) := by decide +kernel
theorem dX5_copy_100 : decode cX5_copy 100 = .ok (.aaload, 1) := by decide +kernel
theorem dX5_copy_101 : decode cX5_copy 101 = .ok (.iload_n 2, 1) := by decide +kernel
theorem dX5_copy_102 : decode cX5_copy 102 = .ok (.aload_n 0, 1) := by decide +kernel
theorem dX5_copy_103 : decode cX5_copy 103 = .ok (.getfield 10, 3) := by decide +kernel
theorem dX5_copy_106 : decode cX5_copy 106 = .ok (.getfield 64, 3) := by decide +kernel
theorem dX5_copy_109 : decode cX5_copy 109 = .ok (.iload_n 3, 1) := by decide +kernel
theorem dX5_copy_110 : decode cX5_copy 110 = .ok (.aaload, 1) := by decide +kernel
theorem dX5_copy_111 : decode cX5_copy 111 = .ok (.iload 4, 2) := by decide +kernel
theorem dX5_copy_113 : decode cX5_copy 113 = .ok (.iload 5, 2) := by decide +kernel
theorem dX5_copy_115 : decode cX5_copy 115 = .ok (.invokestatic 76, 3) := by decide +kernel
theorem dX5_copy_118 : decode cX5_copy 118 = .ok (.iconst 1, 1) := by decide +kernel
theorem dX5_copy_119 : decode cX5_copy 119 = .ok (.ireturn, 1) := by decide +kernel
theorem dX5_mean_0 : decode cX5_mean 0 = .ok (.iload_n 1, 1) := by decide +kernel
theorem dX5_mean_1 : decode cX5_mean 1 = .ok (.invokestatic 49, 3) := by decide +kernel
theorem dX5_mean_4 : decode cX5_mean 4 = .ok (.ifCond .ne 5, 3) := by decide +kernel
theorem dX5_mean_7 : decode cX5_mean 7 = .ok (.iconst (-1), 1) := by decide +kernel
theorem dX5_mean_8 : decode cX5_mean 8 = .ok (.ireturn, 1) := by decide +kernel
theorem dX5_mean_9 : decode cX5_mean 9 = .ok (.aload_n 0, 1) := by decide +kernel
theorem dX5_mean_10 : decode cX5_mean 10 = .ok (.getfield 10, 3) := by decide +kernel
theorem dX5_mean_13 : decode cX5_mean 13 = .ok (.getfield 61, 3) := by decide +kernel
theorem dX5_mean_16 : decode cX5_mean 16 = .ok (.iload_n 1, 1) := by decide +kernel
theorem dX5_mean_17 : decode cX5_mean 17 = .ok (.iaload, 1) := by decide +kernel
theorem dX5_mean_18 : decode cX5_mean 18 = .ok (.istore_n 2, 1) := by decide +kernel
theorem dX5_mean_19 : decode cX5_mean 19 = .ok (.iload_n 2, 1) := by decide +kernel
theorem dX5_mean_20 : decode cX5_mean 20 = .ok (.ifCond .ge 9, 3) := by decide +kernel
theorem dX5_mean_23 : decode cX5_mean 23 = .ok (.aload_n 0, 1) := by decide +kernel
theorem dX5_mean_24 : decode cX5_mean 24 = .ok (.iconst 1, 1) := by decide +kernel
theorem dX5_mean_25 : decode cX5_mean 25 = .ok (.invokevirtual 53, 3) := by decide +kernel
theorem dX5_mean_28 : decode cX5_mean 28 = .ok (.ireturn, 1) := by decide +kernel
theorem dX5_mean_29 : decode cX5_mean 29 = .ok (.iload_n 2, 1) := by decide +kernel
theorem dX5_mean_30 : decode cX5_mean 30 = .ok (.ifCond .ne 9, 3) := by decide +kernel
theorem dX5_mean_33 : decode cX5_mean 33 = .ok (.aload_n 0, 1) := by decide +kernel
theorem dX5_mean_34 : decode cX5_mean 34 = .ok (.iconst 4, 1) := by decide +kernel
theorem dX5_mean_35 : decode cX5_mean 35 = .ok (.invokevirtual 53, 3) := by decide +kernel
theorem dX5_mean_38 : decode cX5_mean 38 = .ok (.ireturn, 1) := by decide +kernel
theorem dX5_mean_39 : decode cX5_mean 39 = .ok (.aload_n 0, 1) := by decide +kernel
theorem dX5_mean_40 : decode cX5_mean 40 = .ok (.aload_n 0, 1) := by decide +kernel
theorem dX5_mean_41 : decode cX5_mean 41 = .ok (.getfield 10, 3) := by decide +kernel
theorem dX5_mean_44 : decode cX5_mean 44 = .ok (.iload_n 1, 1) := by decide +kernel
theorem dX5_mean_45 : decode cX5_mean 45 = .ok (.invokevirtual 82, 3) := by decide +kernel
theorem dX5_mean_48 : decode cX5_mean 48 = .ok (.iload_n 2, 1) := by decide +kernel
theorem dX5_mean_49 : decode cX5_mean 49 = .ok (.i2l, 1) := by decide +kernel
theorem dX5_mean_50 : decode cX5_mean 50 = .ok (.ldiv, 1) := by decide +kernel
theorem dX5_mean_51 : decode cX5_mean 51 = .ok (.l2i, 1) := by decide +kernel
theorem dX5_mean_52 : decode cX5_mean 52 = .ok (.putfield 68, 3) := by decide +kernel
theorem dX5_mean_55 : decode cX5_mean 55 = .ok (.iconst 1, 1) := by decide +kernel
theorem dX5_mean_56 : decode cX5_mean 56 = .ok (.ireturn, 1) := by decide +kernel
theorem dX5_text_0 : decode cX5_text 0 = .ok (.iload_n 1, 1) := by decide +kernel
theorem dX5_text_1 : decode cX5_text 1 = .ok (.invokestatic 86, 3) := by decide +kernel
theorem dX5_text_4 : decode cX5_text 4 = .ok (.ifCond .eq 9, 3) := by decide +kernel
theorem dX5_text_7 : decode cX5_text 7 = .ok (.iload_n 2, 1) := by decide +kernel
theorem dX5_text_8 : decode cX5_text 8 = .ok (.bipush 100, 2) := by decide +kernel
theorem dX5_text_10 : decode cX5_text 10 = .ok (.if_icmp .le 5, 3) := by decide +kernel
theorem dX5_text_13 : decode cX5_text 13 = .ok (.iconst (-1), 1) := by decide +kernel
theorem dX5_text_14 : decode cX5_text 14 = .ok (.ireturn, 1) := by decide +kernel
theorem dX5_text_15 : decode cX5_text 15 = .ok (.iload_n 2, 1) := by decide +kernel
theorem dX5_text_16 : decode cX5_text 16 = .ok (.ifCond .ge 9, 3) := by decide +kernel
theorem dX5_text_19 : decode cX5_text 19 = .ok (.aload_n 0, 1) := by decide +kernel
theorem dX5_text_20 : decode cX5_text 20 = .ok (.iconst 5, 1) := by decide +kernel
theorem dX5_text_21 : decode cX5_text 21 = .ok (.invokevirtual 53, 3) := by decide +kernel
theorem dX5_text_24 : decode cX5_text 24 = .ok (.ireturn, 1) := by decide +kernel
theorem dX5_text_25 : decode cX5_text 25 = .ok (.aload_n 0, 1) := by decide +kernel
theorem dX5_text_26 : decode cX5_text 26 = .ok (.getfield 19, 3) := by decide +kernel
theorem dX5_text_29 : decode cX5_text 29 = .ok (.iload_n 1, 1) := by decide +kernel
theorem dX5_text_30 : decode cX5_text 30 = .ok (.iload_n 2, 1) := by decide +kernel
theorem dX5_text_31 : decode cX5_text 31 = .ok (.invokevirtual 89, 3) := by decide +kernel
theorem dX5_text_34 : decode cX5_text 34 = .ok (.iload_n 2, 1) := by decide +kernel
theorem dX5_text_35 : decode cX5_text 35 = .ok (.ireturn, 1) := by decide +kernel
theorem dX5_put_0 : decode cX5_put 0 = .ok (.iload_n 1, 1) := by decide +kernel
theorem dX5_put_1 : decode cX5_put 1 = .ok (.invokestatic 86, 3) := by decide +kernel
theorem dX5_put_4 : decode cX5_put 4 = .ok (.ifCond .ne 5, 3) := by decide +kernel
theorem dX5_put_7 : decode cX5_put 7 = .ok (.iconst (-1), 1) := by decide +kernel
theorem dX5_put_8 : decode cX5_put 8 = .ok (.ireturn, 1) := by decide +kernel
theorem dX5_put_9 : decode cX5_put 9 = .ok (.aload_n 0, 1) := by decide +kernel
theorem dX5_put_10 : decode cX5_put 10 = .ok (.getfield 19, 3) := by decide +kernel
theorem dX5_put_13 : decode cX5_put 13 = .ok (.getfield 90, 3) := by decide +kernel
theorem dX5_put_16 : decode cX5_put 16 = .ok (.iload_n 1, 1) := by decide +kernel
theorem dX5_put_17 : decode cX5_put 17 = .ok (.iaload, 1) := by decide +kernel
theorem dX5_put_18 : decode cX5_put 18 = .ok (.ifCond .ge 9, 3) := by decide +kernel
theorem dX5_put_21 : decode cX5_put 21 = .ok (.aload_n 0, 1) := by decide +kernel
theorem dX5_put_22 : decode cX5_put 22 = .ok (.iconst 1, 1) := by decide +kernel
theorem dX5_put_23 : decode cX5_put 23 = .ok (.invokevirtual 53, 3) := by decide +kernel
theorem dX5_put_26 : decode cX5_put 26 = .ok (.ireturn, 1) := by decide +kernel
theorem dX5_put_27 : decode cX5_put 27 = .ok (.iload_n 2, 1) := by decide +kernel
theorem dX5_put_28 : decode cX5_put 28 = .ok (.ifCond .lt 16, 3) := by decide +kernel
theorem dX5_put_31 : decode cX5_put 31 = .ok (.iload_n 2, 1) := by decide +kernel
theorem dX5_put_32 : decode cX5_put 32 = .ok (.aload_n 0, 1) := by decide +kernel
theorem dX5_put_33 : decode cX5_put 33 = .ok (.getfield 19, 3) := by decide +kernel
theorem dX5_put_36 : decode cX5_put 36 = .ok (.getfield 90, 3) := by decide +kernel
theorem dX5_put_39 : decode cX5_put 39 = .ok (.iload_n 1, 1) := by decide +kernel
theorem dX5_put_40 : decode cX5_put 40 = .ok (.iaload, 1) := by decide +kernel
theorem dX5_put_41 : decode cX5_put 41 = .ok (.if_icmp .lt 9, 3) := by decide +kernel
theorem dX5_put_44 : decode cX5_put 44 = .ok (.aload_n 0, 1) := by decide +kernel
theorem dX5_put_45 : decode cX5_put 45 = .ok (.iconst 2, 1) := by decide +kernel
theorem dX5_put_46 : decode cX5_put 46 = .ok (.invokevirtual 53, 3) := by decide +kernel
theorem dX5_put_49 : decode cX5_put 49 = .ok (.ireturn, 1) := by decide +kernel
theorem dX5_put_50 : decode cX5_put 50 = .ok (.aload_n 0, 1) := by decide +kernel
theorem dX5_put_51 : decode cX5_put 51 = .ok (.getfield 19, 3) := by decide +kernel
theorem dX5_put_54 : decode cX5_put 54 = .ok (.getfield 91, 3) := by decide +kernel
theorem dX5_put_57 : decode cX5_put 57 = .ok (.iload_n 1, 1) := by decide +kernel
theorem dX5_put_58 : decode cX5_put 58 = .ok (.aaload, 1) := by decide +kernel
theorem dX5_put_59 : decode cX5_put 59 = .ok (.iload_n 2, 1) := by decide +kernel
theorem dX5_put_60 : decode cX5_put 60 = .ok (.baload, 1) := by decide +kernel
theorem dX5_put_61 : decode cX5_put 61 = .ok (.istore 4, 2) := by decide +kernel
theorem dX5_put_63 : decode cX5_put 63 = .ok (.aload_n 0, 1) := by decide +kernel
theorem dX5_put_64 : decode cX5_put 64 = .ok (.getfield 19, 3) := by decide +kernel
theorem dX5_put_67 : decode cX5_put 67 = .ok (.getfield 91, 3) := by decide +kernel
theorem dX5_put_70 : decode cX5_put 70 = .ok (.iload_n 1, 1) := by decide +kernel
theorem dX5_put_71 : decode cX5_put 71 = .ok (.aaload, 1) := by decide +kernel
theorem dX5_put_72 : decode cX5_put 72 = .ok (.iload_n 2, 1) := by decide +kernel
theorem dX5_put_73 : decode cX5_put 73 = .ok (.iload_n 3, 1) := by decide +kernel
theorem dX5_put_74 : decode cX5_put 74 = .ok (.i2b, 1) := by decide +kernel
theorem dX5_put_75 : decode cX5_put 75 = .ok (.bastore, 1) := by decide +kernel
theorem dX5_put_76 : decode cX5_put 76 = .ok (.iload 4, 2) := by decide +kernel
theorem dX5_put_78 : decode cX5_put 78 = .ok (.sipush 1000, 3) := by decide +kernel
theorem dX5_put_81 : decode cX5_put 81 = .ok (.iadd, 1) := by decide +kernel
theorem dX5_put_82 : decode cX5_put 82 = .ok (.ireturn, 1) := by decide +kernel
theorem dX5_fault_0 : decode cX5_fault 0 = .ok (.iload_n 1, 1) := by decide +kernel
theorem dX5_fault_1 : decode cX5_fault 1 = .ok (.invokestatic 86, 3) := by decide +kernel
theorem dX5_fault_4 : decode cX5_fault 4 = .ok (.ifCond .ne 5, 3) := by decide +kernel
theorem dX5_fault_7 : decode cX5_fault 7 = .ok (.iconst (-1), 1) := by decide +kernel
theorem dX5_fault_8 : decode cX5_fault 8 = .ok (.ireturn, 1) := by decide +kernel
theorem dX5_fault_9 : decode cX5_fault 9 = .ok (.aload_n 0, 1) := by decide +kernel
theorem dX5_fault_10 : decode cX5_fault 10 = .ok (.getfield 19, 3) := by decide +kernel
theorem dX5_fault_13 : decode cX5_fault 13 = .ok (.getfield 90, 3) := by decide +kernel
theorem dX5_fault_16 : decode cX5_fault 16 = .ok (.iload_n 1, 1) := by decide +kernel
theorem dX5_fault_17 : decode cX5_fault 17 = .ok (.iaload, 1) := by decide +kernel
theorem dX5_fault_18 : decode cX5_fault 18 = .ok (.ifCond .ge 9, 3) := by decide +kernel
theorem dX5_fault_21 : decode cX5_fault 21 = .ok (.aload_n 0, 1) := by decide +kernel
theorem dX5_fault_22 : decode cX5_fault 22 = .ok (.iconst 1, 1) := by decide +kernel
theorem dX5_fault_23 : decode cX5_fault 23 = .ok (.invokevirtual 53, 3) := by decide +kernel
theorem dX5_fault_26 : decode cX5_fault 26 = .ok (.ireturn, 1) := by decide +kernel
theorem dX5_fault_27 : decode cX5_fault 27 = .ok (.aload_n 0, 1) := by decide +kernel
theorem dX5_fault_28 : decode cX5_fault 28 = .ok (.getfield 26, 3) := by decide +kernel
theorem dX5_fault_31 : decode cX5_fault 31 = .ok (.aload_n 0, 1) := by decide +kernel
theorem dX5_fault_32 : decode cX5_fault 32 = .ok (.getfield 19, 3) := by decide +kernel
theorem dX5_fault_35 : decode cX5_fault 35 = .ok (.getfield 91, 3) := by decide +kernel
theorem dX5_fault_38 : decode cX5_fault 38 = .ok (.iload_n 1, 1) := by decide +kernel
theorem dX5_fault_39 : decode cX5_fault 39 = .ok (.aaload, 1) := by decide +kernel
theorem dX5_fault_40 : decode cX5_fault 40 = .ok (.aload_n 0, 1) := by decide +kernel
theorem dX5_fault_41 : decode cX5_fault 41 = .ok (.getfield 19, 3) := by decide +kernel
theorem dX5_fault_44 : decode cX5_fault 44 = .ok (.getfield 90, 3) := by decide +kernel
theorem dX5_fault_47 : decode cX5_fault 47 = .ok (.iload_n 1, 1) := by decide +kernel
theorem dX5_fault_48 : decode cX5_fault 48 = .ok (.iaload, 1) := by decide +kernel
theorem dX5_fault_49 : decode cX5_fault 49 = .ok (.invokevirtual 95, 3) := by decide +kernel
theorem dX5_fault_52 : decode cX5_fault 52 = .ok (.ireturn, 1) := by decide +kernel
theorem dX5_wall_0 : decode cX5_wall 0 = .ok (.iload_n 1, 1) := by decide +kernel
theorem dX5_wall_1 : decode cX5_wall 1 = .ok (.invokestatic 86, 3) := by decide +kernel
theorem dX5_wall_4 : decode cX5_wall 4 = .ok (.ifCond .ne 5, 3) := by decide +kernel
theorem dX5_wall_7 : decode cX5_wall 7 = .ok (.iconst (-1), 1) := by decide +kernel
theorem dX5_wall_8 : decode cX5_wall 8 = .ok (.ireturn, 1) := by decide +kernel
theorem dX5_wall_9 : decode cX5_wall 9 = .ok (.aload_n 0, 1) := by decide +kernel
theorem dX5_wall_10 : decode cX5_wall 10 = .ok (.getfield 19, 3) := by decide +kernel
theorem dX5_wall_13 : decode cX5_wall 13 = .ok (.getfield 90, 3) := by decide +kernel
theorem dX5_wall_16 : decode cX5_wall 16 = .ok (.iload_n 1, 1) := by decide +kernel
theorem dX5_wall_17 : decode cX5_wall 17 = .ok (.iaload, 1) := by decide +kernel
theorem dX5_wall_18 : decode cX5_wall 18 = .ok (.ifCond .ge 9, 3) := by decide +kernel
theorem dX5_wall_21 : decode cX5_wall 21 = .ok (.aload_n 0, 1) := by decide +kernel
theorem dX5_wall_22 : decode cX5_wall 22 = .ok (.iconst 1, 1) := by decide +kernel
theorem dX5_wall_23 : decode cX5_wall 23 = .ok (.invokevirtual 53, 3) := by decide +kernel
theorem dX5_wall_26 : decode cX5_wall 26 = .ok (.ireturn, 1) := by decide +kernel
theorem dX5_wall_27 : decode cX5_wall 27 = .ok (.aload_n 0, 1) := by decide +kernel
theorem dX5_wall_28 : decode cX5_wall 28 = .ok (.getfield 26, 3) := by decide +kernel
theorem dX5_wall_31 : decode cX5_wall 31 = .ok (.aload_n 0, 1) := by decide +kernel
theorem dX5_wall_32 : decode cX5_wall 32 = .ok (.getfield 19, 3) := by decide +kernel
theorem dX5_wall_35 : decode cX5_wall 35 = .ok (.getfield 91, 3) := by decide +kernel
theorem dX5_wall_38 : decode cX5_wall 38 = .ok (.iload_n 1, 1) := by decide +kernel
theorem dX5_wall_39 : decode cX5_wall 39 = .ok (.aaload, 1) := by decide +kernel
theorem dX5_wall_40 : decode cX5_wall 40 = .ok (.aload_n 0, 1) := by decide +kernel
theorem dX5_wall_41 : decode cX5_wall 41 = .ok (.getfield 19, 3) := by decide +kernel
theorem dX5_wall_44 : decode cX5_wall 44 = .ok (.getfield 90, 3) := by decide +kernel
theorem dX5_wall_47 : decode cX5_wall 47 = .ok (.iload_n 1, 1) := by decide +kernel
theorem dX5_wall_48 : decode cX5_wall 48 = .ok (.iaload, 1) := by decide +kernel
theorem dX5_wall_49 : decode cX5_wall 49 = .ok (.invokevirtual 95, 3) := by decide +kernel
theorem dX5_wall_52 : decode cX5_wall 52 = .ok (.bipush (-9), 2) := by decide +kernel
theorem dX5_wall_54 : decode cX5_wall 54 = .ok (.if_icmp .eq 6, 3) := by decide +kernel
theorem dX5_wall_57 : decode cX5_wall 57 = .ok (.bipush (-4), 2) := by decide +kernel
theorem dX5_wall_59 : decode cX5_wall 59 = .ok (.ireturn, 1) := by decide +kernel
theorem dX5_wall_60 : decode cX5_wall 60 = .ok (.aload_n 0, 1) := by decide +kernel
theorem dX5_wall_61 : decode cX5_wall 61 = .ok (.getfield 33, 3) := by decide +kernel
theorem dX5_wall_64 : decode cX5_wall 64 = .ok (.aload_n 0, 1) := by decide +kernel
theorem dX5_wall_65 : decode cX5_wall 65 = .ok (.getfield 26, 3) := by decide +kernel
theorem dX5_wall_68 : decode cX5_wall 68 = .ok (.getfield 99, 3) := by decide +kernel
theorem dX5_wall_71 : decode cX5_wall 71 = .ok (.invokevirtual 102, 3) := by decide +kernel
theorem dX5_wall_74 : decode cX5_wall 74 = .ok (.iconst 0, 1) := by decide +kernel
theorem dX5_wall_75 : decode cX5_wall 75 = .ok (.istore_n 2, 1) := by decide +kernel
theorem dX5_wall_76 : decode cX5_wall 76 = .ok (.iload_n 2, 1) := by decide +kernel
theorem dX5_wall_77 : decode cX5_wall 77 = .ok (.iconst 3, 1) := by decide +kernel
theorem dX5_wall_78 : decode cX5_wall 78 = .ok (.if_icmp .ge 19, 3) := by decide +kernel
theorem dX5_wall_81 : decode cX5_wall 81 = .ok (.aload_n 0, 1) := by decide +kernel
theorem dX5_wall_82 : decode cX5_wall 82 = .ok (.getfield 37, 3) := by decide +kernel
theorem dX5_wall_85 : decode cX5_wall 85 = .ok (.iload_n 2, 1) := by decide +kernel
theorem dX5_wall_86 : decode cX5_wall 86 = .ok (.aaload, 1) := by decide +kernel
theorem dX5_wall_87 : decode cX5_wall 87 = .ok (.iconst 0, 1) := by decide +kernel
theorem dX5_wall_88 : decode cX5_wall 88 = .ok (.putfield 106, 3) := by decide +kernel
theorem dX5_wall_91 : decode cX5_wall 91 = .ok (.iinc 2 1, 3) := by decide +kernel
theorem dX5_wall_94 : decode cX5_wall 94 = .ok (.goto (-18), 3) := by decide +kernel
theorem dX5_wall_97 : decode cX5_wall 97 = .ok (.aload_n 0, 1) := by decide +kernel
theorem dX5_wall_98 : decode cX5_wall 98 = .ok (.getfield 33, 3) := by decide +kernel
theorem dX5_wall_101 : decode cX5_wall 101 = .ok (.getfield 110, 3) := by decide +kernel
theorem dX5_wall_104 : decode cX5_wall 104 = .ok (.ireturn, 1) := by decide +kernel
theorem dX5_brick_0 : decode cX5_brick 0 = .ok (.aload_n 0, 1) := by decide +kernel
theorem dX5_brick_1 : decode cX5_brick 1 = .ok (.getfield 33, 3) := by decide +kernel
theorem dX5_brick_4 : decode cX5_brick 4 = .ok (.iload_n 1, 1) := by decide +kernel
theorem dX5_brick_5 : decode cX5_brick 5 = .ok (.invokevirtual 113, 3) := by decide +kernel
theorem dX5_brick_8 : decode cX5_brick 8 = .ok (.ifCond .eq 13, 3) := by decide +kernel
theorem dX5_brick_11 : decode cX5_brick 11 = .ok (.iload_n 2, 1) := by decide +kernel
theorem dX5_brick_12 : decode cX5_brick 12 = .ok (.ifCond .lt 9, 3) := by decide +kernel
theorem dX5_brick_15 : decode cX5_brick 15 = .ok (.iload_n 2, 1) := by decide +kernel
theorem dX5_brick_16 : decode cX5_brick 16 = .ok (.bipush 8, 2) := by decide +kernel
theorem dX5_brick_18 : decode cX5_brick 18 = .ok (.if_icmp .le 5, 3) := by decide +kernel
theorem dX5_brick_21 : decode cX5_brick 21 = .ok (.iconst (-1), 1) := by decide +kernel
theorem dX5_brick_22 : decode cX5_brick 22 = .ok (.ireturn, 1) := by decide +kernel
theorem dX5_brick_23 : decode cX5_brick 23 = .ok (.aload_n 0, 1) := by decide +kernel
theorem dX5_brick_24 : decode cX5_brick 24 = .ok (.aload_n 0, 1) := by decide +kernel
theorem dX5_brick_25 : decode cX5_brick 25 = .ok (.getfield 33, 3) := by decide +kernel
theorem dX5_brick_28 : decode cX5_brick 28 = .ok (.iload_n 1, 1) := by decide +kernel
theorem dX5_brick_29 : decode cX5_brick 29 = .ok (.iload_n 2, 1) := by decide +kernel
theorem dX5_brick_30 : decode cX5_brick 30 = .ok (.invokevirtual 116, 3) := by decide +kernel
theorem dX5_brick_33 : decode cX5_brick 33 = .ok (.putfield 68, 3) := by decide +kernel
theorem dX5_brick_36 : decode cX5_brick 36 = .ok (.iconst 1, 1) := by decide +kernel
theorem dX5_brick_37 : decode cX5_brick 37 = .ok (.ireturn, 1) := by decide +kernel
theorem dX5_mark_0 : decode cX5_mark 0 = .ok (.aload_n 0, 1) := by decide +kernel
theorem dX5_mark_1 : decode cX5_mark 1 = .ok (.getfield 33, 3) := by decide +kernel
theorem dX5_mark_4 : decode cX5_mark 4 = .ok (.iload_n 1, 1) := by decide +kernel
theorem dX5_mark_5 : decode cX5_mark 5 = .ok (.invokevirtual 113, 3) := by decide +kernel
theorem dX5_mark_8 : decode cX5_mark 8 = .ok (.ifCond .eq 13, 3) := by decide +kernel
theorem dX5_mark_11 : decode cX5_mark 11 = .ok (.iload_n 2, 1) := by decide +kernel
theorem dX5_mark_12 : decode cX5_mark 12 = .ok (.iconst 1, 1) := by decide +kernel
theorem dX5_mark_13 : decode cX5_mark 13 = .ok (.if_icmp .lt 8, 3) := by decide +kernel
theorem dX5_mark_16 : decode cX5_mark 16 = .ok (.iload_n 2, 1) := by decide +kernel
theorem dX5_mark_17 : decode cX5_mark 17 = .ok (.iconst 5, 1) := by decide +kernel
theorem dX5_mark_18 : decode cX5_mark 18 = .ok (.if_icmp .le 5, 3) := by decide +kernel
theorem dX5_mark_21 : decode cX5_mark 21 = .ok (.iconst (-1), 1) := by decide +kernel
theorem dX5_mark_22 : decode cX5_mark 22 = .ok (.ireturn, 1) := by decide +kernel
theorem dX5_mark_23 : decode cX5_mark 23 = .ok (.aload_n 0, 1) := by decide +kernel
theorem dX5_mark_24 : decode cX5_mark 24 = .ok (.getfield 33, 3) := by decide +kernel
theorem dX5_mark_27 : decode cX5_mark 27 = .ok (.iload_n 1, 1) := by decide +kernel
theorem dX5_mark_28 : decode cX5_mark 28 = .ok (.invokevirtual 120, 3) := by decide +kernel
theorem dX5_mark_31 : decode cX5_mark 31 = .ok (.ifCond .ne 9, 3) := by decide +kernel
theorem dX5_mark_34 : decode cX5_mark 34 = .ok (.aload_n 0, 1) := by decide +kernel
theorem dX5_mark_35 : decode cX5_mark 35 = .ok (.iconst 1, 1) := by decide +kernel
theorem dX5_mark_36 : decode cX5_mark 36 = .ok (.invokevirtual 53, 3) := by decide +kernel
theorem dX5_mark_39 : decode cX5_mark 39 = .ok (.ireturn, 1) := by decide +kernel
theorem dX5_mark_40 : decode cX5_mark 40 = .ok (.aload_n 0, 1) := by decide +kernel
theorem dX5_mark_41 : decode cX5_mark 41 = .ok (.getfield 33, 3) := by decide +kernel
theorem dX5_mark_44 : decode cX5_mark 44 = .ok (.getfield 123, 3) := by decide +kernel
theorem dX5_mark_47 : decode cX5_mark 47 = .ok (.iload_n 1, 1) := by decide +kernel
theorem dX5_mark_48 : decode cX5_mark 48 = .ok (.aaload, 1) := by decide +kernel
theorem dX5_mark_49 : decode cX5_mark 49 = .ok (.iload_n 2, 1) := by decide +kernel
theorem dX5_mark_50 : decode cX5_mark 50 = .ok (.invokevirtual 127, 3) := by decide +kernel
theorem dX5_mark_53 : decode cX5_mark 53 = .ok (.ifCond .ne 9, 3) := by decide +kernel
theorem dX5_mark_56 : decode cX5_mark 56 = .ok (.aload_n 0, 1) := by decide +kernel
theorem dX5_mark_57 : decode cX5_mark 57 = .ok (.iconst 3, 1) := by decide +kernel
theorem dX5_mark_58 : decode cX5_mark 58 = .ok (.invokevirtual 53, 3) := by decide +kernel
theorem dX5_mark_61 : decode cX5_mark 61 = .ok (.ireturn, 1) := by decide +kernel
theorem dX5_mark_62 : decode cX5_mark 62 = .ok (.aload_n 0, 1) := by decide +kernel
theorem dX5_mark_63 : decode cX5_mark 63 = .ok (.getfield 33, 3) := by decide +kernel
theorem dX5_mark_66 : decode cX5_mark 66 = .ok (.iload_n 1, 1) := by decide +kernel
theorem dX5_mark_67 : decode cX5_mark 67 = .ok (.iload_n 2, 1) := by decide +kernel
theorem dX5_mark_68 : decode cX5_mark 68 = .ok (.invokevirtual 132, 3) := by decide +kernel
theorem dX5_mark_71 : decode cX5_mark 71 = .ok (.ireturn, 1) := by decide +kernel
theorem dX5_yes_0 : decode cX5_yes 0 = .ok (.iload_n 1, 1) := by decide +kernel
theorem dX5_yes_1 : decode cX5_yes 1 = .ok (.invokestatic 135, 3) := by decide +kernel
theorem dX5_yes_4 : decode cX5_yes 4 = .ok (.ifCond .eq 12, 3) := by decide +kernel
theorem dX5_yes_7 : decode cX5_yes 7 = .ok (.iload_n 2, 1) := by decide +kernel
theorem dX5_yes_8 : decode cX5_yes 8 = .ok (.ifCond .lt 8, 3) := by decide +kernel
theorem dX5_yes_11 : decode cX5_yes 11 = .ok (.iload_n 2, 1) := by decide +kernel
theorem dX5_yes_12 : decode cX5_yes 12 = .ok (.iconst 1, 1) := by decide +kernel
theorem dX5_yes_13 : decode cX5_yes 13 = .ok (.if_icmp .le 5, 3) := by decide +kernel
theorem dX5_yes_16 : decode cX5_yes 16 = .ok (.iconst (-1), 1) := by decide +kernel
theorem dX5_yes_17 : decode cX5_yes 17 = .ok (.ireturn, 1) := by decide +kernel
theorem dX5_yes_18 : decode cX5_yes 18 = .ok (.aload_n 0, 1) := by decide +kernel
theorem dX5_yes_19 : decode cX5_yes 19 = .ok (.getfield 33, 3) := by decide +kernel
theorem dX5_yes_22 : decode cX5_yes 22 = .ok (.getfield 138, 3) := by decide +kernel
theorem dX5_yes_25 : decode cX5_yes 25 = .ok (.iload_n 1, 1) := by decide +kernel
theorem dX5_yes_26 : decode cX5_yes 26 = .ok (.ishr, 1) := by decide +kernel
theorem dX5_yes_27 : decode cX5_yes 27 = .ok (.iconst 1, 1) := by decide +kernel
theorem dX5_yes_28 : decode cX5_yes 28 = .ok (.iand, 1) := by decide +kernel
theorem dX5_yes_29 : decode cX5_yes 29 = .ok (.istore_n 3, 1) := by decide +kernel
theorem dX5_yes_30 : decode cX5_yes 30 = .ok (.aload_n 0, 1) := by decide +kernel
theorem dX5_yes_31 : decode cX5_yes 31 = .ok (.getfield 33, 3) := by decide +kernel
theorem dX5_yes_34 : decode cX5_yes 34 = .ok (.aload_n 0, 1) := by decide +kernel
theorem dX5_yes_35 : decode cX5_yes 35 = .ok (.getfield 33, 3) := by decide +kernel
theorem dX5_yes_38 : decode cX5_yes 38 = .ok (.getfield 138, 3) := by decide +kernel
theorem dX5_yes_41 : decode cX5_yes 41 = .ok (.iconst 1, 1) := by decide +kernel
theorem dX5_yes_42 : decode cX5_yes 42 = .ok (.iload_n 1, 1) := by decide +kernel
theorem dX5_yes_43 : decode cX5_yes 43 = .ok (.ishl, 1) := by decide +kernel
theorem dX5_yes_44 : decode cX5_yes 44 = .ok (.iconst (-1), 1) := by decide +kernel
theorem dX5_yes_45 : decode cX5_yes 45 = .ok (.ixor, 1) := by decide +kernel
theorem dX5_yes_46 : decode cX5_yes 46 = .ok (.iand, 1) := by decide +kernel
theorem dX5_yes_47 : decode cX5_yes 47 = .ok (.iload_n 2, 1) := by decide +kernel
theorem dX5_yes_48 : decode cX5_yes 48 = .ok (.iload_n 1, 1) := by decide +kernel
theorem dX5_yes_49 : decode cX5_yes 49 = .ok (.ishl, 1) := by decide +kernel
theorem dX5_yes_50 : decode cX5_yes 50 = .ok (.ior, 1) := by decide +kernel
theorem dX5_yes_51 : decode cX5_yes 51 = .ok (.putfield 138, 3) := by decide +kernel
theorem dX5_yes_54 : decode cX5_yes 54 = .ok (.iload_n 3, 1) := by decide +kernel
theorem dX5_yes_55 : decode cX5_yes 55 = .ok (.ireturn, 1) := by decide +kernel
theorem dX5_heir_0 : decode cX5_heir 0 = .ok (.iload_n 1, 1) := by decide +kernel
theorem dX5_heir_1 : decode cX5_heir 1 = .ok (.invokestatic 135, 3) := by decide +kernel
theorem dX5_heir_4 : decode cX5_heir 4 = .ok (.ifCond .eq 15, 3) := by decide +kernel
theorem dX5_heir_7 : decode cX5_heir 7 = .ok (.iload_n 2, 1) := by decide +kernel
theorem dX5_heir_8 : decode cX5_heir 8 = .ok (.invokestatic 135, 3) := by decide +kernel
theorem dX5_heir_11 : decode cX5_heir 11 = .ok (.ifCond .eq 8, 3) := by decide +kernel
theorem dX5_heir_14 : decode cX5_heir 14 = .ok (.iload_n 1, 1) := by decide +kernel
theorem dX5_heir_15 : decode cX5_heir 15 = .ok (.iload_n 2, 1) := by decide +kernel
theorem dX5_heir_16 : decode cX5_heir 16 = .ok (.if_icmp .ne 5, 3) := by decide +kernel
theorem dX5_heir_19 : decode cX5_heir 19 = .ok (.iconst (-1), 1) := by decide +kernel
theorem dX5_heir_20 : decode cX5_heir 20 = .ok (.ireturn, 1) := by decide +kernel
theorem dX5_heir_21 : decode cX5_heir 21 = .ok (.iconst 0, 1) := by decide +kernel
theorem dX5_heir_22 : decode cX5_heir 22 = .ok (.istore_n 3, 1) := by decide +kernel
theorem dX5_heir_23 : decode cX5_heir 23 = .ok (.iconst 0, 1) := by decide +kernel
theorem dX5_heir_24 : decode cX5_heir 24 = .ok (.istore 4, 2) := by decide +kernel
theorem dX5_heir_26 : decode cX5_heir 26 = .ok (.iload 4, 2) := by decide +kernel
theorem dX5_heir_28 : decode cX5_heir 28 = .ok (.aload_n 0, 1) := by decide +kernel
theorem dX5_heir_29 : decode cX5_heir 29 = .ok (.getfield 33, 3) := by decide +kernel
theorem dX5_heir_32 : decode cX5_heir 32 = .ok (.getfield 110, 3) := by decide +kernel
theorem dX5_heir_35 : decode cX5_heir 35 = .ok (.if_icmp .ge 27, 3) := by decide +kernel
theorem dX5_heir_38 : decode cX5_heir 38 = .ok (.iload_n 3, 1) := by decide +kernel
theorem dX5_heir_39 : decode cX5_heir 39 = .ok (.aload_n 0, 1) := by decide +kernel
theorem dX5_heir_40 : decode cX5_heir 40 = .ok (.getfield 33, 3) := by decide +kernel
theorem dX5_heir_43 : decode cX5_heir 43 = .ok (.getfield 123, 3) := by decide +kernel
theorem dX5_heir_46 : decode cX5_heir 46 = .ok (.iload 4, 2) := by decide +kernel
theorem dX5_heir_48 : decode cX5_heir 48 = .ok (.aaload, 1) := by decide +kernel
theorem dX5_heir_49 : decode cX5_heir 49 = .ok (.iload_n 1, 1) := by decide +kernel
theorem dX5_heir_50 : decode cX5_heir 50 = .ok (.iload_n 2, 1) := by decide +kernel
theorem dX5_heir_51 : decode cX5_heir 51 = .ok (.invokevirtual 141, 3) := by decide +kernel
theorem dX5_heir_54 : decode cX5_heir 54 = .ok (.iadd, 1) := by decide +kernel
theorem dX5_heir_55 : decode cX5_heir 55 = .ok (.istore_n 3, 1) := by decide +kernel
theorem dX5_heir_56 : decode cX5_heir 56 = .ok (.iinc 4 1, 3) := by decide +kernel
theorem dX5_heir_59 : decode cX5_heir 59 = .ok (.goto (-33), 3) := by decide +kernel
theorem dX5_heir_62 : decode cX5_heir 62 = .ok (.iload_n 3, 1) := by decide +kernel
theorem dX5_heir_63 : decode cX5_heir 63 = .ok (.ireturn, 1) := by decide +kernel
theorem dX5_hang_0 : decode cX5_hang 0 = .ok (.aload_n 0, 1) := by decide +kernel
theorem dX5_hang_1 : decode cX5_hang 1 = .ok (.getfield 33, 3) := by decide +kernel
theorem dX5_hang_4 : decode cX5_hang 4 = .ok (.iload_n 1, 1) := by decide +kernel
theorem dX5_hang_5 : decode cX5_hang 5 = .ok (.invokevirtual 113, 3) := by decide +kernel
theorem dX5_hang_8 : decode cX5_hang 8 = .ok (.ifCond .eq 25, 3) := by decide +kernel
theorem dX5_hang_11 : decode cX5_hang 11 = .ok (.iload_n 2, 1) := by decide +kernel
theorem dX5_hang_12 : decode cX5_hang 12 = .ok (.bipush (-9), 2) := by decide +kernel
theorem dX5_hang_14 : decode cX5_hang 14 = .ok (.if_icmp .eq 14, 3) := by decide +kernel
theorem dX5_hang_17 : decode cX5_hang 17 = .ok (.aload_n 0, 1) := by decide +kernel
theorem dX5_hang_18 : decode cX5_hang 18 = .ok (.getfield 33, 3) := by decide +kernel
theorem dX5_hang_21 : decode cX5_hang 21 = .ok (.iload_n 2, 1) := by decide +kernel
theorem dX5_hang_22 : decode cX5_hang 22 = .ok (.invokevirtual 113, 3) := by decide +kernel
theorem dX5_hang_25 : decode cX5_hang 25 = .ok (.ifCond .eq 8, 3) := by decide +kernel
theorem dX5_hang_28 : decode cX5_hang 28 = .ok (.iload_n 1, 1) := by decide +kernel
theorem dX5_hang_29 : decode cX5_hang 29 = .ok (.iload_n 2, 1) := by decide +kernel
theorem dX5_hang_30 : decode cX5_hang 30 = .ok (.if_icmp .ne 5, 3) := by decide +kernel
theorem dX5_hang_33 : decode cX5_hang 33 = .ok (.iconst (-1), 1) := by decide +kernel
theorem dX5_hang_34 : decode cX5_hang 34 = .ok (.ireturn, 1) := by decide +kernel
theorem dX5_hang_35 : decode cX5_hang 35 = .ok (.aload_n 0, 1) := by decide +kernel
theorem dX5_hang_36 : decode cX5_hang 36 = .ok (.getfield 33, 3) := by decide +kernel
theorem dX5_hang_39 : decode cX5_hang 39 = .ok (.getfield 123, 3) := by decide +kernel
theorem dX5_hang_42 : decode cX5_hang 42 = .ok (.iload_n 1, 1) := by decide +kernel
theorem dX5_hang_43 : decode cX5_hang 43 = .ok (.aaload, 1) := by decide +kernel
theorem dX5_hang_44 : decode cX5_hang 44 = .ok (.getfield 144, 3) := by decide +kernel
theorem dX5_hang_47 : decode cX5_hang 47 = .ok (.istore_n 3, 1) := by decide +kernel
theorem dX5_hang_48 : decode cX5_hang 48 = .ok (.aload_n 0, 1) := by decide +kernel
theorem dX5_hang_49 : decode cX5_hang 49 = .ok (.getfield 33, 3) := by decide +kernel
theorem dX5_hang_52 : decode cX5_hang 52 = .ok (.getfield 123, 3) := by decide +kernel
theorem dX5_hang_55 : decode cX5_hang 55 = .ok (.iload_n 1, 1) := by decide +kernel
theorem dX5_hang_56 : decode cX5_hang 56 = .ok (.aaload, 1) := by decide +kernel
theorem dX5_hang_57 : decode cX5_hang 57 = .ok (.iload_n 2, 1) := by decide +kernel
theorem dX5_hang_58 : decode cX5_hang 58 = .ok (.putfield 144, 3) := by decide +kernel
theorem dX5_hang_61 : decode cX5_hang 61 = .ok (.iload_n 3, 1) := by decide +kernel
theorem dX5_hang_62 : decode cX5_hang 62 = .ok (.ireturn, 1) := by decide +kernel
theorem dX5_wedge_0 : decode cX5_wedge 0 = .ok (.aload_n 0, 1) := by decide +kernel
theorem dX5_wedge_1 : decode cX5_wedge 1 = .ok (.getfield 33, 3) := by decide +kernel
theorem dX5_wedge_4 : decode cX5_wedge 4 = .ok (.iload_n 1, 1) := by decide +kernel
theorem dX5_wedge_5 : decode cX5_wedge 5 = .ok (.invokevirtual 113, 3) := by decide +kernel
theorem dX5_wedge_8 : decode cX5_wedge 8 = .ok (.ifCond .eq 12, 3) := by decide +kernel
theorem dX5_wedge_11 : decode cX5_wedge 11 = .ok (.iload_n 2, 1) := by decide +kernel
theorem dX5_wedge_12 : decode cX5_wedge 12 = .ok (.ifCond .lt 8, 3) := by decide +kernel
theorem dX5_wedge_15 : decode cX5_wedge 15 = .ok (.iload_n 2, 1) := by decide +kernel
theorem dX5_wedge_16 : decode cX5_wedge 16 = .ok (.iconst 1, 1) := by decide +kernel
theorem dX5_wedge_17 : decode cX5_wedge 17 = .ok (.if_icmp .le 5, 3) := by decide +kernel
theorem dX5_wedge_20 : decode cX5_wedge 20 = .ok (.iconst (-1), 1) := by decide +kernel
theorem dX5_wedge_21 : decode cX5_wedge 21 = .ok (.ireturn, 1) := by decide +kernel
theorem dX5_wedge_22 : decode cX5_wedge 22 = .ok (.aload_n 0, 1) := by decide +kernel
theorem dX5_wedge_23 : decode cX5_wedge 23 = .ok (.getfield 33, 3) := by decide +kernel
theorem dX5_wedge_26 : decode cX5_wedge 26 = .ok (.iload_n 1, 1) := by decide +kernel
theorem dX5_wedge_27 : decode cX5_wedge 27 = .ok (.invokevirtual 120, 3) := by decide +kernel
theorem dX5_wedge_30 : decode cX5_wedge 30 = .ok (.ifCond .ne 9, 3) := by decide +kernel
theorem dX5_wedge_33 : decode cX5_wedge 33 = .ok (.aload_n 0, 1) := by decide +kernel
theorem dX5_wedge_34 : decode cX5_wedge 34 = .ok (.iconst 1, 1) := by decide +kernel
theorem dX5_wedge_35 : decode cX5_wedge 35 = .ok (.invokevirtual 53, 3) := by decide +kernel
theorem dX5_wedge_38 : decode cX5_wedge 38 = .ok (.ireturn, 1) := by decide +kernel
theorem dX5_wedge_39 : decode cX5_wedge 39 = .ok (.iconst 1, 1) := by decide +kernel
theorem dX5_wedge_40 : decode cX5_wedge 40 = .ok (.iload_n 1, 1) := by decide +kernel
theorem dX5_wedge_41 : decode cX5_wedge 41 = .ok (.ishl, 1) := by decide +kernel
theorem dX5_wedge_42 : decode cX5_wedge 42 = .ok (.istore_n 3, 1) := by decide +kernel
theorem dX5_wedge_43 : decode cX5_wedge 43 = .ok (.aload_n 0, 1) := by decide +kernel
theorem dX5_wedge_44 : decode cX5_wedge 44 = .ok (.getfield 33, 3) := by decide +kernel
theorem dX5_wedge_47 : decode cX5_wedge 47 = .ok (.getfield 147, 3) := by decide +kernel
theorem dX5_wedge_50 : decode cX5_wedge 50 = .ok (.iload_n 1, 1) := by decide +kernel
theorem dX5_wedge_51 : decode cX5_wedge 51 = .ok (.ishr, 1) := by decide +kernel
theorem dX5_wedge_52 : decode cX5_wedge 52 = .ok (.iconst 1, 1) := by decide +kernel
theorem dX5_wedge_53 : decode cX5_wedge 53 = .ok (.iand, 1) := by decide +kernel
theorem dX5_wedge_54 : decode cX5_wedge 54 = .ok (.iload_n 2, 1) := by decide +kernel
theorem dX5_wedge_55 : decode cX5_wedge 55 = .ok (.if_icmp .ne 6, 3) := by decide +kernel
theorem dX5_wedge_58 : decode cX5_wedge 58 = .ok (.bipush (-4), 2) := by decide +kernel
theorem dX5_wedge_60 : decode cX5_wedge 60 = .ok (.ireturn, 1) := by decide +kernel
theorem dX5_wedge_61 : decode cX5_wedge 61 = .ok (.iload_n 2, 1) := by decide +kernel
theorem dX5_wedge_62 : decode cX5_wedge 62 = .ok (.ifCond .ne 41, 3) := by decide +kernel
theorem dX5_wedge_65 : decode cX5_wedge 65 = .ok (.aload_n 0, 1) := by decide +kernel
theorem dX5_wedge_66 : decode cX5_wedge 66 = .ok (.getfield 33, 3) := by decide +kernel
theorem dX5_wedge_69 : decode cX5_wedge 69 = .ok (.invokevirtual 150, 3) := by decide +kernel
theorem dX5_wedge_72 : decode cX5_wedge 72 = .ok (.aload_n 0, 1) := by decide +kernel
theorem dX5_wedge_73 : decode cX5_wedge 73 = .ok (.getfield 33, 3) := by decide +kernel
theorem dX5_wedge_76 : decode cX5_wedge 76 = .ok (.aload_n 0, 1) := by decide +kernel
theorem dX5_wedge_77 : decode cX5_wedge 77 = .ok (.getfield 33, 3) := by decide +kernel
theorem dX5_wedge_80 : decode cX5_wedge 80 = .ok (.getfield 154, 3) := by decide +kernel
theorem dX5_wedge_83 : decode cX5_wedge 83 = .ok (.aload_n 0, 1) := by decide +kernel
theorem dX5_wedge_84 : decode cX5_wedge 84 = .ok (.getfield 33, 3) := by decide +kernel
theorem dX5_wedge_87 : decode cX5_wedge 87 = .ok (.getfield 147, 3) := by decide +kernel
theorem dX5_wedge_90 : decode cX5_wedge 90 = .ok (.iload_n 3, 1) := by decide +kernel
theorem dX5_wedge_91 : decode cX5_wedge 91 = .ok (.iconst (-1), 1) := by decide +kernel
theorem dX5_wedge_92 : decode cX5_wedge 92 = .ok (.ixor, 1) := by decide +kernel
theorem dX5_wedge_93 : decode cX5_wedge 93 = .ok (.iand, 1) := by decide +kernel
theorem dX5_wedge_94 : decode cX5_wedge 94 = .ok (.invokevirtual 157, 3) := by decide +kernel
theorem dX5_wedge_97 : decode cX5_wedge 97 = .ok (.if_icmp .eq 6, 3) := by decide +kernel
theorem dX5_wedge_100 : decode cX5_wedge 100 = .ok (.bipush (-4), 2) := by decide +kernel
theorem dX5_wedge_102 : decode cX5_wedge 102 = .ok (.ireturn, 1) := by decide +kernel
theorem dX5_wedge_103 : decode cX5_wedge 103 = .ok (.iload_n 2, 1) := by decide +kernel
theorem dX5_wedge_104 : decode cX5_wedge 104 = .ok (.iconst 1, 1) := by decide +kernel
theorem dX5_wedge_105 : decode cX5_wedge 105 = .ok (.if_icmp .ne 20, 3) := by decide +kernel
theorem dX5_wedge_108 : decode cX5_wedge 108 = .ok (.aload_n 0, 1) := by decide +kernel
theorem dX5_wedge_109 : decode cX5_wedge 109 = .ok (.getfield 33, 3) := by decide +kernel
theorem dX5_wedge_112 : decode cX5_wedge 112 = .ok (.getfield 147, 3) := by decide +kernel
theorem dX5_wedge_115 : decode cX5_wedge 115 = .ok (.invokestatic 160, 3) := by decide +kernel
theorem dX5_wedge_118 : decode cX5_wedge 118 = .ok (.iconst 4, 1) := by decide +kernel
theorem dX5_wedge_119 : decode cX5_wedge 119 = .ok (.if_icmp .lt 6, 3) := by decide +kernel
theorem dX5_wedge_122 : decode cX5_wedge 122 = .ok (.bipush (-2), 2) := by decide +kernel
theorem dX5_wedge_124 : decode cX5_wedge 124 = .ok (.ireturn, 1) := by decide +kernel
theorem dX5_wedge_125 : decode cX5_wedge 125 = .ok (.aload_n 0, 1) := by decide +kernel
theorem dX5_wedge_126 : decode cX5_wedge 126 = .ok (.getfield 33, 3) := by decide +kernel
theorem dX5_wedge_129 : decode cX5_wedge 129 = .ok (.aload_n 0, 1) := by decide +kernel
theorem dX5_wedge_130 : decode cX5_wedge 130 = .ok (.getfield 33, 3) := by decide +kernel
theorem dX5_wedge_133 : decode cX5_wedge 133 = .ok (.getfield 147, 3) := by decide +kernel
theorem dX5_wedge_136 : decode cX5_wedge 136 = .ok (.iload_n 3, 1) := by decide +kernel
theorem dX5_wedge_137 : decode cX5_wedge 137 = .ok (.ixor, 1) := by decide +kernel
theorem dX5_wedge_138 : decode cX5_wedge 138 = .ok (.putfield 147, 3) := by decide +kernel
theorem dX5_wedge_141 : decode cX5_wedge 141 = .ok (.aload_n 0, 1) := by decide +kernel
theorem dX5_wedge_142 : decode cX5_wedge 142 = .ok (.getfield 33, 3) := by decide +kernel
theorem dX5_wedge_145 : decode cX5_wedge 145 = .ok (.getfield 147, 3) := by decide +kernel
theorem dX5_wedge_148 : decode cX5_wedge 148 = .ok (.invokestatic 160, 3) := by decide +kernel
theorem dX5_wedge_151 : decode cX5_wedge 151 = .ok (.ireturn, 1) := by decide +kernel
theorem dX5_vine_0 : decode cX5_vine 0 = .ok (.aload_n 0, 1) := by decide +kernel
theorem dX5_vine_1 : decode cX5_vine 1 = .ok (.getfield 33, 3) := by decide +kernel
theorem dX5_vine_4 : decode cX5_vine 4 = .ok (.iload_n 1, 1) := by decide +kernel
theorem dX5_vine_5 : decode cX5_vine 5 = .ok (.invokevirtual 113, 3) := by decide +kernel
theorem dX5_vine_8 : decode cX5_vine 8 = .ok (.ifCond .ne 5, 3) := by decide +kernel
theorem dX5_vine_11 : decode cX5_vine 11 = .ok (.iconst (-1), 1) := by decide +kernel
theorem dX5_vine_12 : decode cX5_vine 12 = .ok (.ireturn, 1) := by decide +kernel
theorem dX5_vine_13 : decode cX5_vine 13 = .ok (.aload_n 0, 1) := by decide +kernel
theorem dX5_vine_14 : decode cX5_vine 14 = .ok (.getfield 33, 3) := by decide +kernel
theorem dX5_vine_17 : decode cX5_vine 17 = .ok (.iload_n 1, 1) := by decide +kernel
theorem dX5_vine_18 : decode cX5_vine 18 = .ok (.invokevirtual 120, 3) := by decide +kernel
theorem dX5_vine_21 : decode cX5_vine 21 = .ok (.ifCond .ne 9, 3) := by decide +kernel
theorem dX5_vine_24 : decode cX5_vine 24 = .ok (.aload_n 0, 1) := by decide +kernel
theorem dX5_vine_25 : decode cX5_vine 25 = .ok (.iconst 1, 1) := by decide +kernel
theorem dX5_vine_26 : decode cX5_vine 26 = .ok (.invokevirtual 53, 3) := by decide +kernel
theorem dX5_vine_29 : decode cX5_vine 29 = .ok (.ireturn, 1) := by decide +kernel
theorem dX5_vine_30 : decode cX5_vine 30 = .ok (.aload_n 0, 1) := by decide +kernel
theorem dX5_vine_31 : decode cX5_vine 31 = .ok (.getfield 33, 3) := by decide +kernel
theorem dX5_vine_34 : decode cX5_vine 34 = .ok (.iload_n 1, 1) := by decide +kernel
theorem dX5_vine_35 : decode cX5_vine 35 = .ok (.invokevirtual 165, 3) := by decide +kernel
theorem dX5_vine_38 : decode cX5_vine 38 = .ok (.ifCond .eq 6, 3) := by decide +kernel
theorem dX5_vine_41 : decode cX5_vine 41 = .ok (.bipush (-4), 2) := by decide +kernel
theorem dX5_vine_43 : decode cX5_vine 43 = .ok (.ireturn, 1) := by decide +kernel
theorem dX5_vine_44 : decode cX5_vine 44 = .ok (.aload_n 0, 1) := by decide +kernel
theorem dX5_vine_45 : decode cX5_vine 45 = .ok (.getfield 33, 3) := by decide +kernel
theorem dX5_vine_48 : decode cX5_vine 48 = .ok (.dup, 1) := by decide +kernel
theorem dX5_vine_49 : decode cX5_vine 49 = .ok (.getfield 168, 3) := by decide +kernel
theorem dX5_vine_52 : decode cX5_vine 52 = .ok (.iconst 1, 1) := by decide +kernel
theorem dX5_vine_53 : decode cX5_vine 53 = .ok (.iload_n 1, 1) := by decide +kernel
theorem dX5_vine_54 : decode cX5_vine 54 = .ok (.ishl, 1) := by decide +kernel
theorem dX5_vine_55 : decode cX5_vine 55 = .ok (.ior, 1) := by decide +kernel
theorem dX5_vine_56 : decode cX5_vine 56 = .ok (.putfield 168, 3) := by decide +kernel
theorem dX5_vine_59 : decode cX5_vine 59 = .ok (.aload_n 0, 1) := by decide +kernel
theorem dX5_vine_60 : decode cX5_vine 60 = .ok (.getfield 33, 3) := by decide +kernel
theorem dX5_vine_63 : decode cX5_vine 63 = .ok (.getfield 168, 3) := by decide +kernel
theorem dX5_vine_66 : decode cX5_vine 66 = .ok (.invokestatic 160, 3) := by decide +kernel
theorem dX5_vine_69 : decode cX5_vine 69 = .ok (.ireturn, 1) := by decide +kernel
theorem dX5_stands_0 : decode cX5_stands 0 = .ok (.aload_n 0, 1) := by decide +kernel
theorem dX5_stands_1 : decode cX5_stands 1 = .ok (.getfield 33, 3) := by decide +kernel
theorem dX5_stands_4 : decode cX5_stands 4 = .ok (.invokevirtual 150, 3) := by decide +kernel
theorem dX5_stands_7 : decode cX5_stands 7 = .ok (.istore_n 1, 1) := by decide +kernel
theorem dX5_stands_8 : decode cX5_stands 8 = .ok (.aload_n 0, 1) := by decide +kernel
theorem dX5_stands_9 : decode cX5_stands 9 = .ok (.aload_n 0, 1) := by decide +kernel
theorem dX5_stands_10 : decode cX5_stands 10 = .ok (.getfield 33, 3) := by decide +kernel
theorem dX5_stands_13 : decode cX5_stands 13 = .ok (.getfield 154, 3) := by decide +kernel
theorem dX5_stands_16 : decode cX5_stands 16 = .ok (.iload_n 1, 1) := by decide +kernel
theorem dX5_stands_17 : decode cX5_stands 17 = .ok (.iconst (-1), 1) := by decide +kernel
theorem dX5_stands_18 : decode cX5_stands 18 = .ok (.ixor, 1) := by decide +kernel
theorem dX5_stands_19 : decode cX5_stands 19 = .ok (.iand, 1) := by decide +kernel
theorem dX5_stands_20 : decode cX5_stands 20 = .ok (.putfield 68, 3) := by decide +kernel
theorem dX5_stands_23 : decode cX5_stands 23 = .ok (.iload_n 1, 1) := by decide +kernel
theorem dX5_stands_24 : decode cX5_stands 24 = .ok (.ireturn, 1) := by decide +kernel
theorem dX5_falls_0 : decode cX5_falls 0 = .ok (.aload_n 0, 1) := by decide +kernel
theorem dX5_falls_1 : decode cX5_falls 1 = .ok (.getfield 33, 3) := by decide +kernel
theorem dX5_falls_4 : decode cX5_falls 4 = .ok (.iload_n 1, 1) := by decide +kernel
theorem dX5_falls_5 : decode cX5_falls 5 = .ok (.invokevirtual 171, 3) := by decide +kernel
theorem dX5_falls_8 : decode cX5_falls 8 = .ok (.ifCond .ne 5, 3) := by decide +kernel
theorem dX5_falls_11 : decode cX5_falls 11 = .ok (.iconst (-1), 1) := by decide +kernel
theorem dX5_falls_12 : decode cX5_falls 12 = .ok (.ireturn, 1) := by decide +kernel
theorem dX5_falls_13 : decode cX5_falls 13 = .ok (.iload_n 1, 1) := by decide +kernel
theorem dX5_falls_14 : decode cX5_falls 14 = .ok (.aload_n 0, 1) := by decide +kernel
theorem dX5_falls_15 : decode cX5_falls 15 = .ok (.getfield 33, 3) := by decide +kernel
theorem dX5_falls_18 : decode cX5_falls 18 = .ok (.getfield 154, 3) := by decide +kernel
theorem dX5_falls_21 : decode cX5_falls 21 = .ok (.iconst (-1), 1) := by decide +kernel
theorem dX5_falls_22 : decode cX5_falls 22 = .ok (.ixor, 1) := by decide +kernel
theorem dX5_falls_23 : decode cX5_falls 23 = .ok (.iand, 1) := by decide +kernel
theorem dX5_falls_24 : decode cX5_falls 24 = .ok (.ifCond .eq 9, 3) := by decide +kernel
theorem dX5_falls_27 : decode cX5_falls 27 = .ok (.aload_n 0, 1) := by decide +kernel
theorem dX5_falls_28 : decode cX5_falls 28 = .ok (.iconst 1, 1) := by decide +kernel
theorem dX5_falls_29 : decode cX5_falls 29 = .ok (.invokevirtual 53, 3) := by decide +kernel
theorem dX5_falls_32 : decode cX5_falls 32 = .ok (.ireturn, 1) := by decide +kernel
theorem dX5_falls_33 : decode cX5_falls 33 = .ok (.aload_n 0, 1) := by decide +kernel
theorem dX5_falls_34 : decode cX5_falls 34 = .ok (.getfield 33, 3) := by decide +kernel
theorem dX5_falls_37 : decode cX5_falls 37 = .ok (.iload_n 1, 1) := by decide +kernel
theorem dX5_falls_38 : decode cX5_falls 38 = .ok (.invokevirtual 174, 3) := by decide +kernel
theorem dX5_falls_41 : decode cX5_falls 41 = .ok (.ireturn, 1) := by decide +kernel
theorem dX5_load_0 : decode cX5_load 0 = .ok (.aload_n 0, 1) := by decide +kernel
theorem dX5_load_1 : decode cX5_load 1 = .ok (.getfield 33, 3) := by decide +kernel
theorem dX5_load_4 : decode cX5_load 4 = .ok (.iload_n 1, 1) := by decide +kernel
theorem dX5_load_5 : decode cX5_load 5 = .ok (.invokevirtual 113, 3) := by decide +kernel
theorem dX5_load_8 : decode cX5_load 8 = .ok (.ifCond .ne 5, 3) := by decide +kernel
theorem dX5_load_11 : decode cX5_load 11 = .ok (.iconst (-1), 1) := by decide +kernel
