theorem dX10_clocks_78 : decode cX10_clocks 78 = .ok (.lreturn, 1) := by decide +kernel
theorem dX10_clocks_79 : decode cX10_clocks 79 = .ok (.iload 4, 2) := by decide +kernel
theorem dX10_clocks_81 : decode cX10_clocks 81 = .ok (.iconst 2, 1) := by decide +kernel
theorem dX10_clocks_82 : decode cX10_clocks 82 = .ok (.if_icmp .ge 27, 3) := by decide +kernel
theorem dX10_clocks_85 : decode cX10_clocks 85 = .ok (.iload_n 1, 1) := by decide +kernel
theorem dX10_clocks_86 : decode cX10_clocks 86 = .ok (.iload 6, 2) := by decide +kernel
theorem dX10_clocks_88 : decode cX10_clocks 88 = .ok (.imul, 1) := by decide +kernel
theorem dX10_clocks_89 : decode cX10_clocks 89 = .ok (.iload_n 2, 1) := by decide +kernel
theorem dX10_clocks_90 : decode cX10_clocks 90 = .ok (.iload 5, 2) := by decide +kernel
theorem dX10_clocks_92 : decode cX10_clocks 92 = .ok (.imul, 1) := by decide +kernel
theorem dX10_clocks_93 : decode cX10_clocks 93 = .ok (.iadd, 1) := by decide +kernel
theorem dX10_clocks_94 : decode cX10_clocks 94 = .ok (.i2l, 1) := by decide +kernel
theorem dX10_clocks_95 : decode cX10_clocks 95 = .ok (.iload 5, 2) := by decide +kernel
theorem dX10_clocks_97 : decode cX10_clocks 97 = .ok (.iload 6, 2) := by decide +kernel
theorem dX10_clocks_99 : decode cX10_clocks 99 = .ok (.iadd, 1) := by decide +kernel
theorem dX10_clocks_100 : decode cX10_clocks 100 = .ok (.i2l, 1) := by decide +kernel
theorem dX10_clocks_101 : decode cX10_clocks 101 = .ok (.iload 4, 2) := by decide +kernel
theorem dX10_clocks_103 : decode cX10_clocks 103 = .ok (.invokestatic 218, 3) := by decide +kernel
theorem dX10_clocks_106 : decode cX10_clocks 106 = .ok (.goto 22, 3) := by decide +kernel
theorem dX10_clocks_109 : decode cX10_clocks 109 = .ok (.iload 5, 2) := by decide +kernel
theorem dX10_clocks_111 : decode cX10_clocks 111 = .ok (.iload 6, 2) := by decide +kernel
theorem dX10_clocks_113 : decode cX10_clocks 113 = .ok (.imul, 1) := by decide +kernel
theorem dX10_clocks_114 : decode cX10_clocks 114 = .ok (.i2l, 1) := by decide +kernel
theorem dX10_clocks_115 : decode cX10_clocks 115 = .ok (.iload 5, 2) := by decide +kernel
theorem dX10_clocks_117 : decode cX10_clocks 117 = .ok (.iload 6, 2) := by decide +kernel
theorem dX10_clocks_119 : decode cX10_clocks 119 = .ok (.iadd, 1) := by decide +kernel
theorem dX10_clocks_120 : decode cX10_clocks 120 = .ok (.i2l, 1) := by decide +kernel
theorem dX10_clocks_121 : decode cX10_clocks 121 = .ok (.iload 4, 2) := by decide +kernel
theorem dX10_clocks_123 : decode cX10_clocks 123 = .ok (.iconst 2, 1) := by decide +kernel
theorem dX10_clocks_124 : decode cX10_clocks 124 = .ok (.isub, 1) := by decide +kernel
theorem dX10_clocks_125 : decode cX10_clocks 125 = .ok (.invokestatic 218, 3) := by decide +kernel
theorem dX10_clocks_128 : decode cX10_clocks 128 = .ok (.lreturn, 1) := by decide +kernel
theorem dX10_print_0 : decode cX10_print 0 = .ok (.iload_n 1, 1) := by decide +kernel
theorem dX10_print_1 : decode cX10_print 1 = .ok (.invokestatic 238, 3) := by decide +kernel
theorem dX10_print_4 : decode cX10_print 4 = .ok (.ifCond .eq 31, 3) := by decide +kernel
theorem dX10_print_7 : decode cX10_print 7 = .ok (.iload_n 2, 1) := by decide +kernel
theorem dX10_print_8 : decode cX10_print 8 = .ok (.invokestatic 241, 3) := by decide +kernel
theorem dX10_print_11 : decode cX10_print 11 = .ok (.ifCond .eq 24, 3) := by decide +kernel
theorem dX10_print_14 : decode cX10_print 14 = .ok (.iload_n 3, 1) := by decide +kernel
theorem dX10_print_15 : decode cX10_print 15 = .ok (.iconst 0, 1) := by decide +kernel
theorem dX10_print_16 : decode cX10_print 16 = .ok (.bipush 60, 2) := by decide +kernel
theorem dX10_print_18 : decode cX10_print 18 = .ok (.invokestatic 53, 3) := by decide +kernel
theorem dX10_print_21 : decode cX10_print 21 = .ok (.ifCond .eq 14, 3) := by decide +kernel
theorem dX10_print_24 : decode cX10_print 24 = .ok (.iload 4, 2) := by decide +kernel
theorem dX10_print_26 : decode cX10_print 26 = .ok (.iconst 0, 1) := by decide +kernel
theorem dX10_print_27 : decode cX10_print 27 = .ok (.bipush 9, 2) := by decide +kernel
theorem dX10_print_29 : decode cX10_print 29 = .ok (.invokestatic 53, 3) := by decide +kernel
theorem dX10_print_32 : decode cX10_print 32 = .ok (.ifCond .ne 6, 3) := by decide +kernel
theorem dX10_print_35 : decode cX10_print 35 = .ok (.bipush (-2), 2) := by decide +kernel
theorem dX10_print_37 : decode cX10_print 37 = .ok (.ireturn, 1) := by decide +kernel
theorem dX10_print_38 : decode cX10_print 38 = .ok (.aload_n 0, 1) := by decide +kernel
theorem dX10_print_39 : decode cX10_print 39 = .ok (.getfield 26, 3) := by decide +kernel
theorem dX10_print_42 : decode cX10_print 42 = .ok (.getfield 79, 3) := by decide +kernel
theorem dX10_print_45 : decode cX10_print 45 = .ok (.bipush 10, 2) := by decide +kernel
theorem dX10_print_47 : decode cX10_print 47 = .ok (.if_icmp .lt 8, 3) := by decide +kernel
theorem dX10_print_50 : decode cX10_print 50 = .ok (.bipush (-4), 2) := by decide +kernel
theorem dX10_print_52 : decode cX10_print 52 = .ok (.goto 15, 3) := by decide +kernel
theorem dX10_print_55 : decode cX10_print 55 = .ok (.aload_n 0, 1) := by decide +kernel
theorem dX10_print_56 : decode cX10_print 56 = .ok (.getfield 26, 3) := by decide +kernel
theorem dX10_print_59 : decode cX10_print 59 = .ok (.iload_n 1, 1) := by decide +kernel
theorem dX10_print_60 : decode cX10_print 60 = .ok (.iload_n 2, 1) := by decide +kernel
theorem dX10_print_61 : decode cX10_print 61 = .ok (.iload_n 3, 1) := by decide +kernel
theorem dX10_print_62 : decode cX10_print 62 = .ok (.iload 4, 2) := by decide +kernel
theorem dX10_print_64 : decode cX10_print 64 = .ok (.invokevirtual 244, 3) := by decide +kernel
theorem dX10_print_67 : decode cX10_print 67 = .ok (.ireturn, 1) := by decide +kernel
theorem dX10_printed_0 : decode cX10_printed 0 = .ok (.iload_n 1, 1) := by decide +kernel
theorem dX10_printed_1 : decode cX10_printed 1 = .ok (.iconst 0, 1) := by decide +kernel
theorem dX10_printed_2 : decode cX10_printed 2 = .ok (.aload_n 0, 1) := by decide +kernel
theorem dX10_printed_3 : decode cX10_printed 3 = .ok (.getfield 26, 3) := by decide +kernel
theorem dX10_printed_6 : decode cX10_printed 6 = .ok (.getfield 79, 3) := by decide +kernel
theorem dX10_printed_9 : decode cX10_printed 9 = .ok (.iconst 1, 1) := by decide +kernel
theorem dX10_printed_10 : decode cX10_printed 10 = .ok (.isub, 1) := by decide +kernel
theorem dX10_printed_11 : decode cX10_printed 11 = .ok (.invokestatic 53, 3) := by decide +kernel
theorem dX10_printed_14 : decode cX10_printed 14 = .ok (.ifCond .ne 6, 3) := by decide +kernel
theorem dX10_printed_17 : decode cX10_printed 17 = .ok (.bipush (-5), 2) := by decide +kernel
theorem dX10_printed_19 : decode cX10_printed 19 = .ok (.ireturn, 1) := by decide +kernel
theorem dX10_printed_20 : decode cX10_printed 20 = .ok (.iload_n 2, 1) := by decide +kernel
theorem dX10_printed_21 : decode cX10_printed 21 = .ok (.tableswitch 71 0 3 #[31, 41, 51, 61], 31) := by decide +kernel
theorem dX10_printed_52 : decode cX10_printed 52 = .ok (.aload_n 0, 1) := by decide +kernel
theorem dX10_printed_53 : decode cX10_printed 53 = .ok (.getfield 26, 3) := by decide +kernel
theorem dX10_printed_56 : decode cX10_printed 56 = .ok (.getfield 247, 3) := by decide +kernel
theorem dX10_printed_59 : decode cX10_printed 59 = .ok (.iload_n 1, 1) := by decide +kernel
theorem dX10_printed_60 : decode cX10_printed 60 = .ok (.iaload, 1) := by decide +kernel
theorem dX10_printed_61 : decode cX10_printed 61 = .ok (.ireturn, 1) := by decide +kernel
theorem dX10_printed_62 : decode cX10_printed 62 = .ok (.aload_n 0, 1) := by decide +kernel
theorem dX10_printed_63 : decode cX10_printed 63 = .ok (.getfield 26, 3) := by decide +kernel
theorem dX10_printed_66 : decode cX10_printed 66 = .ok (.getfield 250, 3) := by decide +kernel
theorem dX10_printed_69 : decode cX10_printed 69 = .ok (.iload_n 1, 1) := by decide +kernel
theorem dX10_printed_70 : decode cX10_printed 70 = .ok (.iaload, 1) := by decide +kernel
theorem dX10_printed_71 : decode cX10_printed 71 = .ok (.ireturn, 1) := by decide +kernel
theorem dX10_printed_72 : decode cX10_printed 72 = .ok (.aload_n 0, 1) := by decide +kernel
theorem dX10_printed_73 : decode cX10_printed 73 = .ok (.getfield 26, 3) := by decide +kernel
theorem dX10_printed_76 : decode cX10_printed 76 = .ok (.getfield 253, 3) := by decide +kernel
theorem dX10_printed_79 : decode cX10_printed 79 = .ok (.iload_n 1, 1) := by decide +kernel
theorem dX10_printed_80 : decode cX10_printed 80 = .ok (.iaload, 1) := by decide +kernel
theorem dX10_printed_81 : decode cX10_printed 81 = .ok (.ireturn, 1) := by decide +kernel
theorem dX10_printed_82 : decode cX10_printed 82 = .ok (.aload_n 0, 1) := by decide +kernel
theorem dX10_printed_83 : decode cX10_printed 83 = .ok (.getfield 26, 3) := by decide +kernel
theorem dX10_printed_86 : decode cX10_printed 86 = .ok (.getfield 256, 3) := by decide +kernel
theorem dX10_printed_89 : decode cX10_printed 89 = .ok (.iload_n 1, 1) := by decide +kernel
theorem dX10_printed_90 : decode cX10_printed 90 = .ok (.iaload, 1) := by decide +kernel
theorem dX10_printed_91 : decode cX10_printed 91 = .ok (.ireturn, 1) := by decide +kernel
theorem dX10_printed_92 : decode cX10_printed 92 = .ok (.bipush (-7), 2) := by decide +kernel
theorem dX10_printed_94 : decode cX10_printed 94 = .ok (.ireturn, 1) := by decide +kernel
theorem dX10_join_0 : decode cX10_join 0 = .ok (.iload_n 1, 1) := by decide +kernel
theorem dX10_join_1 : decode cX10_join 1 = .ok (.iconst 0, 1) := by decide +kernel
theorem dX10_join_2 : decode cX10_join 2 = .ok (.aload_n 0, 1) := by decide +kernel
theorem dX10_join_3 : decode cX10_join 3 = .ok (.getfield 26, 3) := by decide +kernel
theorem dX10_join_6 : decode cX10_join 6 = .ok (.getfield 79, 3) := by decide +kernel
theorem dX10_join_9 : decode cX10_join 9 = .ok (.iconst 1, 1) := by decide +kernel
theorem dX10_join_10 : decode cX10_join 10 = .ok (.isub, 1) := by decide +kernel
theorem dX10_join_11 : decode cX10_join 11 = .ok (.invokestatic 53, 3) := by decide +kernel
theorem dX10_join_14 : decode cX10_join 14 = .ok (.ifCond .eq 14, 3) := by decide +kernel
theorem dX10_join_17 : decode cX10_join 17 = .ok (.aload_n 0, 1) := by decide +kernel
theorem dX10_join_18 : decode cX10_join 18 = .ok (.getfield 26, 3) := by decide +kernel
theorem dX10_join_21 : decode cX10_join 21 = .ok (.iload_n 1, 1) := by decide +kernel
theorem dX10_join_22 : decode cX10_join 22 = .ok (.invokevirtual 259, 3) := by decide +kernel
theorem dX10_join_25 : decode cX10_join 25 = .ok (.goto 5, 3) := by decide +kernel
theorem dX10_join_28 : decode cX10_join 28 = .ok (.bipush (-5), 2) := by decide +kernel
theorem dX10_join_30 : decode cX10_join 30 = .ok (.ireturn, 1) := by decide +kernel
theorem dX10_met_0 : decode cX10_met 0 = .ok (.iload_n 1, 1) := by decide +kernel
theorem dX10_met_1 : decode cX10_met 1 = .ok (.invokestatic 238, 3) := by decide +kernel
theorem dX10_met_4 : decode cX10_met 4 = .ok (.ifCond .eq 14, 3) := by decide +kernel
theorem dX10_met_7 : decode cX10_met 7 = .ok (.aload_n 0, 1) := by decide +kernel
theorem dX10_met_8 : decode cX10_met 8 = .ok (.getfield 26, 3) := by decide +kernel
theorem dX10_met_11 : decode cX10_met 11 = .ok (.iload_n 1, 1) := by decide +kernel
theorem dX10_met_12 : decode cX10_met 12 = .ok (.invokevirtual 262, 3) := by decide +kernel
theorem dX10_met_15 : decode cX10_met 15 = .ok (.goto 5, 3) := by decide +kernel
theorem dX10_met_18 : decode cX10_met 18 = .ok (.bipush (-5), 2) := by decide +kernel
theorem dX10_met_20 : decode cX10_met 20 = .ok (.ireturn, 1) := by decide +kernel
theorem dX10_falseOnes_0 : decode cX10_falseOnes 0 = .ok (.iload_n 1, 1) := by decide +kernel
theorem dX10_falseOnes_1 : decode cX10_falseOnes 1 = .ok (.invokestatic 238, 3) := by decide +kernel
theorem dX10_falseOnes_4 : decode cX10_falseOnes 4 = .ok (.ifCond .ne 6, 3) := by decide +kernel
theorem dX10_falseOnes_7 : decode cX10_falseOnes 7 = .ok (.bipush (-5), 2) := by decide +kernel
theorem dX10_falseOnes_9 : decode cX10_falseOnes 9 = .ok (.ireturn, 1) := by decide +kernel
theorem dX10_falseOnes_10 : decode cX10_falseOnes 10 = .ok (.iload_n 2, 1) := by decide +kernel
theorem dX10_falseOnes_11 : decode cX10_falseOnes 11 = .ok (.invokestatic 265, 3) := by decide +kernel
theorem dX10_falseOnes_14 : decode cX10_falseOnes 14 = .ok (.ifCond .eq 15, 3) := by decide +kernel
theorem dX10_falseOnes_17 : decode cX10_falseOnes 17 = .ok (.aload_n 0, 1) := by decide +kernel
theorem dX10_falseOnes_18 : decode cX10_falseOnes 18 = .ok (.getfield 26, 3) := by decide +kernel
theorem dX10_falseOnes_21 : decode cX10_falseOnes 21 = .ok (.iload_n 1, 1) := by decide +kernel
theorem dX10_falseOnes_22 : decode cX10_falseOnes 22 = .ok (.iload_n 2, 1) := by decide +kernel
theorem dX10_falseOnes_23 : decode cX10_falseOnes 23 = .ok (.invokevirtual 268, 3) := by decide +kernel
theorem dX10_falseOnes_26 : decode cX10_falseOnes 26 = .ok (.goto 5, 3) := by decide +kernel
theorem dX10_falseOnes_29 : decode cX10_falseOnes 29 = .ok (.bipush (-7), 2) := by decide +kernel
theorem dX10_falseOnes_31 : decode cX10_falseOnes 31 = .ok (.ireturn, 1) := by decide +kernel
theorem dX10_there_0 : decode cX10_there 0 = .ok (.iload_n 1, 1) := by decide +kernel
theorem dX10_there_1 : decode cX10_there 1 = .ok (.invokestatic 238, 3) := by decide +kernel
theorem dX10_there_4 : decode cX10_there 4 = .ok (.ifCond .eq 17, 3) := by decide +kernel
theorem dX10_there_7 : decode cX10_there 7 = .ok (.iload_n 2, 1) := by decide +kernel
theorem dX10_there_8 : decode cX10_there 8 = .ok (.invokestatic 265, 3) := by decide +kernel
theorem dX10_there_11 : decode cX10_there 11 = .ok (.ifCond .eq 10, 3) := by decide +kernel
theorem dX10_there_14 : decode cX10_there 14 = .ok (.iload_n 3, 1) := by decide +kernel
theorem dX10_there_15 : decode cX10_there 15 = .ok (.invokestatic 241, 3) := by decide +kernel
theorem dX10_there_18 : decode cX10_there 18 = .ok (.ifCond .ne 7, 3) := by decide +kernel
theorem dX10_there_21 : decode cX10_there 21 = .ok (.ldc2_w 156, 3) := by decide +kernel
theorem dX10_there_24 : decode cX10_there 24 = .ok (.lreturn, 1) := by decide +kernel
theorem dX10_there_25 : decode cX10_there 25 = .ok (.aload_n 0, 1) := by decide +kernel
theorem dX10_there_26 : decode cX10_there 26 = .ok (.getfield 26, 3) := by decide +kernel
theorem dX10_there_29 : decode cX10_there 29 = .ok (.iload_n 1, 1) := by decide +kernel
theorem dX10_there_30 : decode cX10_there 30 = .ok (.iload_n 2, 1) := by decide +kernel
theorem dX10_there_31 : decode cX10_there 31 = .ok (.iload_n 3, 1) := by decide +kernel
theorem dX10_there_32 : decode cX10_there 32 = .ok (.invokevirtual 271, 3) := by decide +kernel
theorem dX10_there_35 : decode cX10_there 35 = .ok (.lreturn, 1) := by decide +kernel
theorem dX10_last_0 : decode cX10_last 0 = .ok (.iload_n 1, 1) := by decide +kernel
theorem dX10_last_1 : decode cX10_last 1 = .ok (.invokestatic 238, 3) := by decide +kernel
theorem dX10_last_4 : decode cX10_last 4 = .ok (.ifCond .ne 6, 3) := by decide +kernel
theorem dX10_last_7 : decode cX10_last 7 = .ok (.bipush (-5), 2) := by decide +kernel
theorem dX10_last_9 : decode cX10_last 9 = .ok (.ireturn, 1) := by decide +kernel
theorem dX10_last_10 : decode cX10_last 10 = .ok (.iload_n 2, 1) := by decide +kernel
theorem dX10_last_11 : decode cX10_last 11 = .ok (.invokestatic 265, 3) := by decide +kernel
theorem dX10_last_14 : decode cX10_last 14 = .ok (.ifCond .eq 12, 3) := by decide +kernel
theorem dX10_last_17 : decode cX10_last 17 = .ok (.iload_n 3, 1) := by decide +kernel
theorem dX10_last_18 : decode cX10_last 18 = .ok (.iconst 0, 1) := by decide +kernel
theorem dX10_last_19 : decode cX10_last 19 = .ok (.iconst 1, 1) := by decide +kernel
theorem dX10_last_20 : decode cX10_last 20 = .ok (.invokestatic 53, 3) := by decide +kernel
theorem dX10_last_23 : decode cX10_last 23 = .ok (.ifCond .ne 6, 3) := by decide +kernel
theorem dX10_last_26 : decode cX10_last 26 = .ok (.bipush (-7), 2) := by decide +kernel
theorem dX10_last_28 : decode cX10_last 28 = .ok (.ireturn, 1) := by decide +kernel
theorem dX10_last_29 : decode cX10_last 29 = .ok (.aload_n 0, 1) := by decide +kernel
theorem dX10_last_30 : decode cX10_last 30 = .ok (.getfield 26, 3) := by decide +kernel
theorem dX10_last_33 : decode cX10_last 33 = .ok (.iload_n 1, 1) := by decide +kernel
theorem dX10_last_34 : decode cX10_last 34 = .ok (.iload_n 2, 1) := by decide +kernel
theorem dX10_last_35 : decode cX10_last 35 = .ok (.invokevirtual 275, 3) := by decide +kernel
theorem dX10_last_38 : decode cX10_last 38 = .ok (.istore 4, 2) := by decide +kernel
theorem dX10_last_40 : decode cX10_last 40 = .ok (.iload 4, 2) := by decide +kernel
theorem dX10_last_42 : decode cX10_last 42 = .ok (.ifCond .ge 5, 3) := by decide +kernel
theorem dX10_last_45 : decode cX10_last 45 = .ok (.iconst (-1), 1) := by decide +kernel
theorem dX10_last_46 : decode cX10_last 46 = .ok (.ireturn, 1) := by decide +kernel
theorem dX10_last_47 : decode cX10_last 47 = .ok (.iload_n 3, 1) := by decide +kernel
theorem dX10_last_48 : decode cX10_last 48 = .ok (.ifCond .ne 16, 3) := by decide +kernel
theorem dX10_last_51 : decode cX10_last 51 = .ok (.aload_n 0, 1) := by decide +kernel
theorem dX10_last_52 : decode cX10_last 52 = .ok (.getfield 26, 3) := by decide +kernel
theorem dX10_last_55 : decode cX10_last 55 = .ok (.getfield 250, 3) := by decide +kernel
theorem dX10_last_58 : decode cX10_last 58 = .ok (.iload 4, 2) := by decide +kernel
theorem dX10_last_60 : decode cX10_last 60 = .ok (.iaload, 1) := by decide +kernel
theorem dX10_last_61 : decode cX10_last 61 = .ok (.goto 13, 3) := by decide +kernel
theorem dX10_last_64 : decode cX10_last 64 = .ok (.aload_n 0, 1) := by decide +kernel
theorem dX10_last_65 : decode cX10_last 65 = .ok (.getfield 26, 3) := by decide +kernel
theorem dX10_last_68 : decode cX10_last 68 = .ok (.getfield 253, 3) := by decide +kernel
theorem dX10_last_71 : decode cX10_last 71 = .ok (.iload 4, 2) := by decide +kernel
theorem dX10_last_73 : decode cX10_last 73 = .ok (.iaload, 1) := by decide +kernel
theorem dX10_last_74 : decode cX10_last 74 = .ok (.ireturn, 1) := by decide +kernel
theorem dX10_cellOdds_0 : decode cX10_cellOdds 0 = .ok (.iload_n 2, 1) := by decide +kernel
theorem dX10_cellOdds_1 : decode cX10_cellOdds 1 = .ok (.sipush 1000, 3) := by decide +kernel
theorem dX10_cellOdds_4 : decode cX10_cellOdds 4 = .ok (.idiv, 1) := by decide +kernel
theorem dX10_cellOdds_5 : decode cX10_cellOdds 5 = .ok (.istore 7, 2) := by decide +kernel
theorem dX10_cellOdds_7 : decode cX10_cellOdds 7 = .ok (.iload_n 2, 1) := by decide +kernel
theorem dX10_cellOdds_8 : decode cX10_cellOdds 8 = .ok (.sipush 1000, 3) := by decide +kernel
theorem dX10_cellOdds_11 : decode cX10_cellOdds 11 = .ok (.irem, 1) := by decide +kernel
theorem dX10_cellOdds_12 : decode cX10_cellOdds 12 = .ok (.istore 8, 2) := by decide +kernel
theorem dX10_cellOdds_14 : decode cX10_cellOdds 14 = .ok (.iload_n 1, 1) := by decide +kernel
theorem dX10_cellOdds_15 : decode cX10_cellOdds 15 = .ok (.invokestatic 238, 3) := by decide +kernel
theorem dX10_cellOdds_18 : decode cX10_cellOdds 18 = .ok (.ifCond .eq 23, 3) := by decide +kernel
theorem dX10_cellOdds_21 : decode cX10_cellOdds 21 = .ok (.iload_n 2, 1) := by decide +kernel
theorem dX10_cellOdds_22 : decode cX10_cellOdds 22 = .ok (.ifCond .lt 19, 3) := by decide +kernel
theorem dX10_cellOdds_25 : decode cX10_cellOdds 25 = .ok (.iload 7, 2) := by decide +kernel
theorem dX10_cellOdds_27 : decode cX10_cellOdds 27 = .ok (.invokestatic 265, 3) := by decide +kernel
theorem dX10_cellOdds_30 : decode cX10_cellOdds 30 = .ok (.ifCond .eq 11, 3) := by decide +kernel
theorem dX10_cellOdds_33 : decode cX10_cellOdds 33 = .ok (.iload 8, 2) := by decide +kernel
theorem dX10_cellOdds_35 : decode cX10_cellOdds 35 = .ok (.invokestatic 241, 3) := by decide +kernel
theorem dX10_cellOdds_38 : decode cX10_cellOdds 38 = .ok (.ifCond .ne 7, 3) := by decide +kernel
theorem dX10_cellOdds_41 : decode cX10_cellOdds 41 = .ok (.ldc2_w 156, 3) := by decide +kernel
theorem dX10_cellOdds_44 : decode cX10_cellOdds 44 = .ok (.lreturn, 1) := by decide +kernel
theorem dX10_cellOdds_45 : decode cX10_cellOdds 45 = .ok (.iload_n 3, 1) := by decide +kernel
theorem dX10_cellOdds_46 : decode cX10_cellOdds 46 = .ok (.iconst 0, 1) := by decide +kernel
theorem dX10_cellOdds_47 : decode cX10_cellOdds 47 = .ok (.bipush 60, 2) := by decide +kernel
theorem dX10_cellOdds_49 : decode cX10_cellOdds 49 = .ok (.invokestatic 53, 3) := by decide +kernel
theorem dX10_cellOdds_52 : decode cX10_cellOdds 52 = .ok (.ifCond .eq 13, 3) := by decide +kernel
theorem dX10_cellOdds_55 : decode cX10_cellOdds 55 = .ok (.iload 6, 2) := by decide +kernel
theorem dX10_cellOdds_57 : decode cX10_cellOdds 57 = .ok (.iconst 0, 1) := by decide +kernel
theorem dX10_cellOdds_58 : decode cX10_cellOdds 58 = .ok (.iconst 1, 1) := by decide +kernel
theorem dX10_cellOdds_59 : decode cX10_cellOdds 59 = .ok (.invokestatic 53, 3) := by decide +kernel
theorem dX10_cellOdds_62 : decode cX10_cellOdds 62 = .ok (.ifCond .ne 7, 3) := by decide +kernel
theorem dX10_cellOdds_65 : decode cX10_cellOdds 65 = .ok (.ldc2_w 156, 3) := by decide +kernel
theorem dX10_cellOdds_68 : decode cX10_cellOdds 68 = .ok (.lreturn, 1) := by decide +kernel
theorem dX10_cellOdds_69 : decode cX10_cellOdds 69 = .ok (.aload_n 0, 1) := by decide +kernel
theorem dX10_cellOdds_70 : decode cX10_cellOdds 70 = .ok (.getfield 26, 3) := by decide +kernel
theorem dX10_cellOdds_73 : decode cX10_cellOdds 73 = .ok (.iload_n 1, 1) := by decide +kernel
theorem dX10_cellOdds_74 : decode cX10_cellOdds 74 = .ok (.iload 7, 2) := by decide +kernel
theorem dX10_cellOdds_76 : decode cX10_cellOdds 76 = .ok (.iload 8, 2) := by decide +kernel
theorem dX10_cellOdds_78 : decode cX10_cellOdds 78 = .ok (.invokevirtual 271, 3) := by decide +kernel
theorem dX10_cellOdds_81 : decode cX10_cellOdds 81 = .ok (.lload 4, 2) := by decide +kernel
theorem dX10_cellOdds_83 : decode cX10_cellOdds 83 = .ok (.ldc2_w 198, 3) := by decide +kernel
theorem dX10_cellOdds_86 : decode cX10_cellOdds 86 = .ok (.lxor, 1) := by decide +kernel
theorem dX10_cellOdds_87 : decode cX10_cellOdds 87 = .ok (.land, 1) := by decide +kernel
theorem dX10_cellOdds_88 : decode cX10_cellOdds 88 = .ok (.lstore 9, 2) := by decide +kernel
theorem dX10_cellOdds_90 : decode cX10_cellOdds 90 = .ok (.lload 9, 2) := by decide +kernel
theorem dX10_cellOdds_92 : decode cX10_cellOdds 92 = .ok (.iload_n 3, 1) := by decide +kernel
theorem dX10_cellOdds_93 : decode cX10_cellOdds 93 = .ok (.lushr, 1) := by decide +kernel
theorem dX10_cellOdds_94 : decode cX10_cellOdds 94 = .ok (.lconst 1, 1) := by decide +kernel
theorem dX10_cellOdds_95 : decode cX10_cellOdds 95 = .ok (.land, 1) := by decide +kernel
theorem dX10_cellOdds_96 : decode cX10_cellOdds 96 = .ok (.lload 9, 2) := by decide +kernel
theorem dX10_cellOdds_98 : decode cX10_cellOdds 98 = .ok (.invokestatic 278, 3) := by decide +kernel
theorem dX10_cellOdds_101 : decode cX10_cellOdds 101 = .ok (.i2l, 1) := by decide +kernel
theorem dX10_cellOdds_102 : decode cX10_cellOdds 102 = .ok (.iload 6, 2) := by decide +kernel
theorem dX10_cellOdds_104 : decode cX10_cellOdds 104 = .ok (.invokestatic 218, 3) := by decide +kernel
theorem dX10_cellOdds_107 : decode cX10_cellOdds 107 = .ok (.lreturn, 1) := by decide +kernel
theorem dX10_meet_0 : decode cX10_meet 0 = .ok (.iload_n 1, 1) := by decide +kernel
theorem dX10_meet_1 : decode cX10_meet 1 = .ok (.invokestatic 241, 3) := by decide +kernel
theorem dX10_meet_4 : decode cX10_meet 4 = .ok (.ifCond .eq 22, 3) := by decide +kernel
theorem dX10_meet_7 : decode cX10_meet 7 = .ok (.iload_n 2, 1) := by decide +kernel
theorem dX10_meet_8 : decode cX10_meet 8 = .ok (.invokestatic 238, 3) := by decide +kernel
theorem dX10_meet_11 : decode cX10_meet 11 = .ok (.ifCond .eq 15, 3) := by decide +kernel
theorem dX10_meet_14 : decode cX10_meet 14 = .ok (.iload_n 3, 1) := by decide +kernel
theorem dX10_meet_15 : decode cX10_meet 15 = .ok (.invokestatic 238, 3) := by decide +kernel
theorem dX10_meet_18 : decode cX10_meet 18 = .ok (.ifCond .eq 8, 3) := by decide +kernel
theorem dX10_meet_21 : decode cX10_meet 21 = .ok (.iload_n 2, 1) := by decide +kernel
theorem dX10_meet_22 : decode cX10_meet 22 = .ok (.iload_n 3, 1) := by decide +kernel
theorem dX10_meet_23 : decode cX10_meet 23 = .ok (.if_icmp .ne 6, 3) := by decide +kernel
theorem dX10_meet_26 : decode cX10_meet 26 = .ok (.bipush (-2), 2) := by decide +kernel
theorem dX10_meet_28 : decode cX10_meet 28 = .ok (.ireturn, 1) := by decide +kernel
theorem dX10_meet_29 : decode cX10_meet 29 = .ok (.iload_n 1, 1) := by decide +kernel
theorem dX10_meet_30 : decode cX10_meet 30 = .ok (.aload_n 0, 1) := by decide +kernel
theorem dX10_meet_31 : decode cX10_meet 31 = .ok (.getfield 33, 3) := by decide +kernel
theorem dX10_meet_34 : decode cX10_meet 34 = .ok (.invokevirtual 284, 3) := by decide +kernel
theorem dX10_meet_37 : decode cX10_meet 37 = .ok (.if_icmp .ge 6, 3) := by decide +kernel
theorem dX10_meet_40 : decode cX10_meet 40 = .ok (.bipush (-3), 2) := by decide +kernel
theorem dX10_meet_42 : decode cX10_meet 42 = .ok (.ireturn, 1) := by decide +kernel
theorem dX10_meet_43 : decode cX10_meet 43 = .ok (.aload_n 0, 1) := by decide +kernel
theorem dX10_meet_44 : decode cX10_meet 44 = .ok (.getfield 33, 3) := by decide +kernel
theorem dX10_meet_47 : decode cX10_meet 47 = .ok (.getfield 80, 3) := by decide +kernel
theorem dX10_meet_50 : decode cX10_meet 50 = .ok (.bipush 24, 2) := by decide +kernel
theorem dX10_meet_52 : decode cX10_meet 52 = .ok (.if_icmp .lt 8, 3) := by decide +kernel
theorem dX10_meet_55 : decode cX10_meet 55 = .ok (.bipush (-4), 2) := by decide +kernel
theorem dX10_meet_57 : decode cX10_meet 57 = .ok (.goto 13, 3) := by decide +kernel
theorem dX10_meet_60 : decode cX10_meet 60 = .ok (.aload_n 0, 1) := by decide +kernel
theorem dX10_meet_61 : decode cX10_meet 61 = .ok (.getfield 33, 3) := by decide +kernel
theorem dX10_meet_64 : decode cX10_meet 64 = .ok (.iload_n 1, 1) := by decide +kernel
theorem dX10_meet_65 : decode cX10_meet 65 = .ok (.iload_n 2, 1) := by decide +kernel
theorem dX10_meet_66 : decode cX10_meet 66 = .ok (.iload_n 3, 1) := by decide +kernel
theorem dX10_meet_67 : decode cX10_meet 67 = .ok (.invokevirtual 287, 3) := by decide +kernel
theorem dX10_meet_70 : decode cX10_meet 70 = .ok (.ireturn, 1) := by decide +kernel
theorem dX10_news_0 : decode cX10_news 0 = .ok (.iload_n 1, 1) := by decide +kernel
theorem dX10_news_1 : decode cX10_news 1 = .ok (.invokestatic 238, 3) := by decide +kernel
theorem dX10_news_4 : decode cX10_news 4 = .ok (.ifCond .eq 10, 3) := by decide +kernel
theorem dX10_news_7 : decode cX10_news 7 = .ok (.iload_n 3, 1) := by decide +kernel
theorem dX10_news_8 : decode cX10_news 8 = .ok (.invokestatic 238, 3) := by decide +kernel
theorem dX10_news_11 : decode cX10_news 11 = .ok (.ifCond .ne 6, 3) := by decide +kernel
theorem dX10_news_14 : decode cX10_news 14 = .ok (.bipush (-5), 2) := by decide +kernel
theorem dX10_news_16 : decode cX10_news 16 = .ok (.ireturn, 1) := by decide +kernel
theorem dX10_news_17 : decode cX10_news 17 = .ok (.iload_n 2, 1) := by decide +kernel
theorem dX10_news_18 : decode cX10_news 18 = .ok (.invokestatic 241, 3) := by decide +kernel
theorem dX10_news_21 : decode cX10_news 21 = .ok (.ifCond .eq 17, 3) := by decide +kernel
theorem dX10_news_24 : decode cX10_news 24 = .ok (.aload_n 0, 1) := by decide +kernel
theorem dX10_news_25 : decode cX10_news 25 = .ok (.getfield 33, 3) := by decide +kernel
theorem dX10_news_28 : decode cX10_news 28 = .ok (.iload_n 1, 1) := by decide +kernel
theorem dX10_news_29 : decode cX10_news 29 = .ok (.iload_n 2, 1) := by decide +kernel
theorem dX10_news_30 : decode cX10_news 30 = .ok (.iload_n 3, 1) := by decide +kernel
theorem dX10_news_31 : decode cX10_news 31 = .ok (.iconst (-1), 1) := by decide +kernel
theorem dX10_news_32 : decode cX10_news 32 = .ok (.invokevirtual 288, 3) := by decide +kernel
theorem dX10_news_35 : decode cX10_news 35 = .ok (.goto 5, 3) := by decide +kernel
theorem dX10_news_38 : decode cX10_news 38 = .ok (.bipush (-7), 2) := by decide +kernel
theorem dX10_news_40 : decode cX10_news 40 = .ok (.ireturn, 1) := by decide +kernel
theorem dX10_peace_0 : decode cX10_peace 0 = .ok (.iload_n 1, 1) := by decide +kernel
theorem dX10_peace_1 : decode cX10_peace 1 = .ok (.invokestatic 238, 3) := by decide +kernel
theorem dX10_peace_4 : decode cX10_peace 4 = .ok (.ifCond .ne 6, 3) := by decide +kernel
theorem dX10_peace_7 : decode cX10_peace 7 = .ok (.bipush (-5), 2) := by decide +kernel
theorem dX10_peace_9 : decode cX10_peace 9 = .ok (.ireturn, 1) := by decide +kernel
theorem dX10_peace_10 : decode cX10_peace 10 = .ok (.iload_n 2, 1) := by decide +kernel
theorem dX10_peace_11 : decode cX10_peace 11 = .ok (.invokestatic 241, 3) := by decide +kernel
theorem dX10_peace_14 : decode cX10_peace 14 = .ok (.ifCond .eq 23, 3) := by decide +kernel
theorem dX10_peace_17 : decode cX10_peace 17 = .ok (.iload_n 3, 1) := by decide +kernel
theorem dX10_peace_18 : decode cX10_peace 18 = .ok (.invokestatic 241, 3) := by decide +kernel
theorem dX10_peace_21 : decode cX10_peace 21 = .ok (.ifCond .eq 16, 3) := by decide +kernel
theorem dX10_peace_24 : decode cX10_peace 24 = .ok (.aload_n 0, 1) := by decide +kernel
theorem dX10_peace_25 : decode cX10_peace 25 = .ok (.getfield 33, 3) := by decide +kernel
theorem dX10_peace_28 : decode cX10_peace 28 = .ok (.iload_n 1, 1) := by decide +kernel
theorem dX10_peace_29 : decode cX10_peace 29 = .ok (.iload_n 2, 1) := by decide +kernel
theorem dX10_peace_30 : decode cX10_peace 30 = .ok (.iload_n 3, 1) := by decide +kernel
theorem dX10_peace_31 : decode cX10_peace 31 = .ok (.invokevirtual 291, 3) := by decide +kernel
theorem dX10_peace_34 : decode cX10_peace 34 = .ok (.goto 5, 3) := by decide +kernel
theorem dX10_peace_37 : decode cX10_peace 37 = .ok (.bipush (-7), 2) := by decide +kernel
theorem dX10_peace_39 : decode cX10_peace 39 = .ok (.ireturn, 1) := by decide +kernel
theorem dX10_key_0 : decode cX10_key 0 = .ok (.iload_n 1, 1) := by decide +kernel
theorem dX10_key_1 : decode cX10_key 1 = .ok (.invokestatic 238, 3) := by decide +kernel
theorem dX10_key_4 : decode cX10_key 4 = .ok (.ifCond .eq 10, 3) := by decide +kernel
theorem dX10_key_7 : decode cX10_key 7 = .ok (.iload_n 3, 1) := by decide +kernel
theorem dX10_key_8 : decode cX10_key 8 = .ok (.invokestatic 238, 3) := by decide +kernel
theorem dX10_key_11 : decode cX10_key 11 = .ok (.ifCond .ne 6, 3) := by decide +kernel
theorem dX10_key_14 : decode cX10_key 14 = .ok (.bipush (-5), 2) := by decide +kernel
theorem dX10_key_16 : decode cX10_key 16 = .ok (.ireturn, 1) := by decide +kernel
theorem dX10_key_17 : decode cX10_key 17 = .ok (.iload_n 2, 1) := by decide +kernel
theorem dX10_key_18 : decode cX10_key 18 = .ok (.invokestatic 241, 3) := by decide +kernel
theorem dX10_key_21 : decode cX10_key 21 = .ok (.ifCond .eq 16, 3) := by decide +kernel
theorem dX10_key_24 : decode cX10_key 24 = .ok (.aload_n 0, 1) := by decide +kernel
theorem dX10_key_25 : decode cX10_key 25 = .ok (.getfield 33, 3) := by decide +kernel
theorem dX10_key_28 : decode cX10_key 28 = .ok (.iload_n 1, 1) := by decide +kernel
theorem dX10_key_29 : decode cX10_key 29 = .ok (.iload_n 2, 1) := by decide +kernel
theorem dX10_key_30 : decode cX10_key 30 = .ok (.iload_n 3, 1) := by decide +kernel
theorem dX10_key_31 : decode cX10_key 31 = .ok (.invokevirtual 294, 3) := by decide +kernel
theorem dX10_key_34 : decode cX10_key 34 = .ok (.goto 5, 3) := by decide +kernel
theorem dX10_key_37 : decode cX10_key 37 = .ok (.bipush (-7), 2) := by decide +kernel
theorem dX10_key_39 : decode cX10_key 39 = .ok (.ireturn, 1) := by decide +kernel
theorem dX10_drawn_0 : decode cX10_drawn 0 = .ok (.iload_n 1, 1) := by decide +kernel
theorem dX10_drawn_1 : decode cX10_drawn 1 = .ok (.iconst 0, 1) := by decide +kernel
theorem dX10_drawn_2 : decode cX10_drawn 2 = .ok (.ldc_w 297, 3) := by decide +kernel
theorem dX10_drawn_5 : decode cX10_drawn 5 = .ok (.invokestatic 53, 3) := by decide +kernel
theorem dX10_drawn_8 : decode cX10_drawn 8 = .ok (.ifCond .eq 12, 3) := by decide +kernel
theorem dX10_drawn_11 : decode cX10_drawn 11 = .ok (.iload_n 2, 1) := by decide +kernel
theorem dX10_drawn_12 : decode cX10_drawn 12 = .ok (.iconst 0, 1) := by decide +kernel
theorem dX10_drawn_13 : decode cX10_drawn 13 = .ok (.iconst 2, 1) := by decide +kernel
theorem dX10_drawn_14 : decode cX10_drawn 14 = .ok (.invokestatic 53, 3) := by decide +kernel
theorem dX10_drawn_17 : decode cX10_drawn 17 = .ok (.ifCond .ne 6, 3) := by decide +kernel
theorem dX10_drawn_20 : decode cX10_drawn 20 = .ok (.bipush (-2), 2) := by decide +kernel
theorem dX10_drawn_22 : decode cX10_drawn 22 = .ok (.ireturn, 1) := by decide +kernel
theorem dX10_drawn_23 : decode cX10_drawn 23 = .ok (.aload_n 0, 1) := by decide +kernel
theorem dX10_drawn_24 : decode cX10_drawn 24 = .ok (.getfield 10, 3) := by decide +kernel
theorem dX10_drawn_27 : decode cX10_drawn 27 = .ok (.iload_n 1, 1) := by decide +kernel
theorem dX10_drawn_28 : decode cX10_drawn 28 = .ok (.invokevirtual 298, 3) := by decide +kernel
theorem dX10_drawn_31 : decode cX10_drawn 31 = .ok (.istore_n 3, 1) := by decide +kernel
theorem dX10_drawn_32 : decode cX10_drawn 32 = .ok (.iload_n 2, 1) := by decide +kernel
theorem dX10_drawn_33 : decode cX10_drawn 33 = .ok (.iconst 1, 1) := by decide +kernel
theorem dX10_drawn_34 : decode cX10_drawn 34 = .ok (.if_icmp .ne 5, 3) := by decide +kernel
theorem dX10_drawn_37 : decode cX10_drawn 37 = .ok (.iload_n 3, 1) := by decide +kernel
theorem dX10_drawn_38 : decode cX10_drawn 38 = .ok (.ireturn, 1) := by decide +kernel
theorem dX10_drawn_39 : decode cX10_drawn 39 = .ok (.aload_n 0, 1) := by decide +kernel
theorem dX10_drawn_40 : decode cX10_drawn 40 = .ok (.getfield 10, 3) := by decide +kernel
theorem dX10_drawn_43 : decode cX10_drawn 43 = .ok (.iload_n 3, 1) := by decide +kernel
theorem dX10_drawn_44 : decode cX10_drawn 44 = .ok (.invokevirtual 301, 3) := by decide +kernel
theorem dX10_drawn_47 : decode cX10_drawn 47 = .ok (.istore 4, 2) := by decide +kernel
theorem dX10_drawn_49 : decode cX10_drawn 49 = .ok (.iload_n 2, 1) := by decide +kernel
theorem dX10_drawn_50 : decode cX10_drawn 50 = .ok (.ifCond .ne 8, 3) := by decide +kernel
theorem dX10_drawn_53 : decode cX10_drawn 53 = .ok (.iload 4, 2) := by decide +kernel
theorem dX10_drawn_55 : decode cX10_drawn 55 = .ok (.goto 15, 3) := by decide +kernel
theorem dX10_drawn_58 : decode cX10_drawn 58 = .ok (.aload_n 0, 1) := by decide +kernel
theorem dX10_drawn_59 : decode cX10_drawn 59 = .ok (.getfield 10, 3) := by decide +kernel
theorem dX10_drawn_62 : decode cX10_drawn 62 = .ok (.getfield 64, 3) := by decide +kernel
theorem dX10_drawn_65 : decode cX10_drawn 65 = .ok (.iload 4, 2) := by decide +kernel
theorem dX10_drawn_67 : decode cX10_drawn 67 = .ok (.invokevirtual 304, 3) := by decide +kernel
theorem dX10_drawn_70 : decode cX10_drawn 70 = .ok (.ireturn, 1) := by decide +kernel
theorem dX10_image_0 : decode cX10_image 0 = .ok (.aload_n 0, 1) := by decide +kernel
theorem dX10_image_1 : decode cX10_image 1 = .ok (.getfield 47, 3) := by decide +kernel
theorem dX10_image_4 : decode cX10_image 4 = .ok (.aload_n 0, 1) := by decide +kernel
theorem dX10_image_5 : decode cX10_image 5 = .ok (.getfield 10, 3) := by decide +kernel
theorem dX10_image_8 : decode cX10_image 8 = .ok (.getfield 64, 3) := by decide +kernel
theorem dX10_image_11 : decode cX10_image 11 = .ok (.aload_n 0, 1) := by decide +kernel
theorem dX10_image_12 : decode cX10_image 12 = .ok (.getfield 19, 3) := by decide +kernel
theorem dX10_image_15 : decode cX10_image 15 = .ok (.invokevirtual 307, 3) := by decide +kernel
theorem dX10_image_18 : decode cX10_image 18 = .ok (.aload_n 0, 1) := by decide +kernel
theorem dX10_image_19 : decode cX10_image 19 = .ok (.getfield 10, 3) := by decide +kernel
theorem dX10_image_22 : decode cX10_image 22 = .ok (.getfield 74, 3) := by decide +kernel
theorem dX10_image_25 : decode cX10_image 25 = .ok (.ireturn, 1) := by decide +kernel
theorem dX10_back_0 : decode cX10_back 0 = .ok (.aload_n 0, 1) := by decide +kernel
theorem dX10_back_1 : decode cX10_back 1 = .ok (.getfield 47, 3) := by decide +kernel
theorem dX10_back_4 : decode cX10_back 4 = .ok (.getfield 311, 3) := by decide +kernel
theorem dX10_back_7 : decode cX10_back 7 = .ok (.ifCond .ne 6, 3) := by decide +kernel
theorem dX10_back_10 : decode cX10_back 10 = .ok (.bipush (-3), 2) := by decide +kernel
theorem dX10_back_12 : decode cX10_back 12 = .ok (.ireturn, 1) := by decide +kernel
theorem dX10_back_13 : decode cX10_back 13 = .ok (.aload_n 0, 1) := by decide +kernel
theorem dX10_back_14 : decode cX10_back 14 = .ok (.getfield 47, 3) := by decide +kernel
theorem dX10_back_17 : decode cX10_back 17 = .ok (.aload_n 0, 1) := by decide +kernel
theorem dX10_back_18 : decode cX10_back 18 = .ok (.getfield 10, 3) := by decide +kernel
theorem dX10_back_21 : decode cX10_back 21 = .ok (.getfield 64, 3) := by decide +kernel
theorem dX10_back_24 : decode cX10_back 24 = .ok (.aload_n 0, 1) := by decide +kernel
theorem dX10_back_25 : decode cX10_back 25 = .ok (.getfield 19, 3) := by decide +kernel
theorem dX10_back_28 : decode cX10_back 28 = .ok (.invokevirtual 315, 3) := by decide +kernel
theorem dX10_back_31 : decode cX10_back 31 = .ok (.aload_n 0, 1) := by decide +kernel
theorem dX10_back_32 : decode cX10_back 32 = .ok (.getfield 10, 3) := by decide +kernel
theorem dX10_back_35 : decode cX10_back 35 = .ok (.getfield 74, 3) := by decide +kernel
theorem dX10_back_38 : decode cX10_back 38 = .ok (.ireturn, 1) := by decide +kernel
theorem dX10_sheet_0 : decode cX10_sheet 0 = .ok (.iload_n 1, 1) := by decide +kernel
theorem dX10_sheet_1 : decode cX10_sheet 1 = .ok (.iconst 0, 1) := by decide +kernel
theorem dX10_sheet_2 : decode cX10_sheet 2 = .ok (.iconst 3, 1) := by decide +kernel
theorem dX10_sheet_3 : decode cX10_sheet 3 = .ok (.invokestatic 53, 3) := by decide +kernel
theorem dX10_sheet_6 : decode cX10_sheet 6 = .ok (.ifCond .eq 12, 3) := by decide +kernel
theorem dX10_sheet_9 : decode cX10_sheet 9 = .ok (.iload_n 2, 1) := by decide +kernel
theorem dX10_sheet_10 : decode cX10_sheet 10 = .ok (.iconst (-1), 1) := by decide +kernel
theorem dX10_sheet_11 : decode cX10_sheet 11 = .ok (.iconst 2, 1) := by decide +kernel
theorem dX10_sheet_12 : decode cX10_sheet 12 = .ok (.invokestatic 53, 3) := by decide +kernel
theorem dX10_sheet_15 : decode cX10_sheet 15 = .ok (.ifCond .ne 6, 3) := by decide +kernel
theorem dX10_sheet_18 : decode cX10_sheet 18 = .ok (.bipush (-2), 2) := by decide +kernel
theorem dX10_sheet_20 : decode cX10_sheet 20 = .ok (.ireturn, 1) := by decide +kernel
theorem dX10_sheet_21 : decode cX10_sheet 21 = .ok (.iload_n 2, 1) := by decide +kernel
theorem dX10_sheet_22 : decode cX10_sheet 22 = .ok (.iconst (-1), 1) := by decide +kernel
theorem dX10_sheet_23 : decode cX10_sheet 23 = .ok (.if_icmp .ne 14, 3) := by decide +kernel
theorem dX10_sheet_26 : decode cX10_sheet 26 = .ok (.aload_n 0, 1) := by decide +kernel
theorem dX10_sheet_27 : decode cX10_sheet 27 = .ok (.getfield 40, 3) := by decide +kernel
theorem dX10_sheet_30 : decode cX10_sheet 30 = .ok (.iload_n 1, 1) := by decide +kernel
theorem dX10_sheet_31 : decode cX10_sheet 31 = .ok (.iload_n 2, 1) := by decide +kernel
theorem dX10_sheet_32 : decode cX10_sheet 32 = .ok (.iconst 0, 1) := by decide +kernel
theorem dX10_sheet_33 : decode cX10_sheet 33 = .ok (.invokevirtual 318, 3) := by decide +kernel
theorem dX10_sheet_36 : decode cX10_sheet 36 = .ok (.ireturn, 1) := by decide +kernel
theorem dX10_sheet_37 : decode cX10_sheet 37 = .ok (.iload_n 3, 1) := by decide +kernel
theorem dX10_sheet_38 : decode cX10_sheet 38 = .ok (.bipush 40, 2) := by decide +kernel
theorem dX10_sheet_40 : decode cX10_sheet 40 = .ok (.if_icmp .le 6, 3) := by decide +kernel
theorem dX10_sheet_43 : decode cX10_sheet 43 = .ok (.bipush (-2), 2) := by decide +kernel
theorem dX10_sheet_45 : decode cX10_sheet 45 = .ok (.ireturn, 1) := by decide +kernel
theorem dX10_sheet_46 : decode cX10_sheet 46 = .ok (.iload_n 3, 1) := by decide +kernel
theorem dX10_sheet_47 : decode cX10_sheet 47 = .ok (.ifCond .ge 8, 3) := by decide +kernel
theorem dX10_sheet_50 : decode cX10_sheet 50 = .ok (.bipush (-14), 2) := by decide +kernel
theorem dX10_sheet_52 : decode cX10_sheet 52 = .ok (.goto 13, 3) := by decide +kernel
theorem dX10_sheet_55 : decode cX10_sheet 55 = .ok (.aload_n 0, 1) := by decide +kernel
theorem dX10_sheet_56 : decode cX10_sheet 56 = .ok (.getfield 40, 3) := by decide +kernel
theorem dX10_sheet_59 : decode cX10_sheet 59 = .ok (.iload_n 1, 1) := by decide +kernel
theorem dX10_sheet_60 : decode cX10_sheet 60 = .ok (.iload_n 2, 1) := by decide +kernel
theorem dX10_sheet_61 : decode cX10_sheet 61 = .ok (.iload_n 3, 1) := by decide +kernel
theorem dX10_sheet_62 : decode cX10_sheet 62 = .ok (.invokevirtual 318, 3) := by decide +kernel
theorem dX10_sheet_65 : decode cX10_sheet 65 = .ok (.ireturn, 1) := by decide +kernel
theorem dX10_cell_0 : decode cX10_cell 0 = .ok (.iload_n 1, 1) := by decide +kernel
theorem dX10_cell_1 : decode cX10_cell 1 = .ok (.iconst 0, 1) := by decide +kernel
theorem dX10_cell_2 : decode cX10_cell 2 = .ok (.iconst 3, 1) := by decide +kernel
theorem dX10_cell_3 : decode cX10_cell 3 = .ok (.invokestatic 53, 3) := by decide +kernel
theorem dX10_cell_6 : decode cX10_cell 6 = .ok (.ifCond .ne 6, 3) := by decide +kernel
theorem dX10_cell_9 : decode cX10_cell 9 = .ok (.bipush (-2), 2) := by decide +kernel
theorem dX10_cell_11 : decode cX10_cell 11 = .ok (.ireturn, 1) := by decide +kernel
theorem dX10_cell_12 : decode cX10_cell 12 = .ok (.aload_n 0, 1) := by decide +kernel
theorem dX10_cell_13 : decode cX10_cell 13 = .ok (.getfield 40, 3) := by decide +kernel
theorem dX10_cell_16 : decode cX10_cell 16 = .ok (.getfield 175, 3) := by decide +kernel
theorem dX10_cell_19 : decode cX10_cell 19 = .ok (.iload_n 1, 1) := by decide +kernel
theorem dX10_cell_20 : decode cX10_cell 20 = .ok (.iaload, 1) := by decide +kernel
theorem dX10_cell_21 : decode cX10_cell 21 = .ok (.iconst (-1), 1) := by decide +kernel
theorem dX10_cell_22 : decode cX10_cell 22 = .ok (.if_icmp .ne 6, 3) := by decide +kernel
theorem dX10_cell_25 : decode cX10_cell 25 = .ok (.bipush (-11), 2) := by decide +kernel
theorem dX10_cell_27 : decode cX10_cell 27 = .ok (.ireturn, 1) := by decide +kernel
theorem dX10_cell_28 : decode cX10_cell 28 = .ok (.iload_n 2, 1) := by decide +kernel
theorem dX10_cell_29 : decode cX10_cell 29 = .ok (.iconst 0, 1) := by decide +kernel
theorem dX10_cell_30 : decode cX10_cell 30 = .ok (.aload_n 0, 1) := by decide +kernel
theorem dX10_cell_31 : decode cX10_cell 31 = .ok (.getfield 40, 3) := by decide +kernel
theorem dX10_cell_34 : decode cX10_cell 34 = .ok (.getfield 182, 3) := by decide +kernel
theorem dX10_cell_37 : decode cX10_cell 37 = .ok (.iload_n 1, 1) := by decide +kernel
theorem dX10_cell_38 : decode cX10_cell 38 = .ok (.iaload, 1) := by decide +kernel
theorem dX10_cell_39 : decode cX10_cell 39 = .ok (.iconst 1, 1) := by decide +kernel
theorem dX10_cell_40 : decode cX10_cell 40 = .ok (.isub, 1) := by decide +kernel
theorem dX10_cell_41 : decode cX10_cell 41 = .ok (.invokestatic 53, 3) := by decide +kernel
theorem dX10_cell_44 : decode cX10_cell 44 = .ok (.ifCond .eq 16, 3) := by decide +kernel
theorem dX10_cell_47 : decode cX10_cell 47 = .ok (.aload_n 0, 1) := by decide +kernel
theorem dX10_cell_48 : decode cX10_cell 48 = .ok (.getfield 40, 3) := by decide +kernel
theorem dX10_cell_51 : decode cX10_cell 51 = .ok (.iload_n 1, 1) := by decide +kernel
theorem dX10_cell_52 : decode cX10_cell 52 = .ok (.iload_n 2, 1) := by decide +kernel
theorem dX10_cell_53 : decode cX10_cell 53 = .ok (.iload_n 3, 1) := by decide +kernel
theorem dX10_cell_54 : decode cX10_cell 54 = .ok (.invokevirtual 321, 3) := by decide +kernel
theorem dX10_cell_57 : decode cX10_cell 57 = .ok (.goto 5, 3) := by decide +kernel
theorem dX10_cell_60 : decode cX10_cell 60 = .ok (.bipush (-12), 2) := by decide +kernel
theorem dX10_cell_62 : decode cX10_cell 62 = .ok (.ireturn, 1) := by decide +kernel
theorem dX10_copy_0 : decode cX10_copy 0 = .ok (.iload_n 1, 1) := by decide +kernel
theorem dX10_copy_1 : decode cX10_copy 1 = .ok (.iconst 0, 1) := by decide +kernel
theorem dX10_copy_2 : decode cX10_copy 2 = .ok (.iconst 3, 1) := by decide +kernel
theorem dX10_copy_3 : decode cX10_copy 3 = .ok (.invokestatic 53, 3) := by decide +kernel
theorem dX10_copy_6 : decode cX10_copy 6 = .ok (.ifCond .eq 12, 3) := by decide +kernel
theorem dX10_copy_9 : decode cX10_copy 9 = .ok (.iload_n 3, 1) := by decide +kernel
theorem dX10_copy_10 : decode cX10_copy 10 = .ok (.iconst 0, 1) := by decide +kernel
theorem dX10_copy_11 : decode cX10_copy 11 = .ok (.iconst 3, 1) := by decide +kernel
theorem dX10_copy_12 : decode cX10_copy 12 = .ok (.invokestatic 53, 3) := by decide +kernel
theorem dX10_copy_15 : decode cX10_copy 15 = .ok (.ifCond .ne 6, 3) := by decide +kernel
theorem dX10_copy_18 : decode cX10_copy 18 = .ok (.bipush (-2), 2) := by decide +kernel
theorem dX10_copy_20 : decode cX10_copy 20 = .ok (.ireturn, 1) := by decide +kernel
theorem dX10_copy_21 : decode cX10_copy 21 = .ok (.aload_n 0, 1) := by decide +kernel
theorem dX10_copy_22 : decode cX10_copy 22 = .ok (.getfield 40, 3) := by decide +kernel
theorem dX10_copy_25 : decode cX10_copy 25 = .ok (.getfield 175, 3) := by decide +kernel
theorem dX10_copy_28 : decode cX10_copy 28 = .ok (.iload_n 1, 1) := by decide +kernel
theorem dX10_copy_29 : decode cX10_copy 29 = .ok (.iaload, 1) := by decide +kernel
theorem dX10_copy_30 : decode cX10_copy 30 = .ok (.iconst (-1), 1) := by decide +kernel
theorem dX10_copy_31 : decode cX10_copy 31 = .ok (.if_icmp .eq 16, 3) := by decide +kernel
theorem dX10_copy_34 : decode cX10_copy 34 = .ok (.aload_n 0, 1) := by decide +kernel
theorem dX10_copy_35 : decode cX10_copy 35 = .ok (.getfield 40, 3) := by decide +kernel
theorem dX10_copy_38 : decode cX10_copy 38 = .ok (.getfield 175, 3) := by decide +kernel
theorem dX10_copy_41 : decode cX10_copy 41 = .ok (.iload_n 3, 1) := by decide +kernel
theorem dX10_copy_42 : decode cX10_copy 42 = .ok (.iaload, 1) := by decide +kernel
theorem dX10_copy_43 : decode cX10_copy 43 = .ok (.iconst (-1), 1) := by decide +kernel
theorem dX10_copy_44 : decode cX10_copy 44 = .ok (.if_icmp .ne 6, 3) := by decide +kernel
theorem dX10_copy_47 : decode cX10_copy 47 = .ok (.bipush (-11), 2) := by decide +kernel
theorem dX10_copy_49 : decode cX10_copy 49 = .ok (.ireturn, 1) := by decide +kernel
theorem dX10_copy_50 : decode cX10_copy 50 = .ok (.aload_n 0, 1) := by decide +kernel
theorem dX10_copy_51 : decode cX10_copy 51 = .ok (.getfield 40, 3) := by decide +kernel
theorem dX10_copy_54 : decode cX10_copy 54 = .ok (.getfield 175, 3) := by decide +kernel
theorem dX10_copy_57 : decode cX10_copy 57 = .ok (.iload_n 1, 1) := by decide +kernel
theorem dX10_copy_58 : decode cX10_copy 58 = .ok (.iaload, 1) := by decide +kernel
theorem dX10_copy_59 : decode cX10_copy 59 = .ok (.aload_n 0, 1) := by decide +kernel
theorem dX10_copy_60 : decode cX10_copy 60 = .ok (.getfield 40, 3) := by decide +kernel
theorem dX10_copy_63 : decode cX10_copy 63 = .ok (.getfield 175, 3) := by decide +kernel
theorem dX10_copy_66 : decode cX10_copy 66 = .ok (.iload_n 3, 1) := by decide +kernel
theorem dX10_copy_67 : decode cX10_copy 67 = .ok (.iaload, 1) := by decide +kernel
theorem dX10_copy_68 : decode cX10_copy 68 = .ok (.if_icmp .eq 6, 3) := by decide +kernel
theorem dX10_copy_71 : decode cX10_copy 71 = .ok (.bipush (-13), 2) := by decide +kernel
theorem dX10_copy_73 : decode cX10_copy 73 = .ok (.ireturn, 1) := by decide +kernel
theorem dX10_copy_74 : decode cX10_copy 74 = .ok (.aload_n 0, 1) := by decide +kernel
theorem dX10_copy_75 : decode cX10_copy 75 = .ok (.getfield 40, 3) := by decide +kernel
theorem dX10_copy_78 : decode cX10_copy 78 = .ok (.iload_n 1, 1) := by decide +kernel
theorem dX10_copy_79 : decode cX10_copy 79 = .ok (.iload_n 2, 1) := by decide +kernel
theorem dX10_copy_80 : decode cX10_copy 80 = .ok (.iload 5, 2) := by decide +kernel
theorem dX10_copy_82 : decode cX10_copy 82 = .ok (.invokevirtual 324, 3) := by decide +kernel
theorem dX10_copy_85 : decode cX10_copy 85 = .ok (.ifCond .eq 18, 3) := by decide +kernel
theorem dX10_copy_88 : decode cX10_copy 88 = .ok (.aload_n 0, 1) := by decide +kernel
theorem dX10_copy_89 : decode cX10_copy 89 = .ok (.getfield 40, 3) := by decide +kernel
theorem dX10_copy_92 : decode cX10_copy 92 = .ok (.iload_n 3, 1) := by decide +kernel
theorem dX10_copy_93 : decode cX10_copy 93 = .ok (.iload 4, 2) := by decide +kernel
theorem dX10_copy_95 : decode cX10_copy 95 = .ok (.iload 5, 2) := by decide +kernel
theorem dX10_copy_97 : decode cX10_copy 97 = .ok (.invokevirtual 324, 3) := by decide +kernel
theorem dX10_copy_100 : decode cX10_copy 100 = .ok (.ifCond .ne 6, 3) := by decide +kernel
theorem dX10_copy_103 : decode cX10_copy 103 = .ok (.bipush (-12), 2) := by decide +kernel
theorem dX10_copy_105 : decode cX10_copy 105 = .ok (.ireturn, 1) := by decide +kernel
theorem dX10_copy_106 : decode cX10_copy 106 = .ok (.aload_n 0, 1) := by decide +kernel
theorem dX10_copy_107 : decode cX10_copy 107 = .ok (.getfield 40, 3) := by decide +kernel
theorem dX10_copy_110 : decode cX10_copy 110 = .ok (.getfield 178, 3) := by decide +kernel
theorem dX10_copy_113 : decode cX10_copy 113 = .ok (.iload_n 1, 1) := by decide +kernel
theorem dX10_copy_114 : decode cX10_copy 114 = .ok (.aaload, 1) := by decide +kernel
theorem dX10_copy_115 : decode cX10_copy 115 = .ok (.iload_n 2, 1) := by decide +kernel
theorem dX10_copy_116 : decode cX10_copy 116 = .ok (.aload_n 0, 1) := by decide +kernel
theorem dX10_copy_117 : decode cX10_copy 117 = .ok (.getfield 40, 3) := by decide +kernel
theorem dX10_copy_120 : decode cX10_copy 120 = .ok (.getfield 178, 3) := by decide +kernel
theorem dX10_copy_123 : decode cX10_copy 123 = .ok (.iload_n 3, 1) := by decide +kernel
theorem dX10_copy_124 : decode cX10_copy 124 = .ok (.aaload, 1) := by decide +kernel
theorem dX10_copy_125 : decode cX10_copy 125 = .ok (.iload 4, 2) := by decide +kernel
theorem dX10_copy_127 : decode cX10_copy 127 = .ok (.iload 5, 2) := by decide +kernel
theorem dX10_copy_129 : decode cX10_copy 129 = .ok (.invokestatic 327, 3) := by decide +kernel
theorem dX10_copy_132 : decode cX10_copy 132 = .ok (.iload 5, 2) := by decide +kernel
theorem dX10_copy_134 : decode cX10_copy 134 = .ok (.ireturn, 1) := by decide +kernel
theorem dX10_sayingsBy_0 : decode cX10_sayingsBy 0 = .ok (.iload_n 1, 1) := by decide +kernel
theorem dX10_sayingsBy_1 : decode cX10_sayingsBy 1 = .ok (.iconst 0, 1) := by decide +kernel
theorem dX10_sayingsBy_2 : decode cX10_sayingsBy 2 = .ok (.iconst 3, 1) := by decide +kernel
theorem dX10_sayingsBy_3 : decode cX10_sayingsBy 3 = .ok (.invokestatic 53, 3) := by decide +kernel
theorem dX10_sayingsBy_6 : decode cX10_sayingsBy 6 = .ok (.ifCond .eq 23, 3) := by decide +kernel
theorem dX10_sayingsBy_9 : decode cX10_sayingsBy 9 = .ok (.iload_n 2, 1) := by decide +kernel
theorem dX10_sayingsBy_10 : decode cX10_sayingsBy 10 = .ok (.iconst 0, 1) := by decide +kernel
theorem dX10_sayingsBy_11 : decode cX10_sayingsBy 11 = .ok (.iconst 2, 1) := by decide +kernel
theorem dX10_sayingsBy_12 : decode cX10_sayingsBy 12 = .ok (.invokestatic 53, 3) := by decide +kernel
theorem dX10_sayingsBy_15 : decode cX10_sayingsBy 15 = .ok (.ifCond .eq 14, 3) := by decide +kernel
theorem dX10_sayingsBy_18 : decode cX10_sayingsBy 18 = .ok (.iload 4, 2) := by decide +kernel
theorem dX10_sayingsBy_20 : decode cX10_sayingsBy 20 = .ok (.iconst 0, 1) := by decide +kernel
theorem dX10_sayingsBy_21 : decode cX10_sayingsBy 21 = .ok (.bipush 8, 2) := by decide +kernel
theorem dX10_sayingsBy_23 : decode cX10_sayingsBy 23 = .ok (.invokestatic 53, 3) := by decide +kernel
theorem dX10_sayingsBy_26 : decode cX10_sayingsBy 26 = .ok (.ifCond .ne 6, 3) := by decide +kernel
theorem dX10_sayingsBy_29 : decode cX10_sayingsBy 29 = .ok (.bipush (-2), 2) := by decide +kernel
theorem dX10_sayingsBy_31 : decode cX10_sayingsBy 31 = .ok (.ireturn, 1) := by decide +kernel
theorem dX10_sayingsBy_32 : decode cX10_sayingsBy 32 = .ok (.aload_n 0, 1) := by decide +kernel
theorem dX10_sayingsBy_33 : decode cX10_sayingsBy 33 = .ok (.getfield 40, 3) := by decide +kernel
theorem dX10_sayingsBy_36 : decode cX10_sayingsBy 36 = .ok (.getfield 175, 3) := by decide +kernel
theorem dX10_sayingsBy_39 : decode cX10_sayingsBy 39 = .ok (.iload_n 1, 1) := by decide +kernel
theorem dX10_sayingsBy_40 : decode cX10_sayingsBy 40 = .ok (.iaload, 1) := by decide +kernel
theorem dX10_sayingsBy_41 : decode cX10_sayingsBy 41 = .ok (.iconst (-1), 1) := by decide +kernel
theorem dX10_sayingsBy_42 : decode cX10_sayingsBy 42 = .ok (.if_icmp .ne 6, 3) := by decide +kernel
theorem dX10_sayingsBy_45 : decode cX10_sayingsBy 45 = .ok (.bipush (-11), 2) := by decide +kernel
theorem dX10_sayingsBy_47 : decode cX10_sayingsBy 47 = .ok (.ireturn, 1) := by decide +kernel
theorem dX10_sayingsBy_48 : decode cX10_sayingsBy 48 = .ok (.aload_n 0, 1) := by decide +kernel
theorem dX10_sayingsBy_49 : decode cX10_sayingsBy 49 = .ok (.getfield 40, 3) := by decide +kernel
theorem dX10_sayingsBy_52 : decode cX10_sayingsBy 52 = .ok (.getfield 175, 3) := by decide +kernel
theorem dX10_sayingsBy_55 : decode cX10_sayingsBy 55 = .ok (.iload_n 1, 1) := by decide +kernel
theorem dX10_sayingsBy_56 : decode cX10_sayingsBy 56 = .ok (.iaload, 1) := by decide +kernel
theorem dX10_sayingsBy_57 : decode cX10_sayingsBy 57 = .ok (.iload_n 2, 1) := by decide +kernel
theorem dX10_sayingsBy_58 : decode cX10_sayingsBy 58 = .ok (.if_icmp .eq 6, 3) := by decide +kernel
theorem dX10_sayingsBy_61 : decode cX10_sayingsBy 61 = .ok (.bipush (-13), 2) := by decide +kernel
theorem dX10_sayingsBy_63 : decode cX10_sayingsBy 63 = .ok (.ireturn, 1) := by decide +kernel
theorem dX10_sayingsBy_64 : decode cX10_sayingsBy 64 = .ok (.aload_n 0, 1) := by decide +kernel
theorem dX10_sayingsBy_65 : decode cX10_sayingsBy 65 = .ok (.getfield 40, 3) := by decide +kernel
theorem dX10_sayingsBy_68 : decode cX10_sayingsBy 68 = .ok (.getfield 178, 3) := by decide +kernel
theorem dX10_sayingsBy_71 : decode cX10_sayingsBy 71 = .ok (.iload_n 1, 1) := by decide +kernel
theorem dX10_sayingsBy_72 : decode cX10_sayingsBy 72 = .ok (.aaload, 1) := by decide +kernel
theorem dX10_sayingsBy_73 : decode cX10_sayingsBy 73 = .ok (.astore 5, 2) := by decide +kernel
theorem dX10_sayingsBy_75 : decode cX10_sayingsBy 75 = .ok (.iconst 0, 1) := by decide +kernel
theorem dX10_sayingsBy_76 : decode cX10_sayingsBy 76 = .ok (.istore 6, 2) := by decide +kernel
theorem dX10_sayingsBy_78 : decode cX10_sayingsBy 78 = .ok (.iconst 0, 1) := by decide +kernel
theorem dX10_sayingsBy_79 : decode cX10_sayingsBy 79 = .ok (.istore 7, 2) := by decide +kernel
theorem dX10_sayingsBy_81 : decode cX10_sayingsBy 81 = .ok (.iload 7, 2) := by decide +kernel
theorem dX10_sayingsBy_83 : decode cX10_sayingsBy 83 = .ok (.iload 4, 2) := by decide +kernel
theorem dX10_sayingsBy_85 : decode cX10_sayingsBy 85 = .ok (.if_icmp .ge 63, 3) := by decide +kernel
theorem dX10_sayingsBy_88 : decode cX10_sayingsBy 88 = .ok (.iload_n 3, 1) := by decide +kernel
theorem dX10_sayingsBy_89 : decode cX10_sayingsBy 89 = .ok (.iconst 3, 1) := by decide +kernel
theorem dX10_sayingsBy_90 : decode cX10_sayingsBy 90 = .ok (.iload 7, 2) := by decide +kernel
theorem dX10_sayingsBy_92 : decode cX10_sayingsBy 92 = .ok (.imul, 1) := by decide +kernel
theorem dX10_sayingsBy_93 : decode cX10_sayingsBy 93 = .ok (.iadd, 1) := by decide +kernel
theorem dX10_sayingsBy_94 : decode cX10_sayingsBy 94 = .ok (.istore 8, 2) := by decide +kernel
theorem dX10_sayingsBy_96 : decode cX10_sayingsBy 96 = .ok (.aload_n 0, 1) := by decide +kernel
theorem dX10_sayingsBy_97 : decode cX10_sayingsBy 97 = .ok (.getfield 40, 3) := by decide +kernel
theorem dX10_sayingsBy_100 : decode cX10_sayingsBy 100 = .ok (.iload_n 1, 1) := by decide +kernel
theorem dX10_sayingsBy_101 : decode cX10_sayingsBy 101 = .ok (.iload 8, 2) := by decide +kernel
theorem dX10_sayingsBy_103 : decode cX10_sayingsBy 103 = .ok (.iconst 3, 1) := by decide +kernel
theorem dX10_sayingsBy_104 : decode cX10_sayingsBy 104 = .ok (.invokevirtual 324, 3) := by decide +kernel
theorem dX10_sayingsBy_107 : decode cX10_sayingsBy 107 = .ok (.ifCond .ne 6, 3) := by decide +kernel
theorem dX10_sayingsBy_110 : decode cX10_sayingsBy 110 = .ok (.bipush (-12), 2) := by decide +kernel
theorem dX10_sayingsBy_112 : decode cX10_sayingsBy 112 = .ok (.ireturn, 1) := by decide +kernel
theorem dX10_sayingsBy_113 : decode cX10_sayingsBy 113 = .ok (.aload_n 0, 1) := by decide +kernel
theorem dX10_sayingsBy_114 : decode cX10_sayingsBy 114 = .ok (.aload 5, 2) := by decide +kernel
theorem dX10_sayingsBy_116 : decode cX10_sayingsBy 116 = .ok (.iload 8, 2) := by decide +kernel
theorem dX10_sayingsBy_118 : decode cX10_sayingsBy 118 = .ok (.iaload, 1) := by decide +kernel
theorem dX10_sayingsBy_119 : decode cX10_sayingsBy 119 = .ok (.aload 5, 2) := by decide +kernel
theorem dX10_sayingsBy_121 : decode cX10_sayingsBy 121 = .ok (.iload 8, 2) := by decide +kernel
theorem dX10_sayingsBy_123 : decode cX10_sayingsBy 123 = .ok (.iconst 1, 1) := by decide +kernel
theorem dX10_sayingsBy_124 : decode cX10_sayingsBy 124 = .ok (.iadd, 1) := by decide +kernel
theorem dX10_sayingsBy_125 : decode cX10_sayingsBy 125 = .ok (.iaload, 1) := by decide +kernel
theorem dX10_sayingsBy_126 : decode cX10_sayingsBy 126 = .ok (.aload 5, 2) := by decide +kernel
theorem dX10_sayingsBy_128 : decode cX10_sayingsBy 128 = .ok (.iload 8, 2) := by decide +kernel
theorem dX10_sayingsBy_130 : decode cX10_sayingsBy 130 = .ok (.iconst 2, 1) := by decide +kernel
theorem dX10_sayingsBy_131 : decode cX10_sayingsBy 131 = .ok (.iadd, 1) := by decide +kernel
theorem dX10_sayingsBy_132 : decode cX10_sayingsBy 132 = .ok (.iaload, 1) := by decide +kernel
theorem dX10_sayingsBy_133 : decode cX10_sayingsBy 133 = .ok (.invokevirtual 333, 3) := by decide +kernel
theorem dX10_sayingsBy_136 : decode cX10_sayingsBy 136 = .ok (.ifCond .lt 6, 3) := by decide +kernel
theorem dX10_sayingsBy_139 : decode cX10_sayingsBy 139 = .ok (.iinc 6 1, 3) := by decide +kernel
theorem dX10_sayingsBy_142 : decode cX10_sayingsBy 142 = .ok (.iinc 7 1, 3) := by decide +kernel
theorem dX10_sayingsBy_145 : decode cX10_sayingsBy 145 = .ok (.goto (-64), 3) := by decide +kernel
theorem dX10_sayingsBy_148 : decode cX10_sayingsBy 148 = .ok (.iload 6, 2) := by decide +kernel
theorem dX10_sayingsBy_150 : decode cX10_sayingsBy 150 = .ok (.ireturn, 1) := by decide +kernel
theorem dX10_taken_0 : decode cX10_taken 0 = .ok (.iload_n 2, 1) := by decide +kernel
theorem dX10_taken_1 : decode cX10_taken 1 = .ok (.iconst 0, 1) := by decide +kernel
theorem dX10_taken_2 : decode cX10_taken 2 = .ok (.bipush 6, 2) := by decide +kernel
theorem dX10_taken_4 : decode cX10_taken 4 = .ok (.invokestatic 53, 3) := by decide +kernel
theorem dX10_taken_7 : decode cX10_taken 7 = .ok (.ifCond .ne 6, 3) := by decide +kernel
theorem dX10_taken_10 : decode cX10_taken 10 = .ok (.bipush (-2), 2) := by decide +kernel
theorem dX10_taken_12 : decode cX10_taken 12 = .ok (.ireturn, 1) := by decide +kernel
theorem dX10_taken_13 : decode cX10_taken 13 = .ok (.iload_n 1, 1) := by decide +kernel
theorem dX10_taken_14 : decode cX10_taken 14 = .ok (.iconst 0, 1) := by decide +kernel
theorem dX10_taken_15 : decode cX10_taken 15 = .ok (.bipush 13, 2) := by decide +kernel
theorem dX10_taken_17 : decode cX10_taken 17 = .ok (.invokestatic 53, 3) := by decide +kernel
theorem dX10_taken_20 : decode cX10_taken 20 = .ok (.ifCond .ne 6, 3) := by decide +kernel
theorem dX10_taken_23 : decode cX10_taken 23 = .ok (.bipush (-12), 2) := by decide +kernel
theorem dX10_taken_25 : decode cX10_taken 25 = .ok (.ireturn, 1) := by decide +kernel
theorem dX10_taken_26 : decode cX10_taken 26 = .ok (.iload_n 1, 1) := by decide +kernel
theorem dX10_taken_27 : decode cX10_taken 27 = .ok (.bipush 6, 2) := by decide +kernel
theorem dX10_taken_29 : decode cX10_taken 29 = .ok (.if_icmp .ge 7, 3) := by decide +kernel
theorem dX10_taken_32 : decode cX10_taken 32 = .ok (.iconst 1, 1) := by decide +kernel
theorem dX10_taken_33 : decode cX10_taken 33 = .ok (.goto 4, 3) := by decide +kernel
theorem dX10_taken_36 : decode cX10_taken 36 = .ok (.iconst 0, 1) := by decide +kernel
theorem dX10_taken_37 : decode cX10_taken 37 = .ok (.istore_n 3, 1) := by decide +kernel
theorem dX10_taken_38 : decode cX10_taken 38 = .ok (.iload_n 3, 1) := by decide +kernel
theorem dX10_taken_39 : decode cX10_taken 39 = .ok (.ifCond .eq 7, 3) := by decide +kernel
theorem dX10_taken_42 : decode cX10_taken 42 = .ok (.iload_n 1, 1) := by decide +kernel
theorem dX10_taken_43 : decode cX10_taken 43 = .ok (.goto 7, 3) := by decide +kernel
theorem dX10_taken_46 : decode cX10_taken 46 = .ok (.iload_n 1, 1) := by decide +kernel
theorem dX10_taken_47 : decode cX10_taken 47 = .ok (.bipush 6, 2) := by decide +kernel
theorem dX10_taken_49 : decode cX10_taken 49 = .ok (.isub, 1) := by decide +kernel
theorem dX10_taken_50 : decode cX10_taken 50 = .ok (.istore 4, 2) := by decide +kernel
theorem dX10_taken_52 : decode cX10_taken 52 = .ok (.iload 4, 2) := by decide +kernel
theorem dX10_taken_54 : decode cX10_taken 54 = .ok (.iload_n 3, 1) := by decide +kernel
theorem dX10_taken_55 : decode cX10_taken 55 = .ok (.ifCond .eq 13, 3) := by decide +kernel
theorem dX10_taken_58 : decode cX10_taken 58 = .ok (.aload_n 0, 1) := by decide +kernel
theorem dX10_taken_59 : decode cX10_taken 59 = .ok (.getfield 19, 3) := by decide +kernel
theorem dX10_taken_62 : decode cX10_taken 62 = .ok (.getfield 78, 3) := by decide +kernel
theorem dX10_taken_65 : decode cX10_taken 65 = .ok (.goto 10, 3) := by decide +kernel
theorem dX10_taken_68 : decode cX10_taken 68 = .ok (.aload_n 0, 1) := by decide +kernel
theorem dX10_taken_69 : decode cX10_taken 69 = .ok (.getfield 10, 3) := by decide +kernel
theorem dX10_taken_72 : decode cX10_taken 72 = .ok (.getfield 74, 3) := by decide +kernel
theorem dX10_taken_75 : decode cX10_taken 75 = .ok (.if_icmp .lt 6, 3) := by decide +kernel
theorem dX10_taken_78 : decode cX10_taken 78 = .ok (.bipush (-11), 2) := by decide +kernel
theorem dX10_taken_80 : decode cX10_taken 80 = .ok (.ireturn, 1) := by decide +kernel
theorem dX10_taken_81 : decode cX10_taken 81 = .ok (.iload_n 3, 1) := by decide +kernel
theorem dX10_taken_82 : decode cX10_taken 82 = .ok (.ifCond .eq 25, 3) := by decide +kernel
theorem dX10_taken_85 : decode cX10_taken 85 = .ok (.iload_n 2, 1) := by decide +kernel
theorem dX10_taken_86 : decode cX10_taken 86 = .ok (.bipush 6, 2) := by decide +kernel
theorem dX10_taken_88 : decode cX10_taken 88 = .ok (.if_icmp .ne 16, 3) := by decide +kernel
theorem dX10_taken_91 : decode cX10_taken 91 = .ok (.aload_n 0, 1) := by decide +kernel
theorem dX10_taken_92 : decode cX10_taken 92 = .ok (.getfield 19, 3) := by decide +kernel
theorem dX10_taken_95 : decode cX10_taken 95 = .ok (.getfield 336, 3) := by decide +kernel
theorem dX10_taken_98 : decode cX10_taken 98 = .ok (.iload 4, 2) := by decide +kernel
theorem dX10_taken_100 : decode cX10_taken 100 = .ok (.iaload, 1) := by decide +kernel
theorem dX10_taken_101 : decode cX10_taken 101 = .ok (.goto 5, 3) := by decide +kernel
theorem dX10_taken_104 : decode cX10_taken 104 = .ok (.bipush (-13), 2) := by decide +kernel
theorem dX10_taken_106 : decode cX10_taken 106 = .ok (.ireturn, 1) := by decide +kernel
theorem dX10_taken_107 : decode cX10_taken 107 = .ok (.iload_n 2, 1) := by decide +kernel
theorem dX10_taken_108 : decode cX10_taken 108 = .ok (.bipush 6, 2) := by decide +kernel
theorem dX10_taken_110 : decode cX10_taken 110 = .ok (.if_icmp .ge 21, 3) := by decide +kernel
theorem dX10_taken_113 : decode cX10_taken 113 = .ok (.aload_n 0, 1) := by decide +kernel
theorem dX10_taken_114 : decode cX10_taken 114 = .ok (.getfield 10, 3) := by decide +kernel
theorem dX10_taken_117 : decode cX10_taken 117 = .ok (.iload 4, 2) := by decide +kernel
theorem dX10_taken_119 : decode cX10_taken 119 = .ok (.iload_n 2, 1) := by decide +kernel
theorem dX10_taken_120 : decode cX10_taken 120 = .ok (.invokevirtual 339, 3) := by decide +kernel
theorem dX10_taken_123 : decode cX10_taken 123 = .ok (.ifCond .eq 8, 3) := by decide +kernel
theorem dX10_taken_126 : decode cX10_taken 126 = .ok (.iload 4, 2) := by decide +kernel
theorem dX10_taken_128 : decode cX10_taken 128 = .ok (.goto 5, 3) := by decide +kernel
theorem dX10_taken_131 : decode cX10_taken 131 = .ok (.bipush (-13), 2) := by decide +kernel
theorem dX10_taken_133 : decode cX10_taken 133 = .ok (.ireturn, 1) := by decide +kernel
theorem dX10_within_0 : decode cX10_within 0 = .ok (.iload_n 0, 1) := by decide +kernel
theorem dX10_within_1 : decode cX10_within 1 = .ok (.iload_n 1, 1) := by decide +kernel
theorem dX10_within_2 : decode cX10_within 2 = .ok (.if_icmp .lt 12, 3) := by decide +kernel
theorem dX10_within_5 : decode cX10_within 5 = .ok (.iload_n 0, 1) := by decide +kernel
theorem dX10_within_6 : decode cX10_within 6 = .ok (.iload_n 2, 1) := by decide +kernel
theorem dX10_within_7 : decode cX10_within 7 = .ok (.if_icmp .gt 7, 3) := by decide +kernel
theorem dX10_within_10 : decode cX10_within 10 = .ok (.iconst 1, 1) := by decide +kernel
theorem dX10_within_11 : decode cX10_within 11 = .ok (.goto 4, 3) := by decide +kernel
theorem dX10_within_14 : decode cX10_within 14 = .ok (.iconst 0, 1) := by decide +kernel
theorem dX10_within_15 : decode cX10_within 15 = .ok (.ireturn, 1) := by decide +kernel
theorem dX10_isShip_0 : decode cX10_isShip 0 = .ok (.iload_n 0, 1) := by decide +kernel
theorem dX10_isShip_1 : decode cX10_isShip 1 = .ok (.iconst 0, 1) := by decide +kernel
theorem dX10_isShip_2 : decode cX10_isShip 2 = .ok (.iconst 3, 1) := by decide +kernel
theorem dX10_isShip_3 : decode cX10_isShip 3 = .ok (.invokestatic 53, 3) := by decide +kernel
theorem dX10_isShip_6 : decode cX10_isShip 6 = .ok (.ireturn, 1) := by decide +kernel
theorem dX10_isDay_0 : decode cX10_isDay 0 = .ok (.iload_n 0, 1) := by decide +kernel
theorem dX10_isDay_1 : decode cX10_isDay 1 = .ok (.iconst 0, 1) := by decide +kernel
theorem dX10_isDay_2 : decode cX10_isDay 2 = .ok (.sipush 365, 3) := by decide +kernel
theorem dX10_isDay_5 : decode cX10_isDay 5 = .ok (.invokestatic 53, 3) := by decide +kernel
theorem dX10_isDay_8 : decode cX10_isDay 8 = .ok (.ireturn, 1) := by decide +kernel
theorem dX10_isSpeed_0 : decode cX10_isSpeed 0 = .ok (.iload_n 0, 1) := by decide +kernel
theorem dX10_isSpeed_1 : decode cX10_isSpeed 1 = .ok (.iconst 0, 1) := by decide +kernel
theorem dX10_isSpeed_2 : decode cX10_isSpeed 2 = .ok (.bipush 60, 2) := by decide +kernel
theorem dX10_isSpeed_4 : decode cX10_isSpeed 4 = .ok (.invokestatic 53, 3) := by decide +kernel
theorem dX10_isSpeed_7 : decode cX10_isSpeed 7 = .ok (.ireturn, 1) := by decide +kernel
theorem dX10_lowest_0 : decode cX10_lowest 0 = .ok (.lload_n 0, 1) := by decide +kernel
theorem dX10_lowest_1 : decode cX10_lowest 1 = .ok (.invokestatic 343, 3) := by decide +kernel
theorem dX10_lowest_4 : decode cX10_lowest 4 = .ok (.lload_n 2, 1) := by decide +kernel
theorem dX10_lowest_5 : decode cX10_lowest 5 = .ok (.invokestatic 349, 3) := by decide +kernel
theorem dX10_lowest_8 : decode cX10_lowest 8 = .ok (.lstore 5, 2) := by decide +kernel
theorem dX10_lowest_10 : decode cX10_lowest 10 = .ok (.lload 5, 2) := by decide +kernel
theorem dX10_lowest_12 : decode cX10_lowest 12 = .ok (.lconst 0, 1) := by decide +kernel
theorem dX10_lowest_13 : decode cX10_lowest 13 = .ok (.lcmp, 1) := by decide +kernel
theorem dX10_lowest_14 : decode cX10_lowest 14 = .ok (.ifCond .ne 7, 3) := by decide +kernel
theorem dX10_lowest_17 : decode cX10_lowest 17 = .ok (.iload 4, 2) := by decide +kernel
theorem dX10_lowest_19 : decode cX10_lowest 19 = .ok (.i2l, 1) := by decide +kernel
theorem dX10_lowest_20 : decode cX10_lowest 20 = .ok (.lreturn, 1) := by decide +kernel
theorem dX10_lowest_21 : decode cX10_lowest 21 = .ok (.iload 4, 2) := by decide +kernel
theorem dX10_lowest_23 : decode cX10_lowest 23 = .ok (.ifCond .ne 7, 3) := by decide +kernel
theorem dX10_lowest_26 : decode cX10_lowest 26 = .ok (.lload_n 0, 1) := by decide +kernel
theorem dX10_lowest_27 : decode cX10_lowest 27 = .ok (.goto 4, 3) := by decide +kernel
theorem dX10_lowest_30 : decode cX10_lowest 30 = .ok (.lload_n 2, 1) := by decide +kernel
theorem dX10_lowest_31 : decode cX10_lowest 31 = .ok (.lload 5, 2) := by decide +kernel
theorem dX10_lowest_33 : decode cX10_lowest 33 = .ok (.ldiv, 1) := by decide +kernel
theorem dX10_lowest_34 : decode cX10_lowest 34 = .ok (.lreturn, 1) := by decide +kernel
theorem dX10_greatestDivisor_0 : decode cX10_greatestDivisor 0 = .ok (.lload_n 0, 1) := by decide +kernel
theorem dX10_greatestDivisor_1 : decode cX10_greatestDivisor 1 = .ok (.lstore 4, 2) := by decide +kernel
theorem dX10_greatestDivisor_3 : decode cX10_greatestDivisor 3 = .ok (.lload_n 2, 1) := by decide +kernel
theorem dX10_greatestDivisor_4 : decode cX10_greatestDivisor 4 = .ok (.lstore 6, 2) := by decide +kernel
theorem dX10_greatestDivisor_6 : decode cX10_greatestDivisor 6 = .ok (.iconst 0, 1) := by decide +kernel
theorem dX10_greatestDivisor_7 : decode cX10_greatestDivisor 7 = .ok (.istore 8, 2) := by decide +kernel
theorem dX10_greatestDivisor_9 : decode cX10_greatestDivisor 9 = .ok (.iload 8, 2) := by decide +kernel
theorem dX10_greatestDivisor_11 : decode cX10_greatestDivisor 11 = .ok (.sipush 130, 3) := by decide +kernel
theorem dX10_greatestDivisor_14 : decode cX10_greatestDivisor 14 = .ok (.if_icmp .ge 31, 3) := by decide +kernel
theorem dX10_greatestDivisor_17 : decode cX10_greatestDivisor 17 = .ok (.lload 6, 2) := by decide +kernel
theorem dX10_greatestDivisor_19 : decode cX10_greatestDivisor 19 = .ok (.lconst 0, 1) := by decide +kernel
theorem dX10_greatestDivisor_20 : decode cX10_greatestDivisor 20 = .ok (.lcmp, 1) := by decide +kernel
theorem dX10_greatestDivisor_21 : decode cX10_greatestDivisor 21 = .ok (.ifCond .eq 24, 3) := by decide +kernel
theorem dX10_greatestDivisor_24 : decode cX10_greatestDivisor 24 = .ok (.lload 4, 2) := by decide +kernel
theorem dX10_greatestDivisor_26 : decode cX10_greatestDivisor 26 = .ok (.lload 6, 2) := by decide +kernel
theorem dX10_greatestDivisor_28 : decode cX10_greatestDivisor 28 = .ok (.lrem, 1) := by decide +kernel
theorem dX10_greatestDivisor_29 : decode cX10_greatestDivisor 29 = .ok (.lstore 9, 2) := by decide +kernel
theorem dX10_greatestDivisor_31 : decode cX10_greatestDivisor 31 = .ok (.lload 6, 2) := by decide +kernel
theorem dX10_greatestDivisor_33 : decode cX10_greatestDivisor 33 = .ok (.lstore 4, 2) := by decide +kernel
theorem dX10_greatestDivisor_35 : decode cX10_greatestDivisor 35 = .ok (.lload 9, 2) := by decide +kernel
theorem dX10_greatestDivisor_37 : decode cX10_greatestDivisor 37 = .ok (.lstore 6, 2) := by decide +kernel
theorem dX10_greatestDivisor_39 : decode cX10_greatestDivisor 39 = .ok (.iinc 8 1, 3) := by decide +kernel
theorem dX10_greatestDivisor_42 : decode cX10_greatestDivisor 42 = .ok (.goto (-33), 3) := by decide +kernel
theorem dX10_greatestDivisor_45 : decode cX10_greatestDivisor 45 = .ok (.lload 4, 2) := by decide +kernel
theorem dX10_greatestDivisor_47 : decode cX10_greatestDivisor 47 = .ok (.lreturn, 1) := by decide +kernel
theorem dX11_init_0 : decode cX11_init 0 = .ok (.aload_n 0, 1) := by decide +kernel
theorem dX11_init_1 : decode cX11_init 1 = .ok (.invokespecial 1, 3) := by decide +kernel
theorem dX11_init_4 : decode cX11_init 4 = .ok (.aload_n 0, 1) := by decide +kernel
theorem dX11_init_5 : decode cX11_init 5 = .ok (.bipush 6, 2) := by decide +kernel
theorem dX11_init_7 : decode cX11_init 7 = .ok (.newarray .int, 2) := by decide +kernel
theorem dX11_init_9 : decode cX11_init 9 = .ok (.dup, 1) := by decide +kernel
theorem dX11_init_10 : decode cX11_init 10 = .ok (.iconst 0, 1) := by decide +kernel
theorem dX11_init_11 : decode cX11_init 11 = .ok (.iconst 4, 1) := by decide +kernel
theorem dX11_init_12 : decode cX11_init 12 = .ok (.iastore, 1) := by decide +kernel
theorem dX11_init_13 : decode cX11_init 13 = .ok (.dup, 1) := by decide +kernel
theorem dX11_init_14 : decode cX11_init 14 = .ok (.iconst 1, 1) := by decide +kernel
theorem dX11_init_15 : decode cX11_init 15 = .ok (.iconst 2, 1) := by decide +kernel
theorem dX11_init_16 : decode cX11_init 16 = .ok (.iastore, 1) := by decide +kernel
theorem dX11_init_17 : decode cX11_init 17 = .ok (.dup, 1) := by decide +kernel
theorem dX11_init_18 : decode cX11_init 18 = .ok (.iconst 2, 1) := by decide +kernel
theorem dX11_init_19 : decode cX11_init 19 = .ok (.iconst 0, 1) := by decide +kernel
theorem dX11_init_20 : decode cX11_init 20 = .ok (.iastore, 1) := by decide +kernel
theorem dX11_init_21 : decode cX11_init 21 = .ok (.dup, 1) := by decide +kernel
theorem dX11_init_22 : decode cX11_init 22 = .ok (.iconst 3, 1) := by decide +kernel
theorem dX11_init_23 : decode cX11_init 23 = .ok (.iconst 3, 1) := by decide +kernel
theorem dX11_init_24 : decode cX11_init 24 = .ok (.iastore, 1) := by decide +kernel
theorem dX11_init_25 : decode cX11_init 25 = .ok (.dup, 1) := by decide +kernel
theorem dX11_init_26 : decode cX11_init 26 = .ok (.iconst 4, 1) := by decide +kernel
theorem dX11_init_27 : decode cX11_init 27 = .ok (.iconst 0, 1) := by decide +kernel
theorem dX11_init_28 : decode cX11_init 28 = .ok (.iastore, 1) := by decide +kernel
theorem dX11_init_29 : decode cX11_init 29 = .ok (.dup, 1) := by decide +kernel
theorem dX11_init_30 : decode cX11_init 30 = .ok (.iconst 5, 1) := by decide +kernel
theorem dX11_init_31 : decode cX11_init 31 = .ok (.bipush 11, 2) := by decide +kernel
theorem dX11_init_33 : decode cX11_init 33 = .ok (.iastore, 1) := by decide +kernel
theorem dX11_init_34 : decode cX11_init 34 = .ok (.putfield 7, 3) := by decide +kernel
theorem dX11_init_37 : decode cX11_init 37 = .ok (.aload_n 0, 1) := by decide +kernel
theorem dX11_init_38 : decode cX11_init 38 = .ok (.bipush 6, 2) := by decide +kernel
theorem dX11_init_40 : decode cX11_init 40 = .ok (.newarray .int, 2) := by decide +kernel
theorem dX11_init_42 : decode cX11_init 42 = .ok (.dup, 1) := by decide +kernel
theorem dX11_init_43 : decode cX11_init 43 = .ok (.iconst 0, 1) := by decide +kernel
theorem dX11_init_44 : decode cX11_init 44 = .ok (.bipush 9, 2) := by decide +kernel
theorem dX11_init_46 : decode cX11_init 46 = .ok (.iastore, 1) := by decide +kernel
theorem dX11_init_47 : decode cX11_init 47 = .ok (.dup, 1) := by decide +kernel
theorem dX11_init_48 : decode cX11_init 48 = .ok (.iconst 1, 1) := by decide +kernel
theorem dX11_init_49 : decode cX11_init 49 = .ok (.bipush 7, 2) := by decide +kernel
theorem dX11_init_51 : decode cX11_init 51 = .ok (.iastore, 1) := by decide +kernel
theorem dX11_init_52 : decode cX11_init 52 = .ok (.dup, 1) := by decide +kernel
theorem dX11_init_53 : decode cX11_init 53 = .ok (.iconst 2, 1) := by decide +kernel
theorem dX11_init_54 : decode cX11_init 54 = .ok (.iconst 5, 1) := by decide +kernel
theorem dX11_init_55 : decode cX11_init 55 = .ok (.iastore, 1) := by decide +kernel
theorem dX11_init_56 : decode cX11_init 56 = .ok (.dup, 1) := by decide +kernel
theorem dX11_init_57 : decode cX11_init 57 = .ok (.iconst 3, 1) := by decide +kernel
theorem dX11_init_58 : decode cX11_init 58 = .ok (.iconst 3, 1) := by decide +kernel
theorem dX11_init_59 : decode cX11_init 59 = .ok (.iastore, 1) := by decide +kernel
theorem dX11_init_60 : decode cX11_init 60 = .ok (.dup, 1) := by decide +kernel
theorem dX11_init_61 : decode cX11_init 61 = .ok (.iconst 4, 1) := by decide +kernel
theorem dX11_init_62 : decode cX11_init 62 = .ok (.iconst 2, 1) := by decide +kernel
theorem dX11_init_63 : decode cX11_init 63 = .ok (.iastore, 1) := by decide +kernel
theorem dX11_init_64 : decode cX11_init 64 = .ok (.dup, 1) := by decide +kernel
theorem dX11_init_65 : decode cX11_init 65 = .ok (.iconst 5, 1) := by decide +kernel
theorem dX11_init_66 : decode cX11_init 66 = .ok (.iconst 1, 1) := by decide +kernel
theorem dX11_init_67 : decode cX11_init 67 = .ok (.iastore, 1) := by decide +kernel
theorem dX11_init_68 : decode cX11_init 68 = .ok (.putfield 13, 3) := by decide +kernel
theorem dX11_init_71 : decode cX11_init 71 = .ok (.aload_n 0, 1) := by decide +kernel
theorem dX11_init_72 : decode cX11_init 72 = .ok (.sipush 160, 3) := by decide +kernel
theorem dX11_init_75 : decode cX11_init 75 = .ok (.newarray .byte, 2) := by decide +kernel
theorem dX11_init_77 : decode cX11_init 77 = .ok (.putfield 16, 3) := by decide +kernel
theorem dX11_init_80 : decode cX11_init 80 = .ok (.aload_n 0, 1) := by decide +kernel
theorem dX11_init_81 : decode cX11_init 81 = .ok (.iconst 1, 1) := by decide +kernel
theorem dX11_init_82 : decode cX11_init 82 = .ok (.putfield 20, 3) := by decide +kernel
theorem dX11_init_85 : decode cX11_init 85 = .ok (.aload_n 0, 1) := by decide +kernel
theorem dX11_init_86 : decode cX11_init 86 = .ok (.sipush 1190, 3) := by decide +kernel
theorem dX11_init_89 : decode cX11_init 89 = .ok (.newarray .int, 2) := by decide +kernel
theorem dX11_init_91 : decode cX11_init 91 = .ok (.putfield 24, 3) := by decide +kernel
theorem dX11_init_94 : decode cX11_init 94 = .ok (.aload_n 0, 1) := by decide +kernel
theorem dX11_init_95 : decode cX11_init 95 = .ok (.sipush 1190, 3) := by decide +kernel
theorem dX11_init_98 : decode cX11_init 98 = .ok (.newarray .int, 2) := by decide +kernel
theorem dX11_init_100 : decode cX11_init 100 = .ok (.putfield 27, 3) := by decide +kernel
theorem dX11_init_103 : decode cX11_init 103 = .ok (.aload_n 0, 1) := by decide +kernel
theorem dX11_init_104 : decode cX11_init 104 = .ok (.bipush 21, 2) := by decide +kernel
theorem dX11_init_106 : decode cX11_init 106 = .ok (.newarray .int, 2) := by decide +kernel
theorem dX11_init_108 : decode cX11_init 108 = .ok (.putfield 30, 3) := by decide +kernel
theorem dX11_init_111 : decode cX11_init 111 = .ok (.aload_n 0, 1) := by decide +kernel
theorem dX11_init_112 : decode cX11_init 112 = .ok (.sipush 170, 3) := by decide +kernel
theorem dX11_init_115 : decode cX11_init 115 = .ok (.newarray .int, 2) := by decide +kernel
theorem dX11_init_117 : decode cX11_init 117 = .ok (.putfield 33, 3) := by decide +kernel
theorem dX11_init_120 : decode cX11_init 120 = .ok (.aload_n 0, 1) := by decide +kernel
theorem dX11_init_121 : decode cX11_init 121 = .ok (.bipush 6, 2) := by decide +kernel
theorem dX11_init_123 : decode cX11_init 123 = .ok (.newarray .int, 2) := by decide +kernel
theorem dX11_init_125 : decode cX11_init 125 = .ok (.putfield 36, 3) := by decide +kernel
theorem dX11_init_128 : decode cX11_init 128 = .ok (.aload_n 0, 1) := by decide +kernel
theorem dX11_init_129 : decode cX11_init 129 = .ok (.bipush 59, 2) := by decide +kernel
theorem dX11_init_131 : decode cX11_init 131 = .ok (.newarray .int, 2) := by decide +kernel
theorem dX11_init_133 : decode cX11_init 133 = .ok (.dup, 1) := by decide +kernel
theorem dX11_init_134 : decode cX11_init 134 = .ok (.iconst 0, 1) := by decide +kernel
theorem dX11_init_135 : decode cX11_init 135 = .ok (.bipush 102, 2) := by decide +kernel
theorem dX11_init_137 : decode cX11_init 137 = .ok (.iastore, 1) := by decide +kernel
theorem dX11_init_138 : decode cX11_init 138 = .ok (.dup, 1) := by decide +kernel
theorem dX11_init_139 : decode cX11_init 139 = .ok (.iconst 1, 1) := by decide +kernel
theorem dX11_init_140 : decode cX11_init 140 = .ok (.bipush 97, 2) := by decide +kernel
theorem dX11_init_142 : decode cX11_init 142 = .ok (.iastore, 1) := by decide +kernel
theorem dX11_init_143 : decode cX11_init 143 = .ok (.dup, 1) := by decide +kernel
theorem dX11_init_144 : decode cX11_init 144 = .ok (.iconst 2, 1) := by decide +kernel
theorem dX11_init_145 : decode cX11_init 145 = .ok (.bipush 114, 2) := by decide +kernel
theorem dX11_init_147 : decode cX11_init 147 = .ok (.iastore, 1) := by decide +kernel
theorem dX11_init_148 : decode cX11_init 148 = .ok (.dup, 1) := by decide +kernel
theorem dX11_init_149 : decode cX11_init 149 = .ok (.iconst 3, 1) := by decide +kernel
theorem dX11_init_150 : decode cX11_init 150 = .ok (.bipush 32, 2) := by decide +kernel
theorem dX11_init_152 : decode cX11_init 152 = .ok (.iastore, 1) := by decide +kernel
theorem dX11_init_153 : decode cX11_init 153 = .ok (.dup, 1) := by decide +kernel
theorem dX11_init_154 : decode cX11_init 154 = .ok (.iconst 4, 1) := by decide +kernel
theorem dX11_init_155 : decode cX11_init 155 = .ok (.bipush 119, 2) := by decide +kernel
theorem dX11_init_157 : decode cX11_init 157 = .ok (.iastore, 1) := by decide +kernel
theorem dX11_init_158 : decode cX11_init 158 = .ok (.dup, 1) := by decide +kernel
theorem dX11_init_159 : decode cX11_init 159 = .ok (.iconst 5, 1) := by decide +kernel
theorem dX11_init_160 : decode cX11_init 160 = .ok (.bipush 105, 2) := by decide +kernel
theorem dX11_init_162 : decode cX11_init 162 = .ok (.iastore, 1) := by decide +kernel
theorem dX11_init_163 : decode cX11_init 163 = .ok (.dup, 1) := by decide +kernel
theorem dX11_init_164 : decode cX11_init 164 = .ok (.bipush 6, 2) := by decide +kernel
theorem dX11_init_166 : decode cX11_init 166 = .ok (.bipush 110, 2) := by decide +kernel
theorem dX11_init_168 : decode cX11_init 168 = .ok (.iastore, 1) := by decide +kernel
theorem dX11_init_169 : decode cX11_init 169 = .ok (.dup, 1) := by decide +kernel
theorem dX11_init_170 : decode cX11_init 170 = .ok (.bipush 7, 2) := by decide +kernel
theorem dX11_init_172 : decode cX11_init 172 = .ok (.bipush 100, 2) := by decide +kernel
theorem dX11_init_174 : decode cX11_init 174 = .ok (.iastore, 1) := by decide +kernel
theorem dX11_init_175 : decode cX11_init 175 = .ok (.dup, 1) := by decide +kernel
theorem dX11_init_176 : decode cX11_init 176 = .ok (.bipush 8, 2) := by decide +kernel
theorem dX11_init_178 : decode cX11_init 178 = .ok (.bipush 32, 2) := by decide +kernel
theorem dX11_init_180 : decode cX11_init 180 = .ok (.iastore, 1) := by decide +kernel
theorem dX11_init_181 : decode cX11_init 181 = .ok (.dup, 1) := by decide +kernel
theorem dX11_init_182 : decode cX11_init 182 = .ok (.bipush 9, 2) := by decide +kernel
theorem dX11_init_184 : decode cX11_init 184 = .ok (.bipush 110, 2) := by decide +kernel
theorem dX11_init_186 : decode cX11_init 186 = .ok (.iastore, 1) := by decide +kernel
theorem dX11_init_187 : decode cX11_init 187 = .ok (.dup, 1) := by decide +kernel
theorem dX11_init_188 : decode cX11_init 188 = .ok (.bipush 10, 2) := by decide +kernel
theorem dX11_init_190 : decode cX11_init 190 = .ok (.bipush 111, 2) := by decide +kernel
theorem dX11_init_192 : decode cX11_init 192 = .ok (.iastore, 1) := by decide +kernel
theorem dX11_init_193 : decode cX11_init 193 = .ok (.dup, 1) := by decide +kernel
theorem dX11_init_194 : decode cX11_init 194 = .ok (.bipush 11, 2) := by decide +kernel
theorem dX11_init_196 : decode cX11_init 196 = .ok (.bipush 105, 2) := by decide +kernel
theorem dX11_init_198 : decode cX11_init 198 = .ok (.iastore, 1) := by decide +kernel
theorem dX11_init_199 : decode cX11_init 199 = .ok (.dup, 1) := by decide +kernel
theorem dX11_init_200 : decode cX11_init 200 = .ok (.bipush 12, 2) := by decide +kernel
theorem dX11_init_202 : decode cX11_init 202 = .ok (.bipush 115, 2) := by decide +kernel
theorem dX11_init_204 : decode cX11_init 204 = .ok (.iastore, 1) := by decide +kernel
theorem dX11_init_205 : decode cX11_init 205 = .ok (.dup, 1) := by decide +kernel
theorem dX11_init_206 : decode cX11_init 206 = .ok (.bipush 13, 2) := by decide +kernel
theorem dX11_init_208 : decode cX11_init 208 = .ok (.bipush 101, 2) := by decide +kernel
theorem dX11_init_210 : decode cX11_init 210 = .ok (.iastore, 1) := by decide +kernel
theorem dX11_init_211 : decode cX11_init 211 = .ok (.dup, 1) := by decide +kernel
theorem dX11_init_212 : decode cX11_init 212 = .ok (.bipush 14, 2) := by decide +kernel
theorem dX11_init_214 : decode cX11_init 214 = .ok (.bipush 32, 2) := by decide +kernel
theorem dX11_init_216 : decode cX11_init 216 = .ok (.iastore, 1) := by decide +kernel
theorem dX11_init_217 : decode cX11_init 217 = .ok (.dup, 1) := by decide +kernel
theorem dX11_init_218 : decode cX11_init 218 = .ok (.bipush 15, 2) := by decide +kernel
theorem dX11_init_220 : decode cX11_init 220 = .ok (.bipush 119, 2) := by decide +kernel
theorem dX11_init_222 : decode cX11_init 222 = .ok (.iastore, 1) := by decide +kernel
theorem dX11_init_223 : decode cX11_init 223 = .ok (.dup, 1) := by decide +kernel
theorem dX11_init_224 : decode cX11_init 224 = .ok (.bipush 16, 2) := by decide +kernel
theorem dX11_init_226 : decode cX11_init 226 = .ok (.bipush 111, 2) := by decide +kernel
theorem dX11_init_228 : decode cX11_init 228 = .ok (.iastore, 1) := by decide +kernel
theorem dX11_init_229 : decode cX11_init 229 = .ok (.dup, 1) := by decide +kernel
theorem dX11_init_230 : decode cX11_init 230 = .ok (.bipush 17, 2) := by decide +kernel
theorem dX11_init_232 : decode cX11_init 232 = .ok (.bipush 114, 2) := by decide +kernel
theorem dX11_init_234 : decode cX11_init 234 = .ok (.iastore, 1) := by decide +kernel
theorem dX11_init_235 : decode cX11_init 235 = .ok (.dup, 1) := by decide +kernel
theorem dX11_init_236 : decode cX11_init 236 = .ok (.bipush 18, 2) := by decide +kernel
theorem dX11_init_238 : decode cX11_init 238 = .ok (.bipush 100, 2) := by decide +kernel
theorem dX11_init_240 : decode cX11_init 240 = .ok (.iastore, 1) := by decide +kernel
theorem dX11_init_241 : decode cX11_init 241 = .ok (.dup, 1) := by decide +kernel
theorem dX11_init_242 : decode cX11_init 242 = .ok (.bipush 19, 2) := by decide +kernel
theorem dX11_init_244 : decode cX11_init 244 = .ok (.bipush 32, 2) := by decide +kernel
theorem dX11_init_246 : decode cX11_init 246 = .ok (.iastore, 1) := by decide +kernel
theorem dX11_init_247 : decode cX11_init 247 = .ok (.dup, 1) := by decide +kernel
theorem dX11_init_248 : decode cX11_init 248 = .ok (.bipush 20, 2) := by decide +kernel
theorem dX11_init_250 : decode cX11_init 250 = .ok (.bipush 115, 2) := by decide +kernel
theorem dX11_init_252 : decode cX11_init 252 = .ok (.iastore, 1) := by decide +kernel
theorem dX11_init_253 : decode cX11_init 253 = .ok (.dup, 1) := by decide +kernel
theorem dX11_init_254 : decode cX11_init 254 = .ok (.bipush 21, 2) := by decide +kernel
theorem dX11_init_256 : decode cX11_init 256 = .ok (.bipush 97, 2) := by decide +kernel
theorem dX11_init_258 : decode cX11_init 258 = .ok (.iastore, 1) := by decide +kernel
theorem dX11_init_259 : decode cX11_init 259 = .ok (.dup, 1) := by decide +kernel
theorem dX11_init_260 : decode cX11_init 260 = .ok (.bipush 22, 2) := by decide +kernel
theorem dX11_init_262 : decode cX11_init 262 = .ok (.bipush 105, 2) := by decide +kernel
theorem dX11_init_264 : decode cX11_init 264 = .ok (.iastore, 1) := by decide +kernel
theorem dX11_init_265 : decode cX11_init 265 = .ok (.dup, 1) := by decide +kernel
theorem dX11_init_266 : decode cX11_init 266 = .ok (.bipush 23, 2) := by decide +kernel
theorem dX11_init_268 : decode cX11_init 268 = .ok (.bipush 108, 2) := by decide +kernel
theorem dX11_init_270 : decode cX11_init 270 = .ok (.iastore, 1) := by decide +kernel
theorem dX11_init_271 : decode cX11_init 271 = .ok (.dup, 1) := by decide +kernel
theorem dX11_init_272 : decode cX11_init 272 = .ok (.bipush 24, 2) := by decide +kernel
theorem dX11_init_274 : decode cX11_init 274 = .ok (.bipush 32, 2) := by decide +kernel
theorem dX11_init_276 : decode cX11_init 276 = .ok (.iastore, 1) := by decide +kernel
theorem dX11_init_277 : decode cX11_init 277 = .ok (.dup, 1) := by decide +kernel
theorem dX11_init_278 : decode cX11_init 278 = .ok (.bipush 25, 2) := by decide +kernel
theorem dX11_init_280 : decode cX11_init 280 = .ok (.bipush 109, 2) := by decide +kernel
theorem dX11_init_282 : decode cX11_init 282 = .ok (.iastore, 1) := by decide +kernel
theorem dX11_init_283 : decode cX11_init 283 = .ok (.dup, 1) := by decide +kernel
theorem dX11_init_284 : decode cX11_init 284 = .ok (.bipush 26, 2) := by decide +kernel
theorem dX11_init_286 : decode cX11_init 286 = .ok (.bipush 105, 2) := by decide +kernel
theorem dX11_init_288 : decode cX11_init 288 = .ok (.iastore, 1) := by decide +kernel
theorem dX11_init_289 : decode cX11_init 289 = .ok (.dup, 1) := by decide +kernel
theorem dX11_init_290 : decode cX11_init 290 = .ok (.bipush 27, 2) := by decide +kernel
theorem dX11_init_292 : decode cX11_init 292 = .ok (.bipush 110, 2) := by decide +kernel
theorem dX11_init_294 : decode cX11_init 294 = .ok (.iastore, 1) := by decide +kernel
theorem dX11_init_295 : decode cX11_init 295 = .ok (.dup, 1) := by decide +kernel
theorem dX11_init_296 : decode cX11_init 296 = .ok (.bipush 28, 2) := by decide +kernel
theorem dX11_init_298 : decode cX11_init 298 = .ok (.bipush 117, 2) := by decide +kernel
theorem dX11_init_300 : decode cX11_init 300 = .ok (.iastore, 1) := by decide +kernel
theorem dX11_init_301 : decode cX11_init 301 = .ok (.dup, 1) := by decide +kernel
theorem dX11_init_302 : decode cX11_init 302 = .ok (.bipush 29, 2) := by decide +kernel
theorem dX11_init_304 : decode cX11_init 304 = .ok (.bipush 116, 2) := by decide +kernel
theorem dX11_init_306 : decode cX11_init 306 = .ok (.iastore, 1) := by decide +kernel
theorem dX11_init_307 : decode cX11_init 307 = .ok (.dup, 1) := by decide +kernel
theorem dX11_init_308 : decode cX11_init 308 = .ok (.bipush 30, 2) := by decide +kernel
theorem dX11_init_310 : decode cX11_init 310 = .ok (.bipush 101, 2) := by decide +kernel
theorem dX11_init_312 : decode cX11_init 312 = .ok (.iastore, 1) := by decide +kernel
theorem dX11_init_313 : decode cX11_init 313 = .ok (.dup, 1) := by decide +kernel
theorem dX11_init_314 : decode cX11_init 314 = .ok (.bipush 31, 2) := by decide +kernel
theorem dX11_init_316 : decode cX11_init 316 = .ok (.bipush 32, 2) := by decide +kernel
theorem dX11_init_318 : decode cX11_init 318 = .ok (.iastore, 1) := by decide +kernel
theorem dX11_init_319 : decode cX11_init 319 = .ok (.dup, 1) := by decide +kernel
theorem dX11_init_320 : decode cX11_init 320 = .ok (.bipush 32, 2) := by decide +kernel
theorem dX11_init_322 : decode cX11_init 322 = .ok (.bipush 104, 2) := by decide +kernel
theorem dX11_init_324 : decode cX11_init 324 = .ok (.iastore, 1) := by decide +kernel
theorem dX11_init_325 : decode cX11_init 325 = .ok (.dup, 1) := by decide +kernel
theorem dX11_init_326 : decode cX11_init 326 = .ok (.bipush 33, 2) := by decide +kernel
theorem dX11_init_328 : decode cX11_init 328 = .ok (.bipush 97, 2) := by decide +kernel
theorem dX11_init_330 : decode cX11_init 330 = .ok (.iastore, 1) := by decide +kernel
theorem dX11_init_331 : decode cX11_init 331 = .ok (.dup, 1) := by decide +kernel
theorem dX11_init_332 : decode cX11_init 332 = .ok (.bipush 34, 2) := by decide +kernel
theorem dX11_init_334 : decode cX11_init 334 = .ok (.bipush 100, 2) := by decide +kernel
theorem dX11_init_336 : decode cX11_init 336 = .ok (.iastore, 1) := by decide +kernel
theorem dX11_init_337 : decode cX11_init 337 = .ok (.dup, 1) := by decide +kernel
theorem dX11_init_338 : decode cX11_init 338 = .ok (.bipush 35, 2) := by decide +kernel
theorem dX11_init_340 : decode cX11_init 340 = .ok (.bipush 32, 2) := by decide +kernel
theorem dX11_init_342 : decode cX11_init 342 = .ok (.iastore, 1) := by decide +kernel
theorem dX11_init_343 : decode cX11_init 343 = .ok (.dup, 1) := by decide +kernel
theorem dX11_init_344 : decode cX11_init 344 = .ok (.bipush 36, 2) := by decide +kernel
theorem dX11_init_346 : decode cX11_init 346 = .ok (.bipush 99, 2) := by decide +kernel
theorem dX11_init_348 : decode cX11_init 348 = .ok (.iastore, 1) := by decide +kernel
theorem dX11_init_349 : decode cX11_init 349 = .ok (.dup, 1) := by decide +kernel
theorem dX11_init_350 : decode cX11_init 350 = .ok (.bipush 37, 2) := by decide +kernel
theorem dX11_init_352 : decode cX11_init 352 = .ok (.bipush 104, 2) := by decide +kernel
theorem dX11_init_354 : decode cX11_init 354 = .ok (.iastore, 1) := by decide +kernel
theorem dX11_init_355 : decode cX11_init 355 = .ok (.dup, 1) := by decide +kernel
theorem dX11_init_356 : decode cX11_init 356 = .ok (.bipush 38, 2) := by decide +kernel
theorem dX11_init_358 : decode cX11_init 358 = .ok (.bipush 97, 2) := by decide +kernel
theorem dX11_init_360 : decode cX11_init 360 = .ok (.iastore, 1) := by decide +kernel
theorem dX11_init_361 : decode cX11_init 361 = .ok (.dup, 1) := by decide +kernel
theorem dX11_init_362 : decode cX11_init 362 = .ok (.bipush 39, 2) := by decide +kernel
theorem dX11_init_364 : decode cX11_init 364 = .ok (.bipush 108, 2) := by decide +kernel
theorem dX11_init_366 : decode cX11_init 366 = .ok (.iastore, 1) := by decide +kernel
theorem dX11_init_367 : decode cX11_init 367 = .ok (.dup, 1) := by decide +kernel
theorem dX11_init_368 : decode cX11_init 368 = .ok (.bipush 40, 2) := by decide +kernel
theorem dX11_init_370 : decode cX11_init 370 = .ok (.bipush 107, 2) := by decide +kernel
theorem dX11_init_372 : decode cX11_init 372 = .ok (.iastore, 1) := by decide +kernel
theorem dX11_init_373 : decode cX11_init 373 = .ok (.dup, 1) := by decide +kernel
theorem dX11_init_374 : decode cX11_init 374 = .ok (.bipush 41, 2) := by decide +kernel
theorem dX11_init_376 : decode cX11_init 376 = .ok (.bipush 32, 2) := by decide +kernel
theorem dX11_init_378 : decode cX11_init 378 = .ok (.iastore, 1) := by decide +kernel
theorem dX11_init_379 : decode cX11_init 379 = .ok (.dup, 1) := by decide +kernel
theorem dX11_init_380 : decode cX11_init 380 = .ok (.bipush 42, 2) := by decide +kernel
theorem dX11_init_382 : decode cX11_init 382 = .ok (.bipush 116, 2) := by decide +kernel
theorem dX11_init_384 : decode cX11_init 384 = .ok (.iastore, 1) := by decide +kernel
theorem dX11_init_385 : decode cX11_init 385 = .ok (.dup, 1) := by decide +kernel
theorem dX11_init_386 : decode cX11_init 386 = .ok (.bipush 43, 2) := by decide +kernel
theorem dX11_init_388 : decode cX11_init 388 = .ok (.bipush 97, 2) := by decide +kernel
theorem dX11_init_390 : decode cX11_init 390 = .ok (.iastore, 1) := by decide +kernel
theorem dX11_init_391 : decode cX11_init 391 = .ok (.dup, 1) := by decide +kernel
theorem dX11_init_392 : decode cX11_init 392 = .ok (.bipush 44, 2) := by decide +kernel
theorem dX11_init_394 : decode cX11_init 394 = .ok (.bipush 107, 2) := by decide +kernel
theorem dX11_init_396 : decode cX11_init 396 = .ok (.iastore, 1) := by decide +kernel
theorem dX11_init_397 : decode cX11_init 397 = .ok (.dup, 1) := by decide +kernel
theorem dX11_init_398 : decode cX11_init 398 = .ok (.bipush 45, 2) := by decide +kernel
theorem dX11_init_400 : decode cX11_init 400 = .ok (.bipush 101, 2) := by decide +kernel
theorem dX11_init_402 : decode cX11_init 402 = .ok (.iastore, 1) := by decide +kernel
theorem dX11_init_403 : decode cX11_init 403 = .ok (.dup, 1) := by decide +kernel
theorem dX11_init_404 : decode cX11_init 404 = .ok (.bipush 46, 2) := by decide +kernel
theorem dX11_init_406 : decode cX11_init 406 = .ok (.bipush 115, 2) := by decide +kernel
theorem dX11_init_408 : decode cX11_init 408 = .ok (.iastore, 1) := by decide +kernel
theorem dX11_init_409 : decode cX11_init 409 = .ok (.dup, 1) := by decide +kernel
theorem dX11_init_410 : decode cX11_init 410 = .ok (.bipush 47, 2) := by decide +kernel
theorem dX11_init_412 : decode cX11_init 412 = .ok (.bipush 32, 2) := by decide +kernel
theorem dX11_init_414 : decode cX11_init 414 = .ok (.iastore, 1) := by decide +kernel
theorem dX11_init_415 : decode cX11_init 415 = .ok (.dup, 1) := by decide +kernel
theorem dX11_init_416 : decode cX11_init 416 = .ok (.bipush 48, 2) := by decide +kernel
theorem dX11_init_418 : decode cX11_init 418 = .ok (.bipush 111, 2) := by decide +kernel
theorem dX11_init_420 : decode cX11_init 420 = .ok (.iastore, 1) := by decide +kernel
theorem dX11_init_421 : decode cX11_init 421 = .ok (.dup, 1) := by decide +kernel
theorem dX11_init_422 : decode cX11_init 422 = .ok (.bipush 49, 2) := by decide +kernel
theorem dX11_init_424 : decode cX11_init 424 = .ok (.bipush 114, 2) := by decide +kernel
theorem dX11_init_426 : decode cX11_init 426 = .ok (.iastore, 1) := by decide +kernel
theorem dX11_init_427 : decode cX11_init 427 = .ok (.dup, 1) := by decide +kernel
theorem dX11_init_428 : decode cX11_init 428 = .ok (.bipush 50, 2) := by decide +kernel
theorem dX11_init_430 : decode cX11_init 430 = .ok (.bipush 32, 2) := by decide +kernel
theorem dX11_init_432 : decode cX11_init 432 = .ok (.iastore, 1) := by decide +kernel
theorem dX11_init_433 : decode cX11_init 433 = .ok (.dup, 1) := by decide +kernel
theorem dX11_init_434 : decode cX11_init 434 = .ok (.bipush 51, 2) := by decide +kernel
theorem dX11_init_436 : decode cX11_init 436 = .ok (.bipush 97, 2) := by decide +kernel
theorem dX11_init_438 : decode cX11_init 438 = .ok (.iastore, 1) := by decide +kernel
theorem dX11_init_439 : decode cX11_init 439 = .ok (.dup, 1) := by decide +kernel
theorem dX11_init_440 : decode cX11_init 440 = .ok (.bipush 52, 2) := by decide +kernel
theorem dX11_init_442 : decode cX11_init 442 = .ok (.bipush 110, 2) := by decide +kernel
theorem dX11_init_444 : decode cX11_init 444 = .ok (.iastore, 1) := by decide +kernel
theorem dX11_init_445 : decode cX11_init 445 = .ok (.dup, 1) := by decide +kernel
theorem dX11_init_446 : decode cX11_init 446 = .ok (.bipush 53, 2) := by decide +kernel
theorem dX11_init_448 : decode cX11_init 448 = .ok (.bipush 100, 2) := by decide +kernel
theorem dX11_init_450 : decode cX11_init 450 = .ok (.iastore, 1) := by decide +kernel
theorem dX11_init_451 : decode cX11_init 451 = .ok (.dup, 1) := by decide +kernel
theorem dX11_init_452 : decode cX11_init 452 = .ok (.bipush 54, 2) := by decide +kernel
theorem dX11_init_454 : decode cX11_init 454 = .ok (.bipush 32, 2) := by decide +kernel
theorem dX11_init_456 : decode cX11_init 456 = .ok (.iastore, 1) := by decide +kernel
theorem dX11_init_457 : decode cX11_init 457 = .ok (.dup, 1) := by decide +kernel
theorem dX11_init_458 : decode cX11_init 458 = .ok (.bipush 55, 2) := by decide +kernel
theorem dX11_init_460 : decode cX11_init 460 = .ok (.bipush 110, 2) := by decide +kernel
theorem dX11_init_462 : decode cX11_init 462 = .ok (.iastore, 1) := by decide +kernel
theorem dX11_init_463 : decode cX11_init 463 = .ok (.dup, 1) := by decide +kernel
theorem dX11_init_464 : decode cX11_init 464 = .ok (.bipush 56, 2) := by decide +kernel
theorem dX11_init_466 : decode cX11_init 466 = .ok (.bipush 111, 2) := by decide +kernel
theorem dX11_init_468 : decode cX11_init 468 = .ok (.iastore, 1) := by decide +kernel
theorem dX11_init_469 : decode cX11_init 469 = .ok (.dup, 1) := by decide +kernel
theorem dX11_init_470 : decode cX11_init 470 = .ok (.bipush 57, 2) := by decide +kernel
theorem dX11_init_472 : decode cX11_init 472 = .ok (.bipush 116, 2) := by decide +kernel
theorem dX11_init_474 : decode cX11_init 474 = .ok (.iastore, 1) := by decide +kernel
theorem dX11_init_475 : decode cX11_init 475 = .ok (.dup, 1) := by decide +kernel
theorem dX11_init_476 : decode cX11_init 476 = .ok (.bipush 58, 2) := by decide +kernel
theorem dX11_init_478 : decode cX11_init 478 = .ok (.bipush 32, 2) := by decide +kernel
theorem dX11_init_480 : decode cX11_init 480 = .ok (.iastore, 1) := by decide +kernel
theorem dX11_init_481 : decode cX11_init 481 = .ok (.putfield 39, 3) := by decide +kernel
theorem dX11_init_484 : decode cX11_init 484 = .ok (.aload_n 0, 1) := by decide +kernel
theorem dX11_init_485 : decode cX11_init 485 = .ok (.bipush 12, 2) := by decide +kernel
theorem dX11_init_487 : decode cX11_init 487 = .ok (.newarray .int, 2) := by decide +kernel
theorem dX11_init_489 : decode cX11_init 489 = .ok (.dup, 1) := by decide +kernel
theorem dX11_init_490 : decode cX11_init 490 = .ok (.iconst 0, 1) := by decide +kernel
theorem dX11_init_491 : decode cX11_init 491 = .ok (.iconst 0, 1) := by decide +kernel
theorem dX11_init_492 : decode cX11_init 492 = .ok (.iastore, 1) := by decide +kernel
theorem dX11_init_493 : decode cX11_init 493 = .ok (.dup, 1) := by decide +kernel
theorem dX11_init_494 : decode cX11_init 494 = .ok (.iconst 1, 1) := by decide +kernel
theorem dX11_init_495 : decode cX11_init 495 = .ok (.iconst 1, 1) := by decide +kernel
theorem dX11_init_496 : decode cX11_init 496 = .ok (.iastore, 1) := by decide +kernel
theorem dX11_init_497 : decode cX11_init 497 = .ok (.dup, 1) := by decide +kernel
theorem dX11_init_498 : decode cX11_init 498 = .ok (.iconst 2, 1) := by decide +kernel
theorem dX11_init_499 : decode cX11_init 499 = .ok (.iconst 2, 1) := by decide +kernel
theorem dX11_init_500 : decode cX11_init 500 = .ok (.iastore, 1) := by decide +kernel
theorem dX11_init_501 : decode cX11_init 501 = .ok (.dup, 1) := by decide +kernel
theorem dX11_init_502 : decode cX11_init 502 = .ok (.iconst 3, 1) := by decide +kernel
theorem dX11_init_503 : decode cX11_init 503 = .ok (.iconst 3, 1) := by decide +kernel
theorem dX11_init_504 : decode cX11_init 504 = .ok (.iastore, 1) := by decide +kernel
theorem dX11_init_505 : decode cX11_init 505 = .ok (.dup, 1) := by decide +kernel
theorem dX11_init_506 : decode cX11_init 506 = .ok (.iconst 4, 1) := by decide +kernel
theorem dX11_init_507 : decode cX11_init 507 = .ok (.iconst 4, 1) := by decide +kernel
theorem dX11_init_508 : decode cX11_init 508 = .ok (.iastore, 1) := by decide +kernel
theorem dX11_init_509 : decode cX11_init 509 = .ok (.dup, 1) := by decide +kernel
theorem dX11_init_510 : decode cX11_init 510 = .ok (.iconst 5, 1) := by decide +kernel
theorem dX11_init_511 : decode cX11_init 511 = .ok (.iconst 5, 1) := by decide +kernel
theorem dX11_init_512 : decode cX11_init 512 = .ok (.iastore, 1) := by decide +kernel
theorem dX11_init_513 : decode cX11_init 513 = .ok (.dup, 1) := by decide +kernel
theorem dX11_init_514 : decode cX11_init 514 = .ok (.bipush 6, 2) := by decide +kernel
theorem dX11_init_516 : decode cX11_init 516 = .ok (.bipush 10, 2) := by decide +kernel
theorem dX11_init_518 : decode cX11_init 518 = .ok (.iastore, 1) := by decide +kernel
theorem dX11_init_519 : decode cX11_init 519 = .ok (.dup, 1) := by decide +kernel
theorem dX11_init_520 : decode cX11_init 520 = .ok (.bipush 7, 2) := by decide +kernel
theorem dX11_init_522 : decode cX11_init 522 = .ok (.bipush 11, 2) := by decide +kernel
theorem dX11_init_524 : decode cX11_init 524 = .ok (.iastore, 1) := by decide +kernel
theorem dX11_init_525 : decode cX11_init 525 = .ok (.dup, 1) := by decide +kernel
theorem dX11_init_526 : decode cX11_init 526 = .ok (.bipush 8, 2) := by decide +kernel
theorem dX11_init_528 : decode cX11_init 528 = .ok (.bipush 12, 2) := by decide +kernel
theorem dX11_init_530 : decode cX11_init 530 = .ok (.iastore, 1) := by decide +kernel
theorem dX11_init_531 : decode cX11_init 531 = .ok (.dup, 1) := by decide +kernel
theorem dX11_init_532 : decode cX11_init 532 = .ok (.bipush 9, 2) := by decide +kernel
theorem dX11_init_534 : decode cX11_init 534 = .ok (.bipush 13, 2) := by decide +kernel
theorem dX11_init_536 : decode cX11_init 536 = .ok (.iastore, 1) := by decide +kernel
theorem dX11_init_537 : decode cX11_init 537 = .ok (.dup, 1) := by decide +kernel
theorem dX11_init_538 : decode cX11_init 538 = .ok (.bipush 10, 2) := by decide +kernel
theorem dX11_init_540 : decode cX11_init 540 = .ok (.bipush 14, 2) := by decide +kernel
theorem dX11_init_542 : decode cX11_init 542 = .ok (.iastore, 1) := by decide +kernel
theorem dX11_init_543 : decode cX11_init 543 = .ok (.dup, 1) := by decide +kernel
theorem dX11_init_544 : decode cX11_init 544 = .ok (.bipush 11, 2) := by decide +kernel
theorem dX11_init_546 : decode cX11_init 546 = .ok (.bipush 15, 2) := by decide +kernel
theorem dX11_init_548 : decode cX11_init 548 = .ok (.iastore, 1) := by decide +kernel
theorem dX11_init_549 : decode cX11_init 549 = .ok (.putfield 42, 3) := by decide +kernel
theorem dX11_init_552 : decode cX11_init 552 = .ok (.aload_n 0, 1) := by decide +kernel
theorem dX11_init_553 : decode cX11_init 553 = .ok (.bipush 8, 2) := by decide +kernel
theorem dX11_init_555 : decode cX11_init 555 = .ok (.newarray .int, 2) := by decide +kernel
theorem dX11_init_557 : decode cX11_init 557 = .ok (.putfield 45, 3) := by decide +kernel
theorem dX11_init_560 : decode cX11_init 560 = .ok (.aload_n 0, 1) := by decide +kernel
theorem dX11_init_561 : decode cX11_init 561 = .ok (.bipush 8, 2) := by decide +kernel
theorem dX11_init_563 : decode cX11_init 563 = .ok (.newarray .int, 2) := by decide +kernel
theorem dX11_init_565 : decode cX11_init 565 = .ok (.putfield 48, 3) := by decide +kernel
theorem dX11_init_568 : decode cX11_init 568 = .ok (.aload_n 0, 1) := by decide +kernel
theorem dX11_init_569 : decode cX11_init 569 = .ok (.bipush 8, 2) := by decide +kernel
theorem dX11_init_571 : decode cX11_init 571 = .ok (.newarray .int, 2) := by decide +kernel
theorem dX11_init_573 : decode cX11_init 573 = .ok (.putfield 51, 3) := by decide +kernel
theorem dX11_init_576 : decode cX11_init 576 = .ok (.aload_n 0, 1) := by decide +kernel
theorem dX11_init_577 : decode cX11_init 577 = .ok (.bipush 8, 2) := by decide +kernel
theorem dX11_init_579 : decode cX11_init 579 = .ok (.newarray .int, 2) := by decide +kernel
theorem dX11_init_581 : decode cX11_init 581 = .ok (.putfield 54, 3) := by decide +kernel
theorem dX11_init_584 : decode cX11_init 584 = .ok (.aload_n 0, 1) := by decide +kernel
theorem dX11_init_585 : decode cX11_init 585 = .ok (.bipush 8, 2) := by decide +kernel
theorem dX11_init_587 : decode cX11_init 587 = .ok (.newarray .int, 2) := by decide +kernel
theorem dX11_init_589 : decode cX11_init 589 = .ok (.putfield 57, 3) := by decide +kernel
theorem dX11_init_592 : decode cX11_init 592 = .ok (.aload_n 0, 1) := by decide +kernel
theorem dX11_init_593 : decode cX11_init 593 = .ok (.bipush 8, 2) := by decide +kernel
theorem dX11_init_595 : decode cX11_init 595 = .ok (.newarray .int, 2) := by decide +kernel
theorem dX11_init_597 : decode cX11_init 597 = .ok (.putfield 60, 3) := by decide +kernel
theorem dX11_init_600 : decode cX11_init 600 = .ok (.aload_n 0, 1) := by decide +kernel
theorem dX11_init_601 : decode cX11_init 601 = .ok (.bipush 6, 2) := by decide +kernel
theorem dX11_init_603 : decode cX11_init 603 = .ok (.newarray .long, 2) := by decide +kernel
theorem dX11_init_605 : decode cX11_init 605 = .ok (.putfield 63, 3) := by decide +kernel
theorem dX11_init_608 : decode cX11_init 608 = .ok (.aload_n 0, 1) := by decide +kernel
theorem dX11_init_609 : decode cX11_init 609 = .ok (.bipush 8, 2) := by decide +kernel
theorem dX11_init_611 : decode cX11_init 611 = .ok (.newarray .int, 2) := by decide +kernel
theorem dX11_init_613 : decode cX11_init 613 = .ok (.putfield 67, 3) := by decide +kernel
theorem dX11_init_616 : decode cX11_init 616 = .ok (.aload_n 0, 1) := by decide +kernel
theorem dX11_init_617 : decode cX11_init 617 = .ok (.bipush 6, 2) := by decide +kernel
theorem dX11_init_619 : decode cX11_init 619 = .ok (.newarray .int, 2) := by decide +kernel
theorem dX11_init_621 : decode cX11_init 621 = .ok (.putfield 70, 3) := by decide +kernel
theorem dX11_init_624 : decode cX11_init 624 = .ok (.aload_n 0, 1) := by decide +kernel
theorem dX11_init_625 : decode cX11_init 625 = .ok (.bipush 6, 2) := by decide +kernel
theorem dX11_init_627 : decode cX11_init 627 = .ok (.newarray .int, 2) := by decide +kernel
theorem dX11_init_629 : decode cX11_init 629 = .ok (.putfield 73, 3) := by decide +kernel
theorem dX11_init_632 : decode cX11_init 632 = .ok (.aload_n 0, 1) := by decide +kernel
theorem dX11_init_633 : decode cX11_init 633 = .ok (.bipush 36, 2) := by decide +kernel
theorem dX11_init_635 : decode cX11_init 635 = .ok (.newarray .int, 2) := by decide +kernel
theorem dX11_init_637 : decode cX11_init 637 = .ok (.putfield 76, 3) := by decide +kernel
theorem dX11_init_640 : decode cX11_init 640 = .ok (.aload_n 0, 1) := by decide +kernel
theorem dX11_init_641 : decode cX11_init 641 = .ok (.bipush 10, 2) := by decide +kernel
theorem dX11_init_643 : decode cX11_init 643 = .ok (.newarray .int, 2) := by decide +kernel
theorem dX11_init_645 : decode cX11_init 645 = .ok (.putfield 79, 3) := by decide +kernel
theorem dX11_init_648 : decode cX11_init 648 = .ok (.aload_n 0, 1) := by decide +kernel
theorem dX11_init_649 : decode cX11_init 649 = .ok (.bipush 10, 2) := by decide +kernel
theorem dX11_init_651 : decode cX11_init 651 = .ok (.newarray .int, 2) := by decide +kernel
theorem dX11_init_653 : decode cX11_init 653 = .ok (.putfield 82, 3) := by decide +kernel
theorem dX11_init_656 : decode cX11_init 656 = .ok (.aload_n 0, 1) := by decide +kernel
theorem dX11_init_657 : decode cX11_init 657 = .ok (.bipush 10, 2) := by decide +kernel
theorem dX11_init_659 : decode cX11_init 659 = .ok (.newarray .int, 2) := by decide +kernel
theorem dX11_init_661 : decode cX11_init 661 = .ok (.putfield 85, 3) := by decide +kernel
theorem dX11_init_664 : decode cX11_init 664 = .ok (.aload_n 0, 1) := by decide +kernel
theorem dX11_init_665 : decode cX11_init 665 = .ok (.bipush 10, 2) := by decide +kernel
theorem dX11_init_667 : decode cX11_init 667 = .ok (.newarray .int, 2) := by decide +kernel
theorem dX11_init_669 : decode cX11_init 669 = .ok (.putfield 88, 3) := by decide +kernel
theorem dX11_init_672 : decode cX11_init 672 = .ok (.aload_n 0, 1) := by decide +kernel
theorem dX11_init_673 : decode cX11_init 673 = .ok (.bipush 24, 2) := by decide +kernel
theorem dX11_init_675 : decode cX11_init 675 = .ok (.newarray .int, 2) := by decide +kernel
theorem dX11_init_677 : decode cX11_init 677 = .ok (.putfield 91, 3) := by decide +kernel
theorem dX11_init_680 : decode cX11_init 680 = .ok (.aload_n 0, 1) := by decide +kernel
theorem dX11_init_681 : decode cX11_init 681 = .ok (.bipush 24, 2) := by decide +kernel
theorem dX11_init_683 : decode cX11_init 683 = .ok (.newarray .int, 2) := by decide +kernel
theorem dX11_init_685 : decode cX11_init 685 = .ok (.putfield 94, 3) := by decide +kernel
theorem dX11_init_688 : decode cX11_init 688 = .ok (.aload_n 0, 1) := by decide +kernel
theorem dX11_init_689 : decode cX11_init 689 = .ok (.bipush 24, 2) := by decide +kernel
theorem dX11_init_691 : decode cX11_init 691 = .ok (.newarray .int, 2) := by decide +kernel
theorem dX11_init_693 : decode cX11_init 693 = .ok (.putfield 97, 3) := by decide +kernel
theorem dX11_init_696 : decode cX11_init 696 = .ok (.aload_n 0, 1) := by decide +kernel
theorem dX11_init_697 : decode cX11_init 697 = .ok (.iconst 4, 1) := by decide +kernel
theorem dX11_init_698 : decode cX11_init 698 = .ok (.newarray .int, 2) := by decide +kernel
theorem dX11_init_700 : decode cX11_init 700 = .ok (.putfield 100, 3) := by decide +kernel
theorem dX11_init_703 : decode cX11_init 703 = .ok (.aload_n 0, 1) := by decide +kernel
theorem dX11_init_704 : decode cX11_init 704 = .ok (.bipush 6, 2) := by decide +kernel
theorem dX11_init_706 : decode cX11_init 706 = .ok (.newarray .int, 2) := by decide +kernel
theorem dX11_init_708 : decode cX11_init 708 = .ok (.putfield 103, 3) := by decide +kernel
theorem dX11_init_711 : decode cX11_init 711 = .ok (.aload_n 0, 1) := by decide +kernel
theorem dX11_init_712 : decode cX11_init 712 = .ok (.bipush 6, 2) := by decide +kernel
theorem dX11_init_714 : decode cX11_init 714 = .ok (.newarray .int, 2) := by decide +kernel
theorem dX11_init_716 : decode cX11_init 716 = .ok (.putfield 106, 3) := by decide +kernel
theorem dX11_init_719 : decode cX11_init 719 = .ok (.aload_n 0, 1) := by decide +kernel
theorem dX11_init_720 : decode cX11_init 720 = .ok (.bipush 36, 2) := by decide +kernel
theorem dX11_init_722 : decode cX11_init 722 = .ok (.newarray .int, 2) := by decide +kernel
theorem dX11_init_724 : decode cX11_init 724 = .ok (.putfield 109, 3) := by decide +kernel
theorem dX11_init_727 : decode cX11_init 727 = .ok (.aload_n 0, 1) := by decide +kernel
theorem dX11_init_728 : decode cX11_init 728 = .ok (.iconst 4, 1) := by decide +kernel
theorem dX11_init_729 : decode cX11_init 729 = .ok (.newarray .int, 2) := by decide +kernel
theorem dX11_init_731 : decode cX11_init 731 = .ok (.dup, 1) := by decide +kernel
theorem dX11_init_732 : decode cX11_init 732 = .ok (.iconst 0, 1) := by decide +kernel
theorem dX11_init_733 : decode cX11_init 733 = .ok (.iconst (-1), 1) := by decide +kernel
theorem dX11_init_734 : decode cX11_init 734 = .ok (.iastore, 1) := by decide +kernel
theorem dX11_init_735 : decode cX11_init 735 = .ok (.dup, 1) := by decide +kernel
theorem dX11_init_736 : decode cX11_init 736 = .ok (.iconst 1, 1) := by decide +kernel
theorem dX11_init_737 : decode cX11_init 737 = .ok (.iconst (-1), 1) := by decide +kernel
theorem dX11_init_738 : decode cX11_init 738 = .ok (.iastore, 1) := by decide +kernel
theorem dX11_init_739 : decode cX11_init 739 = .ok (.dup, 1) := by decide +kernel
theorem dX11_init_740 : decode cX11_init 740 = .ok (.iconst 2, 1) := by decide +kernel
theorem dX11_init_741 : decode cX11_init 741 = .ok (.iconst (-1), 1) := by decide +kernel
theorem dX11_init_742 : decode cX11_init 742 = .ok (.iastore, 1) := by decide +kernel
theorem dX11_init_743 : decode cX11_init 743 = .ok (.dup, 1) := by decide +kernel
theorem dX11_init_744 : decode cX11_init 744 = .ok (.iconst 3, 1) := by decide +kernel
theorem dX11_init_745 : decode cX11_init 745 = .ok (.iconst (-1), 1) := by decide +kernel
theorem dX11_init_746 : decode cX11_init 746 = .ok (.iastore, 1) := by decide +kernel
theorem dX11_init_747 : decode cX11_init 747 = .ok (.putfield 112, 3) := by decide +kernel
theorem dX11_init_750 : decode cX11_init 750 = .ok (.aload_n 0, 1) := by decide +kernel
theorem dX11_init_751 : decode cX11_init 751 = .ok (.iconst 4, 1) := by decide +kernel
theorem dX11_init_752 : decode cX11_init 752 = .ok (.newarray .int, 2) := by decide +kernel
theorem dX11_init_754 : decode cX11_init 754 = .ok (.putfield 115, 3) := by decide +kernel
theorem dX11_init_757 : decode cX11_init 757 = .ok (.aload_n 0, 1) := by decide +kernel
theorem dX11_init_758 : decode cX11_init 758 = .ok (.sipush 160, 3) := by decide +kernel
theorem dX11_init_761 : decode cX11_init 761 = .ok (.newarray .int, 2) := by decide +kernel
theorem dX11_init_763 : decode cX11_init 763 = .ok (.putfield 118, 3) := by decide +kernel
theorem dX11_init_766 : decode cX11_init 766 = .ok (.aload_n 0, 1) := by decide +kernel
theorem dX11_init_767 : decode cX11_init 767 = .ok (.bipush 40, 2) := by decide +kernel
theorem dX11_init_769 : decode cX11_init 769 = .ok (.newarray .int, 2) := by decide +kernel
theorem dX11_init_771 : decode cX11_init 771 = .ok (.putfield 121, 3) := by decide +kernel
theorem dX11_init_774 : decode cX11_init 774 = .ok (.return_, 1) := by decide +kernel
theorem dX11_in_0 : decode cX11_in 0 = .ok (.iload_n 0, 1) := by decide +kernel
theorem dX11_in_1 : decode cX11_in 1 = .ok (.iload_n 1, 1) := by decide +kernel
theorem dX11_in_2 : decode cX11_in 2 = .ok (.if_icmp .lt 12, 3) := by decide +kernel
theorem dX11_in_5 : decode cX11_in 5 = .ok (.iload_n 0, 1) := by decide +kernel
theorem dX11_in_6 : decode cX11_in 6 = .ok (.iload_n 2, 1) := by decide +kernel
theorem dX11_in_7 : decode cX11_in 7 = .ok (.if_icmp .gt 7, 3) := by decide +kernel
theorem dX11_in_10 : decode cX11_in 10 = .ok (.iconst 1, 1) := by decide +kernel
theorem dX11_in_11 : decode cX11_in 11 = .ok (.goto 4, 3) := by decide +kernel
theorem dX11_in_14 : decode cX11_in 14 = .ok (.iconst 0, 1) := by decide +kernel
theorem dX11_in_15 : decode cX11_in 15 = .ok (.ireturn, 1) := by decide +kernel
theorem dX11_held_0 : decode cX11_held 0 = .ok (.iload_n 0, 1) := by decide +kernel
theorem dX11_held_1 : decode cX11_held 1 = .ok (.iload_n 1, 1) := by decide +kernel
theorem dX11_held_2 : decode cX11_held 2 = .ok (.if_icmp .ge 7, 3) := by decide +kernel
theorem dX11_held_5 : decode cX11_held 5 = .ok (.iload_n 1, 1) := by decide +kernel
theorem dX11_held_6 : decode cX11_held 6 = .ok (.goto 13, 3) := by decide +kernel
theorem dX11_held_9 : decode cX11_held 9 = .ok (.iload_n 0, 1) := by decide +kernel
theorem dX11_held_10 : decode cX11_held 10 = .ok (.iload_n 2, 1) := by decide +kernel
theorem dX11_held_11 : decode cX11_held 11 = .ok (.if_icmp .le 7, 3) := by decide +kernel
theorem dX11_held_14 : decode cX11_held 14 = .ok (.iload_n 2, 1) := by decide +kernel
theorem dX11_held_15 : decode cX11_held 15 = .ok (.goto 4, 3) := by decide +kernel
theorem dX11_held_18 : decode cX11_held 18 = .ok (.iload_n 0, 1) := by decide +kernel
theorem dX11_held_19 : decode cX11_held 19 = .ok (.ireturn, 1) := by decide +kernel
theorem dX11_sizeOf_0 : decode cX11_sizeOf 0 = .ok (.iload_n 0, 1) := by decide +kernel
theorem dX11_sizeOf_1 : decode cX11_sizeOf 1 = .ok (.ifCond .ge 8, 3) := by decide +kernel
theorem dX11_sizeOf_4 : decode cX11_sizeOf 4 = .ok (.iload_n 0, 1) := by decide +kernel
theorem dX11_sizeOf_5 : decode cX11_sizeOf 5 = .ok (.ineg, 1) := by decide +kernel
theorem dX11_sizeOf_6 : decode cX11_sizeOf 6 = .ok (.goto 4, 3) := by decide +kernel
theorem dX11_sizeOf_9 : decode cX11_sizeOf 9 = .ok (.iload_n 0, 1) := by decide +kernel
theorem dX11_sizeOf_10 : decode cX11_sizeOf 10 = .ok (.ireturn, 1) := by decide +kernel
theorem dX11_bitsOf_0 : decode cX11_bitsOf 0 = .ok (.iconst 0, 1) := by decide +kernel
theorem dX11_bitsOf_1 : decode cX11_bitsOf 1 = .ok (.istore_n 1, 1) := by decide +kernel
theorem dX11_bitsOf_2 : decode cX11_bitsOf 2 = .ok (.iload_n 0, 1) := by decide +kernel
theorem dX11_bitsOf_3 : decode cX11_bitsOf 3 = .ok (.istore_n 2, 1) := by decide +kernel
theorem dX11_bitsOf_4 : decode cX11_bitsOf 4 = .ok (.iload_n 2, 1) := by decide +kernel
theorem dX11_bitsOf_5 : decode cX11_bitsOf 5 = .ok (.ifCond .eq 15, 3) := by decide +kernel
theorem dX11_bitsOf_8 : decode cX11_bitsOf 8 = .ok (.iinc 1 1, 3) := by decide +kernel
theorem dX11_bitsOf_11 : decode cX11_bitsOf 11 = .ok (.iload_n 2, 1) := by decide +kernel
theorem dX11_bitsOf_12 : decode cX11_bitsOf 12 = .ok (.iload_n 2, 1) := by decide +kernel
theorem dX11_bitsOf_13 : decode cX11_bitsOf 13 = .ok (.iconst 1, 1) := by decide +kernel
theorem dX11_bitsOf_14 : decode cX11_bitsOf 14 = .ok (.isub, 1) := by decide +kernel
theorem dX11_bitsOf_15 : decode cX11_bitsOf 15 = .ok (.iand, 1) := by decide +kernel
theorem dX11_bitsOf_16 : decode cX11_bitsOf 16 = .ok (.istore_n 2, 1) := by decide +kernel
theorem dX11_bitsOf_17 : decode cX11_bitsOf 17 = .ok (.goto (-13), 3) := by decide +kernel
theorem dX11_bitsOf_20 : decode cX11_bitsOf 20 = .ok (.iload_n 1, 1) := by decide +kernel
theorem dX11_bitsOf_21 : decode cX11_bitsOf 21 = .ok (.ireturn, 1) := by decide +kernel
theorem dX11_isNow_0 : decode cX11_isNow 0 = .ok (.iload_n 0, 1) := by decide +kernel
theorem dX11_isNow_1 : decode cX11_isNow 1 = .ok (.tableswitch 77 0 4 #[35, 43, 51, 60, 68], 35) := by decide +kernel
theorem dX11_isNow_36 : decode cX11_isNow 36 = .ok (.iload_n 1, 1) := by decide +kernel
theorem dX11_isNow_37 : decode cX11_isNow 37 = .ok (.iconst 0, 1) := by decide +kernel
theorem dX11_isNow_38 : decode cX11_isNow 38 = .ok (.bipush 20, 2) := by decide +kernel
theorem dX11_isNow_40 : decode cX11_isNow 40 = .ok (.invokestatic 127, 3) := by decide +kernel
theorem dX11_isNow_43 : decode cX11_isNow 43 = .ok (.ireturn, 1) := by decide +kernel
theorem dX11_isNow_44 : decode cX11_isNow 44 = .ok (.iload_n 1, 1) := by decide +kernel
theorem dX11_isNow_45 : decode cX11_isNow 45 = .ok (.iconst 0, 1) := by decide +kernel
theorem dX11_isNow_46 : decode cX11_isNow 46 = .ok (.bipush 9, 2) := by decide +kernel
theorem dX11_isNow_48 : decode cX11_isNow 48 = .ok (.invokestatic 127, 3) := by decide +kernel
theorem dX11_isNow_51 : decode cX11_isNow 51 = .ok (.ireturn, 1) := by decide +kernel
theorem dX11_isNow_52 : decode cX11_isNow 52 = .ok (.iload_n 1, 1) := by decide +kernel
theorem dX11_isNow_53 : decode cX11_isNow 53 = .ok (.bipush (-9), 2) := by decide +kernel
theorem dX11_isNow_55 : decode cX11_isNow 55 = .ok (.bipush 9, 2) := by decide +kernel
theorem dX11_isNow_57 : decode cX11_isNow 57 = .ok (.invokestatic 127, 3) := by decide +kernel
theorem dX11_isNow_60 : decode cX11_isNow 60 = .ok (.ireturn, 1) := by decide +kernel
theorem dX11_isNow_61 : decode cX11_isNow 61 = .ok (.iload_n 1, 1) := by decide +kernel
theorem dX11_isNow_62 : decode cX11_isNow 62 = .ok (.iconst 0, 1) := by decide +kernel
theorem dX11_isNow_63 : decode cX11_isNow 63 = .ok (.bipush 9, 2) := by decide +kernel
theorem dX11_isNow_65 : decode cX11_isNow 65 = .ok (.invokestatic 127, 3) := by decide +kernel
theorem dX11_isNow_68 : decode cX11_isNow 68 = .ok (.ireturn, 1) := by decide +kernel
theorem dX11_isNow_69 : decode cX11_isNow 69 = .ok (.iload_n 1, 1) := by decide +kernel
theorem dX11_isNow_70 : decode cX11_isNow 70 = .ok (.iconst 0, 1) := by decide +kernel
theorem dX11_isNow_71 : decode cX11_isNow 71 = .ok (.sipush 4095, 3) := by decide +kernel
theorem dX11_isNow_74 : decode cX11_isNow 74 = .ok (.invokestatic 127, 3) := by decide +kernel
theorem dX11_isNow_77 : decode cX11_isNow 77 = .ok (.ireturn, 1) := by decide +kernel
theorem dX11_isNow_78 : decode cX11_isNow 78 = .ok (.iload_n 1, 1) := by decide +kernel
theorem dX11_isNow_79 : decode cX11_isNow 79 = .ok (.iconst 1, 1) := by decide +kernel
theorem dX11_isNow_80 : decode cX11_isNow 80 = .ok (.bipush 12, 2) := by decide +kernel
theorem dX11_isNow_82 : decode cX11_isNow 82 = .ok (.invokestatic 127, 3) := by decide +kernel
theorem dX11_isNow_85 : decode cX11_isNow 85 = .ok (.ireturn, 1) := by decide +kernel
theorem dX11_set_0 : decode cX11_set 0 = .ok (.iload_n 1, 1) := by decide +kernel
theorem dX11_set_1 : decode cX11_set 1 = .ok (.iconst 0, 1) := by decide +kernel
theorem dX11_set_2 : decode cX11_set 2 = .ok (.iconst 5, 1) := by decide +kernel
theorem dX11_set_3 : decode cX11_set 3 = .ok (.invokestatic 127, 3) := by decide +kernel
theorem dX11_set_6 : decode cX11_set 6 = .ok (.ifCond .ne 5, 3) := by decide +kernel
theorem dX11_set_9 : decode cX11_set 9 = .ok (.iconst (-1), 1) := by decide +kernel
theorem dX11_set_10 : decode cX11_set 10 = .ok (.ireturn, 1) := by decide +kernel
theorem dX11_set_11 : decode cX11_set 11 = .ok (.iload_n 1, 1) := by decide +kernel
theorem dX11_set_12 : decode cX11_set 12 = .ok (.iload_n 2, 1) := by decide +kernel
theorem dX11_set_13 : decode cX11_set 13 = .ok (.invokestatic 131, 3) := by decide +kernel
theorem dX11_set_16 : decode cX11_set 16 = .ok (.ifCond .ne 6, 3) := by decide +kernel
theorem dX11_set_19 : decode cX11_set 19 = .ok (.bipush (-2), 2) := by decide +kernel
theorem dX11_set_21 : decode cX11_set 21 = .ok (.ireturn, 1) := by decide +kernel
theorem dX11_set_22 : decode cX11_set 22 = .ok (.aload_n 0, 1) := by decide +kernel
theorem dX11_set_23 : decode cX11_set 23 = .ok (.getfield 7, 3) := by decide +kernel
theorem dX11_set_26 : decode cX11_set 26 = .ok (.iload_n 1, 1) := by decide +kernel
theorem dX11_set_27 : decode cX11_set 27 = .ok (.iaload, 1) := by decide +kernel
theorem dX11_set_28 : decode cX11_set 28 = .ok (.istore_n 3, 1) := by decide +kernel
theorem dX11_set_29 : decode cX11_set 29 = .ok (.aload_n 0, 1) := by decide +kernel
theorem dX11_set_30 : decode cX11_set 30 = .ok (.getfield 7, 3) := by decide +kernel
theorem dX11_set_33 : decode cX11_set 33 = .ok (.iload_n 1, 1) := by decide +kernel
theorem dX11_set_34 : decode cX11_set 34 = .ok (.iload_n 2, 1) := by decide +kernel
theorem dX11_set_35 : decode cX11_set 35 = .ok (.iastore, 1) := by decide +kernel
theorem dX11_set_36 : decode cX11_set 36 = .ok (.iload_n 3, 1) := by decide +kernel
theorem dX11_set_37 : decode cX11_set 37 = .ok (.ireturn, 1) := by decide +kernel
theorem dX11_want_0 : decode cX11_want 0 = .ok (.iload_n 1, 1) := by decide +kernel
theorem dX11_want_1 : decode cX11_want 1 = .ok (.iconst 0, 1) := by decide +kernel
theorem dX11_want_2 : decode cX11_want 2 = .ok (.iconst 5, 1) := by decide +kernel
theorem dX11_want_3 : decode cX11_want 3 = .ok (.invokestatic 127, 3) := by decide +kernel
theorem dX11_want_6 : decode cX11_want 6 = .ok (.ifCond .ne 5, 3) := by decide +kernel
theorem dX11_want_9 : decode cX11_want 9 = .ok (.iconst (-1), 1) := by decide +kernel
theorem dX11_want_10 : decode cX11_want 10 = .ok (.ireturn, 1) := by decide +kernel
theorem dX11_want_11 : decode cX11_want 11 = .ok (.iload_n 2, 1) := by decide +kernel
theorem dX11_want_12 : decode cX11_want 12 = .ok (.iconst 0, 1) := by decide +kernel
theorem dX11_want_13 : decode cX11_want 13 = .ok (.bipush 99, 2) := by decide +kernel
theorem dX11_want_15 : decode cX11_want 15 = .ok (.invokestatic 127, 3) := by decide +kernel
theorem dX11_want_18 : decode cX11_want 18 = .ok (.ifCond .ne 6, 3) := by decide +kernel
theorem dX11_want_21 : decode cX11_want 21 = .ok (.bipush (-2), 2) := by decide +kernel
theorem dX11_want_23 : decode cX11_want 23 = .ok (.ireturn, 1) := by decide +kernel
theorem dX11_want_24 : decode cX11_want 24 = .ok (.aload_n 0, 1) := by decide +kernel
theorem dX11_want_25 : decode cX11_want 25 = .ok (.getfield 13, 3) := by decide +kernel
theorem dX11_want_28 : decode cX11_want 28 = .ok (.iload_n 1, 1) := by decide +kernel
theorem dX11_want_29 : decode cX11_want 29 = .ok (.iaload, 1) := by decide +kernel
theorem dX11_want_30 : decode cX11_want 30 = .ok (.istore_n 3, 1) := by decide +kernel
theorem dX11_want_31 : decode cX11_want 31 = .ok (.aload_n 0, 1) := by decide +kernel
theorem dX11_want_32 : decode cX11_want 32 = .ok (.getfield 13, 3) := by decide +kernel
theorem dX11_want_35 : decode cX11_want 35 = .ok (.iload_n 1, 1) := by decide +kernel
theorem dX11_want_36 : decode cX11_want 36 = .ok (.iload_n 2, 1) := by decide +kernel
theorem dX11_want_37 : decode cX11_want 37 = .ok (.iastore, 1) := by decide +kernel
theorem dX11_want_38 : decode cX11_want 38 = .ok (.iload_n 3, 1) := by decide +kernel
theorem dX11_want_39 : decode cX11_want 39 = .ok (.ireturn, 1) := by decide +kernel
theorem dX11_count_0 : decode cX11_count 0 = .ok (.iload_n 1, 1) := by decide +kernel
theorem dX11_count_1 : decode cX11_count 1 = .ok (.iconst 0, 1) := by decide +kernel
theorem dX11_count_2 : decode cX11_count 2 = .ok (.iconst 5, 1) := by decide +kernel
theorem dX11_count_3 : decode cX11_count 3 = .ok (.invokestatic 127, 3) := by decide +kernel
theorem dX11_count_6 : decode cX11_count 6 = .ok (.ifCond .eq 10, 3) := by decide +kernel
theorem dX11_count_9 : decode cX11_count 9 = .ok (.aload_n 0, 1) := by decide +kernel
theorem dX11_count_10 : decode cX11_count 10 = .ok (.getfield 7, 3) := by decide +kernel
theorem dX11_count_13 : decode cX11_count 13 = .ok (.iload_n 1, 1) := by decide +kernel
theorem dX11_count_14 : decode cX11_count 14 = .ok (.iaload, 1) := by decide +kernel
theorem dX11_count_15 : decode cX11_count 15 = .ok (.ireturn, 1) := by decide +kernel
theorem dX11_count_16 : decode cX11_count 16 = .ok (.iload_n 1, 1) := by decide +kernel
theorem dX11_count_17 : decode cX11_count 17 = .ok (.tableswitch 78 6 12 #[43, 48, 53, 58, 63, 68, 73], 43) := by decide +kernel
theorem dX11_count_60 : decode cX11_count 60 = .ok (.aload_n 0, 1) := by decide +kernel
theorem dX11_count_61 : decode cX11_count 61 = .ok (.getfield 135, 3) := by decide +kernel
theorem dX11_count_64 : decode cX11_count 64 = .ok (.ireturn, 1) := by decide +kernel
theorem dX11_count_65 : decode cX11_count 65 = .ok (.aload_n 0, 1) := by decide +kernel
theorem dX11_count_66 : decode cX11_count 66 = .ok (.getfield 138, 3) := by decide +kernel
theorem dX11_count_69 : decode cX11_count 69 = .ok (.ireturn, 1) := by decide +kernel
theorem dX11_count_70 : decode cX11_count 70 = .ok (.aload_n 0, 1) := by decide +kernel
theorem dX11_count_71 : decode cX11_count 71 = .ok (.getfield 141, 3) := by decide +kernel
theorem dX11_count_74 : decode cX11_count 74 = .ok (.ireturn, 1) := by decide +kernel
theorem dX11_count_75 : decode cX11_count 75 = .ok (.aload_n 0, 1) := by decide +kernel
theorem dX11_count_76 : decode cX11_count 76 = .ok (.getfield 144, 3) := by decide +kernel
theorem dX11_count_79 : decode cX11_count 79 = .ok (.ireturn, 1) := by decide +kernel
theorem dX11_count_80 : decode cX11_count 80 = .ok (.aload_n 0, 1) := by decide +kernel
theorem dX11_count_81 : decode cX11_count 81 = .ok (.getfield 20, 3) := by decide +kernel
theorem dX11_count_84 : decode cX11_count 84 = .ok (.ireturn, 1) := by decide +kernel
theorem dX11_count_85 : decode cX11_count 85 = .ok (.aload_n 0, 1) := by decide +kernel
theorem dX11_count_86 : decode cX11_count 86 = .ok (.getfield 147, 3) := by decide +kernel
theorem dX11_count_89 : decode cX11_count 89 = .ok (.ireturn, 1) := by decide +kernel
theorem dX11_count_90 : decode cX11_count 90 = .ok (.aload_n 0, 1) := by decide +kernel
theorem dX11_count_91 : decode cX11_count 91 = .ok (.getfield 150, 3) := by decide +kernel
theorem dX11_count_94 : decode cX11_count 94 = .ok (.ireturn, 1) := by decide +kernel
theorem dX11_count_95 : decode cX11_count 95 = .ok (.bipush (-2), 2) := by decide +kernel
theorem dX11_count_97 : decode cX11_count 97 = .ok (.ireturn, 1) := by decide +kernel
theorem dX11_isMinute_0 : decode cX11_isMinute 0 = .ok (.iload_n 1, 1) := by decide +kernel
theorem dX11_isMinute_1 : decode cX11_isMinute 1 = .ok (.iconst 0, 1) := by decide +kernel
theorem dX11_isMinute_2 : decode cX11_isMinute 2 = .ok (.aload_n 0, 1) := by decide +kernel
theorem dX11_isMinute_3 : decode cX11_isMinute 3 = .ok (.getfield 7, 3) := by decide +kernel
theorem dX11_isMinute_6 : decode cX11_isMinute 6 = .ok (.iconst 5, 1) := by decide +kernel
theorem dX11_isMinute_7 : decode cX11_isMinute 7 = .ok (.iaload, 1) := by decide +kernel
theorem dX11_isMinute_8 : decode cX11_isMinute 8 = .ok (.iconst 1, 1) := by decide +kernel
theorem dX11_isMinute_9 : decode cX11_isMinute 9 = .ok (.isub, 1) := by decide +kernel
theorem dX11_isMinute_10 : decode cX11_isMinute 10 = .ok (.invokestatic 127, 3) := by decide +kernel
theorem dX11_isMinute_13 : decode cX11_isMinute 13 = .ok (.ireturn, 1) := by decide +kernel
theorem dX11_farIn_0 : decode cX11_farIn 0 = .ok (.aload_n 0, 1) := by decide +kernel
theorem dX11_farIn_1 : decode cX11_farIn 1 = .ok (.getfield 7, 3) := by decide +kernel
theorem dX11_farIn_4 : decode cX11_farIn 4 = .ok (.iconst 0, 1) := by decide +kernel
theorem dX11_farIn_5 : decode cX11_farIn 5 = .ok (.iaload, 1) := by decide +kernel
theorem dX11_farIn_6 : decode cX11_farIn 6 = .ok (.aload_n 0, 1) := by decide +kernel
theorem dX11_farIn_7 : decode cX11_farIn 7 = .ok (.getfield 7, 3) := by decide +kernel
theorem dX11_farIn_10 : decode cX11_farIn 10 = .ok (.iconst 1, 1) := by decide +kernel
theorem dX11_farIn_11 : decode cX11_farIn 11 = .ok (.iaload, 1) := by decide +kernel
theorem dX11_farIn_12 : decode cX11_farIn 12 = .ok (.iconst 2, 1) := by decide +kernel
theorem dX11_farIn_13 : decode cX11_farIn 13 = .ok (.iload_n 1, 1) := by decide +kernel
theorem dX11_farIn_14 : decode cX11_farIn 14 = .ok (.imul, 1) := by decide +kernel
theorem dX11_farIn_15 : decode cX11_farIn 15 = .ok (.aload_n 0, 1) := by decide +kernel
theorem dX11_farIn_16 : decode cX11_farIn 16 = .ok (.getfield 7, 3) := by decide +kernel
theorem dX11_farIn_19 : decode cX11_farIn 19 = .ok (.iconst 5, 1) := by decide +kernel
theorem dX11_farIn_20 : decode cX11_farIn 20 = .ok (.iaload, 1) := by decide +kernel
theorem dX11_farIn_21 : decode cX11_farIn 21 = .ok (.iconst 1, 1) := by decide +kernel
theorem dX11_farIn_22 : decode cX11_farIn 22 = .ok (.isub, 1) := by decide +kernel
theorem dX11_farIn_23 : decode cX11_farIn 23 = .ok (.isub, 1) := by decide +kernel
theorem dX11_farIn_24 : decode cX11_farIn 24 = .ok (.invokestatic 153, 3) := by decide +kernel
theorem dX11_farIn_27 : decode cX11_farIn 27 = .ok (.imul, 1) := by decide +kernel
theorem dX11_farIn_28 : decode cX11_farIn 28 = .ok (.iconst 2, 1) := by decide +kernel
theorem dX11_farIn_29 : decode cX11_farIn 29 = .ok (.idiv, 1) := by decide +kernel
theorem dX11_farIn_30 : decode cX11_farIn 30 = .ok (.iadd, 1) := by decide +kernel
theorem dX11_farIn_31 : decode cX11_farIn 31 = .ok (.ireturn, 1) := by decide +kernel
theorem dX11_pass_0 : decode cX11_pass 0 = .ok (.aload_n 0, 1) := by decide +kernel
theorem dX11_pass_1 : decode cX11_pass 1 = .ok (.iload_n 1, 1) := by decide +kernel
theorem dX11_pass_2 : decode cX11_pass 2 = .ok (.invokevirtual 157, 3) := by decide +kernel
theorem dX11_pass_5 : decode cX11_pass 5 = .ok (.ifCond .eq 11, 3) := by decide +kernel
theorem dX11_pass_8 : decode cX11_pass 8 = .ok (.aload_n 0, 1) := by decide +kernel
theorem dX11_pass_9 : decode cX11_pass 9 = .ok (.iload_n 1, 1) := by decide +kernel
theorem dX11_pass_10 : decode cX11_pass 10 = .ok (.invokevirtual 161, 3) := by decide +kernel
theorem dX11_pass_13 : decode cX11_pass 13 = .ok (.goto 5, 3) := by decide +kernel
theorem dX11_pass_16 : decode cX11_pass 16 = .ok (.bipush (-2), 2) := by decide +kernel
theorem dX11_pass_18 : decode cX11_pass 18 = .ok (.ireturn, 1) := by decide +kernel
theorem dX11_feed_0 : decode cX11_feed 0 = .ok (.iload_n 3, 1) := by decide +kernel
theorem dX11_feed_1 : decode cX11_feed 1 = .ok (.iconst 1, 1) := by decide +kernel
theorem dX11_feed_2 : decode cX11_feed 2 = .ok (.bipush 8, 2) := by decide +kernel
theorem dX11_feed_4 : decode cX11_feed 4 = .ok (.invokestatic 127, 3) := by decide +kernel
theorem dX11_feed_7 : decode cX11_feed 7 = .ok (.ifCond .ne 6, 3) := by decide +kernel
theorem dX11_feed_10 : decode cX11_feed 10 = .ok (.bipush (-2), 2) := by decide +kernel
theorem dX11_feed_12 : decode cX11_feed 12 = .ok (.ireturn, 1) := by decide +kernel
theorem dX11_feed_13 : decode cX11_feed 13 = .ok (.aload_n 0, 1) := by decide +kernel
theorem dX11_feed_14 : decode cX11_feed 14 = .ok (.getfield 150, 3) := by decide +kernel
theorem dX11_feed_17 : decode cX11_feed 17 = .ok (.iload_n 3, 1) := by decide +kernel
theorem dX11_feed_18 : decode cX11_feed 18 = .ok (.iadd, 1) := by decide +kernel
theorem dX11_feed_19 : decode cX11_feed 19 = .ok (.sipush 160, 3) := by decide +kernel
theorem dX11_feed_22 : decode cX11_feed 22 = .ok (.if_icmp .le 6, 3) := by decide +kernel
theorem dX11_feed_25 : decode cX11_feed 25 = .ok (.bipush (-4), 2) := by decide +kernel
theorem dX11_feed_27 : decode cX11_feed 27 = .ok (.ireturn, 1) := by decide +kernel
theorem dX11_feed_28 : decode cX11_feed 28 = .ok (.iload_n 3, 1) := by decide +kernel
theorem dX11_feed_29 : decode cX11_feed 29 = .ok (.iconst 1, 1) := by decide +kernel
theorem dX11_feed_30 : decode cX11_feed 30 = .ok (.isub, 1) := by decide +kernel
theorem dX11_feed_31 : decode cX11_feed 31 = .ok (.istore 4, 2) := by decide +kernel
theorem dX11_feed_33 : decode cX11_feed 33 = .ok (.iload 4, 2) := by decide +kernel
theorem dX11_feed_35 : decode cX11_feed 35 = .ok (.ifCond .lt 37, 3) := by decide +kernel
theorem dX11_feed_38 : decode cX11_feed 38 = .ok (.aload_n 0, 1) := by decide +kernel
theorem dX11_feed_39 : decode cX11_feed 39 = .ok (.getfield 16, 3) := by decide +kernel
theorem dX11_feed_42 : decode cX11_feed 42 = .ok (.aload_n 0, 1) := by decide +kernel
theorem dX11_feed_43 : decode cX11_feed 43 = .ok (.getfield 150, 3) := by decide +kernel
theorem dX11_feed_46 : decode cX11_feed 46 = .ok (.lload_n 1, 1) := by decide +kernel
theorem dX11_feed_47 : decode cX11_feed 47 = .ok (.bipush 8, 2) := by decide +kernel
theorem dX11_feed_49 : decode cX11_feed 49 = .ok (.iload 4, 2) := by decide +kernel
theorem dX11_feed_51 : decode cX11_feed 51 = .ok (.imul, 1) := by decide +kernel
theorem dX11_feed_52 : decode cX11_feed 52 = .ok (.lshr, 1) := by decide +kernel
theorem dX11_feed_53 : decode cX11_feed 53 = .ok (.l2i, 1) := by decide +kernel
theorem dX11_feed_54 : decode cX11_feed 54 = .ok (.i2b, 1) := by decide +kernel
theorem dX11_feed_55 : decode cX11_feed 55 = .ok (.bastore, 1) := by decide +kernel
theorem dX11_feed_56 : decode cX11_feed 56 = .ok (.aload_n 0, 1) := by decide +kernel
theorem dX11_feed_57 : decode cX11_feed 57 = .ok (.dup, 1) := by decide +kernel
theorem dX11_feed_58 : decode cX11_feed 58 = .ok (.getfield 150, 3) := by decide +kernel
theorem dX11_feed_61 : decode cX11_feed 61 = .ok (.iconst 1, 1) := by decide +kernel
theorem dX11_feed_62 : decode cX11_feed 62 = .ok (.iadd, 1) := by decide +kernel
theorem dX11_feed_63 : decode cX11_feed 63 = .ok (.putfield 150, 3) := by decide +kernel
theorem dX11_feed_66 : decode cX11_feed 66 = .ok (.iinc 4 (-1), 3) := by decide +kernel
theorem dX11_feed_69 : decode cX11_feed 69 = .ok (.goto (-36), 3) := by decide +kernel
theorem dX11_feed_72 : decode cX11_feed 72 = .ok (.aload_n 0, 1) := by decide +kernel
theorem dX11_feed_73 : decode cX11_feed 73 = .ok (.getfield 150, 3) := by decide +kernel
theorem dX11_feed_76 : decode cX11_feed 76 = .ok (.ireturn, 1) := by decide +kernel
theorem dX11_isLetter_0 : decode cX11_isLetter 0 = .ok (.iload_n 0, 1) := by decide +kernel
theorem dX11_isLetter_1 : decode cX11_isLetter 1 = .ok (.bipush 97, 2) := by decide +kernel
theorem dX11_isLetter_3 : decode cX11_isLetter 3 = .ok (.bipush 122, 2) := by decide +kernel
theorem dX11_isLetter_5 : decode cX11_isLetter 5 = .ok (.invokestatic 127, 3) := by decide +kernel
theorem dX11_isLetter_8 : decode cX11_isLetter 8 = .ok (.ireturn, 1) := by decide +kernel
theorem dX11_isDigit_0 : decode cX11_isDigit 0 = .ok (.iload_n 0, 1) := by decide +kernel
theorem dX11_isDigit_1 : decode cX11_isDigit 1 = .ok (.bipush 48, 2) := by decide +kernel
theorem dX11_isDigit_3 : decode cX11_isDigit 3 = .ok (.bipush 57, 2) := by decide +kernel
theorem dX11_isDigit_5 : decode cX11_isDigit 5 = .ok (.invokestatic 127, 3) := by decide +kernel
theorem dX11_isDigit_8 : decode cX11_isDigit 8 = .ok (.ireturn, 1) := by decide +kernel
theorem dX11_wordNow_0 : decode cX11_wordNow 0 = .ok (.iconst 0, 1) := by decide +kernel
theorem dX11_wordNow_1 : decode cX11_wordNow 1 = .ok (.istore_n 1, 1) := by decide +kernel
theorem dX11_wordNow_2 : decode cX11_wordNow 2 = .ok (.iconst 0, 1) := by decide +kernel
theorem dX11_wordNow_3 : decode cX11_wordNow 3 = .ok (.istore_n 2, 1) := by decide +kernel
theorem dX11_wordNow_4 : decode cX11_wordNow 4 = .ok (.iload_n 2, 1) := by decide +kernel
theorem dX11_wordNow_5 : decode cX11_wordNow 5 = .ok (.bipush 12, 2) := by decide +kernel
theorem dX11_wordNow_7 : decode cX11_wordNow 7 = .ok (.if_icmp .ge 86, 3) := by decide +kernel
theorem dX11_wordNow_10 : decode cX11_wordNow 10 = .ok (.aload_n 0, 1) := by decide +kernel
theorem dX11_wordNow_11 : decode cX11_wordNow 11 = .ok (.getfield 164, 3) := by decide +kernel
theorem dX11_wordNow_14 : decode cX11_wordNow 14 = .ok (.istore_n 3, 1) := by decide +kernel
theorem dX11_wordNow_15 : decode cX11_wordNow 15 = .ok (.iconst 1, 1) := by decide +kernel
theorem dX11_wordNow_16 : decode cX11_wordNow 16 = .ok (.istore 4, 2) := by decide +kernel
theorem dX11_wordNow_18 : decode cX11_wordNow 18 = .ok (.aload_n 0, 1) := by decide +kernel
theorem dX11_wordNow_19 : decode cX11_wordNow 19 = .ok (.getfield 39, 3) := by decide +kernel
theorem dX11_wordNow_22 : decode cX11_wordNow 22 = .ok (.iload_n 1, 1) := by decide +kernel
theorem dX11_wordNow_23 : decode cX11_wordNow 23 = .ok (.iaload, 1) := by decide +kernel
theorem dX11_wordNow_24 : decode cX11_wordNow 24 = .ok (.bipush 32, 2) := by decide +kernel
theorem dX11_wordNow_26 : decode cX11_wordNow 26 = .ok (.if_icmp .eq 38, 3) := by decide +kernel
theorem dX11_wordNow_29 : decode cX11_wordNow 29 = .ok (.iload_n 3, 1) := by decide +kernel
theorem dX11_wordNow_30 : decode cX11_wordNow 30 = .ok (.aload_n 0, 1) := by decide +kernel
theorem dX11_wordNow_31 : decode cX11_wordNow 31 = .ok (.getfield 167, 3) := by decide +kernel
theorem dX11_wordNow_34 : decode cX11_wordNow 34 = .ok (.if_icmp .ge 18, 3) := by decide +kernel
theorem dX11_wordNow_37 : decode cX11_wordNow 37 = .ok (.aload_n 0, 1) := by decide +kernel
theorem dX11_wordNow_38 : decode cX11_wordNow 38 = .ok (.getfield 16, 3) := by decide +kernel
theorem dX11_wordNow_41 : decode cX11_wordNow 41 = .ok (.iload_n 3, 1) := by decide +kernel
theorem dX11_wordNow_42 : decode cX11_wordNow 42 = .ok (.baload, 1) := by decide +kernel
theorem dX11_wordNow_43 : decode cX11_wordNow 43 = .ok (.aload_n 0, 1) := by decide +kernel
theorem dX11_wordNow_44 : decode cX11_wordNow 44 = .ok (.getfield 39, 3) := by decide +kernel
theorem dX11_wordNow_47 : decode cX11_wordNow 47 = .ok (.iload_n 1, 1) := by decide +kernel
theorem dX11_wordNow_48 : decode cX11_wordNow 48 = .ok (.iaload, 1) := by decide +kernel
theorem dX11_wordNow_49 : decode cX11_wordNow 49 = .ok (.if_icmp .eq 6, 3) := by decide +kernel
theorem dX11_wordNow_52 : decode cX11_wordNow 52 = .ok (.iconst 0, 1) := by decide +kernel
theorem dX11_wordNow_53 : decode cX11_wordNow 53 = .ok (.istore 4, 2) := by decide +kernel
theorem dX11_wordNow_55 : decode cX11_wordNow 55 = .ok (.iinc 3 1, 3) := by decide +kernel
theorem dX11_wordNow_58 : decode cX11_wordNow 58 = .ok (.iinc 1 1, 3) := by decide +kernel
theorem dX11_wordNow_61 : decode cX11_wordNow 61 = .ok (.goto (-43), 3) := by decide +kernel
theorem dX11_wordNow_64 : decode cX11_wordNow 64 = .ok (.iinc 1 1, 3) := by decide +kernel
theorem dX11_wordNow_67 : decode cX11_wordNow 67 = .ok (.iload 4, 2) := by decide +kernel
theorem dX11_wordNow_69 : decode cX11_wordNow 69 = .ok (.ifCond .eq 18, 3) := by decide +kernel
theorem dX11_wordNow_72 : decode cX11_wordNow 72 = .ok (.iload_n 3, 1) := by decide +kernel
theorem dX11_wordNow_73 : decode cX11_wordNow 73 = .ok (.aload_n 0, 1) := by decide +kernel
theorem dX11_wordNow_74 : decode cX11_wordNow 74 = .ok (.getfield 167, 3) := by decide +kernel
theorem dX11_wordNow_77 : decode cX11_wordNow 77 = .ok (.if_icmp .ne 10, 3) := by decide +kernel
theorem dX11_wordNow_80 : decode cX11_wordNow 80 = .ok (.aload_n 0, 1) := by decide +kernel
theorem dX11_wordNow_81 : decode cX11_wordNow 81 = .ok (.getfield 42, 3) := by decide +kernel
theorem dX11_wordNow_84 : decode cX11_wordNow 84 = .ok (.iload_n 2, 1) := by decide +kernel
theorem dX11_wordNow_85 : decode cX11_wordNow 85 = .ok (.iaload, 1) := by decide +kernel
theorem dX11_wordNow_86 : decode cX11_wordNow 86 = .ok (.ireturn, 1) := by decide +kernel
theorem dX11_wordNow_87 : decode cX11_wordNow 87 = .ok (.iinc 2 1, 3) := by decide +kernel
theorem dX11_wordNow_90 : decode cX11_wordNow 90 = .ok (.goto (-86), 3) := by decide +kernel
theorem dX11_wordNow_93 : decode cX11_wordNow 93 = .ok (.iconst (-1), 1) := by decide +kernel
theorem dX11_wordNow_94 : decode cX11_wordNow 94 = .ok (.ireturn, 1) := by decide +kernel
theorem dX11_next_0 : decode cX11_next 0 = .ok (.aload_n 0, 1) := by decide +kernel
theorem dX11_next_1 : decode cX11_next 1 = .ok (.aload_n 0, 1) := by decide +kernel
theorem dX11_next_2 : decode cX11_next 2 = .ok (.getfield 167, 3) := by decide +kernel
theorem dX11_next_5 : decode cX11_next 5 = .ok (.putfield 164, 3) := by decide +kernel
theorem dX11_next_8 : decode cX11_next 8 = .ok (.aload_n 0, 1) := by decide +kernel
theorem dX11_next_9 : decode cX11_next 9 = .ok (.getfield 164, 3) := by decide +kernel
theorem dX11_next_12 : decode cX11_next 12 = .ok (.aload_n 0, 1) := by decide +kernel
theorem dX11_next_13 : decode cX11_next 13 = .ok (.getfield 150, 3) := by decide +kernel
theorem dX11_next_16 : decode cX11_next 16 = .ok (.if_icmp .ge 44, 3) := by decide +kernel
theorem dX11_next_19 : decode cX11_next 19 = .ok (.aload_n 0, 1) := by decide +kernel
theorem dX11_next_20 : decode cX11_next 20 = .ok (.getfield 16, 3) := by decide +kernel
theorem dX11_next_23 : decode cX11_next 23 = .ok (.aload_n 0, 1) := by decide +kernel
theorem dX11_next_24 : decode cX11_next 24 = .ok (.getfield 164, 3) := by decide +kernel
theorem dX11_next_27 : decode cX11_next 27 = .ok (.baload, 1) := by decide +kernel
theorem dX11_next_28 : decode cX11_next 28 = .ok (.bipush 32, 2) := by decide +kernel
theorem dX11_next_30 : decode cX11_next 30 = .ok (.if_icmp .eq 17, 3) := by decide +kernel
theorem dX11_next_33 : decode cX11_next 33 = .ok (.aload_n 0, 1) := by decide +kernel
theorem dX11_next_34 : decode cX11_next 34 = .ok (.getfield 16, 3) := by decide +kernel
theorem dX11_next_37 : decode cX11_next 37 = .ok (.aload_n 0, 1) := by decide +kernel
theorem dX11_next_38 : decode cX11_next 38 = .ok (.getfield 164, 3) := by decide +kernel
theorem dX11_next_41 : decode cX11_next 41 = .ok (.baload, 1) := by decide +kernel
theorem dX11_next_42 : decode cX11_next 42 = .ok (.bipush 10, 2) := by decide +kernel
theorem dX11_next_44 : decode cX11_next 44 = .ok (.if_icmp .ne 16, 3) := by decide +kernel
theorem dX11_next_47 : decode cX11_next 47 = .ok (.aload_n 0, 1) := by decide +kernel
theorem dX11_next_48 : decode cX11_next 48 = .ok (.dup, 1) := by decide +kernel
theorem dX11_next_49 : decode cX11_next 49 = .ok (.getfield 164, 3) := by decide +kernel
theorem dX11_next_52 : decode cX11_next 52 = .ok (.iconst 1, 1) := by decide +kernel
theorem dX11_next_53 : decode cX11_next 53 = .ok (.iadd, 1) := by decide +kernel
theorem dX11_next_54 : decode cX11_next 54 = .ok (.putfield 164, 3) := by decide +kernel
theorem dX11_next_57 : decode cX11_next 57 = .ok (.goto (-49), 3) := by decide +kernel
theorem dX11_next_60 : decode cX11_next 60 = .ok (.aload_n 0, 1) := by decide +kernel
theorem dX11_next_61 : decode cX11_next 61 = .ok (.aload_n 0, 1) := by decide +kernel
theorem dX11_next_62 : decode cX11_next 62 = .ok (.getfield 164, 3) := by decide +kernel
theorem dX11_next_65 : decode cX11_next 65 = .ok (.putfield 167, 3) := by decide +kernel
theorem dX11_next_68 : decode cX11_next 68 = .ok (.aload_n 0, 1) := by decide +kernel
theorem dX11_next_69 : decode cX11_next 69 = .ok (.getfield 164, 3) := by decide +kernel
theorem dX11_next_72 : decode cX11_next 72 = .ok (.aload_n 0, 1) := by decide +kernel
theorem dX11_next_73 : decode cX11_next 73 = .ok (.getfield 150, 3) := by decide +kernel
theorem dX11_next_76 : decode cX11_next 76 = .ok (.if_icmp .lt 17, 3) := by decide +kernel
theorem dX11_next_79 : decode cX11_next 79 = .ok (.aload_n 0, 1) := by decide +kernel
theorem dX11_next_80 : decode cX11_next 80 = .ok (.aload_n 0, 1) := by decide +kernel
theorem dX11_next_81 : decode cX11_next 81 = .ok (.getfield 150, 3) := by decide +kernel
theorem dX11_next_84 : decode cX11_next 84 = .ok (.putfield 164, 3) := by decide +kernel
theorem dX11_next_87 : decode cX11_next 87 = .ok (.aload_n 0, 1) := by decide +kernel
theorem dX11_next_88 : decode cX11_next 88 = .ok (.iconst 4, 1) := by decide +kernel
theorem dX11_next_89 : decode cX11_next 89 = .ok (.putfield 170, 3) := by decide +kernel
theorem dX11_next_92 : decode cX11_next 92 = .ok (.return_, 1) := by decide +kernel
theorem dX11_next_93 : decode cX11_next 93 = .ok (.aload_n 0, 1) := by decide +kernel
theorem dX11_next_94 : decode cX11_next 94 = .ok (.getfield 16, 3) := by decide +kernel
theorem dX11_next_97 : decode cX11_next 97 = .ok (.aload_n 0, 1) := by decide +kernel
theorem dX11_next_98 : decode cX11_next 98 = .ok (.getfield 164, 3) := by decide +kernel
theorem dX11_next_101 : decode cX11_next 101 = .ok (.baload, 1) := by decide +kernel
theorem dX11_next_102 : decode cX11_next 102 = .ok (.istore_n 1, 1) := by decide +kernel
theorem dX11_next_103 : decode cX11_next 103 = .ok (.iload_n 1, 1) := by decide +kernel
theorem dX11_next_104 : decode cX11_next 104 = .ok (.invokestatic 173, 3) := by decide +kernel
theorem dX11_next_107 : decode cX11_next 107 = .ok (.ifCond .eq 69, 3) := by decide +kernel
theorem dX11_next_110 : decode cX11_next 110 = .ok (.aload_n 0, 1) := by decide +kernel
theorem dX11_next_111 : decode cX11_next 111 = .ok (.getfield 167, 3) := by decide +kernel
theorem dX11_next_114 : decode cX11_next 114 = .ok (.aload_n 0, 1) := by decide +kernel
theorem dX11_next_115 : decode cX11_next 115 = .ok (.getfield 150, 3) := by decide +kernel
theorem dX11_next_118 : decode cX11_next 118 = .ok (.if_icmp .ge 31, 3) := by decide +kernel
theorem dX11_next_121 : decode cX11_next 121 = .ok (.aload_n 0, 1) := by decide +kernel
theorem dX11_next_122 : decode cX11_next 122 = .ok (.getfield 16, 3) := by decide +kernel
theorem dX11_next_125 : decode cX11_next 125 = .ok (.aload_n 0, 1) := by decide +kernel
theorem dX11_next_126 : decode cX11_next 126 = .ok (.getfield 167, 3) := by decide +kernel
theorem dX11_next_129 : decode cX11_next 129 = .ok (.baload, 1) := by decide +kernel
theorem dX11_next_130 : decode cX11_next 130 = .ok (.invokestatic 173, 3) := by decide +kernel
theorem dX11_next_133 : decode cX11_next 133 = .ok (.ifCond .eq 16, 3) := by decide +kernel
theorem dX11_next_136 : decode cX11_next 136 = .ok (.aload_n 0, 1) := by decide +kernel
theorem dX11_next_137 : decode cX11_next 137 = .ok (.dup, 1) := by decide +kernel
theorem dX11_next_138 : decode cX11_next 138 = .ok (.getfield 167, 3) := by decide +kernel
theorem dX11_next_141 : decode cX11_next 141 = .ok (.iconst 1, 1) := by decide +kernel
theorem dX11_next_142 : decode cX11_next 142 = .ok (.iadd, 1) := by decide +kernel
theorem dX11_next_143 : decode cX11_next 143 = .ok (.putfield 167, 3) := by decide +kernel
theorem dX11_next_146 : decode cX11_next 146 = .ok (.goto (-36), 3) := by decide +kernel
theorem dX11_next_149 : decode cX11_next 149 = .ok (.aload_n 0, 1) := by decide +kernel
theorem dX11_next_150 : decode cX11_next 150 = .ok (.aload_n 0, 1) := by decide +kernel
theorem dX11_next_151 : decode cX11_next 151 = .ok (.invokevirtual 176, 3) := by decide +kernel
theorem dX11_next_154 : decode cX11_next 154 = .ok (.putfield 180, 3) := by decide +kernel
theorem dX11_next_157 : decode cX11_next 157 = .ok (.aload_n 0, 1) := by decide +kernel
theorem dX11_next_158 : decode cX11_next 158 = .ok (.aload_n 0, 1) := by decide +kernel
theorem dX11_next_159 : decode cX11_next 159 = .ok (.getfield 180, 3) := by decide +kernel
theorem dX11_next_162 : decode cX11_next 162 = .ok (.ifCond .ge 7, 3) := by decide +kernel
theorem dX11_next_165 : decode cX11_next 165 = .ok (.iconst 5, 1) := by decide +kernel
theorem dX11_next_166 : decode cX11_next 166 = .ok (.goto 4, 3) := by decide +kernel
theorem dX11_next_169 : decode cX11_next 169 = .ok (.iconst 1, 1) := by decide +kernel
theorem dX11_next_170 : decode cX11_next 170 = .ok (.putfield 170, 3) := by decide +kernel
theorem dX11_next_173 : decode cX11_next 173 = .ok (.goto 188, 3) := by decide +kernel
theorem dX11_next_176 : decode cX11_next 176 = .ok (.iload_n 1, 1) := by decide +kernel
theorem dX11_next_177 : decode cX11_next 177 = .ok (.invokestatic 182, 3) := by decide +kernel
theorem dX11_next_180 : decode cX11_next 180 = .ok (.ifCond .eq 109, 3) := by decide +kernel
theorem dX11_next_183 : decode cX11_next 183 = .ok (.aload_n 0, 1) := by decide +kernel
theorem dX11_next_184 : decode cX11_next 184 = .ok (.iconst 0, 1) := by decide +kernel
theorem dX11_next_185 : decode cX11_next 185 = .ok (.putfield 180, 3) := by decide +kernel
theorem dX11_next_188 : decode cX11_next 188 = .ok (.aload_n 0, 1) := by decide +kernel
theorem dX11_next_189 : decode cX11_next 189 = .ok (.getfield 167, 3) := by decide +kernel
theorem dX11_next_192 : decode cX11_next 192 = .ok (.aload_n 0, 1) := by decide +kernel
theorem dX11_next_193 : decode cX11_next 193 = .ok (.getfield 150, 3) := by decide +kernel
theorem dX11_next_196 : decode cX11_next 196 = .ok (.if_icmp .ge 68, 3) := by decide +kernel
theorem dX11_next_199 : decode cX11_next 199 = .ok (.aload_n 0, 1) := by decide +kernel
theorem dX11_next_200 : decode cX11_next 200 = .ok (.getfield 16, 3) := by decide +kernel
theorem dX11_next_203 : decode cX11_next 203 = .ok (.aload_n 0, 1) := by decide +kernel
theorem dX11_next_204 : decode cX11_next 204 = .ok (.getfield 167, 3) := by decide +kernel
theorem dX11_next_207 : decode cX11_next 207 = .ok (.baload, 1) := by decide +kernel
theorem dX11_next_208 : decode cX11_next 208 = .ok (.invokestatic 182, 3) := by decide +kernel
theorem dX11_next_211 : decode cX11_next 211 = .ok (.ifCond .eq 53, 3) := by decide +kernel
theorem dX11_next_214 : decode cX11_next 214 = .ok (.aload_n 0, 1) := by decide +kernel
theorem dX11_next_215 : decode cX11_next 215 = .ok (.getfield 167, 3) := by decide +kernel
theorem dX11_next_218 : decode cX11_next 218 = .ok (.aload_n 0, 1) := by decide +kernel
theorem dX11_next_219 : decode cX11_next 219 = .ok (.getfield 164, 3) := by decide +kernel
theorem dX11_next_222 : decode cX11_next 222 = .ok (.isub, 1) := by decide +kernel
theorem dX11_next_223 : decode cX11_next 223 = .ok (.iconst 4, 1) := by decide +kernel
theorem dX11_next_224 : decode cX11_next 224 = .ok (.if_icmp .ge 27, 3) := by decide +kernel
theorem dX11_next_227 : decode cX11_next 227 = .ok (.aload_n 0, 1) := by decide +kernel
theorem dX11_next_228 : decode cX11_next 228 = .ok (.bipush 10, 2) := by decide +kernel
theorem dX11_next_230 : decode cX11_next 230 = .ok (.aload_n 0, 1) := by decide +kernel
theorem dX11_next_231 : decode cX11_next 231 = .ok (.getfield 180, 3) := by decide +kernel
theorem dX11_next_234 : decode cX11_next 234 = .ok (.imul, 1) := by decide +kernel
theorem dX11_next_235 : decode cX11_next 235 = .ok (.aload_n 0, 1) := by decide +kernel
theorem dX11_next_236 : decode cX11_next 236 = .ok (.getfield 16, 3) := by decide +kernel
theorem dX11_next_239 : decode cX11_next 239 = .ok (.aload_n 0, 1) := by decide +kernel
theorem dX11_next_240 : decode cX11_next 240 = .ok (.getfield 167, 3) := by decide +kernel
theorem dX11_next_243 : decode cX11_next 243 = .ok (.baload, 1) := by decide +kernel
theorem dX11_next_244 : decode cX11_next 244 = .ok (.iadd, 1) := by decide +kernel
theorem dX11_next_245 : decode cX11_next 245 = .ok (.bipush 48, 2) := by decide +kernel
theorem dX11_next_247 : decode cX11_next 247 = .ok (.isub, 1) := by decide +kernel
theorem dX11_next_248 : decode cX11_next 248 = .ok (.putfield 180, 3) := by decide +kernel
theorem dX11_next_251 : decode cX11_next 251 = .ok (.aload_n 0, 1) := by decide +kernel
theorem dX11_next_252 : decode cX11_next 252 = .ok (.dup, 1) := by decide +kernel
theorem dX11_next_253 : decode cX11_next 253 = .ok (.getfield 167, 3) := by decide +kernel
theorem dX11_next_256 : decode cX11_next 256 = .ok (.iconst 1, 1) := by decide +kernel
theorem dX11_next_257 : decode cX11_next 257 = .ok (.iadd, 1) := by decide +kernel
theorem dX11_next_258 : decode cX11_next 258 = .ok (.putfield 167, 3) := by decide +kernel
theorem dX11_next_261 : decode cX11_next 261 = .ok (.goto (-73), 3) := by decide +kernel
theorem dX11_next_264 : decode cX11_next 264 = .ok (.aload_n 0, 1) := by decide +kernel
theorem dX11_next_265 : decode cX11_next 265 = .ok (.aload_n 0, 1) := by decide +kernel
theorem dX11_next_266 : decode cX11_next 266 = .ok (.getfield 167, 3) := by decide +kernel
theorem dX11_next_269 : decode cX11_next 269 = .ok (.aload_n 0, 1) := by decide +kernel
theorem dX11_next_270 : decode cX11_next 270 = .ok (.getfield 164, 3) := by decide +kernel
theorem dX11_next_273 : decode cX11_next 273 = .ok (.isub, 1) := by decide +kernel
theorem dX11_next_274 : decode cX11_next 274 = .ok (.iconst 4, 1) := by decide +kernel
theorem dX11_next_275 : decode cX11_next 275 = .ok (.if_icmp .le 7, 3) := by decide +kernel
theorem dX11_next_278 : decode cX11_next 278 = .ok (.iconst 5, 1) := by decide +kernel
theorem dX11_next_279 : decode cX11_next 279 = .ok (.goto 4, 3) := by decide +kernel
theorem dX11_next_282 : decode cX11_next 282 = .ok (.iconst 2, 1) := by decide +kernel
theorem dX11_next_283 : decode cX11_next 283 = .ok (.putfield 170, 3) := by decide +kernel
theorem dX11_next_286 : decode cX11_next 286 = .ok (.goto 75, 3) := by decide +kernel
theorem dX11_next_289 : decode cX11_next 289 = .ok (.aload_n 0, 1) := by decide +kernel
theorem dX11_next_290 : decode cX11_next 290 = .ok (.dup, 1) := by decide +kernel
theorem dX11_next_291 : decode cX11_next 291 = .ok (.getfield 167, 3) := by decide +kernel
theorem dX11_next_294 : decode cX11_next 294 = .ok (.iconst 1, 1) := by decide +kernel
theorem dX11_next_295 : decode cX11_next 295 = .ok (.iadd, 1) := by decide +kernel
theorem dX11_next_296 : decode cX11_next 296 = .ok (.putfield 167, 3) := by decide +kernel
theorem dX11_next_299 : decode cX11_next 299 = .ok (.aload_n 0, 1) := by decide +kernel
theorem dX11_next_300 : decode cX11_next 300 = .ok (.iload_n 1, 1) := by decide +kernel
theorem dX11_next_301 : decode cX11_next 301 = .ok (.putfield 180, 3) := by decide +kernel
theorem dX11_next_304 : decode cX11_next 304 = .ok (.aload_n 0, 1) := by decide +kernel
theorem dX11_next_305 : decode cX11_next 305 = .ok (.iload_n 1, 1) := by decide +kernel
theorem dX11_next_306 : decode cX11_next 306 = .ok (.bipush 40, 2) := by decide +kernel
theorem dX11_next_308 : decode cX11_next 308 = .ok (.if_icmp .eq 45, 3) := by decide +kernel
theorem dX11_next_311 : decode cX11_next 311 = .ok (.iload_n 1, 1) := by decide +kernel
theorem dX11_next_312 : decode cX11_next 312 = .ok (.bipush 41, 2) := by decide +kernel
theorem dX11_next_314 : decode cX11_next 314 = .ok (.if_icmp .eq 39, 3) := by decide +kernel
theorem dX11_next_317 : decode cX11_next 317 = .ok (.iload_n 1, 1) := by decide +kernel
theorem dX11_next_318 : decode cX11_next 318 = .ok (.bipush 59, 2) := by decide +kernel
theorem dX11_next_320 : decode cX11_next 320 = .ok (.if_icmp .eq 33, 3) := by decide +kernel
theorem dX11_next_323 : decode cX11_next 323 = .ok (.iload_n 1, 1) := by decide +kernel
theorem dX11_next_324 : decode cX11_next 324 = .ok (.bipush 43, 2) := by decide +kernel
theorem dX11_next_326 : decode cX11_next 326 = .ok (.if_icmp .eq 27, 3) := by decide +kernel
theorem dX11_next_329 : decode cX11_next 329 = .ok (.iload_n 1, 1) := by decide +kernel
theorem dX11_next_330 : decode cX11_next 330 = .ok (.bipush 45, 2) := by decide +kernel
theorem dX11_next_332 : decode cX11_next 332 = .ok (.if_icmp .eq 21, 3) := by decide +kernel
theorem dX11_next_335 : decode cX11_next 335 = .ok (.iload_n 1, 1) := by decide +kernel
theorem dX11_next_336 : decode cX11_next 336 = .ok (.bipush 42, 2) := by decide +kernel
theorem dX11_next_338 : decode cX11_next 338 = .ok (.if_icmp .eq 15, 3) := by decide +kernel
theorem dX11_next_341 : decode cX11_next 341 = .ok (.iload_n 1, 1) := by decide +kernel
theorem dX11_next_342 : decode cX11_next 342 = .ok (.bipush 60, 2) := by decide +kernel
theorem dX11_next_344 : decode cX11_next 344 = .ok (.if_icmp .eq 9, 3) := by decide +kernel
theorem dX11_next_347 : decode cX11_next 347 = .ok (.iload_n 1, 1) := by decide +kernel
theorem dX11_next_348 : decode cX11_next 348 = .ok (.bipush 61, 2) := by decide +kernel
theorem dX11_next_350 : decode cX11_next 350 = .ok (.if_icmp .ne 7, 3) := by decide +kernel
theorem dX11_next_353 : decode cX11_next 353 = .ok (.iconst 3, 1) := by decide +kernel
theorem dX11_next_354 : decode cX11_next 354 = .ok (.goto 4, 3) := by decide +kernel
theorem dX11_next_357 : decode cX11_next 357 = .ok (.iconst 5, 1) := by decide +kernel
theorem dX11_next_358 : decode cX11_next 358 = .ok (.putfield 170, 3) := by decide +kernel
theorem dX11_next_361 : decode cX11_next 361 = .ok (.return_, 1) := by decide +kernel
theorem dX11_faulty_0 : decode cX11_faulty 0 = .ok (.aload_n 0, 1) := by decide +kernel
theorem dX11_faulty_1 : decode cX11_faulty 1 = .ok (.getfield 185, 3) := by decide +kernel
theorem dX11_faulty_4 : decode cX11_faulty 4 = .ok (.ifCond .ge 11, 3) := by decide +kernel
theorem dX11_faulty_7 : decode cX11_faulty 7 = .ok (.aload_n 0, 1) := by decide +kernel
theorem dX11_faulty_8 : decode cX11_faulty 8 = .ok (.aload_n 0, 1) := by decide +kernel
theorem dX11_faulty_9 : decode cX11_faulty 9 = .ok (.getfield 164, 3) := by decide +kernel
theorem dX11_faulty_12 : decode cX11_faulty 12 = .ok (.putfield 185, 3) := by decide +kernel
theorem dX11_faulty_15 : decode cX11_faulty 15 = .ok (.return_, 1) := by decide +kernel
theorem dX11_isSign_0 : decode cX11_isSign 0 = .ok (.aload_n 0, 1) := by decide +kernel
theorem dX11_isSign_1 : decode cX11_isSign 1 = .ok (.getfield 185, 3) := by decide +kernel
theorem dX11_isSign_4 : decode cX11_isSign 4 = .ok (.ifCond .ge 23, 3) := by decide +kernel
theorem dX11_isSign_7 : decode cX11_isSign 7 = .ok (.aload_n 0, 1) := by decide +kernel
theorem dX11_isSign_8 : decode cX11_isSign 8 = .ok (.getfield 170, 3) := by decide +kernel
theorem dX11_isSign_11 : decode cX11_isSign 11 = .ok (.iconst 3, 1) := by decide +kernel
theorem dX11_isSign_12 : decode cX11_isSign 12 = .ok (.if_icmp .ne 15, 3) := by decide +kernel
theorem dX11_isSign_15 : decode cX11_isSign 15 = .ok (.aload_n 0, 1) := by decide +kernel
theorem dX11_isSign_16 : decode cX11_isSign 16 = .ok (.getfield 180, 3) := by decide +kernel
theorem dX11_isSign_19 : decode cX11_isSign 19 = .ok (.iload_n 1, 1) := by decide +kernel
theorem dX11_isSign_20 : decode cX11_isSign 20 = .ok (.if_icmp .ne 7, 3) := by decide +kernel
theorem dX11_isSign_23 : decode cX11_isSign 23 = .ok (.iconst 1, 1) := by decide +kernel
theorem dX11_isSign_24 : decode cX11_isSign 24 = .ok (.goto 4, 3) := by decide +kernel
theorem dX11_isSign_27 : decode cX11_isSign 27 = .ok (.iconst 0, 1) := by decide +kernel
theorem dX11_isSign_28 : decode cX11_isSign 28 = .ok (.ireturn, 1) := by decide +kernel
theorem dX11_isKey_0 : decode cX11_isKey 0 = .ok (.aload_n 0, 1) := by decide +kernel
theorem dX11_isKey_1 : decode cX11_isKey 1 = .ok (.getfield 185, 3) := by decide +kernel
theorem dX11_isKey_4 : decode cX11_isKey 4 = .ok (.ifCond .ge 23, 3) := by decide +kernel
theorem dX11_isKey_7 : decode cX11_isKey 7 = .ok (.aload_n 0, 1) := by decide +kernel
theorem dX11_isKey_8 : decode cX11_isKey 8 = .ok (.getfield 170, 3) := by decide +kernel
theorem dX11_isKey_11 : decode cX11_isKey 11 = .ok (.iconst 1, 1) := by decide +kernel
theorem dX11_isKey_12 : decode cX11_isKey 12 = .ok (.if_icmp .ne 15, 3) := by decide +kernel
theorem dX11_isKey_15 : decode cX11_isKey 15 = .ok (.aload_n 0, 1) := by decide +kernel
theorem dX11_isKey_16 : decode cX11_isKey 16 = .ok (.getfield 180, 3) := by decide +kernel
theorem dX11_isKey_19 : decode cX11_isKey 19 = .ok (.iload_n 1, 1) := by decide +kernel
theorem dX11_isKey_20 : decode cX11_isKey 20 = .ok (.if_icmp .ne 7, 3) := by decide +kernel
theorem dX11_isKey_23 : decode cX11_isKey 23 = .ok (.iconst 1, 1) := by decide +kernel
theorem dX11_isKey_24 : decode cX11_isKey 24 = .ok (.goto 4, 3) := by decide +kernel
theorem dX11_isKey_27 : decode cX11_isKey 27 = .ok (.iconst 0, 1) := by decide +kernel
theorem dX11_isKey_28 : decode cX11_isKey 28 = .ok (.ireturn, 1) := by decide +kernel
theorem dX11_addStep_0 : decode cX11_addStep 0 = .ok (.aload_n 0, 1) := by decide +kernel
theorem dX11_addStep_1 : decode cX11_addStep 1 = .ok (.getfield 24, 3) := by decide +kernel
theorem dX11_addStep_4 : decode cX11_addStep 4 = .ok (.sipush 1020, 3) := by decide +kernel
theorem dX11_addStep_7 : decode cX11_addStep 7 = .ok (.aload_n 0, 1) := by decide +kernel
theorem dX11_addStep_8 : decode cX11_addStep 8 = .ok (.getfield 188, 3) := by decide +kernel
theorem dX11_addStep_11 : decode cX11_addStep 11 = .ok (.iadd, 1) := by decide +kernel
theorem dX11_addStep_12 : decode cX11_addStep 12 = .ok (.iload_n 1, 1) := by decide +kernel
theorem dX11_addStep_13 : decode cX11_addStep 13 = .ok (.iastore, 1) := by decide +kernel
theorem dX11_addStep_14 : decode cX11_addStep 14 = .ok (.aload_n 0, 1) := by decide +kernel
theorem dX11_addStep_15 : decode cX11_addStep 15 = .ok (.getfield 27, 3) := by decide +kernel
theorem dX11_addStep_18 : decode cX11_addStep 18 = .ok (.sipush 1020, 3) := by decide +kernel
theorem dX11_addStep_21 : decode cX11_addStep 21 = .ok (.aload_n 0, 1) := by decide +kernel
theorem dX11_addStep_22 : decode cX11_addStep 22 = .ok (.getfield 188, 3) := by decide +kernel
theorem dX11_addStep_25 : decode cX11_addStep 25 = .ok (.iadd, 1) := by decide +kernel
theorem dX11_addStep_26 : decode cX11_addStep 26 = .ok (.iload_n 2, 1) := by decide +kernel
theorem dX11_addStep_27 : decode cX11_addStep 27 = .ok (.iastore, 1) := by decide +kernel
theorem dX11_addStep_28 : decode cX11_addStep 28 = .ok (.aload_n 0, 1) := by decide +kernel
theorem dX11_addStep_29 : decode cX11_addStep 29 = .ok (.dup, 1) := by decide +kernel
theorem dX11_addStep_30 : decode cX11_addStep 30 = .ok (.getfield 188, 3) := by decide +kernel
theorem dX11_addStep_33 : decode cX11_addStep 33 = .ok (.iconst 1, 1) := by decide +kernel
theorem dX11_addStep_34 : decode cX11_addStep 34 = .ok (.iadd, 1) := by decide +kernel
theorem dX11_addStep_35 : decode cX11_addStep 35 = .ok (.putfield 188, 3) := by decide +kernel
theorem dX11_addStep_38 : decode cX11_addStep 38 = .ok (.return_, 1) := by decide +kernel
theorem dX11_opens_0 : decode cX11_opens 0 = .ok (.aload_n 0, 1) := by decide +kernel
theorem dX11_opens_1 : decode cX11_opens 1 = .ok (.getfield 191, 3) := by decide +kernel
theorem dX11_opens_4 : decode cX11_opens 4 = .ok (.iconst 5, 1) := by decide +kernel
theorem dX11_opens_5 : decode cX11_opens 5 = .ok (.if_icmp .ne 9, 3) := by decide +kernel
theorem dX11_opens_8 : decode cX11_opens 8 = .ok (.aload_n 0, 1) := by decide +kernel
theorem dX11_opens_9 : decode cX11_opens 9 = .ok (.invokevirtual 194, 3) := by decide +kernel
theorem dX11_opens_12 : decode cX11_opens 12 = .ok (.iconst 0, 1) := by decide +kernel
theorem dX11_opens_13 : decode cX11_opens 13 = .ok (.ireturn, 1) := by decide +kernel
theorem dX11_opens_14 : decode cX11_opens 14 = .ok (.aload_n 0, 1) := by decide +kernel
theorem dX11_opens_15 : decode cX11_opens 15 = .ok (.dup, 1) := by decide +kernel
theorem dX11_opens_16 : decode cX11_opens 16 = .ok (.getfield 191, 3) := by decide +kernel
theorem dX11_opens_19 : decode cX11_opens 19 = .ok (.iconst 1, 1) := by decide +kernel
theorem dX11_opens_20 : decode cX11_opens 20 = .ok (.iadd, 1) := by decide +kernel
theorem dX11_opens_21 : decode cX11_opens 21 = .ok (.putfield 191, 3) := by decide +kernel
theorem dX11_opens_24 : decode cX11_opens 24 = .ok (.aload_n 0, 1) := by decide +kernel
theorem dX11_opens_25 : decode cX11_opens 25 = .ok (.invokevirtual 197, 3) := by decide +kernel
theorem dX11_opens_28 : decode cX11_opens 28 = .ok (.iconst 1, 1) := by decide +kernel
theorem dX11_opens_29 : decode cX11_opens 29 = .ok (.ireturn, 1) := by decide +kernel
theorem dX11_either_0 : decode cX11_either 0 = .ok (.aload_n 0, 1) := by decide +kernel
theorem dX11_either_1 : decode cX11_either 1 = .ok (.invokevirtual 200, 3) := by decide +kernel
theorem dX11_either_4 : decode cX11_either 4 = .ok (.aload_n 0, 1) := by decide +kernel
theorem dX11_either_5 : decode cX11_either 5 = .ok (.bipush 13, 2) := by decide +kernel
theorem dX11_either_7 : decode cX11_either 7 = .ok (.invokevirtual 203, 3) := by decide +kernel
theorem dX11_either_10 : decode cX11_either 10 = .ok (.ifCond .eq 20, 3) := by decide +kernel
theorem dX11_either_13 : decode cX11_either 13 = .ok (.aload_n 0, 1) := by decide +kernel
theorem dX11_either_14 : decode cX11_either 14 = .ok (.invokevirtual 197, 3) := by decide +kernel
theorem dX11_either_17 : decode cX11_either 17 = .ok (.aload_n 0, 1) := by decide +kernel
theorem dX11_either_18 : decode cX11_either 18 = .ok (.invokevirtual 200, 3) := by decide +kernel
theorem dX11_either_21 : decode cX11_either 21 = .ok (.aload_n 0, 1) := by decide +kernel
theorem dX11_either_22 : decode cX11_either 22 = .ok (.iconst 5, 1) := by decide +kernel
theorem dX11_either_23 : decode cX11_either 23 = .ok (.iconst 0, 1) := by decide +kernel
theorem dX11_either_24 : decode cX11_either 24 = .ok (.invokevirtual 206, 3) := by decide +kernel
theorem dX11_either_27 : decode cX11_either 27 = .ok (.goto (-23), 3) := by decide +kernel
theorem dX11_either_30 : decode cX11_either 30 = .ok (.return_, 1) := by decide +kernel
theorem dX11_all_0 : decode cX11_all 0 = .ok (.aload_n 0, 1) := by decide +kernel
theorem dX11_all_1 : decode cX11_all 1 = .ok (.invokevirtual 210, 3) := by decide +kernel
theorem dX11_all_4 : decode cX11_all 4 = .ok (.aload_n 0, 1) := by decide +kernel
theorem dX11_all_5 : decode cX11_all 5 = .ok (.bipush 14, 2) := by decide +kernel
theorem dX11_all_7 : decode cX11_all 7 = .ok (.invokevirtual 203, 3) := by decide +kernel
theorem dX11_all_10 : decode cX11_all 10 = .ok (.ifCond .eq 21, 3) := by decide +kernel
theorem dX11_all_13 : decode cX11_all 13 = .ok (.aload_n 0, 1) := by decide +kernel
theorem dX11_all_14 : decode cX11_all 14 = .ok (.invokevirtual 197, 3) := by decide +kernel
theorem dX11_all_17 : decode cX11_all 17 = .ok (.aload_n 0, 1) := by decide +kernel
theorem dX11_all_18 : decode cX11_all 18 = .ok (.invokevirtual 210, 3) := by decide +kernel
theorem dX11_all_21 : decode cX11_all 21 = .ok (.aload_n 0, 1) := by decide +kernel
theorem dX11_all_22 : decode cX11_all 22 = .ok (.bipush 6, 2) := by decide +kernel
theorem dX11_all_24 : decode cX11_all 24 = .ok (.iconst 0, 1) := by decide +kernel
theorem dX11_all_25 : decode cX11_all 25 = .ok (.invokevirtual 206, 3) := by decide +kernel
theorem dX11_all_28 : decode cX11_all 28 = .ok (.goto (-24), 3) := by decide +kernel
theorem dX11_all_31 : decode cX11_all 31 = .ok (.return_, 1) := by decide +kernel
theorem dX11_denied_0 : decode cX11_denied 0 = .ok (.aload_n 0, 1) := by decide +kernel
theorem dX11_denied_1 : decode cX11_denied 1 = .ok (.bipush 15, 2) := by decide +kernel
theorem dX11_denied_3 : decode cX11_denied 3 = .ok (.invokevirtual 203, 3) := by decide +kernel
theorem dX11_denied_6 : decode cX11_denied 6 = .ok (.ifCond .eq 32, 3) := by decide +kernel
theorem dX11_denied_9 : decode cX11_denied 9 = .ok (.aload_n 0, 1) := by decide +kernel
theorem dX11_denied_10 : decode cX11_denied 10 = .ok (.invokevirtual 213, 3) := by decide +kernel
theorem dX11_denied_13 : decode cX11_denied 13 = .ok (.ifCond .ne 4, 3) := by decide +kernel
theorem dX11_denied_16 : decode cX11_denied 16 = .ok (.return_, 1) := by decide +kernel
theorem dX11_denied_17 : decode cX11_denied 17 = .ok (.aload_n 0, 1) := by decide +kernel
theorem dX11_denied_18 : decode cX11_denied 18 = .ok (.invokevirtual 210, 3) := by decide +kernel
theorem dX11_denied_21 : decode cX11_denied 21 = .ok (.aload_n 0, 1) := by decide +kernel
theorem dX11_denied_22 : decode cX11_denied 22 = .ok (.dup, 1) := by decide +kernel
theorem dX11_denied_23 : decode cX11_denied 23 = .ok (.getfield 191, 3) := by decide +kernel
theorem dX11_denied_26 : decode cX11_denied 26 = .ok (.iconst 1, 1) := by decide +kernel
theorem dX11_denied_27 : decode cX11_denied 27 = .ok (.isub, 1) := by decide +kernel
theorem dX11_denied_28 : decode cX11_denied 28 = .ok (.putfield 191, 3) := by decide +kernel
theorem dX11_denied_31 : decode cX11_denied 31 = .ok (.aload_n 0, 1) := by decide +kernel
theorem dX11_denied_32 : decode cX11_denied 32 = .ok (.iconst 3, 1) := by decide +kernel
theorem dX11_denied_33 : decode cX11_denied 33 = .ok (.iconst 0, 1) := by decide +kernel
theorem dX11_denied_34 : decode cX11_denied 34 = .ok (.invokevirtual 206, 3) := by decide +kernel
theorem dX11_denied_37 : decode cX11_denied 37 = .ok (.return_, 1) := by decide +kernel
theorem dX11_denied_38 : decode cX11_denied 38 = .ok (.aload_n 0, 1) := by decide +kernel
theorem dX11_denied_39 : decode cX11_denied 39 = .ok (.invokevirtual 217, 3) := by decide +kernel
theorem dX11_denied_42 : decode cX11_denied 42 = .ok (.aload_n 0, 1) := by decide +kernel
theorem dX11_denied_43 : decode cX11_denied 43 = .ok (.bipush 60, 2) := by decide +kernel
theorem dX11_denied_45 : decode cX11_denied 45 = .ok (.invokevirtual 220, 3) := by decide +kernel
theorem dX11_denied_48 : decode cX11_denied 48 = .ok (.ifCond .ne 13, 3) := by decide +kernel
theorem dX11_denied_51 : decode cX11_denied 51 = .ok (.aload_n 0, 1) := by decide +kernel
theorem dX11_denied_52 : decode cX11_denied 52 = .ok (.bipush 61, 2) := by decide +kernel
theorem dX11_denied_54 : decode cX11_denied 54 = .ok (.invokevirtual 220, 3) := by decide +kernel
theorem dX11_denied_57 : decode cX11_denied 57 = .ok (.ifCond .ne 4, 3) := by decide +kernel
theorem dX11_denied_60 : decode cX11_denied 60 = .ok (.return_, 1) := by decide +kernel
theorem dX11_denied_61 : decode cX11_denied 61 = .ok (.aload_n 0, 1) := by decide +kernel
theorem dX11_denied_62 : decode cX11_denied 62 = .ok (.getfield 180, 3) := by decide +kernel
theorem dX11_denied_65 : decode cX11_denied 65 = .ok (.istore_n 1, 1) := by decide +kernel
theorem dX11_denied_66 : decode cX11_denied 66 = .ok (.aload_n 0, 1) := by decide +kernel
theorem dX11_denied_67 : decode cX11_denied 67 = .ok (.invokevirtual 197, 3) := by decide +kernel
theorem dX11_denied_70 : decode cX11_denied 70 = .ok (.aload_n 0, 1) := by decide +kernel
theorem dX11_denied_71 : decode cX11_denied 71 = .ok (.invokevirtual 217, 3) := by decide +kernel
theorem dX11_denied_74 : decode cX11_denied 74 = .ok (.aload_n 0, 1) := by decide +kernel
theorem dX11_denied_75 : decode cX11_denied 75 = .ok (.iload_n 1, 1) := by decide +kernel
theorem dX11_denied_76 : decode cX11_denied 76 = .ok (.iconst 0, 1) := by decide +kernel
theorem dX11_denied_77 : decode cX11_denied 77 = .ok (.invokevirtual 206, 3) := by decide +kernel
theorem dX11_denied_80 : decode cX11_denied 80 = .ok (.return_, 1) := by decide +kernel
theorem dX11_sum_0 : decode cX11_sum 0 = .ok (.aload_n 0, 1) := by decide +kernel
theorem dX11_sum_1 : decode cX11_sum 1 = .ok (.invokevirtual 223, 3) := by decide +kernel
theorem dX11_sum_4 : decode cX11_sum 4 = .ok (.aload_n 0, 1) := by decide +kernel
theorem dX11_sum_5 : decode cX11_sum 5 = .ok (.bipush 43, 2) := by decide +kernel
theorem dX11_sum_7 : decode cX11_sum 7 = .ok (.invokevirtual 220, 3) := by decide +kernel
theorem dX11_sum_10 : decode cX11_sum 10 = .ok (.ifCond .ne 12, 3) := by decide +kernel
theorem dX11_sum_13 : decode cX11_sum 13 = .ok (.aload_n 0, 1) := by decide +kernel
theorem dX11_sum_14 : decode cX11_sum 14 = .ok (.bipush 45, 2) := by decide +kernel
theorem dX11_sum_16 : decode cX11_sum 16 = .ok (.invokevirtual 220, 3) := by decide +kernel
theorem dX11_sum_19 : decode cX11_sum 19 = .ok (.ifCond .eq 25, 3) := by decide +kernel
theorem dX11_sum_22 : decode cX11_sum 22 = .ok (.aload_n 0, 1) := by decide +kernel
theorem dX11_sum_23 : decode cX11_sum 23 = .ok (.getfield 180, 3) := by decide +kernel
theorem dX11_sum_26 : decode cX11_sum 26 = .ok (.istore_n 1, 1) := by decide +kernel
theorem dX11_sum_27 : decode cX11_sum 27 = .ok (.aload_n 0, 1) := by decide +kernel
theorem dX11_sum_28 : decode cX11_sum 28 = .ok (.invokevirtual 197, 3) := by decide +kernel
theorem dX11_sum_31 : decode cX11_sum 31 = .ok (.aload_n 0, 1) := by decide +kernel
theorem dX11_sum_32 : decode cX11_sum 32 = .ok (.invokevirtual 223, 3) := by decide +kernel
theorem dX11_sum_35 : decode cX11_sum 35 = .ok (.aload_n 0, 1) := by decide +kernel
theorem dX11_sum_36 : decode cX11_sum 36 = .ok (.iload_n 1, 1) := by decide +kernel
theorem dX11_sum_37 : decode cX11_sum 37 = .ok (.iconst 0, 1) := by decide +kernel
theorem dX11_sum_38 : decode cX11_sum 38 = .ok (.invokevirtual 206, 3) := by decide +kernel
theorem dX11_sum_41 : decode cX11_sum 41 = .ok (.goto (-37), 3) := by decide +kernel
theorem dX11_sum_44 : decode cX11_sum 44 = .ok (.return_, 1) := by decide +kernel
theorem dX11_term_0 : decode cX11_term 0 = .ok (.aload_n 0, 1) := by decide +kernel
theorem dX11_term_1 : decode cX11_term 1 = .ok (.invokevirtual 226, 3) := by decide +kernel
theorem dX11_term_4 : decode cX11_term 4 = .ok (.aload_n 0, 1) := by decide +kernel
theorem dX11_term_5 : decode cX11_term 5 = .ok (.bipush 42, 2) := by decide +kernel
theorem dX11_term_7 : decode cX11_term 7 = .ok (.invokevirtual 220, 3) := by decide +kernel
theorem dX11_term_10 : decode cX11_term 10 = .ok (.ifCond .eq 21, 3) := by decide +kernel
theorem dX11_term_13 : decode cX11_term 13 = .ok (.aload_n 0, 1) := by decide +kernel
theorem dX11_term_14 : decode cX11_term 14 = .ok (.invokevirtual 197, 3) := by decide +kernel
theorem dX11_term_17 : decode cX11_term 17 = .ok (.aload_n 0, 1) := by decide +kernel
theorem dX11_term_18 : decode cX11_term 18 = .ok (.invokevirtual 226, 3) := by decide +kernel
theorem dX11_term_21 : decode cX11_term 21 = .ok (.aload_n 0, 1) := by decide +kernel
theorem dX11_term_22 : decode cX11_term 22 = .ok (.bipush 42, 2) := by decide +kernel
theorem dX11_term_24 : decode cX11_term 24 = .ok (.iconst 0, 1) := by decide +kernel
theorem dX11_term_25 : decode cX11_term 25 = .ok (.invokevirtual 206, 3) := by decide +kernel
theorem dX11_term_28 : decode cX11_term 28 = .ok (.goto (-24), 3) := by decide +kernel
theorem dX11_term_31 : decode cX11_term 31 = .ok (.return_, 1) := by decide +kernel
theorem dX11_one_0 : decode cX11_one 0 = .ok (.aload_n 0, 1) := by decide +kernel
theorem dX11_one_1 : decode cX11_one 1 = .ok (.getfield 185, 3) := by decide +kernel
theorem dX11_one_4 : decode cX11_one 4 = .ok (.ifCond .lt 4, 3) := by decide +kernel
theorem dX11_one_7 : decode cX11_one 7 = .ok (.return_, 1) := by decide +kernel
theorem dX11_one_8 : decode cX11_one 8 = .ok (.aload_n 0, 1) := by decide +kernel
theorem dX11_one_9 : decode cX11_one 9 = .ok (.getfield 170, 3) := by decide +kernel
theorem dX11_one_12 : decode cX11_one 12 = .ok (.iconst 2, 1) := by decide +kernel
theorem dX11_one_13 : decode cX11_one 13 = .ok (.if_icmp .ne 19, 3) := by decide +kernel
theorem dX11_one_16 : decode cX11_one 16 = .ok (.aload_n 0, 1) := by decide +kernel
theorem dX11_one_17 : decode cX11_one 17 = .ok (.iconst 1, 1) := by decide +kernel
theorem dX11_one_18 : decode cX11_one 18 = .ok (.aload_n 0, 1) := by decide +kernel
theorem dX11_one_19 : decode cX11_one 19 = .ok (.getfield 180, 3) := by decide +kernel
theorem dX11_one_22 : decode cX11_one 22 = .ok (.invokevirtual 206, 3) := by decide +kernel
theorem dX11_one_25 : decode cX11_one 25 = .ok (.aload_n 0, 1) := by decide +kernel
theorem dX11_one_26 : decode cX11_one 26 = .ok (.invokevirtual 197, 3) := by decide +kernel
theorem dX11_one_29 : decode cX11_one 29 = .ok (.goto 132, 3) := by decide +kernel
theorem dX11_one_32 : decode cX11_one 32 = .ok (.aload_n 0, 1) := by decide +kernel
theorem dX11_one_33 : decode cX11_one 33 = .ok (.getfield 170, 3) := by decide +kernel
theorem dX11_one_36 : decode cX11_one 36 = .ok (.iconst 1, 1) := by decide +kernel
